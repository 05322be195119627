/-! PURE: the law -/
def zz_Good (L : Nat) (xs : Nat → Int32) (n i : Nat) : Prop := ∀ (g np nc tn wn : Nat) (hf : Int32) (ver rig po pk pl pi cp ck ft fw : Nat → Int32) (pg cd cg : Nat → Int64) (xrc xrd : Int32) (xsm xnt xnl xnd xfs mst mow msu mne : Nat → Int64) (xfr mnw : Nat → Int32), g ≤ 8 → IP np po pk pi pg → IC nc ck cg → tn ≤ 300 → IF wn fw hf → zf_La_law_L18 L xs n (nI i) (nI g) ver rig (nI np) (nI tn) xrc xrd (nI wn) xsm po pk pg pl pi (nI nc) cp cd ck cg xnt xnl xnd ft xfr fw xfs (nI g) (nI np) (nI nc) (nI tn) (nI wn) hf ver po pk pg pl pi cp cd ck cg rig ft fw mnw mst mow msu mne = some 1
set_option maxHeartbeats 4000000 in
set_option maxRecDepth 100000 in
theorem zz_op0 {L : Nat} {xs : Nat → Int32} {n i : Nat} (H : zz_Good L xs n (i + 7)) (hi : i + 7 ≤ L) (hL : L ≤ 3584) (hop : xs i &&& (31 : Int32) = (0 : Int32)) : zz_Good L xs (n + 1) i := by
  intro g np nc tn wn hf ver rig po pk pl pi cp ck ft fw pg cd cg xrc xrd xsm xnt xnl xnd xfs mst mow msu mne xfr mnw hg hI hC ht hF
  have e1 : nI i + (1 : Int32) = nI (i + 1) := nI_add i 1
  have e2 : nI i + (2 : Int32) = nI (i + 2) := nI_add i 2
  have e3 : nI i + (3 : Int32) = nI (i + 3) := nI_add i 3
  have e4 : nI i + (4 : Int32) = nI (i + 4) := nI_add i 4
  have e5 : nI i + (5 : Int32) = nI (i + 5) := nI_add i 5
  have e6 : nI i + (6 : Int32) = nI (i + 6) := nI_add i 6
  have e7 : nI i + (7 : Int32) = nI (i + 7) := nI_add i 7
  have stop : ¬ ((Int32.ofNat L) - (7 : Int32)) < nI i := by
    rw [show (Int32.ofNat L) - (7 : Int32) = nI (L - 7) from pk_sub (a := L) (b := 7) (by omega)]
    exact nI_nlt (by omega) (by omega)
  have hc : (xs (nI i).toNatClampNeg) &&& (31 : Int32) = (0 : Int32) := by rw [nI_clamp (by omega)]; exact hop
  rw [zf_La_law_L18, if_neg stop, if_neg (nI_in (show i < L by omega) (by omega)), if_pos hc]
  try simp (disch := omega) only [e1, e2, e3, e4, e5, e6, e7, nI_clamp, pz_i2]
  obtain ⟨a, g', hg, eX, eM⟩ := pp_good hg
  rw [eX, pz_bs, eM, pz_bs, if_pos rfl]
  exact H _ _ _ _ _ _ _ _ _ _ _ _ _ _ _ _ _ _ _ _ _ _ _ _ _ _ _ _ _ _ _ _ hg hI hC ht hF
set_option maxHeartbeats 4000000 in
set_option maxRecDepth 100000 in
theorem zz_op1 {L : Nat} {xs : Nat → Int32} {n i : Nat} (H : zz_Good L xs n (i + 7)) (hi : i + 7 ≤ L) (hL : L ≤ 3584) (hop : xs i &&& (31 : Int32) = (1 : Int32)) : zz_Good L xs (n + 1) i := by
  intro g np nc tn wn hf ver rig po pk pl pi cp ck ft fw pg cd cg xrc xrd xsm xnt xnl xnd xfs mst mow msu mne xfr mnw hg hI hC ht hF
  have e1 : nI i + (1 : Int32) = nI (i + 1) := nI_add i 1
  have e2 : nI i + (2 : Int32) = nI (i + 2) := nI_add i 2
  have e3 : nI i + (3 : Int32) = nI (i + 3) := nI_add i 3
  have e4 : nI i + (4 : Int32) = nI (i + 4) := nI_add i 4
  have e5 : nI i + (5 : Int32) = nI (i + 5) := nI_add i 5
  have e6 : nI i + (6 : Int32) = nI (i + 6) := nI_add i 6
  have e7 : nI i + (7 : Int32) = nI (i + 7) := nI_add i 7
  have stop : ¬ ((Int32.ofNat L) - (7 : Int32)) < nI i := by
    rw [show (Int32.ofNat L) - (7 : Int32) = nI (L - 7) from pk_sub (a := L) (b := 7) (by omega)]
    exact nI_nlt (by omega) (by omega)
  have hc : (xs (nI i).toNatClampNeg) &&& (31 : Int32) = (1 : Int32) := by rw [nI_clamp (by omega)]; exact hop
  have h0 : ¬ (xs (nI i).toNatClampNeg) &&& (31 : Int32) = (0 : Int32) := by rw [hc]; decide
  rw [zf_La_law_L18, if_neg stop, if_neg (nI_in (show i < L by omega) (by omega)), if_neg h0, if_pos hc]
  try simp (disch := omega) only [e1, e2, e3, e4, e5, e6, e7, nI_clamp, pz_i2]
  obtain ⟨a, ver', np', po', pk', pg', pl', pi', hI, eX, eM⟩ := pp_part (ver := ver) (pl := pl) hg hI (xs (i + 1)) (xs (i + 2)) (((xs (i + 3)).toInt64 <<< ((32 : Int32).toInt64 &&& 63)) ||| ((xs (i + 4)).toInt64 &&& (4294967295 : Int64))) (xs (i + 5))
  rw [eX, pz_bs, eM, pz_bs, if_pos rfl]
  exact H _ _ _ _ _ _ _ _ _ _ _ _ _ _ _ _ _ _ _ _ _ _ _ _ _ _ _ _ _ _ _ _ hg hI hC ht hF
set_option maxHeartbeats 4000000 in
set_option maxRecDepth 100000 in
theorem zz_op2 {L : Nat} {xs : Nat → Int32} {n i : Nat} (H : zz_Good L xs n (i + 7)) (hi : i + 7 ≤ L) (hL : L ≤ 3584) (hop : xs i &&& (31 : Int32) = (2 : Int32)) : zz_Good L xs (n + 1) i := by
  intro g np nc tn wn hf ver rig po pk pl pi cp ck ft fw pg cd cg xrc xrd xsm xnt xnl xnd xfs mst mow msu mne xfr mnw hg hI hC ht hF
  have e1 : nI i + (1 : Int32) = nI (i + 1) := nI_add i 1
  have e2 : nI i + (2 : Int32) = nI (i + 2) := nI_add i 2
  have e3 : nI i + (3 : Int32) = nI (i + 3) := nI_add i 3
  have e4 : nI i + (4 : Int32) = nI (i + 4) := nI_add i 4
  have e5 : nI i + (5 : Int32) = nI (i + 5) := nI_add i 5
  have e6 : nI i + (6 : Int32) = nI (i + 6) := nI_add i 6
  have e7 : nI i + (7 : Int32) = nI (i + 7) := nI_add i 7
  have stop : ¬ ((Int32.ofNat L) - (7 : Int32)) < nI i := by
    rw [show (Int32.ofNat L) - (7 : Int32) = nI (L - 7) from pk_sub (a := L) (b := 7) (by omega)]
    exact nI_nlt (by omega) (by omega)
  have hc : (xs (nI i).toNatClampNeg) &&& (31 : Int32) = (2 : Int32) := by rw [nI_clamp (by omega)]; exact hop
  have h0 : ¬ (xs (nI i).toNatClampNeg) &&& (31 : Int32) = (0 : Int32) := by rw [hc]; decide
  have h1 : ¬ (xs (nI i).toNatClampNeg) &&& (31 : Int32) = (1 : Int32) := by rw [hc]; decide
  rw [zf_La_law_L18, if_neg stop, if_neg (nI_in (show i < L by omega) (by omega)), if_neg h0, if_neg h1, if_pos hc]
  try simp (disch := omega) only [e1, e2, e3, e4, e5, e6, e7, nI_clamp, pz_i2]
  obtain ⟨a, ver', pi', t1, t2, t3, hI, eX, eM⟩ := pp_into (ver := ver) hg hI (xs (i + 1)) (xs (i + 2)) xnt xnl xnd
  rw [eX, pz_bs, eM, pz_bs, if_pos rfl]
  exact H _ _ _ _ _ _ _ _ _ _ _ _ _ _ _ _ _ _ _ _ _ _ _ _ _ _ _ _ _ _ _ _ hg hI hC ht hF
set_option maxHeartbeats 4000000 in
set_option maxRecDepth 100000 in
theorem zz_op3 {L : Nat} {xs : Nat → Int32} {n i : Nat} (H : zz_Good L xs n (i + 7)) (hi : i + 7 ≤ L) (hL : L ≤ 3584) (hop : xs i &&& (31 : Int32) = (3 : Int32)) : zz_Good L xs (n + 1) i := by
  intro g np nc tn wn hf ver rig po pk pl pi cp ck ft fw pg cd cg xrc xrd xsm xnt xnl xnd xfs mst mow msu mne xfr mnw hg hI hC ht hF
  have e1 : nI i + (1 : Int32) = nI (i + 1) := nI_add i 1
  have e2 : nI i + (2 : Int32) = nI (i + 2) := nI_add i 2
  have e3 : nI i + (3 : Int32) = nI (i + 3) := nI_add i 3
  have e4 : nI i + (4 : Int32) = nI (i + 4) := nI_add i 4
  have e5 : nI i + (5 : Int32) = nI (i + 5) := nI_add i 5
  have e6 : nI i + (6 : Int32) = nI (i + 6) := nI_add i 6
  have e7 : nI i + (7 : Int32) = nI (i + 7) := nI_add i 7
  have stop : ¬ ((Int32.ofNat L) - (7 : Int32)) < nI i := by
    rw [show (Int32.ofNat L) - (7 : Int32) = nI (L - 7) from pk_sub (a := L) (b := 7) (by omega)]
    exact nI_nlt (by omega) (by omega)
  have hc : (xs (nI i).toNatClampNeg) &&& (31 : Int32) = (3 : Int32) := by rw [nI_clamp (by omega)]; exact hop
  have h0 : ¬ (xs (nI i).toNatClampNeg) &&& (31 : Int32) = (0 : Int32) := by rw [hc]; decide
  have h1 : ¬ (xs (nI i).toNatClampNeg) &&& (31 : Int32) = (1 : Int32) := by rw [hc]; decide
  have h2 : ¬ (xs (nI i).toNatClampNeg) &&& (31 : Int32) = (2 : Int32) := by rw [hc]; decide
  rw [zf_La_law_L18, if_neg stop, if_neg (nI_in (show i < L by omega) (by omega)), if_neg h0, if_neg h1, if_neg h2, if_pos hc]
  try simp (disch := omega) only [e1, e2, e3, e4, e5, e6, e7, nI_clamp, pz_i2]
  obtain ⟨a, ver', pl', eX, eM⟩ := pp_life (ver := ver) (pl := pl) hI.1 hI.2.1 (xs (i + 1)) (xs (i + 2))
  rw [eX, pz_bs, eM, pz_bs, if_pos rfl]
  exact H _ _ _ _ _ _ _ _ _ _ _ _ _ _ _ _ _ _ _ _ _ _ _ _ _ _ _ _ _ _ _ _ hg hI hC ht hF
set_option maxHeartbeats 4000000 in
set_option maxRecDepth 100000 in
theorem zz_op4 {L : Nat} {xs : Nat → Int32} {n i : Nat} (H : zz_Good L xs n (i + 7)) (hi : i + 7 ≤ L) (hL : L ≤ 3584) (hop : xs i &&& (31 : Int32) = (4 : Int32)) : zz_Good L xs (n + 1) i := by
  intro g np nc tn wn hf ver rig po pk pl pi cp ck ft fw pg cd cg xrc xrd xsm xnt xnl xnd xfs mst mow msu mne xfr mnw hg hI hC ht hF
  have e1 : nI i + (1 : Int32) = nI (i + 1) := nI_add i 1
  have e2 : nI i + (2 : Int32) = nI (i + 2) := nI_add i 2
  have e3 : nI i + (3 : Int32) = nI (i + 3) := nI_add i 3
  have e4 : nI i + (4 : Int32) = nI (i + 4) := nI_add i 4
  have e5 : nI i + (5 : Int32) = nI (i + 5) := nI_add i 5
  have e6 : nI i + (6 : Int32) = nI (i + 6) := nI_add i 6
  have e7 : nI i + (7 : Int32) = nI (i + 7) := nI_add i 7
  have stop : ¬ ((Int32.ofNat L) - (7 : Int32)) < nI i := by
    rw [show (Int32.ofNat L) - (7 : Int32) = nI (L - 7) from pk_sub (a := L) (b := 7) (by omega)]
    exact nI_nlt (by omega) (by omega)
  have hc : (xs (nI i).toNatClampNeg) &&& (31 : Int32) = (4 : Int32) := by rw [nI_clamp (by omega)]; exact hop
  have h0 : ¬ (xs (nI i).toNatClampNeg) &&& (31 : Int32) = (0 : Int32) := by rw [hc]; decide
  have h1 : ¬ (xs (nI i).toNatClampNeg) &&& (31 : Int32) = (1 : Int32) := by rw [hc]; decide
  have h2 : ¬ (xs (nI i).toNatClampNeg) &&& (31 : Int32) = (2 : Int32) := by rw [hc]; decide
  have h3 : ¬ (xs (nI i).toNatClampNeg) &&& (31 : Int32) = (3 : Int32) := by rw [hc]; decide
  rw [zf_La_law_L18, if_neg stop, if_neg (nI_in (show i < L by omega) (by omega)), if_neg h0, if_neg h1, if_neg h2, if_neg h3, if_pos hc]
  try simp (disch := omega) only [e1, e2, e3, e4, e5, e6, e7, nI_clamp, pz_i2]
  obtain ⟨a, ver', nc', cp', cd', ck', cg', hC, eX, eM⟩ := pp_change (ver := ver) (cp := cp) (cd := cd) hI.1 hI.2.1 hC (xs (i + 1)) (((xs (i + 2)).toInt64 <<< ((32 : Int32).toInt64 &&& 63)) ||| ((xs (i + 3)).toInt64 &&& (4294967295 : Int64))) (xs (i + 4)) (((xs (i + 5)).toInt64 <<< ((32 : Int32).toInt64 &&& 63)) ||| ((xs (i + 6)).toInt64 &&& (4294967295 : Int64)))
  rw [eX, pz_bs, eM, pz_bs, if_pos rfl]
  exact H _ _ _ _ _ _ _ _ _ _ _ _ _ _ _ _ _ _ _ _ _ _ _ _ _ _ _ _ _ _ _ _ hg hI hC ht hF
set_option maxHeartbeats 4000000 in
set_option maxRecDepth 100000 in
theorem zz_op5 {L : Nat} {xs : Nat → Int32} {n i : Nat} (H : zz_Good L xs n (i + 7)) (hi : i + 7 ≤ L) (hL : L ≤ 3584) (hop : xs i &&& (31 : Int32) = (5 : Int32)) : zz_Good L xs (n + 1) i := by
  intro g np nc tn wn hf ver rig po pk pl pi cp ck ft fw pg cd cg xrc xrd xsm xnt xnl xnd xfs mst mow msu mne xfr mnw hg hI hC ht hF
  have e1 : nI i + (1 : Int32) = nI (i + 1) := nI_add i 1
  have e2 : nI i + (2 : Int32) = nI (i + 2) := nI_add i 2
  have e3 : nI i + (3 : Int32) = nI (i + 3) := nI_add i 3
  have e4 : nI i + (4 : Int32) = nI (i + 4) := nI_add i 4
  have e5 : nI i + (5 : Int32) = nI (i + 5) := nI_add i 5
  have e6 : nI i + (6 : Int32) = nI (i + 6) := nI_add i 6
  have e7 : nI i + (7 : Int32) = nI (i + 7) := nI_add i 7
  have stop : ¬ ((Int32.ofNat L) - (7 : Int32)) < nI i := by
    rw [show (Int32.ofNat L) - (7 : Int32) = nI (L - 7) from pk_sub (a := L) (b := 7) (by omega)]
    exact nI_nlt (by omega) (by omega)
  have hc : (xs (nI i).toNatClampNeg) &&& (31 : Int32) = (5 : Int32) := by rw [nI_clamp (by omega)]; exact hop
  have h0 : ¬ (xs (nI i).toNatClampNeg) &&& (31 : Int32) = (0 : Int32) := by rw [hc]; decide
  have h1 : ¬ (xs (nI i).toNatClampNeg) &&& (31 : Int32) = (1 : Int32) := by rw [hc]; decide
  have h2 : ¬ (xs (nI i).toNatClampNeg) &&& (31 : Int32) = (2 : Int32) := by rw [hc]; decide
  have h3 : ¬ (xs (nI i).toNatClampNeg) &&& (31 : Int32) = (3 : Int32) := by rw [hc]; decide
  have h4 : ¬ (xs (nI i).toNatClampNeg) &&& (31 : Int32) = (4 : Int32) := by rw [hc]; decide
  rw [zf_La_law_L18, if_neg stop, if_neg (nI_in (show i < L by omega) (by omega)), if_neg h0, if_neg h1, if_neg h2, if_neg h3, if_neg h4, if_pos hc]
  try simp (disch := omega) only [e1, e2, e3, e4, e5, e6, e7, nI_clamp, pz_i2]
  obtain ⟨a, s1, t1, t2, t3, m1, m2, m3, eX, eM⟩ := pp_total (cp := cp) (cd := cd) hg hI hC (xs (i + 1)) (xs (i + 2)) xsm xnt xnl xnd mow msu mne
  rw [eX, pz_bs, eM, pz_bs, if_pos rfl]
  exact H _ _ _ _ _ _ _ _ _ _ _ _ _ _ _ _ _ _ _ _ _ _ _ _ _ _ _ _ _ _ _ _ hg hI hC ht hF
set_option maxHeartbeats 4000000 in
set_option maxRecDepth 100000 in
theorem zz_op6 {L : Nat} {xs : Nat → Int32} {n i : Nat} (H : zz_Good L xs n (i + 7)) (hi : i + 7 ≤ L) (hL : L ≤ 3584) (hop : xs i &&& (31 : Int32) = (6 : Int32)) : zz_Good L xs (n + 1) i := by
  intro g np nc tn wn hf ver rig po pk pl pi cp ck ft fw pg cd cg xrc xrd xsm xnt xnl xnd xfs mst mow msu mne xfr mnw hg hI hC ht hF
  have e1 : nI i + (1 : Int32) = nI (i + 1) := nI_add i 1
  have e2 : nI i + (2 : Int32) = nI (i + 2) := nI_add i 2
  have e3 : nI i + (3 : Int32) = nI (i + 3) := nI_add i 3
  have e4 : nI i + (4 : Int32) = nI (i + 4) := nI_add i 4
  have e5 : nI i + (5 : Int32) = nI (i + 5) := nI_add i 5
  have e6 : nI i + (6 : Int32) = nI (i + 6) := nI_add i 6
  have e7 : nI i + (7 : Int32) = nI (i + 7) := nI_add i 7
  have stop : ¬ ((Int32.ofNat L) - (7 : Int32)) < nI i := by
    rw [show (Int32.ofNat L) - (7 : Int32) = nI (L - 7) from pk_sub (a := L) (b := 7) (by omega)]
    exact nI_nlt (by omega) (by omega)
  have hc : (xs (nI i).toNatClampNeg) &&& (31 : Int32) = (6 : Int32) := by rw [nI_clamp (by omega)]; exact hop
  have h0 : ¬ (xs (nI i).toNatClampNeg) &&& (31 : Int32) = (0 : Int32) := by rw [hc]; decide
  have h1 : ¬ (xs (nI i).toNatClampNeg) &&& (31 : Int32) = (1 : Int32) := by rw [hc]; decide
  have h2 : ¬ (xs (nI i).toNatClampNeg) &&& (31 : Int32) = (2 : Int32) := by rw [hc]; decide
  have h3 : ¬ (xs (nI i).toNatClampNeg) &&& (31 : Int32) = (3 : Int32) := by rw [hc]; decide
  have h4 : ¬ (xs (nI i).toNatClampNeg) &&& (31 : Int32) = (4 : Int32) := by rw [hc]; decide
  have h5 : ¬ (xs (nI i).toNatClampNeg) &&& (31 : Int32) = (5 : Int32) := by rw [hc]; decide
  rw [zf_La_law_L18, if_neg stop, if_neg (nI_in (show i < L by omega) (by omega)), if_neg h0, if_neg h1, if_neg h2, if_neg h3, if_neg h4, if_neg h5, if_pos hc]
  try simp (disch := omega) only [e1, e2, e3, e4, e5, e6, e7, nI_clamp, pz_i2]
  obtain ⟨a, s1, t1, t2, t3, m1, m2, m3, eX, eM⟩ := pp_totalOn (cp := cp) (cd := cd) hg hI hC (xs (i + 1)) (xs (i + 2)) (((xs (i + 3)).toInt64 <<< ((32 : Int32).toInt64 &&& 63)) ||| ((xs (i + 4)).toInt64 &&& (4294967295 : Int64))) xsm xnt xnl xnd mow msu mne
  rw [eX, pz_bs, eM, pz_bs, if_pos rfl]
  exact H _ _ _ _ _ _ _ _ _ _ _ _ _ _ _ _ _ _ _ _ _ _ _ _ _ _ _ _ _ _ _ _ hg hI hC ht hF
set_option maxHeartbeats 4000000 in
set_option maxRecDepth 100000 in
theorem zz_op7 {L : Nat} {xs : Nat → Int32} {n i : Nat} (H : zz_Good L xs n (i + 7)) (hi : i + 7 ≤ L) (hL : L ≤ 3584) (hop : xs i &&& (31 : Int32) = (7 : Int32)) : zz_Good L xs (n + 1) i := by
  intro g np nc tn wn hf ver rig po pk pl pi cp ck ft fw pg cd cg xrc xrd xsm xnt xnl xnd xfs mst mow msu mne xfr mnw hg hI hC ht hF
  have e1 : nI i + (1 : Int32) = nI (i + 1) := nI_add i 1
  have e2 : nI i + (2 : Int32) = nI (i + 2) := nI_add i 2
  have e3 : nI i + (3 : Int32) = nI (i + 3) := nI_add i 3
  have e4 : nI i + (4 : Int32) = nI (i + 4) := nI_add i 4
  have e5 : nI i + (5 : Int32) = nI (i + 5) := nI_add i 5
  have e6 : nI i + (6 : Int32) = nI (i + 6) := nI_add i 6
  have e7 : nI i + (7 : Int32) = nI (i + 7) := nI_add i 7
  have stop : ¬ ((Int32.ofNat L) - (7 : Int32)) < nI i := by
    rw [show (Int32.ofNat L) - (7 : Int32) = nI (L - 7) from pk_sub (a := L) (b := 7) (by omega)]
    exact nI_nlt (by omega) (by omega)
  have hc : (xs (nI i).toNatClampNeg) &&& (31 : Int32) = (7 : Int32) := by rw [nI_clamp (by omega)]; exact hop
  have h0 : ¬ (xs (nI i).toNatClampNeg) &&& (31 : Int32) = (0 : Int32) := by rw [hc]; decide
  have h1 : ¬ (xs (nI i).toNatClampNeg) &&& (31 : Int32) = (1 : Int32) := by rw [hc]; decide
  have h2 : ¬ (xs (nI i).toNatClampNeg) &&& (31 : Int32) = (2 : Int32) := by rw [hc]; decide
  have h3 : ¬ (xs (nI i).toNatClampNeg) &&& (31 : Int32) = (3 : Int32) := by rw [hc]; decide
  have h4 : ¬ (xs (nI i).toNatClampNeg) &&& (31 : Int32) = (4 : Int32) := by rw [hc]; decide
  have h5 : ¬ (xs (nI i).toNatClampNeg) &&& (31 : Int32) = (5 : Int32) := by rw [hc]; decide
  have h6 : ¬ (xs (nI i).toNatClampNeg) &&& (31 : Int32) = (6 : Int32) := by rw [hc]; decide
  rw [zf_La_law_L18, if_neg stop, if_neg (nI_in (show i < L by omega) (by omega)), if_neg h0, if_neg h1, if_neg h2, if_neg h3, if_neg h4, if_neg h5, if_neg h6, if_pos hc]
  try simp (disch := omega) only [e1, e2, e3, e4, e5, e6, e7, nI_clamp, pz_i2]
  obtain ⟨a, eX, eM⟩ := pp_frees (pk := pk) (pl := pl) (pg := pg) (cp := cp) (cd := cd) (ck := ck) (cg := cg) hI.1 hC.1 (xs (i + 1)) (xs (i + 2))
  rw [eX, pz_bs, eM, pz_bs, if_pos rfl]
  exact H _ _ _ _ _ _ _ _ _ _ _ _ _ _ _ _ _ _ _ _ _ _ _ _ _ _ _ _ _ _ _ _ hg hI hC ht hF
set_option maxHeartbeats 4000000 in
set_option maxRecDepth 100000 in
theorem zz_op8 {L : Nat} {xs : Nat → Int32} {n i : Nat} (H : zz_Good L xs n (i + 7)) (hi : i + 7 ≤ L) (hL : L ≤ 3584) (hop : xs i &&& (31 : Int32) = (8 : Int32)) : zz_Good L xs (n + 1) i := by
  intro g np nc tn wn hf ver rig po pk pl pi cp ck ft fw pg cd cg xrc xrd xsm xnt xnl xnd xfs mst mow msu mne xfr mnw hg hI hC ht hF
  have e1 : nI i + (1 : Int32) = nI (i + 1) := nI_add i 1
  have e2 : nI i + (2 : Int32) = nI (i + 2) := nI_add i 2
  have e3 : nI i + (3 : Int32) = nI (i + 3) := nI_add i 3
  have e4 : nI i + (4 : Int32) = nI (i + 4) := nI_add i 4
  have e5 : nI i + (5 : Int32) = nI (i + 5) := nI_add i 5
  have e6 : nI i + (6 : Int32) = nI (i + 6) := nI_add i 6
  have e7 : nI i + (7 : Int32) = nI (i + 7) := nI_add i 7
  have stop : ¬ ((Int32.ofNat L) - (7 : Int32)) < nI i := by
    rw [show (Int32.ofNat L) - (7 : Int32) = nI (L - 7) from pk_sub (a := L) (b := 7) (by omega)]
    exact nI_nlt (by omega) (by omega)
  have hc : (xs (nI i).toNatClampNeg) &&& (31 : Int32) = (8 : Int32) := by rw [nI_clamp (by omega)]; exact hop
  have h0 : ¬ (xs (nI i).toNatClampNeg) &&& (31 : Int32) = (0 : Int32) := by rw [hc]; decide
  have h1 : ¬ (xs (nI i).toNatClampNeg) &&& (31 : Int32) = (1 : Int32) := by rw [hc]; decide
  have h2 : ¬ (xs (nI i).toNatClampNeg) &&& (31 : Int32) = (2 : Int32) := by rw [hc]; decide
  have h3 : ¬ (xs (nI i).toNatClampNeg) &&& (31 : Int32) = (3 : Int32) := by rw [hc]; decide
  have h4 : ¬ (xs (nI i).toNatClampNeg) &&& (31 : Int32) = (4 : Int32) := by rw [hc]; decide
  have h5 : ¬ (xs (nI i).toNatClampNeg) &&& (31 : Int32) = (5 : Int32) := by rw [hc]; decide
  have h6 : ¬ (xs (nI i).toNatClampNeg) &&& (31 : Int32) = (6 : Int32) := by rw [hc]; decide
  have h7 : ¬ (xs (nI i).toNatClampNeg) &&& (31 : Int32) = (7 : Int32) := by rw [hc]; decide
  rw [zf_La_law_L18, if_neg stop, if_neg (nI_in (show i < L by omega) (by omega)), if_neg h0, if_neg h1, if_neg h2, if_neg h3, if_neg h4, if_neg h5, if_neg h6, if_neg h7, if_pos hc]
  try simp (disch := omega) only [e1, e2, e3, e4, e5, e6, e7, nI_clamp, pz_i2]
  obtain ⟨a, eX, eM⟩ := pp_version (ver := ver) hg (xs (i + 1))
  rw [eX, pz_bs, eM, pz_bs, if_pos rfl]
  exact H _ _ _ _ _ _ _ _ _ _ _ _ _ _ _ _ _ _ _ _ _ _ _ _ _ _ _ _ _ _ _ _ hg hI hC ht hF
set_option maxHeartbeats 4000000 in
set_option maxRecDepth 100000 in
theorem zz_op9 {L : Nat} {xs : Nat → Int32} {n i : Nat} (H : zz_Good L xs n (i + 7)) (hi : i + 7 ≤ L) (hL : L ≤ 3584) (hop : xs i &&& (31 : Int32) = (9 : Int32)) : zz_Good L xs (n + 1) i := by
  intro g np nc tn wn hf ver rig po pk pl pi cp ck ft fw pg cd cg xrc xrd xsm xnt xnl xnd xfs mst mow msu mne xfr mnw hg hI hC ht hF
  have e1 : nI i + (1 : Int32) = nI (i + 1) := nI_add i 1
  have e2 : nI i + (2 : Int32) = nI (i + 2) := nI_add i 2
  have e3 : nI i + (3 : Int32) = nI (i + 3) := nI_add i 3
  have e4 : nI i + (4 : Int32) = nI (i + 4) := nI_add i 4
  have e5 : nI i + (5 : Int32) = nI (i + 5) := nI_add i 5
  have e6 : nI i + (6 : Int32) = nI (i + 6) := nI_add i 6
  have e7 : nI i + (7 : Int32) = nI (i + 7) := nI_add i 7
  have stop : ¬ ((Int32.ofNat L) - (7 : Int32)) < nI i := by
    rw [show (Int32.ofNat L) - (7 : Int32) = nI (L - 7) from pk_sub (a := L) (b := 7) (by omega)]
    exact nI_nlt (by omega) (by omega)
  have hc : (xs (nI i).toNatClampNeg) &&& (31 : Int32) = (9 : Int32) := by rw [nI_clamp (by omega)]; exact hop
  have h0 : ¬ (xs (nI i).toNatClampNeg) &&& (31 : Int32) = (0 : Int32) := by rw [hc]; decide
  have h1 : ¬ (xs (nI i).toNatClampNeg) &&& (31 : Int32) = (1 : Int32) := by rw [hc]; decide
  have h2 : ¬ (xs (nI i).toNatClampNeg) &&& (31 : Int32) = (2 : Int32) := by rw [hc]; decide
  have h3 : ¬ (xs (nI i).toNatClampNeg) &&& (31 : Int32) = (3 : Int32) := by rw [hc]; decide
  have h4 : ¬ (xs (nI i).toNatClampNeg) &&& (31 : Int32) = (4 : Int32) := by rw [hc]; decide
  have h5 : ¬ (xs (nI i).toNatClampNeg) &&& (31 : Int32) = (5 : Int32) := by rw [hc]; decide
  have h6 : ¬ (xs (nI i).toNatClampNeg) &&& (31 : Int32) = (6 : Int32) := by rw [hc]; decide
  have h7 : ¬ (xs (nI i).toNatClampNeg) &&& (31 : Int32) = (7 : Int32) := by rw [hc]; decide
  have h8 : ¬ (xs (nI i).toNatClampNeg) &&& (31 : Int32) = (8 : Int32) := by rw [hc]; decide
  rw [zf_La_law_L18, if_neg stop, if_neg (nI_in (show i < L by omega) (by omega)), if_neg h0, if_neg h1, if_neg h2, if_neg h3, if_neg h4, if_neg h5, if_neg h6, if_neg h7, if_neg h8, if_pos hc]
  simp (disch := omega) only [e1, e2, e3, e4, e5, e6, e7, nI_clamp, pz_i2]
  by_cases hb : xs (i + 3) = 0
  · simp only [if_pos hb]
    obtain ⟨a, rig', eX, eM⟩ := pp_right (rig := rig) hg (xs (i + 1)) (xs (i + 2)) 0
    rw [eX, pz_bs, eM, pz_bs, if_pos rfl]
    exact H _ _ _ _ _ _ _ _ _ _ _ _ _ _ _ _ _ _ _ _ _ _ _ _ _ _ _ _ _ _ _ _ hg hI hC ht hF
  · simp only [if_neg hb]
    obtain ⟨a, rig', eX, eM⟩ := pp_right (rig := rig) hg (xs (i + 1)) (xs (i + 2)) 1
    rw [eX, pz_bs, eM, pz_bs, if_pos rfl]
    exact H _ _ _ _ _ _ _ _ _ _ _ _ _ _ _ _ _ _ _ _ _ _ _ _ _ _ _ _ _ _ _ _ hg hI hC ht hF
set_option maxHeartbeats 4000000 in
set_option maxRecDepth 100000 in
theorem zz_op10 {L : Nat} {xs : Nat → Int32} {n i : Nat} (H : zz_Good L xs n (i + 7)) (hi : i + 7 ≤ L) (hL : L ≤ 3584) (hop : xs i &&& (31 : Int32) = (10 : Int32)) : zz_Good L xs (n + 1) i := by
  intro g np nc tn wn hf ver rig po pk pl pi cp ck ft fw pg cd cg xrc xrd xsm xnt xnl xnd xfs mst mow msu mne xfr mnw hg hI hC ht hF
  have e1 : nI i + (1 : Int32) = nI (i + 1) := nI_add i 1
  have e2 : nI i + (2 : Int32) = nI (i + 2) := nI_add i 2
  have e3 : nI i + (3 : Int32) = nI (i + 3) := nI_add i 3
  have e4 : nI i + (4 : Int32) = nI (i + 4) := nI_add i 4
  have e5 : nI i + (5 : Int32) = nI (i + 5) := nI_add i 5
  have e6 : nI i + (6 : Int32) = nI (i + 6) := nI_add i 6
  have e7 : nI i + (7 : Int32) = nI (i + 7) := nI_add i 7
  have stop : ¬ ((Int32.ofNat L) - (7 : Int32)) < nI i := by
    rw [show (Int32.ofNat L) - (7 : Int32) = nI (L - 7) from pk_sub (a := L) (b := 7) (by omega)]
    exact nI_nlt (by omega) (by omega)
  have hc : (xs (nI i).toNatClampNeg) &&& (31 : Int32) = (10 : Int32) := by rw [nI_clamp (by omega)]; exact hop
  have h0 : ¬ (xs (nI i).toNatClampNeg) &&& (31 : Int32) = (0 : Int32) := by rw [hc]; decide
  have h1 : ¬ (xs (nI i).toNatClampNeg) &&& (31 : Int32) = (1 : Int32) := by rw [hc]; decide
  have h2 : ¬ (xs (nI i).toNatClampNeg) &&& (31 : Int32) = (2 : Int32) := by rw [hc]; decide
  have h3 : ¬ (xs (nI i).toNatClampNeg) &&& (31 : Int32) = (3 : Int32) := by rw [hc]; decide
  have h4 : ¬ (xs (nI i).toNatClampNeg) &&& (31 : Int32) = (4 : Int32) := by rw [hc]; decide
  have h5 : ¬ (xs (nI i).toNatClampNeg) &&& (31 : Int32) = (5 : Int32) := by rw [hc]; decide
  have h6 : ¬ (xs (nI i).toNatClampNeg) &&& (31 : Int32) = (6 : Int32) := by rw [hc]; decide
  have h7 : ¬ (xs (nI i).toNatClampNeg) &&& (31 : Int32) = (7 : Int32) := by rw [hc]; decide
  have h8 : ¬ (xs (nI i).toNatClampNeg) &&& (31 : Int32) = (8 : Int32) := by rw [hc]; decide
  have h9 : ¬ (xs (nI i).toNatClampNeg) &&& (31 : Int32) = (9 : Int32) := by rw [hc]; decide
  rw [zf_La_law_L18, if_neg stop, if_neg (nI_in (show i < L by omega) (by omega)), if_neg h0, if_neg h1, if_neg h2, if_neg h3, if_neg h4, if_neg h5, if_neg h6, if_neg h7, if_neg h8, if_neg h9, if_pos hc]
  try simp (disch := omega) only [e1, e2, e3, e4, e5, e6, e7, nI_clamp, pz_i2]
  obtain ⟨a, eX, eM⟩ := pp_seen (rig := rig) (po := po) (pk := pk) (pl := pl) (pg := pg) (cp := cp) (cd := cd) (ck := ck) (cg := cg) hg hI.1 hC.1 (xs (i + 1)) (xs (i + 2)) (xs (i + 3)) (xs (i + 4))
  rw [eX, pz_bs, eM, pz_bs, if_pos rfl]
  exact H _ _ _ _ _ _ _ _ _ _ _ _ _ _ _ _ _ _ _ _ _ _ _ _ _ _ _ _ _ _ _ _ hg hI hC ht hF
set_option maxHeartbeats 4000000 in
set_option maxRecDepth 100000 in
theorem zz_op11 {L : Nat} {xs : Nat → Int32} {n i : Nat} (H : zz_Good L xs n (i + 7)) (hi : i + 7 ≤ L) (hL : L ≤ 3584) (hop : xs i &&& (31 : Int32) = (11 : Int32)) : zz_Good L xs (n + 1) i := by
  intro g np nc tn wn hf ver rig po pk pl pi cp ck ft fw pg cd cg xrc xrd xsm xnt xnl xnd xfs mst mow msu mne xfr mnw hg hI hC ht hF
  have e1 : nI i + (1 : Int32) = nI (i + 1) := nI_add i 1
  have e2 : nI i + (2 : Int32) = nI (i + 2) := nI_add i 2
  have e3 : nI i + (3 : Int32) = nI (i + 3) := nI_add i 3
  have e4 : nI i + (4 : Int32) = nI (i + 4) := nI_add i 4
  have e5 : nI i + (5 : Int32) = nI (i + 5) := nI_add i 5
  have e6 : nI i + (6 : Int32) = nI (i + 6) := nI_add i 6
  have e7 : nI i + (7 : Int32) = nI (i + 7) := nI_add i 7
  have stop : ¬ ((Int32.ofNat L) - (7 : Int32)) < nI i := by
    rw [show (Int32.ofNat L) - (7 : Int32) = nI (L - 7) from pk_sub (a := L) (b := 7) (by omega)]
    exact nI_nlt (by omega) (by omega)
  have hc : (xs (nI i).toNatClampNeg) &&& (31 : Int32) = (11 : Int32) := by rw [nI_clamp (by omega)]; exact hop
  have h0 : ¬ (xs (nI i).toNatClampNeg) &&& (31 : Int32) = (0 : Int32) := by rw [hc]; decide
  have h1 : ¬ (xs (nI i).toNatClampNeg) &&& (31 : Int32) = (1 : Int32) := by rw [hc]; decide
  have h2 : ¬ (xs (nI i).toNatClampNeg) &&& (31 : Int32) = (2 : Int32) := by rw [hc]; decide
  have h3 : ¬ (xs (nI i).toNatClampNeg) &&& (31 : Int32) = (3 : Int32) := by rw [hc]; decide
  have h4 : ¬ (xs (nI i).toNatClampNeg) &&& (31 : Int32) = (4 : Int32) := by rw [hc]; decide
  have h5 : ¬ (xs (nI i).toNatClampNeg) &&& (31 : Int32) = (5 : Int32) := by rw [hc]; decide
  have h6 : ¬ (xs (nI i).toNatClampNeg) &&& (31 : Int32) = (6 : Int32) := by rw [hc]; decide
  have h7 : ¬ (xs (nI i).toNatClampNeg) &&& (31 : Int32) = (7 : Int32) := by rw [hc]; decide
  have h8 : ¬ (xs (nI i).toNatClampNeg) &&& (31 : Int32) = (8 : Int32) := by rw [hc]; decide
  have h9 : ¬ (xs (nI i).toNatClampNeg) &&& (31 : Int32) = (9 : Int32) := by rw [hc]; decide
  have h10 : ¬ (xs (nI i).toNatClampNeg) &&& (31 : Int32) = (10 : Int32) := by rw [hc]; decide
  rw [zf_La_law_L18, if_neg stop, if_neg (nI_in (show i < L by omega) (by omega)), if_neg h0, if_neg h1, if_neg h2, if_neg h3, if_neg h4, if_neg h5, if_neg h6, if_neg h7, if_neg h8, if_neg h9, if_neg h10, if_pos hc]
  try simp (disch := omega) only [e1, e2, e3, e4, e5, e6, e7, nI_clamp, pz_i2]
  obtain ⟨a, tn', ft', ht, eX, eM⟩ := pp_unit (ft := ft) ht (xs (i + 1))
  rw [eX, pz_bs, eM, pz_bs, if_pos rfl]
  exact H _ _ _ _ _ _ _ _ _ _ _ _ _ _ _ _ _ _ _ _ _ _ _ _ _ _ _ _ _ _ _ _ hg hI hC ht hF
set_option maxHeartbeats 4000000 in
set_option maxRecDepth 100000 in
theorem zz_op12 {L : Nat} {xs : Nat → Int32} {n i : Nat} (H : zz_Good L xs n (i + 7)) (hi : i + 7 ≤ L) (hL : L ≤ 3584) (hop : xs i &&& (31 : Int32) = (12 : Int32)) : zz_Good L xs (n + 1) i := by
  intro g np nc tn wn hf ver rig po pk pl pi cp ck ft fw pg cd cg xrc xrd xsm xnt xnl xnd xfs mst mow msu mne xfr mnw hg hI hC ht hF
  have e1 : nI i + (1 : Int32) = nI (i + 1) := nI_add i 1
  have e2 : nI i + (2 : Int32) = nI (i + 2) := nI_add i 2
  have e3 : nI i + (3 : Int32) = nI (i + 3) := nI_add i 3
  have e4 : nI i + (4 : Int32) = nI (i + 4) := nI_add i 4
  have e5 : nI i + (5 : Int32) = nI (i + 5) := nI_add i 5
  have e6 : nI i + (6 : Int32) = nI (i + 6) := nI_add i 6
  have e7 : nI i + (7 : Int32) = nI (i + 7) := nI_add i 7
  have stop : ¬ ((Int32.ofNat L) - (7 : Int32)) < nI i := by
    rw [show (Int32.ofNat L) - (7 : Int32) = nI (L - 7) from pk_sub (a := L) (b := 7) (by omega)]
    exact nI_nlt (by omega) (by omega)
  have hc : (xs (nI i).toNatClampNeg) &&& (31 : Int32) = (12 : Int32) := by rw [nI_clamp (by omega)]; exact hop
  have h0 : ¬ (xs (nI i).toNatClampNeg) &&& (31 : Int32) = (0 : Int32) := by rw [hc]; decide
  have h1 : ¬ (xs (nI i).toNatClampNeg) &&& (31 : Int32) = (1 : Int32) := by rw [hc]; decide
  have h2 : ¬ (xs (nI i).toNatClampNeg) &&& (31 : Int32) = (2 : Int32) := by rw [hc]; decide
  have h3 : ¬ (xs (nI i).toNatClampNeg) &&& (31 : Int32) = (3 : Int32) := by rw [hc]; decide
  have h4 : ¬ (xs (nI i).toNatClampNeg) &&& (31 : Int32) = (4 : Int32) := by rw [hc]; decide
  have h5 : ¬ (xs (nI i).toNatClampNeg) &&& (31 : Int32) = (5 : Int32) := by rw [hc]; decide
  have h6 : ¬ (xs (nI i).toNatClampNeg) &&& (31 : Int32) = (6 : Int32) := by rw [hc]; decide
  have h7 : ¬ (xs (nI i).toNatClampNeg) &&& (31 : Int32) = (7 : Int32) := by rw [hc]; decide
  have h8 : ¬ (xs (nI i).toNatClampNeg) &&& (31 : Int32) = (8 : Int32) := by rw [hc]; decide
  have h9 : ¬ (xs (nI i).toNatClampNeg) &&& (31 : Int32) = (9 : Int32) := by rw [hc]; decide
  have h10 : ¬ (xs (nI i).toNatClampNeg) &&& (31 : Int32) = (10 : Int32) := by rw [hc]; decide
  have h11 : ¬ (xs (nI i).toNatClampNeg) &&& (31 : Int32) = (11 : Int32) := by rw [hc]; decide
  rw [zf_La_law_L18, if_neg stop, if_neg (nI_in (show i < L by omega) (by omega)), if_neg h0, if_neg h1, if_neg h2, if_neg h3, if_neg h4, if_neg h5, if_neg h6, if_neg h7, if_neg h8, if_neg h9, if_neg h10, if_neg h11, if_pos hc]
  try simp (disch := omega) only [e1, e2, e3, e4, e5, e6, e7, nI_clamp, pz_i2]
  obtain ⟨a, wn', fw', hf', rc, rd, fr', nw', hF, eX, eM⟩ := pp_score (ft := ft) ht hF xrc xrd xfr mnw
  rw [eX, pz_bs, eM, pz_bs, if_pos rfl]
  exact H _ _ _ 0 _ _ _ _ _ _ _ _ _ _ _ _ _ _ _ _ _ _ _ _ _ _ _ _ _ _ _ _ hg hI hC (Nat.zero_le _) hF
set_option maxHeartbeats 4000000 in
set_option maxRecDepth 100000 in
theorem zz_op13 {L : Nat} {xs : Nat → Int32} {n i : Nat} (H : zz_Good L xs n (i + 7)) (hi : i + 7 ≤ L) (hL : L ≤ 3584) (hop : xs i &&& (31 : Int32) = (13 : Int32)) : zz_Good L xs (n + 1) i := by
  intro g np nc tn wn hf ver rig po pk pl pi cp ck ft fw pg cd cg xrc xrd xsm xnt xnl xnd xfs mst mow msu mne xfr mnw hg hI hC ht hF
  have e1 : nI i + (1 : Int32) = nI (i + 1) := nI_add i 1
  have e2 : nI i + (2 : Int32) = nI (i + 2) := nI_add i 2
  have e3 : nI i + (3 : Int32) = nI (i + 3) := nI_add i 3
  have e4 : nI i + (4 : Int32) = nI (i + 4) := nI_add i 4
  have e5 : nI i + (5 : Int32) = nI (i + 5) := nI_add i 5
  have e6 : nI i + (6 : Int32) = nI (i + 6) := nI_add i 6
  have e7 : nI i + (7 : Int32) = nI (i + 7) := nI_add i 7
  have stop : ¬ ((Int32.ofNat L) - (7 : Int32)) < nI i := by
    rw [show (Int32.ofNat L) - (7 : Int32) = nI (L - 7) from pk_sub (a := L) (b := 7) (by omega)]
    exact nI_nlt (by omega) (by omega)
  have hc : (xs (nI i).toNatClampNeg) &&& (31 : Int32) = (13 : Int32) := by rw [nI_clamp (by omega)]; exact hop
  have h0 : ¬ (xs (nI i).toNatClampNeg) &&& (31 : Int32) = (0 : Int32) := by rw [hc]; decide
  have h1 : ¬ (xs (nI i).toNatClampNeg) &&& (31 : Int32) = (1 : Int32) := by rw [hc]; decide
  have h2 : ¬ (xs (nI i).toNatClampNeg) &&& (31 : Int32) = (2 : Int32) := by rw [hc]; decide
  have h3 : ¬ (xs (nI i).toNatClampNeg) &&& (31 : Int32) = (3 : Int32) := by rw [hc]; decide
  have h4 : ¬ (xs (nI i).toNatClampNeg) &&& (31 : Int32) = (4 : Int32) := by rw [hc]; decide
  have h5 : ¬ (xs (nI i).toNatClampNeg) &&& (31 : Int32) = (5 : Int32) := by rw [hc]; decide
  have h6 : ¬ (xs (nI i).toNatClampNeg) &&& (31 : Int32) = (6 : Int32) := by rw [hc]; decide
  have h7 : ¬ (xs (nI i).toNatClampNeg) &&& (31 : Int32) = (7 : Int32) := by rw [hc]; decide
  have h8 : ¬ (xs (nI i).toNatClampNeg) &&& (31 : Int32) = (8 : Int32) := by rw [hc]; decide
  have h9 : ¬ (xs (nI i).toNatClampNeg) &&& (31 : Int32) = (9 : Int32) := by rw [hc]; decide
  have h10 : ¬ (xs (nI i).toNatClampNeg) &&& (31 : Int32) = (10 : Int32) := by rw [hc]; decide
  have h11 : ¬ (xs (nI i).toNatClampNeg) &&& (31 : Int32) = (11 : Int32) := by rw [hc]; decide
  have h12 : ¬ (xs (nI i).toNatClampNeg) &&& (31 : Int32) = (12 : Int32) := by rw [hc]; decide
  rw [zf_La_law_L18, if_neg stop, if_neg (nI_in (show i < L by omega) (by omega)), if_neg h0, if_neg h1, if_neg h2, if_neg h3, if_neg h4, if_neg h5, if_neg h6, if_neg h7, if_neg h8, if_neg h9, if_neg h10, if_neg h11, if_neg h12, if_pos hc]
  try simp (disch := omega) only [e1, e2, e3, e4, e5, e6, e7, nI_clamp, pz_i2]
  obtain ⟨a, s1, t1, t2, t3, s2, m1, m2, m3, m4, eX, eM⟩ := pp_scored (cp := cp) (cd := cd) hg hI hC hF (xs (i + 1)) xsm xnt xnl xnd xfs mst mow msu mne
  rw [eX, pz_bs, eM, pz_bs, if_pos rfl]
  exact H _ _ _ _ _ _ _ _ _ _ _ _ _ _ _ _ _ _ _ _ _ _ _ _ _ _ _ _ _ _ _ _ hg hI hC ht hF
set_option maxHeartbeats 4000000 in
set_option maxRecDepth 100000 in
theorem zz_op14 {L : Nat} {xs : Nat → Int32} {n i : Nat} (H : zz_Good L xs n (i + 7)) (hi : i + 7 ≤ L) (hL : L ≤ 3584) (hop : xs i &&& (31 : Int32) = (14 : Int32)) : zz_Good L xs (n + 1) i := by
  intro g np nc tn wn hf ver rig po pk pl pi cp ck ft fw pg cd cg xrc xrd xsm xnt xnl xnd xfs mst mow msu mne xfr mnw hg hI hC ht hF
  have e1 : nI i + (1 : Int32) = nI (i + 1) := nI_add i 1
  have e2 : nI i + (2 : Int32) = nI (i + 2) := nI_add i 2
  have e3 : nI i + (3 : Int32) = nI (i + 3) := nI_add i 3
  have e4 : nI i + (4 : Int32) = nI (i + 4) := nI_add i 4
  have e5 : nI i + (5 : Int32) = nI (i + 5) := nI_add i 5
  have e6 : nI i + (6 : Int32) = nI (i + 6) := nI_add i 6
  have e7 : nI i + (7 : Int32) = nI (i + 7) := nI_add i 7
  have stop : ¬ ((Int32.ofNat L) - (7 : Int32)) < nI i := by
    rw [show (Int32.ofNat L) - (7 : Int32) = nI (L - 7) from pk_sub (a := L) (b := 7) (by omega)]
    exact nI_nlt (by omega) (by omega)
  have hc : (xs (nI i).toNatClampNeg) &&& (31 : Int32) = (14 : Int32) := by rw [nI_clamp (by omega)]; exact hop
  have h0 : ¬ (xs (nI i).toNatClampNeg) &&& (31 : Int32) = (0 : Int32) := by rw [hc]; decide
  have h1 : ¬ (xs (nI i).toNatClampNeg) &&& (31 : Int32) = (1 : Int32) := by rw [hc]; decide
  have h2 : ¬ (xs (nI i).toNatClampNeg) &&& (31 : Int32) = (2 : Int32) := by rw [hc]; decide
  have h3 : ¬ (xs (nI i).toNatClampNeg) &&& (31 : Int32) = (3 : Int32) := by rw [hc]; decide
  have h4 : ¬ (xs (nI i).toNatClampNeg) &&& (31 : Int32) = (4 : Int32) := by rw [hc]; decide
  have h5 : ¬ (xs (nI i).toNatClampNeg) &&& (31 : Int32) = (5 : Int32) := by rw [hc]; decide
  have h6 : ¬ (xs (nI i).toNatClampNeg) &&& (31 : Int32) = (6 : Int32) := by rw [hc]; decide
  have h7 : ¬ (xs (nI i).toNatClampNeg) &&& (31 : Int32) = (7 : Int32) := by rw [hc]; decide
  have h8 : ¬ (xs (nI i).toNatClampNeg) &&& (31 : Int32) = (8 : Int32) := by rw [hc]; decide
  have h9 : ¬ (xs (nI i).toNatClampNeg) &&& (31 : Int32) = (9 : Int32) := by rw [hc]; decide
  have h10 : ¬ (xs (nI i).toNatClampNeg) &&& (31 : Int32) = (10 : Int32) := by rw [hc]; decide
  have h11 : ¬ (xs (nI i).toNatClampNeg) &&& (31 : Int32) = (11 : Int32) := by rw [hc]; decide
  have h12 : ¬ (xs (nI i).toNatClampNeg) &&& (31 : Int32) = (12 : Int32) := by rw [hc]; decide
  have h13 : ¬ (xs (nI i).toNatClampNeg) &&& (31 : Int32) = (13 : Int32) := by rw [hc]; decide
  rw [zf_La_law_L18, if_neg stop, if_neg (nI_in (show i < L by omega) (by omega)), if_neg h0, if_neg h1, if_neg h2, if_neg h3, if_neg h4, if_neg h5, if_neg h6, if_neg h7, if_neg h8, if_neg h9, if_neg h10, if_neg h11, if_neg h12, if_neg h13, if_pos hc]
  try simp (disch := omega) only [e1, e2, e3, e4, e5, e6, e7, nI_clamp, pz_i2]
  obtain ⟨a, ver', nc', cp', cd', ck', cg', s1, t1, t2, t3, s2, m1, m2, m3, m4, hC, eX, eM⟩ := pp_swap (ver := ver) (cp := cp) (cd := cd) hI hC hF (xs (i + 1)) (xs (i + 2)) xsm xnt xnl xnd xfs mst mow msu mne
  rw [eX, pz_bs, eM, pz_bs, if_pos rfl]
  exact H _ _ _ _ _ _ _ _ _ _ _ _ _ _ _ _ _ _ _ _ _ _ _ _ _ _ _ _ _ _ _ _ hg hI hC ht hF
set_option maxHeartbeats 4000000 in
set_option maxRecDepth 100000 in
theorem zz_op15 {L : Nat} {xs : Nat → Int32} {n i : Nat} (H : zz_Good L xs n (i + 7)) (hi : i + 7 ≤ L) (hL : L ≤ 3584) (hop : xs i &&& (31 : Int32) = (15 : Int32)) : zz_Good L xs (n + 1) i := by
  intro g np nc tn wn hf ver rig po pk pl pi cp ck ft fw pg cd cg xrc xrd xsm xnt xnl xnd xfs mst mow msu mne xfr mnw hg hI hC ht hF
  have e1 : nI i + (1 : Int32) = nI (i + 1) := nI_add i 1
  have e2 : nI i + (2 : Int32) = nI (i + 2) := nI_add i 2
  have e3 : nI i + (3 : Int32) = nI (i + 3) := nI_add i 3
  have e4 : nI i + (4 : Int32) = nI (i + 4) := nI_add i 4
  have e5 : nI i + (5 : Int32) = nI (i + 5) := nI_add i 5
  have e6 : nI i + (6 : Int32) = nI (i + 6) := nI_add i 6
  have e7 : nI i + (7 : Int32) = nI (i + 7) := nI_add i 7
  have stop : ¬ ((Int32.ofNat L) - (7 : Int32)) < nI i := by
    rw [show (Int32.ofNat L) - (7 : Int32) = nI (L - 7) from pk_sub (a := L) (b := 7) (by omega)]
    exact nI_nlt (by omega) (by omega)
  have hc : (xs (nI i).toNatClampNeg) &&& (31 : Int32) = (15 : Int32) := by rw [nI_clamp (by omega)]; exact hop
  have h0 : ¬ (xs (nI i).toNatClampNeg) &&& (31 : Int32) = (0 : Int32) := by rw [hc]; decide
  have h1 : ¬ (xs (nI i).toNatClampNeg) &&& (31 : Int32) = (1 : Int32) := by rw [hc]; decide
  have h2 : ¬ (xs (nI i).toNatClampNeg) &&& (31 : Int32) = (2 : Int32) := by rw [hc]; decide
  have h3 : ¬ (xs (nI i).toNatClampNeg) &&& (31 : Int32) = (3 : Int32) := by rw [hc]; decide
  have h4 : ¬ (xs (nI i).toNatClampNeg) &&& (31 : Int32) = (4 : Int32) := by rw [hc]; decide
  have h5 : ¬ (xs (nI i).toNatClampNeg) &&& (31 : Int32) = (5 : Int32) := by rw [hc]; decide
  have h6 : ¬ (xs (nI i).toNatClampNeg) &&& (31 : Int32) = (6 : Int32) := by rw [hc]; decide
  have h7 : ¬ (xs (nI i).toNatClampNeg) &&& (31 : Int32) = (7 : Int32) := by rw [hc]; decide
  have h8 : ¬ (xs (nI i).toNatClampNeg) &&& (31 : Int32) = (8 : Int32) := by rw [hc]; decide
  have h9 : ¬ (xs (nI i).toNatClampNeg) &&& (31 : Int32) = (9 : Int32) := by rw [hc]; decide
  have h10 : ¬ (xs (nI i).toNatClampNeg) &&& (31 : Int32) = (10 : Int32) := by rw [hc]; decide
  have h11 : ¬ (xs (nI i).toNatClampNeg) &&& (31 : Int32) = (11 : Int32) := by rw [hc]; decide
  have h12 : ¬ (xs (nI i).toNatClampNeg) &&& (31 : Int32) = (12 : Int32) := by rw [hc]; decide
  have h13 : ¬ (xs (nI i).toNatClampNeg) &&& (31 : Int32) = (13 : Int32) := by rw [hc]; decide
  have h14 : ¬ (xs (nI i).toNatClampNeg) &&& (31 : Int32) = (14 : Int32) := by rw [hc]; decide
  rw [zf_La_law_L18, if_neg stop, if_neg (nI_in (show i < L by omega) (by omega)), if_neg h0, if_neg h1, if_neg h2, if_neg h3, if_neg h4, if_neg h5, if_neg h6, if_neg h7, if_neg h8, if_neg h9, if_neg h10, if_neg h11, if_neg h12, if_neg h13, if_neg h14, if_pos hc]
  try simp (disch := omega) only [e1, e2, e3, e4, e5, e6, e7, nI_clamp, pz_i2]
  obtain ⟨a, s1, t1, t2, t3, m1, m2, m3, eX, eM⟩ := pp_mark (ver := ver) (cp := cp) (cd := cd) hg hI hC (xs (i + 1)) (((xs (i + 2)).toInt64 <<< ((32 : Int32).toInt64 &&& 63)) ||| ((xs (i + 3)).toInt64 &&& (4294967295 : Int64))) (xs (i + 4)) xsm xnt xnl xnd mow msu mne
  rw [eX, pz_bs, eM, pz_bs, if_pos rfl]
  exact H _ _ _ _ _ _ _ _ _ _ _ _ _ _ _ _ _ _ _ _ _ _ _ _ _ _ _ _ _ _ _ _ hg hI hC ht hF
set_option maxHeartbeats 4000000 in
set_option maxRecDepth 100000 in
theorem zz_op16 {L : Nat} {xs : Nat → Int32} {n i : Nat} (H : zz_Good L xs n (i + 7)) (hi : i + 7 ≤ L) (hL : L ≤ 3584) (hop : xs i &&& (31 : Int32) = (16 : Int32)) : zz_Good L xs (n + 1) i := by
  intro g np nc tn wn hf ver rig po pk pl pi cp ck ft fw pg cd cg xrc xrd xsm xnt xnl xnd xfs mst mow msu mne xfr mnw hg hI hC ht hF
  have e1 : nI i + (1 : Int32) = nI (i + 1) := nI_add i 1
  have e2 : nI i + (2 : Int32) = nI (i + 2) := nI_add i 2
  have e3 : nI i + (3 : Int32) = nI (i + 3) := nI_add i 3
  have e4 : nI i + (4 : Int32) = nI (i + 4) := nI_add i 4
  have e5 : nI i + (5 : Int32) = nI (i + 5) := nI_add i 5
  have e6 : nI i + (6 : Int32) = nI (i + 6) := nI_add i 6
  have e7 : nI i + (7 : Int32) = nI (i + 7) := nI_add i 7
  have stop : ¬ ((Int32.ofNat L) - (7 : Int32)) < nI i := by
    rw [show (Int32.ofNat L) - (7 : Int32) = nI (L - 7) from pk_sub (a := L) (b := 7) (by omega)]
    exact nI_nlt (by omega) (by omega)
  have hc : (xs (nI i).toNatClampNeg) &&& (31 : Int32) = (16 : Int32) := by rw [nI_clamp (by omega)]; exact hop
  have h0 : ¬ (xs (nI i).toNatClampNeg) &&& (31 : Int32) = (0 : Int32) := by rw [hc]; decide
  have h1 : ¬ (xs (nI i).toNatClampNeg) &&& (31 : Int32) = (1 : Int32) := by rw [hc]; decide
  have h2 : ¬ (xs (nI i).toNatClampNeg) &&& (31 : Int32) = (2 : Int32) := by rw [hc]; decide
  have h3 : ¬ (xs (nI i).toNatClampNeg) &&& (31 : Int32) = (3 : Int32) := by rw [hc]; decide
  have h4 : ¬ (xs (nI i).toNatClampNeg) &&& (31 : Int32) = (4 : Int32) := by rw [hc]; decide
  have h5 : ¬ (xs (nI i).toNatClampNeg) &&& (31 : Int32) = (5 : Int32) := by rw [hc]; decide
  have h6 : ¬ (xs (nI i).toNatClampNeg) &&& (31 : Int32) = (6 : Int32) := by rw [hc]; decide
  have h7 : ¬ (xs (nI i).toNatClampNeg) &&& (31 : Int32) = (7 : Int32) := by rw [hc]; decide
  have h8 : ¬ (xs (nI i).toNatClampNeg) &&& (31 : Int32) = (8 : Int32) := by rw [hc]; decide
  have h9 : ¬ (xs (nI i).toNatClampNeg) &&& (31 : Int32) = (9 : Int32) := by rw [hc]; decide
  have h10 : ¬ (xs (nI i).toNatClampNeg) &&& (31 : Int32) = (10 : Int32) := by rw [hc]; decide
  have h11 : ¬ (xs (nI i).toNatClampNeg) &&& (31 : Int32) = (11 : Int32) := by rw [hc]; decide
  have h12 : ¬ (xs (nI i).toNatClampNeg) &&& (31 : Int32) = (12 : Int32) := by rw [hc]; decide
  have h13 : ¬ (xs (nI i).toNatClampNeg) &&& (31 : Int32) = (13 : Int32) := by rw [hc]; decide
  have h14 : ¬ (xs (nI i).toNatClampNeg) &&& (31 : Int32) = (14 : Int32) := by rw [hc]; decide
  have h15 : ¬ (xs (nI i).toNatClampNeg) &&& (31 : Int32) = (15 : Int32) := by rw [hc]; decide
  rw [zf_La_law_L18, if_neg stop, if_neg (nI_in (show i < L by omega) (by omega)), if_neg h0, if_neg h1, if_neg h2, if_neg h3, if_neg h4, if_neg h5, if_neg h6, if_neg h7, if_neg h8, if_neg h9, if_neg h10, if_neg h11, if_neg h12, if_neg h13, if_neg h14, if_neg h15, if_pos hc]
  try simp (disch := omega) only [e1, e2, e3, e4, e5, e6, e7, nI_clamp, pz_i2]
  obtain ⟨a, s1, t1, eX, eM⟩ := pp_most (cp := cp) (cd := cd) hI hC (xs (i + 1)) xsm xnt
  rw [eX, pz_bs, eM, pz_bs, if_pos rfl]
  exact H _ _ _ _ _ _ _ _ _ _ _ _ _ _ _ _ _ _ _ _ _ _ _ _ _ _ _ _ _ _ _ _ hg hI hC ht hF
set_option maxHeartbeats 4000000 in
set_option maxRecDepth 100000 in
theorem zz_op17 {L : Nat} {xs : Nat → Int32} {n i : Nat} (H : zz_Good L xs n (i + 7)) (hi : i + 7 ≤ L) (hL : L ≤ 3584) (h0 : ¬ xs i &&& (31 : Int32) = (0 : Int32)) (h1 : ¬ xs i &&& (31 : Int32) = (1 : Int32)) (h2 : ¬ xs i &&& (31 : Int32) = (2 : Int32)) (h3 : ¬ xs i &&& (31 : Int32) = (3 : Int32)) (h4 : ¬ xs i &&& (31 : Int32) = (4 : Int32)) (h5 : ¬ xs i &&& (31 : Int32) = (5 : Int32)) (h6 : ¬ xs i &&& (31 : Int32) = (6 : Int32)) (h7 : ¬ xs i &&& (31 : Int32) = (7 : Int32)) (h8 : ¬ xs i &&& (31 : Int32) = (8 : Int32)) (h9 : ¬ xs i &&& (31 : Int32) = (9 : Int32)) (h10 : ¬ xs i &&& (31 : Int32) = (10 : Int32)) (h11 : ¬ xs i &&& (31 : Int32) = (11 : Int32)) (h12 : ¬ xs i &&& (31 : Int32) = (12 : Int32)) (h13 : ¬ xs i &&& (31 : Int32) = (13 : Int32)) (h14 : ¬ xs i &&& (31 : Int32) = (14 : Int32)) (h15 : ¬ xs i &&& (31 : Int32) = (15 : Int32)) (h16 : ¬ xs i &&& (31 : Int32) = (16 : Int32)) : zz_Good L xs (n + 1) i := by
  intro g np nc tn wn hf ver rig po pk pl pi cp ck ft fw pg cd cg xrc xrd xsm xnt xnl xnd xfs mst mow msu mne xfr mnw hg hI hC ht hF
  have e1 : nI i + (1 : Int32) = nI (i + 1) := nI_add i 1
  have e2 : nI i + (2 : Int32) = nI (i + 2) := nI_add i 2
  have e3 : nI i + (3 : Int32) = nI (i + 3) := nI_add i 3
  have e4 : nI i + (4 : Int32) = nI (i + 4) := nI_add i 4
  have e5 : nI i + (5 : Int32) = nI (i + 5) := nI_add i 5
  have e6 : nI i + (6 : Int32) = nI (i + 6) := nI_add i 6
  have e7 : nI i + (7 : Int32) = nI (i + 7) := nI_add i 7
  have stop : ¬ ((Int32.ofNat L) - (7 : Int32)) < nI i := by
    rw [show (Int32.ofNat L) - (7 : Int32) = nI (L - 7) from pk_sub (a := L) (b := 7) (by omega)]
    exact nI_nlt (by omega) (by omega)
  have h0 : ¬ (xs (nI i).toNatClampNeg) &&& (31 : Int32) = (0 : Int32) := by rw [nI_clamp (by omega)]; exact h0
  have h1 : ¬ (xs (nI i).toNatClampNeg) &&& (31 : Int32) = (1 : Int32) := by rw [nI_clamp (by omega)]; exact h1
  have h2 : ¬ (xs (nI i).toNatClampNeg) &&& (31 : Int32) = (2 : Int32) := by rw [nI_clamp (by omega)]; exact h2
  have h3 : ¬ (xs (nI i).toNatClampNeg) &&& (31 : Int32) = (3 : Int32) := by rw [nI_clamp (by omega)]; exact h3
  have h4 : ¬ (xs (nI i).toNatClampNeg) &&& (31 : Int32) = (4 : Int32) := by rw [nI_clamp (by omega)]; exact h4
  have h5 : ¬ (xs (nI i).toNatClampNeg) &&& (31 : Int32) = (5 : Int32) := by rw [nI_clamp (by omega)]; exact h5
  have h6 : ¬ (xs (nI i).toNatClampNeg) &&& (31 : Int32) = (6 : Int32) := by rw [nI_clamp (by omega)]; exact h6
  have h7 : ¬ (xs (nI i).toNatClampNeg) &&& (31 : Int32) = (7 : Int32) := by rw [nI_clamp (by omega)]; exact h7
  have h8 : ¬ (xs (nI i).toNatClampNeg) &&& (31 : Int32) = (8 : Int32) := by rw [nI_clamp (by omega)]; exact h8
  have h9 : ¬ (xs (nI i).toNatClampNeg) &&& (31 : Int32) = (9 : Int32) := by rw [nI_clamp (by omega)]; exact h9
  have h10 : ¬ (xs (nI i).toNatClampNeg) &&& (31 : Int32) = (10 : Int32) := by rw [nI_clamp (by omega)]; exact h10
  have h11 : ¬ (xs (nI i).toNatClampNeg) &&& (31 : Int32) = (11 : Int32) := by rw [nI_clamp (by omega)]; exact h11
  have h12 : ¬ (xs (nI i).toNatClampNeg) &&& (31 : Int32) = (12 : Int32) := by rw [nI_clamp (by omega)]; exact h12
  have h13 : ¬ (xs (nI i).toNatClampNeg) &&& (31 : Int32) = (13 : Int32) := by rw [nI_clamp (by omega)]; exact h13
  have h14 : ¬ (xs (nI i).toNatClampNeg) &&& (31 : Int32) = (14 : Int32) := by rw [nI_clamp (by omega)]; exact h14
  have h15 : ¬ (xs (nI i).toNatClampNeg) &&& (31 : Int32) = (15 : Int32) := by rw [nI_clamp (by omega)]; exact h15
  have h16 : ¬ (xs (nI i).toNatClampNeg) &&& (31 : Int32) = (16 : Int32) := by rw [nI_clamp (by omega)]; exact h16
  rw [zf_La_law_L18, if_neg stop, if_neg (nI_in (show i < L by omega) (by omega)), if_neg h0, if_neg h1, if_neg h2, if_neg h3, if_neg h4, if_neg h5, if_neg h6, if_neg h7, if_neg h8, if_neg h9, if_neg h10, if_neg h11, if_neg h12, if_neg h13, if_neg h14, if_neg h15, if_neg h16]
  rw [e7]
  exact H _ _ _ _ _ _ _ _ _ _ _ _ _ _ _ _ _ _ _ _ _ _ _ _ _ _ _ _ _ _ _ _ hg hI hC ht hF
theorem zz_step {L : Nat} {xs : Nat → Int32} {n i : Nat} (H : zz_Good L xs n (i + 7)) (hi : i + 7 ≤ L) (hL : L ≤ 3584) : zz_Good L xs (n + 1) i := by
  by_cases h0 : xs i &&& (31 : Int32) = (0 : Int32)
  · exact zz_op0 H hi hL h0
  by_cases h1 : xs i &&& (31 : Int32) = (1 : Int32)
  · exact zz_op1 H hi hL h1
  by_cases h2 : xs i &&& (31 : Int32) = (2 : Int32)
  · exact zz_op2 H hi hL h2
  by_cases h3 : xs i &&& (31 : Int32) = (3 : Int32)
  · exact zz_op3 H hi hL h3
  by_cases h4 : xs i &&& (31 : Int32) = (4 : Int32)
  · exact zz_op4 H hi hL h4
  by_cases h5 : xs i &&& (31 : Int32) = (5 : Int32)
  · exact zz_op5 H hi hL h5
  by_cases h6 : xs i &&& (31 : Int32) = (6 : Int32)
  · exact zz_op6 H hi hL h6
  by_cases h7 : xs i &&& (31 : Int32) = (7 : Int32)
  · exact zz_op7 H hi hL h7
  by_cases h8 : xs i &&& (31 : Int32) = (8 : Int32)
  · exact zz_op8 H hi hL h8
  by_cases h9 : xs i &&& (31 : Int32) = (9 : Int32)
  · exact zz_op9 H hi hL h9
  by_cases h10 : xs i &&& (31 : Int32) = (10 : Int32)
  · exact zz_op10 H hi hL h10
  by_cases h11 : xs i &&& (31 : Int32) = (11 : Int32)
  · exact zz_op11 H hi hL h11
  by_cases h12 : xs i &&& (31 : Int32) = (12 : Int32)
  · exact zz_op12 H hi hL h12
  by_cases h13 : xs i &&& (31 : Int32) = (13 : Int32)
  · exact zz_op13 H hi hL h13
  by_cases h14 : xs i &&& (31 : Int32) = (14 : Int32)
  · exact zz_op14 H hi hL h14
  by_cases h15 : xs i &&& (31 : Int32) = (15 : Int32)
  · exact zz_op15 H hi hL h15
  by_cases h16 : xs i &&& (31 : Int32) = (16 : Int32)
  · exact zz_op16 H hi hL h16
  exact zz_op17 H hi hL h0 h1 h2 h3 h4 h5 h6 h7 h8 h9 h10 h11 h12 h13 h14 h15 h16
theorem zz_stop {L : Nat} {xs : Nat → Int32} {n i : Nat} (hi : L < i + 7) (hi2 : i ≤ 4000) (hL : L ≤ 3584) : zz_Good L xs (n + 1) i := by
  intro g np nc tn wn hf ver rig po pk pl pi cp ck ft fw pg cd cg xrc xrd xsm xnt xnl xnd xfs mst mow msu mne xfr mnw hg hI hC ht hF
  have stop : ((Int32.ofNat L) - (7 : Int32)) < nI i := by
    by_cases h : 7 ≤ L
    · rw [show (Int32.ofNat L) - (7 : Int32) = nI (L - 7) from pk_sub (a := L) (b := 7) h]
      exact nI_lt (by omega) (by omega)
    · have a : nI L - nI 7 < 0 := pk_sneg (by omega) (by omega)
      have a : ((Int32.ofNat L) - (7 : Int32)) < 0 := a
      have b : (0 : Int32) ≤ nI i := nI_pos' (by omega)
      rw [Int32.lt_iff_toInt_lt] at a ⊢
      rw [Int32.le_iff_toInt_le] at b
      omega
  rw [zf_La_law_L18, if_pos stop]
theorem zz_all {L : Nat} {xs : Nat → Int32} (hL : L ≤ 3584) : ∀ (m n i : Nat), L < i + 7 * m + 7 → m < n → i ≤ L + 7 → zz_Good L xs n i := by
  intro m
  induction m with
  | zero =>
    intro n i h hn hi
    obtain ⟨n, rfl⟩ : ∃ q, n = q + 1 := ⟨n - 1, by omega⟩
    exact zz_stop (by omega) (by omega) hL
  | succ m ih =>
    intro n i h hn hi
    obtain ⟨n, rfl⟩ : ∃ q, n = q + 1 := ⟨n - 1, by omega⟩
    by_cases z : i + 7 ≤ L
    · exact zz_step (ih n (i + 7) (by omega) (by omega) (by omega)) z hL
    · exact zz_stop (by omega) (by omega) hL
theorem zp_law (L : Nat) (xs : Nat → Int32) (hL : L ≤ 3584) : zf_La_law_L18 L xs 2000 0 0 (fun _ => 0) (fun _ => 0) 0 0 0 0 0 (fun _ => 0) (fun _ => 0) (fun _ => 0) (fun _ => 0) (fun _ => 0) (fun _ => 0) 0 (fun _ => 0) (fun _ => 0) (fun _ => 0) (fun _ => 0) (fun _ => 0) (fun _ => 0) (fun _ => 0) (fun _ => 0) (fun _ => 0) (fun _ => 0) (fun _ => 0) 0 0 0 0 0 0 (fun _ => 0) (fun _ => 0) (fun _ => 0) (fun _ => 0) (fun _ => 0) (fun _ => 0) (fun _ => 0) (fun _ => 0) (fun _ => 0) (fun _ => 0) (fun _ => 0) (fun _ => 0) (fun _ => 0) (fun _ => 0) (fun _ => 0) (fun _ => 0) (fun _ => 0) (fun _ => 0) = some 1 := by
  exact zz_all hL 600 2000 0 (by omega) (by omega) (by omega) 0 0 0 0 0 0 (fun _ => 0) (fun _ => 0) (fun _ => 0) (fun _ => 0) (fun _ => 0) (fun _ => 0) (fun _ => 0) (fun _ => 0) (fun _ => 0) (fun _ => 0) (fun _ => 0) (fun _ => 0) (fun _ => 0) 0 0 (fun _ => 0) (fun _ => 0) (fun _ => 0) (fun _ => 0) (fun _ => 0) (fun _ => 0) (fun _ => 0) (fun _ => 0) (fun _ => 0) (fun _ => 0) (fun _ => 0) (by omega) ⟨by omega, fun j hj => absurd hj (Nat.not_lt_zero j), fun j hj => absurd hj (Nat.not_lt_zero j), fun j hj => absurd hj (Nat.not_lt_zero j), fun j hj => absurd hj (Nat.not_lt_zero j), fun _ => 0, fun j hj => absurd hj (Nat.not_lt_zero j)⟩ ⟨by omega, fun j hj => absurd hj (Nat.not_lt_zero j), fun j hj => absurd hj (Nat.not_lt_zero j)⟩ (by omega) ⟨by omega, Or.inl ⟨rfl, rfl⟩⟩
