/-! PURE: the calls that ask: total, frees, seen, mark, most -/
section PAS
variable {g np nc : Nat} {po pi pk pl ver rig : Nat → Int32} {pg : Nat → Int64} {cp : Nat → Int32} {cd : Nat → Int64} {ck : Nat → Int32} {cg : Nat → Int64} {d : Int64}
theorem hk_kd (h1 : HK np pk) (h2 : HK nc ck) : HK np (kd pk nc cp cd ck d) := fun j hj => by
  unfold kd
  cases hl : lk cp cd (nI j) d nc with
  | none => exact h1 j hj
  | some f => exact h2 f (lk_lt hl)
theorem pp_totalOn (hg : g ≤ 8) (hI : IP np po pk pi pg) (hC : IC nc ck cg) (u1 u2 : Int32) (u3 : Int64) (sm nt nl nd mow msu mne : Nat → Int64) : ∃ a s1 t1 t2 t3 m1 m2 m3, zf_MP_totalOn u1 u2 u3 (nI g) (nI np) sm po pk pg pi (nI nc) cp cd ck cg nt nl nd = some (a, s1, t1, t2, t3) ∧ zf_Mo_totalOn u1 u2 u3 (nI g) (nI np) (nI nc) po pk pg pi cp cd ck cg mow msu mne = some (a, m1, m2, m3) := by
  obtain ⟨hp, ho, hi, hk, -, -⟩ := hI
  obtain ⟨hc, hck, -⟩ := hC
  rcases pz_good u1 (g := g) (by omega) with ⟨q, hq, eq, a1, b1⟩ | ⟨a1, b1⟩
  · rcases pz_kind u2 with ⟨k, hk5, ek, a2, b2⟩ | ⟨a2, b2⟩
    · rcases pz_day u3 with ⟨a3, b3⟩ | ⟨a3, b3⟩
      · subst eq; subst ek
        obtain ⟨s1, t1, t2, t3, e1, h1⟩ := px_sw (pg := pg) (cg := cg) (d := u3) hp hc ho hi (hk_kd hk hck) (show q < 8 by omega) sm nt nl nd
        obtain ⟨m1, m2, m3, e2, h2⟩ := pm_sum (pk := pk) (pg := pg) (cp := cp) (cd := cd) (ck := ck) (cg := cg) (d := u3) hp hc ho hi (nI k) mow msu mne
        refine ⟨s1 k, s1, t1, t2, t3, m1, m2, m3, ?_, ?_⟩
        · rw [zf_MP_totalOn, a1, pz_bs, if_neg pz_b1, a2, pz_bs, if_neg pz_b1, a3, pz_bs, if_neg pz_b1, e1, pz_bs]
          simp (disch := omega) only [nI_clamp, pz_i2]
        · rw [zf_Mo_totalOn, b1, pz_bs, if_neg pz_b1, b2, pz_bs, if_neg pz_b1, b3, pz_bs, if_neg pz_b1, e2, pz_bs]
          simp (disch := omega) only [nI_clamp, pz_i2]
          rw [h2 q (by omega), h1 k hk5, p_total ho hi (by omega)]
      · exact ⟨-1, sm, nt, nl, nd, mow, msu, mne, by rw [zf_MP_totalOn, a1, pz_bs, if_neg pz_b1, a2, pz_bs, if_neg pz_b1, a3, pz_bs, if_pos rfl], by rw [zf_Mo_totalOn, b1, pz_bs, if_neg pz_b1, b2, pz_bs, if_neg pz_b1, b3, pz_bs, if_pos rfl]⟩
    · exact ⟨-1, sm, nt, nl, nd, mow, msu, mne, by rw [zf_MP_totalOn, a1, pz_bs, if_neg pz_b1, a2, pz_bs, if_pos rfl], by rw [zf_Mo_totalOn, b1, pz_bs, if_neg pz_b1, b2, pz_bs, if_pos rfl]⟩
  · exact ⟨-1, sm, nt, nl, nd, mow, msu, mne, by rw [zf_MP_totalOn, a1, pz_bs, if_pos rfl], by rw [zf_Mo_totalOn, b1, pz_bs, if_pos rfl]⟩
theorem pp_total (hg : g ≤ 8) (hI : IP np po pk pi pg) (hC : IC nc ck cg) (u1 u2 : Int32) (sm nt nl nd mow msu mne : Nat → Int64) : ∃ a s1 t1 t2 t3 m1 m2 m3, zf_MP_total u1 u2 (nI g) (nI np) sm po pk pg pi (nI nc) cp cd ck cg nt nl nd = some (a, s1, t1, t2, t3) ∧ zf_Mo_total u1 u2 (nI g) (nI np) (nI nc) po pk pg pi cp cd ck cg mow msu mne = some (a, m1, m2, m3) := by
  obtain ⟨a, s1, t1, t2, t3, m1, m2, m3, h1, h2⟩ := pp_totalOn (cp := cp) (cd := cd) hg hI hC u1 u2 100000 sm nt nl nd mow msu mne
  exact ⟨a, s1, t1, t2, t3, m1, m2, m3, by rw [zf_MP_total, h1, pz_bs], by rw [zf_Mo_total, h2, pz_bs]⟩
theorem pp_frees (hp : np ≤ 24) (hc : nc ≤ 20) (u1 u2 : Int32) : ∃ a, zf_MP_frees u1 u2 (nI np) pk pg pl (nI nc) cp cd ck cg = some a ∧ zf_Mo_frees u1 u2 (nI np) (nI nc) pk pg pl cp cd ck cg = some a := by
  rcases pz_kind u1 with ⟨k, hk5, ek, a2, b2⟩ | ⟨a2, b2⟩
  · rcases pz_isLife u2 with a3 | a3
    · refine ⟨sg (fr_t pk pl pg nc cp cd ck cg u1 u2) np, ?_, ?_⟩
      · rw [zf_MP_frees, a2, pz_bs, if_neg pz_b1, a3, pz_bs, if_neg pz_b1]
        exact px_frL hp hc u1 u2 np 0 2000 (by omega) (by omega)
      · rw [zf_Mo_frees, b2, pz_bs, if_neg pz_b1, pz_life, a3, pz_bs, if_neg pz_b1]
        exact pm_frL hp hc u1 u2 np 0 2000 (by omega) (by omega)
    · exact ⟨-1, by rw [zf_MP_frees, a2, pz_bs, if_neg pz_b1, a3, pz_bs, if_pos rfl], by rw [zf_Mo_frees, b2, pz_bs, if_neg pz_b1, pz_life, a3, pz_bs, if_pos rfl]⟩
  · exact ⟨-1, by rw [zf_MP_frees, a2, pz_bs, if_pos rfl], by rw [zf_Mo_frees, b2, pz_bs, if_pos rfl]⟩
theorem pz_what (u : Int32) : (u = 0 ∨ u = 1 ∨ u = 2) ∧ zf_Mo_isIn u.toInt64 0 2 = some 1 ∨ (¬ u = 0 ∧ ¬ u = 1 ∧ ¬ u = 2) ∧ zf_Mo_isIn u.toInt64 0 2 = some 0 := by
  have e : zf_Mo_isIn u.toInt64 0 2 = _ := pz_rng u 2
  rcases pk_ix u (n := 3) (by omega) with h | h | ⟨k, h1, h2⟩
  · refine Or.inr ⟨⟨?_, ?_, ?_⟩, by rw [e, if_pos h]⟩ <;> (rintro rfl; exact absurd h (by decide))
  · have h0 : ¬ u < 0 := by
      rw [Int32.lt_iff_toInt_lt]
      rw [Int32.le_iff_toInt_le, nI_toInt (by omega)] at h
      rw [Int32.toInt_zero]
      omega
    have h2 : (2 : Int32) < u := by
      rw [Int32.lt_iff_toInt_lt, show (2 : Int32).toInt = 2 from rfl]
      rw [Int32.le_iff_toInt_le, nI_toInt (by omega)] at h
      omega
    refine Or.inr ⟨⟨?_, ?_, ?_⟩, by rw [e, if_neg h0, if_pos h2]⟩ <;> (rintro rfl; exact absurd h2 (by decide))
  · rcases (show k = 0 ∨ k = 1 ∨ k = 2 by omega) with rfl | rfl | rfl
    · subst h2; exact Or.inl ⟨Or.inl rfl, by rw [e]; rfl⟩
    · subst h2; exact Or.inl ⟨Or.inr (Or.inl rfl), by rw [e]; rfl⟩
    · subst h2; exact Or.inl ⟨Or.inr (Or.inr rfl), by rw [e]; rfl⟩
theorem pp_seen (hg : g ≤ 8) (hp : np ≤ 24) (hc : nc ≤ 20) (u1 u2 u3 u4 : Int32) : ∃ a, zf_MP_seen u1 u2 u3 u4 (nI g) rig (nI np) po pk pg pl (nI nc) cp cd ck cg = some a ∧ zf_Mo_seen u1 u2 u3 u4 (nI g) (nI np) (nI nc) po pk pg pl cp cd ck cg rig = some a := by
  rcases pz_person u1 with ⟨p, hp8, ep, a0⟩ | a0
  · rcases pz_good u2 (g := g) (by omega) with ⟨q, hq, eq, a1, b1⟩ | ⟨a1, b1⟩
    · have x1 : zf_Pa_ownPart u2 u3 (nI np) po = some (op po u2 u3 np 0 0) := px_op hp u2 u3 np 0 2000 0 (by omega) (by omega)
      have y1 : zf_Mo_partOf u2 u3 (nI np) po = some (op po u2 u3 np 0 0) := pm_op hp u2 u3 np 0 2000 0 (by omega) (by omega)
      have hm1 : ¬ (0 : Int32) ≤ -1 := by decide
      subst ep; subst eq
      rcases op_in (po := po) (nI q) u3 np 0 0 (by omega) with h | ⟨i, hi, h⟩
      · refine ⟨-1, ?_, ?_⟩
        · rw [zf_MP_seen, a0, pz_bs, if_neg pz_b1, a1, pz_bs, if_neg pz_b1, x1, pz_bs, h, if_pos rfl]
        · rw [zf_Mo_seen, pz_pers, a0, pz_bs, if_neg pz_b1, b1, pz_bs, if_neg pz_b1]
          rcases pz_what u4 with ⟨-, w⟩ | ⟨-, w⟩
          · rw [w, pz_bs, if_neg pz_b1, y1, pz_bs, h, if_neg hm1]
          · rw [w, pz_bs, if_pos rfl]
      · rw [h] at x1 y1
        have eX : zf_MP_seen (nI p) (nI q) u3 u4 (nI g) rig (nI np) po pk pg pl (nI nc) cp cd ck cg = (if u4 = 0 then some (kd pk nc cp cd ck 100000 i).toInt64 else (if u4 = 1 then (if rig (8 * p + q) = 0 then some (sg (og_t po pk pg nc cp cd ck cg (nI q) (kd pk nc cp cd ck 100000 i)) np) else some (gr pg nc cp cd cg 100000 i)) else (if u4 = 2 then (if rig (8 * p + q) = 0 then some (-2) else some (pl i).toInt64) else some (-1)))) := by
          have og : zf_Pa_ownGrams (nI q) (kd pk nc cp cd ck 100000 i) 100000 (nI np) po pk pg (nI nc) cp cd ck cg = some (sg (og_t po pk pg nc cp cd ck cg (nI q) (kd pk nc cp cd ck 100000 i)) np) := px_ogL hp hc (nI q) _ np 0 2000 (by omega) (by omega)
          rw [zf_MP_seen, a0, pz_bs, if_neg pz_b1, a1, pz_bs, if_neg pz_b1, x1, pz_bs, if_neg (pz_neg i (by omega)), zf_MP_rightIndex, pz_bs, pz_ri, px_kd hc (by omega), pz_bs, px_gr hc (by omega), og]
          simp (disch := omega) only [nI_clamp, pz_i2, pz_bs]
        have eM : zf_Mo_isIn u4.toInt64 0 2 = some 1 → zf_Mo_seen (nI p) (nI q) u3 u4 (nI g) (nI np) (nI nc) po pk pg pl cp cd ck cg rig = (if u4 = 0 then some (kd pk nc cp cd ck 100000 i).toInt64 else (if u4 = 2 then (if rig (8 * p + q) = 0 then some (-2) else some (pl i).toInt64) else (if rig (8 * p + q) = 0 then some (sg (og_t po pk pg nc cp cd ck cg (nI q) (kd pk nc cp cd ck 100000 i)) np) else some (gr pg nc cp cd cg 100000 i)))) := fun w => by
          have og : ∀ x mgc, zf_Mo_seen_L130 (nI p) (nI q) u3 u4 (nI i) x mgc (nI np) (nI nc) po pk pg pl cp cd ck cg rig 2000 0 0 = some (sg (og_t po pk pg nc cp cd ck cg (nI q) (kd pk nc cp cd ck 100000 i)) np) := fun x mgc => pm_seL hp hc (nI p) (nI q) u3 u4 x (by omega) np 0 2000 (by omega) (by omega)
          rw [zf_Mo_seen, pz_pers, a0, pz_bs, if_neg pz_b1, b1, pz_bs, if_neg pz_b1, w, pz_bs, if_neg pz_b1, y1, pz_bs, pz_p0 (by omega), pz_bs, pz_ri2, pm_kd hc (by omega), pz_bs, pm_gr hc (by omega), pz_bs, og]
          simp (disch := omega) only [nI_clamp, pz_i2]
        rcases pz_what u4 with ⟨w1, w⟩ | ⟨⟨w1, w2, w3⟩, w⟩
        · rw [eX, eM w]
          have h10 : ¬ (1 : Int32) = 0 := by decide
          have h20 : ¬ (2 : Int32) = 0 := by decide
          have h21 : ¬ (2 : Int32) = 1 := by decide
          have h12 : ¬ (1 : Int32) = 2 := by decide
          rcases w1 with rfl | rfl | rfl
          · rw [if_pos rfl, if_pos rfl]; exact ⟨_, rfl, rfl⟩
          · rw [if_neg h10, if_pos rfl, if_neg h10, if_neg h12]
            by_cases z : rig (8 * p + q) = 0
            · rw [if_pos z]; exact ⟨_, rfl, rfl⟩
            · rw [if_neg z]; exact ⟨_, rfl, rfl⟩
          · rw [if_neg h20, if_neg h21, if_pos rfl, if_neg h20, if_pos rfl]
            by_cases z : rig (8 * p + q) = 0
            · rw [if_pos z]; exact ⟨_, rfl, rfl⟩
            · rw [if_neg z]; exact ⟨_, rfl, rfl⟩
        · rw [eX, if_neg w1, if_neg w2, if_neg w3]
          refine ⟨-1, rfl, ?_⟩
          rw [zf_Mo_seen, pz_pers, a0, pz_bs, if_neg pz_b1, b1, pz_bs, if_neg pz_b1, w, pz_bs, if_pos rfl]
    · exact ⟨-1, by rw [zf_MP_seen, a0, pz_bs, if_neg pz_b1, a1, pz_bs, if_pos rfl], by rw [zf_Mo_seen, pz_pers, a0, pz_bs, if_neg pz_b1, b1, pz_bs, if_pos rfl]⟩
  · exact ⟨-1, by rw [zf_MP_seen, a0, pz_bs, if_pos rfl], by rw [zf_Mo_seen, pz_pers, a0, pz_bs, if_pos rfl]⟩
/-- the mark -/
def mxs (x t : Int64) : Int64 := (((x + t) + (1 : Int64)) * (6364136223846793005 : Int64)) ^^^ ((((x + t) + (1 : Int64)) * (6364136223846793005 : Int64)).toUInt64 >>> ((32 : Int32).toInt64.toUInt64 &&& Int64.toUInt64 63)).toInt64
def mkx (M : Int64 → Int64 → Int64) (T : Nat → Int64) : Nat → Nat → Int64 → Int64
  | 0, _, x => x
  | m + 1, k, x => mkx M T m (k + 1) (M x (T k))
def mkf (x : Int64) (v u4 : Int32) : Int32 := ((((x + v.toInt64) * (6364136223846793005 : Int64)).toUInt64 >>> (((8 : Int32) * ((7 : Int32) - u4)).toInt64.toUInt64 &&& Int64.toUInt64 63)).toInt64).toInt32 &&& (255 : Int32)
theorem px_mk {q : Nat} (hq : q < 8) (v2 : Int64) (v4 : Int32) (xgc xpn xcn : Int32) (sm nt nl nd : Nat → Int64) (T : Nat → Int64) (hT : ∀ k, k < 5 → sm k = T k) : ∀ (m k n : Nat) (x : Int64), k + m = 5 → m < n → zf_MP_mark_L47 (nI q) v2 v4 sm nt nl nd xgc ver xpn po pk pg pi xcn cp cd ck cg n x (nI k) = some (mkf (mkx mxs T m k x) (ver q) v4, sm, nt, nl, nd) := by
  intro m
  induction m with
  | zero =>
    intro k n x hk hn
    obtain ⟨n, rfl⟩ : ∃ q, n = q + 1 := ⟨n - 1, by omega⟩
    have e : k = 5 := by omega
    subst e
    rw [zf_MP_mark_L47, if_pos (by decide), mkx, mkf]
    simp (disch := omega) only [nI_clamp, pz_i2]
  | succ m ih =>
    intro k n x hk hn
    obtain ⟨n, rfl⟩ : ∃ q, n = q + 1 := ⟨n - 1, by omega⟩
    rw [zf_MP_mark_L47, if_neg (show ¬ (5 : Int32) ≤ nI k from nI_ge (b := 5) (by omega) (by omega))]
    simp (disch := omega) only [nI_clamp, pz_i2, nI_1, hT]
    rw [← mxs, ih (k + 1) n _ (by omega) (by omega), mkx]
theorem pz_mkf (x : Int64) (v u4 : Int32) : ((((x + v.toInt64) * (6364136223846793005 : Int64)).toUInt64 >>> (((56 : Int32) - ((8 : Int32) * u4)).toInt64.toUInt64 &&& Int64.toUInt64 63)).toInt64 &&& (255 : Int64)).toInt32 = mkf x v u4 := by
  rw [show (56 : Int32) - (8 : Int32) * u4 = (8 : Int32) * ((7 : Int32) - u4) by grind]
  rw [mkf, Int64.toInt32_and]
  rfl
theorem pm_mk (hp : np ≤ 24) (hc : nc ≤ 20) (ho : HO np po) (hi : HI np pi) {q : Nat} (hq : q < 8) (v2 : Int64) (v4 : Int32) (mgc : Int32) (T : Nat → Int64) (hT : ∀ k, k < 5 → T k = TX np po pi pk pg nc cp cd ck cg 100000 q k) : ∀ (m k n : Nat) (x : Int64) (mow msu mne : Nat → Int64), k + m = 5 → m < n → ∃ m1 m2 m3, zf_Mo_mark_L29 (nI q) v2 v4 mgc (nI np) (nI nc) ver po pk pg pi cp cd ck cg n x (nI k) mow msu mne = some (mkf (mkx mxs T m k x) (ver q) v4, m1, m2, m3) := by
  intro m
  induction m with
  | zero =>
    intro k n x mow msu mne hk hn
    obtain ⟨n, rfl⟩ : ∃ q, n = q + 1 := ⟨n - 1, by omega⟩
    have e : k = 5 := by omega
    subst e
    refine ⟨mow, msu, mne, ?_⟩
    rw [zf_Mo_mark_L29, if_pos (by decide), mkx]
    simp (disch := omega) only [nI_clamp, pz_i2]
    rw [pz_mkf]
  | succ m ih =>
    intro k n x mow msu mne hk hn
    obtain ⟨n, rfl⟩ : ∃ q, n = q + 1 := ⟨n - 1, by omega⟩
    obtain ⟨a, b, c, e2, h2⟩ := pm_sum (pk := pk) (pg := pg) (cp := cp) (cd := cd) (ck := ck) (cg := cg) (d := 100000) hp hc ho hi (nI k) mow msu mne
    have hb : b q = T k := by rw [h2 q hq, hT k (by omega), p_total ho hi hq]
    obtain ⟨m1, m2, m3, e⟩ := ih (k + 1) n (mxs x (T k)) a b c (by omega) (by omega)
    refine ⟨m1, m2, m3, ?_⟩
    rw [zf_Mo_mark_L29, if_neg (show ¬ (5 : Int32) ≤ nI k from nI_ge (b := 5) (by omega) (by omega)), e2, pz_bs]
    simp (disch := omega) only [nI_clamp, pz_i2, nI_1, hb]
    rw [← mxs, e, mkx]
theorem pp_mark (hg : g ≤ 8) (hI : IP np po pk pi pg) (hC : IC nc ck cg) (u1 : Int32) (u2 : Int64) (u4 : Int32) (sm nt nl nd mow msu mne : Nat → Int64) : ∃ a s1 t1 t2 t3 m1 m2 m3, zf_MP_mark u1 u2 u4 (nI g) ver (nI np) sm po pk pg pi (nI nc) cp cd ck cg nt nl nd = some (a, s1, t1, t2, t3) ∧ zf_Mo_mark u1 u2 u4 (nI g) (nI np) (nI nc) ver po pk pg pi cp cd ck cg mow msu mne = some (a, m1, m2, m3) := by
  obtain ⟨hp, ho, hi, hk, -, -⟩ := hI
  obtain ⟨hc, hck, -⟩ := hC
  rcases pz_good u1 (g := g) (by omega) with ⟨q, hq, eq, a1, b1⟩ | ⟨a1, b1⟩
  · rcases pz_person u4 with ⟨i, hi8, ei, a3⟩ | a3
    · subst eq; subst ei
      obtain ⟨s1, t1, t2, t3, e1, h1⟩ := px_sw (pg := pg) (cg := cg) (d := 100000) hp hc ho hi (hk_kd hk hck) (show q < 8 by omega) sm nt nl nd
      have xm := px_mk (ver := ver) (po := po) (pi := pi) (pk := pk) (pg := pg) (cp := cp) (cd := cd) (ck := ck) (cg := cg) (show q < 8 by omega) u2 (nI i) (nI g) (nI np) (nI nc) s1 t1 t2 t3 s1 (fun _ _ => rfl) 5 0 2000 u2 (by omega) (by omega)
      obtain ⟨m1, m2, m3, e2⟩ := pm_mk (ver := ver) (pk := pk) (pg := pg) (cp := cp) (cd := cd) (ck := ck) (cg := cg) hp hc ho hi (show q < 8 by omega) u2 (nI i) (nI g) s1 h1 5 0 2000 u2 mow msu mne (by omega) (by omega)
      refine ⟨mkf (mkx mxs s1 5 0 u2) (ver q) (nI i), s1, t1, t2, t3, m1, m2, m3, ?_, ?_⟩
      · rw [zf_MP_mark, a1, pz_bs, if_neg pz_b1, if_neg (nI_pos (by omega)), if_pos (show nI i < (8 : Int32) from nI_lt (b := 8) hi8 (by omega)), e1, pz_bs]
        exact xm
      · rw [zf_Mo_mark, b1, pz_bs, if_neg pz_b1, pz_pers, a3, pz_bs, if_neg pz_b1]
        exact e2
    · refine ⟨-1, sm, nt, nl, nd, mow, msu, mne, ?_, ?_⟩
      · rw [zf_MP_mark, a1, pz_bs, if_neg pz_b1]
        rw [zf_MP_isPerson] at a3
        by_cases z : u4 < 0
        · rw [if_pos z]
        · rw [if_neg z] at a3 ⊢
          rw [if_neg]
          intro w
          rw [if_neg (fun y => by
            rw [Int32.le_iff_toInt_le] at y
            rw [Int32.lt_iff_toInt_lt] at w
            omega)] at a3
          cases a3
      · rw [zf_Mo_mark, b1, pz_bs, if_neg pz_b1, pz_pers, a3, pz_bs, if_pos rfl]
  · exact ⟨-1, sm, nt, nl, nd, mow, msu, mne, by rw [zf_MP_mark, a1, pz_bs, if_pos rfl], by rw [zf_Mo_mark, b1, pz_bs, if_pos rfl]⟩
/-- the order of the kinds -/
def ah (T : Nat → Int64) (k : Nat) : Nat → Nat → Int32 → Int32
  | 0, _, a => a
  | m + 1, o, a => if T k < T o then ah T k m (o + 1) (a + 1) else (if T o = T k then (if k ≤ o then ah T k m (o + 1) a else ah T k m (o + 1) (a + 1)) else ah T k m (o + 1) a)
theorem px_ah (sm : Nat → Int64) {k : Nat} (hk : k < 5) : ∀ (m o n : Nat) (a : Int32), o + m = 5 → m < n → zf_MP_kindsAhead_L4 (nI k) sm n a (nI o) = some (ah sm k m o a) := by
  intro m
  induction m with
  | zero =>
    intro o n a ho hn
    obtain ⟨n, rfl⟩ : ∃ q, n = q + 1 := ⟨n - 1, by omega⟩
    have e : o = 5 := by omega
    subst e
    rw [zf_MP_kindsAhead_L4, if_pos (by decide)]; rfl
  | succ m ih =>
    intro o n a ho hn
    obtain ⟨n, rfl⟩ : ∃ q, n = q + 1 := ⟨n - 1, by omega⟩
    rw [zf_MP_kindsAhead_L4, if_neg (show ¬ (5 : Int32) ≤ nI o from nI_ge (b := 5) (by omega) (by omega)), ah]
    simp (disch := omega) only [nI_clamp, pz_i2, nI_1, ih, pz_le]
    by_cases h1 : sm k < sm o
    · simp only [if_pos h1]
    · by_cases h2 : sm o = sm k
      · by_cases h3 : k ≤ o
        · simp only [if_neg h1, if_pos h2, if_pos h3]
        · simp only [if_neg h1, if_pos h2, if_neg h3]
      · simp only [if_neg h1, if_neg h2]
theorem pm_ah (hp : np ≤ 24) (hc : nc ≤ 20) (T : Nat → Int64) (hT : ∀ k, k < 5 → T k = sg (al_t pk pg nc cp cd ck cg (nI k)) np) (v1 : Int32) {k : Nat} (hk : k < 5) (K : Int32 → Option Int32) : ∀ (m o n : Nat) (a : Int32), o + m = 5 → m < n → zf_Mo_most_L19 v1 (nI k) (T k) (nI np) (nI nc) pk pg cp cd ck cg K n a (nI o) = (if T k ≤ 0 then K (nI (k + 1)) else (if ah T k m o a = v1 then some (nI k) else K (nI (k + 1)))) := by
  intro m
  induction m with
  | zero =>
    intro o n a ho hn
    obtain ⟨n, rfl⟩ : ∃ q, n = q + 1 := ⟨n - 1, by omega⟩
    have e : o = 5 := by omega
    subst e
    rw [zf_Mo_most_L19, if_pos (by decide), nI_1, ah]
  | succ m ih =>
    intro o n a ho hn
    obtain ⟨n, rfl⟩ : ∃ q, n = q + 1 := ⟨n - 1, by omega⟩
    have e : zf_Mo_allOf (nI o) (nI np) (nI nc) pk pg cp cd ck cg = some (T o) := by
      rw [hT o (by omega)]
      exact pm_alL hp hc (nI o) np 0 2000 (by omega) (by omega)
    rw [zf_Mo_most_L19, if_neg (show ¬ (5 : Int32) ≤ nI o from nI_ge (b := 5) (by omega) (by omega)), ah, e, pz_bs]
    simp (disch := omega) only [nI_1, ih, pz_le, Int32.add_zero]
    by_cases h1 : T k < T o
    · simp only [if_pos h1]
    · by_cases h2 : T o = T k
      · by_cases h3 : k ≤ o
        · simp only [if_neg h1, if_pos h2, if_pos h3]
        · simp only [if_neg h1, if_pos h2, if_neg h3]
      · simp only [if_neg h1, if_neg h2]
def mo (T : Nat → Int64) (u : Int32) : Nat → Nat → Int32
  | 0, _ => -1
  | m + 1, k => if T k ≤ 0 then mo T u m (k + 1) else (if ah T k 5 0 0 = u then nI k else mo T u m (k + 1))
theorem px_mo (sm nt : Nat → Int64) (u xpn xcn : Int32) : ∀ (m k n : Nat), k + m = 5 → m < n → zf_MP_most_L20 u sm nt xpn po pk pg xcn cp cd ck cg n (nI k) = some (mo sm u m k, sm, nt) := by
  intro m
  induction m with
  | zero =>
    intro k n hk hn
    obtain ⟨n, rfl⟩ : ∃ q, n = q + 1 := ⟨n - 1, by omega⟩
    have e : k = 5 := by omega
    subst e
    rw [zf_MP_most_L20, if_pos (by decide)]; rfl
  | succ m ih =>
    intro k n hk hn
    obtain ⟨n, rfl⟩ : ∃ q, n = q + 1 := ⟨n - 1, by omega⟩
    have e : zf_MP_kindsAhead (nI k) sm = some (ah sm k 5 0 0) := px_ah sm (by omega) 5 0 2000 0 (by omega) (by omega)
    rw [zf_MP_most_L20, if_neg (show ¬ (5 : Int32) ≤ nI k from nI_ge (b := 5) (by omega) (by omega)), mo, e, pz_bs]
    simp (disch := omega) only [nI_clamp, pz_i2, nI_1, ih]
    by_cases h1 : sm k ≤ 0
    · simp only [h1, if_true]
    · by_cases h2 : ah sm k 5 0 0 = u
      · simp only [h1, h2, if_true, if_false]
      · simp only [h1, h2, if_false]
theorem pm_mo (hp : np ≤ 24) (hc : nc ≤ 20) (T : Nat → Int64) (hT : ∀ k, k < 5 → T k = sg (al_t pk pg nc cp cd ck cg (nI k)) np) (u : Int32) : ∀ (m k n : Nat), k + m = 5 → m < n → zf_Mo_most_L2 u (nI np) (nI nc) pk pg cp cd ck cg n (nI k) = some (mo T u m k) := by
  intro m
  induction m with
  | zero =>
    intro k n hk hn
    obtain ⟨n, rfl⟩ : ∃ q, n = q + 1 := ⟨n - 1, by omega⟩
    have e : k = 5 := by omega
    subst e
    rw [zf_Mo_most_L2, if_pos (by decide)]; rfl
  | succ m ih =>
    intro k n hk hn
    obtain ⟨n, rfl⟩ : ∃ q, n = q + 1 := ⟨n - 1, by omega⟩
    have e : zf_Mo_allOf (nI k) (nI np) (nI nc) pk pg cp cd ck cg = some (T k) := by
      rw [hT k (by omega)]
      exact pm_alL hp hc (nI k) np 0 2000 (by omega) (by omega)
    have e2 := pm_ah hp hc T hT u (show k < 5 by omega) (fun uv2 => zf_Mo_most_L2 u (nI np) (nI nc) pk pg cp cd ck cg n uv2) 5 0 2000 0 (by omega) (by omega)
    rw [zf_Mo_most_L2, if_neg (show ¬ (5 : Int32) ≤ nI k from nI_ge (b := 5) (by omega) (by omega)), mo, e, pz_bs]
    refine e2.trans ?_
    rw [ih (k + 1) n (by omega) (by omega)]
    by_cases h1 : T k ≤ 0
    · simp only [h1, if_true]
    · by_cases h2 : ah T k 5 0 0 = u
      · simp only [h1, h2, if_true, if_false]
      · simp only [h1, h2, if_false]
theorem mo_congr {T S : Nat → Int64} (h : ∀ k, k < 5 → T k = S k) (u : Int32) : ∀ m k, k + m = 5 → mo T u m k = mo S u m k := by
  have ha : ∀ k, k < 5 → ∀ m o a, o + m = 5 → ah T k m o a = ah S k m o a := by
    intro k hk m
    induction m with
    | zero => intro o a _; rfl
    | succ m ih =>
      intro o a ho
      rw [ah, ah, h k hk, h o (by omega), ih (o + 1) (a + 1) (by omega), ih (o + 1) a (by omega)]
  intro m
  induction m with
  | zero => intro k _; rfl
  | succ m ih =>
    intro k hk
    rw [mo, mo, h k (by omega), ih (k + 1) (by omega), ha k (by omega) 5 0 0 (by omega)]
theorem pp_most (hI : IP np po pk pi pg) (hC : IC nc ck cg) (u1 : Int32) (sm nt : Nat → Int64) : ∃ a s1 t1, zf_MP_most u1 (nI np) sm po pk pg (nI nc) cp cd ck cg nt = some (a, s1, t1) ∧ zf_Mo_most u1 (nI np) (nI nc) pk pg cp cd ck cg = some a := by
  obtain ⟨hp, ho, hi, hk, -, -⟩ := hI
  obtain ⟨hc, hck, -⟩ := hC
  obtain ⟨f, ef, hf⟩ := px_fill 1 (n0 := 8) (by omega) nt
  obtain ⟨s1, e1, h1⟩ := px_sb (pg := pg) (cg := cg) (d := 100000) (cp := cp) (cd := cd) hp hc ho (hk_kd hk hck) f sm
  have hT : ∀ k, k < 5 → s1 k = sg (al_t pk pg nc cp cd ck cg (nI k)) np := fun k hk5 => by
    rw [h1 k hk5]
    refine sg_congr (fun j hj => ?_)
    rw [hf _ (ho.at_ hj).2, al_t]
    by_cases q : kd pk nc cp cd ck 100000 j = nI k
    · rw [if_pos q, if_pos q]; simp
    · rw [if_neg q, if_neg q]
  refine ⟨mo s1 u1 5 0, s1, f, ?_, ?_⟩
  · rw [zf_MP_most, zf_Ne_sumOfAll, ef, pz_bs, e1, pz_bs, pz_bs]
    exact px_mo s1 f u1 (nI np) (nI nc) 5 0 2000 (by omega) (by omega)
  · exact pm_mo hp hc s1 hT u1 5 0 2000 (by omega) (by omega)
end PAS
