/-! PURE: the formula's value, both ways; scored, swap -/
theorem pm_prd (a b : Int64) : zf_Mo_product a b = some (prd a b) := by
  have h01 : ¬ (0 : Int32) = 1 := by decide
  rw [zf_Mo_product, prd]
  by_cases h0 : a = 0
  · rw [if_pos h0, if_pos h0]
  · rw [if_neg h0, if_neg h0]
    by_cases hb : b = 0
    · subst hb
      rw [if_pos rfl, show ab 0 = 0 from by decide, if_neg (dv_pos (ab_pos h0))]
      congr 1
      grind
    · have hna : ¬ -a = 0 := fun z => h0 (by grind)
      rw [if_neg hb, ab_nn, ab_nn]
      by_cases ha : 0 ≤ a
      · by_cases hb2 : 0 ≤ b
        · simp only [ha, hb2, if_true, if_false, h0, pz_b1, h01]
          by_cases hc : b ≤ 1000000000000 / a
          · rw [if_pos hc, if_neg (Int64.not_lt.mpr hc)]
          · rw [if_neg hc, if_pos (Int64.not_le.mp hc)]
        · simp only [ha, hb2, if_true, if_false, h0, pz_b1, h01]
          by_cases hc : -b ≤ 1000000000000 / a
          · rw [if_pos hc, if_neg (Int64.not_lt.mpr hc)]
            congr 1
            grind
          · rw [if_neg hc, if_pos (Int64.not_le.mp hc)]
      · by_cases hb2 : 0 ≤ b
        · simp only [ha, hb2, if_true, if_false, hna, h0, pz_b1, h01]
          by_cases hc : b ≤ 1000000000000 / -a
          · rw [if_pos hc, if_neg (Int64.not_lt.mpr hc)]
            congr 1
            grind
          · rw [if_neg hc, if_pos (Int64.not_le.mp hc)]
        · simp only [ha, hb2, if_true, if_false, hna, h0, pz_b1, h01]
          by_cases hc : -b ≤ 1000000000000 / -a
          · rw [if_pos hc, if_neg (Int64.not_lt.mpr hc)]
            congr 1
            grind
          · rw [if_neg hc, if_pos (Int64.not_le.mp hc)]
theorem px_jn (w : Int32) (a b : Int64) : zf_Fo_join w a b = some (jn w a b) := by
  rw [zf_Fo_join, jn, px_prd, px_cut, px_cut, pz_bs, pz_bs, pz_bs]
  by_cases h1 : w = -10
  · simp only [if_pos h1]
  · by_cases h2 : w = -9
    · simp only [if_neg h1, if_pos h2]
    · by_cases h3 : w = -8
      · simp only [if_neg h1, if_neg h2, if_pos h3]
      · by_cases h4 : w = -7
        · simp only [if_neg h1, if_neg h2, if_neg h3, if_pos h4]
        · simp only [if_neg h1, if_neg h2, if_neg h3, if_neg h4]
theorem pz_ltle {x y : Int64} (h : y ≤ x) (h2 : ¬ y < x) : x = y := by
  rw [← Int64.toInt_inj]
  rw [Int64.le_iff_toInt_le] at h
  rw [Int64.lt_iff_toInt_lt] at h2
  omega
theorem pm_jn (w : Int32) (a b : Int64) : zf_Mo_ofTwo w a b = some (jn w a b) := by
  rw [zf_Mo_ofTwo, jn, pm_prd, pm_cut, pm_cut, pz_bs, pz_bs, pz_bs]
  by_cases h1 : w = -10
  · simp only [if_pos h1]
    by_cases q : b < a
    · rw [if_pos q, if_pos (Int64.le_of_lt q)]
    · rw [if_neg q]
      by_cases z : b ≤ a
      · rw [if_pos z, pz_ltle z q]
      · rw [if_neg z]
  · by_cases h2 : w = -9
    · simp only [if_neg h1, if_pos h2]
    · by_cases h3 : w = -8
      · simp only [if_neg h1, if_neg h2, if_pos h3]
      · by_cases h4 : w = -7
        · simp only [if_neg h1, if_neg h2, if_neg h3, if_pos h4]
        · simp only [if_neg h1, if_neg h2, if_neg h3, if_neg h4]
          by_cases q : b < a
          · rw [if_pos q, if_neg (Int64.not_le.mpr q)]
          · rw [if_neg q, if_pos (Int64.not_lt.mp q)]
/-- how many are on the stack -/
def dp (fw : Nat → Int32) : Nat → Nat
  | 0 => 0
  | k + 1 => if (-7 : Int32) < fw k then dp fw k + 1 else dp fw k - 1
theorem dp_le (fw : Nat → Int32) : ∀ k, dp fw k ≤ k
  | 0 => Nat.le_refl _
  | k + 1 => by
    have := dp_le fw k
    rw [dp]
    by_cases h : (-7 : Int32) < fw k
    · rw [if_pos h]; omega
    · rw [if_neg h]; omega
def WF (wn : Nat) (fw : Nat → Int32) : Prop := (∀ j, j < wn → ¬ fw j < (-11 : Int32)) ∧ (∀ j, j < wn → ¬ (-7 : Int32) < fw j → 2 ≤ dp fw j) ∧ dp fw wn = 1
theorem pz_sw {w : Int32} (h1 : w < 0) (h2 : (-7 : Int32) < w) (h3 : ¬ w = -6) : ∃ k, k < 5 ∧ (-1 : Int32) - w = nI k := by
  have a : w.toInt < 0 := by rw [Int32.lt_iff_toInt_lt] at h1; exact h1
  have b : -7 < w.toInt := by rw [Int32.lt_iff_toInt_lt] at h2; exact h2
  have c : w.toInt ≠ -6 := fun q => h3 (Int32.toInt_inj.mp q)
  rcases (show w.toInt = -1 ∨ w.toInt = -2 ∨ w.toInt = -3 ∨ w.toInt = -4 ∨ w.toInt = -5 by omega) with q | q | q | q | q
  · exact ⟨0, by omega, by rw [show w = -1 from Int32.toInt_inj.mp q]; rfl⟩
  · exact ⟨1, by omega, by rw [show w = -2 from Int32.toInt_inj.mp q]; rfl⟩
  · exact ⟨2, by omega, by rw [show w = -3 from Int32.toInt_inj.mp q]; rfl⟩
  · exact ⟨3, by omega, by rw [show w = -4 from Int32.toInt_inj.mp q]; rfl⟩
  · exact ⟨4, by omega, by rw [show w = -5 from Int32.toInt_inj.mp q]; rfl⟩
section PVA
variable {np nc : Nat} {po pi pk : Nat → Int32} {pg : Nat → Int64} {cp : Nat → Int32} {cd : Nat → Int64} {ck : Nat → Int32} {cg : Nat → Int64}
theorem p_value (hI : IP np po pk pi pg) (hC : IC nc ck cg) {q : Nat} (hq : q < 8) (sm : Nat → Int64) (hT : ∀ k, k < 5 → sm k = TX np po pi pk pg nc cp cd ck cg 100000 q k) {wn : Nat} {fw : Nat → Int32} (hw : wn ≤ 150) (hF : WF wn fw) : ∀ (m k n n' : Nat) (xfs mst mow msu mne : Nat → Int64), k + m = wn → m < n → m < n' → (∀ i, i < dp fw k → xfs i = mst i) → ∃ r s1 m1 m2 m3 m4, zf_Fo_value_L5 (oc po (nI q) np) (nI wn) sm fw n (nI (dp fw k)) (nI k) xfs = some (r, s1) ∧ zf_Mo_valueOf_L4 (nI q) (nI np) (nI nc) (nI wn) po pk pg pi cp cd ck cg fw n' (nI (dp fw k)) (nI k) mst mow msu mne = some (r, m1, m2, m3, m4) := by
  obtain ⟨hp, ho, hi, hk5, hG, hR⟩ := id hI
  obtain ⟨hc, hck, hcg⟩ := id hC
  have hS := TX_sum (cp := cp) (cd := cd) (d := 100000) hI hC hq sm hT
  intro m
  induction m with
  | zero =>
    intro k n n' xfs mst mow msu mne hk hn hn' hst
    obtain ⟨n, rfl⟩ : ∃ q, n = q + 1 := ⟨n - 1, by omega⟩
    obtain ⟨n', rfl⟩ : ∃ q, n' = q + 1 := ⟨n' - 1, by omega⟩
    have e : k = wn := by omega
    subst e
    refine ⟨xfs 0, xfs, mst, mow, msu, mne, ?_, ?_⟩
    · rw [zf_Fo_value_L5, if_pos (nI_le (Nat.le_refl _) (by omega)), show (0 : Int32).toNatClampNeg = 0 from rfl, if_neg (by decide)]
    · rw [zf_Mo_valueOf_L4, if_pos (nI_le (Nat.le_refl _) (by omega)), show (0 : Int32).toNatClampNeg = 0 from rfl, if_neg (by decide), hst 0 (by rw [hF.2.2]; omega)]
  | succ m ih =>
    intro k n n' xfs mst mow msu mne hk hn hn' hst
    obtain ⟨n, rfl⟩ : ∃ q, n = q + 1 := ⟨n - 1, by omega⟩
    obtain ⟨n', rfl⟩ : ∃ q, n' = q + 1 := ⟨n' - 1, by omega⟩
    have hkw : k < wn := by omega
    have hd := dp_le fw k
    have f11 := hF.1 k hkw
    by_cases hop : (-7 : Int32) < fw k
    · have hd1 : dp fw (k + 1) = dp fw k + 1 := by rw [dp, if_pos hop]
      have e1 : zf_Fo_joinsTwo (fw k) = some 0 := by rw [zf_Fo_joinsTwo, if_pos hop]
      have e2 : zf_Mo_isOfTwo (fw k) = some 0 := by rw [zf_Mo_isOfTwo, if_pos hop]
      have push : ∀ (x : Int64) (i : Nat), i < dp fw (k + 1) → vp_updL xfs (dp fw k) x i = vp_updL mst (dp fw k) x i := fun x i hi => by
        rw [pz_updL, pz_updL]
        by_cases z : i = dp fw k
        · rw [if_pos z, if_pos z]
        · rw [if_neg z, if_neg z]; exact hst i (by omega)
      by_cases hneg : fw k < 0
      · by_cases h6 : fw k = -6
        · obtain ⟨r, s1, m1, m2, m3, m4, a, b⟩ := ih (k + 1) n n' (vp_updL xfs (dp fw k) (oc po (nI q) np).toInt64) (vp_updL mst (dp fw k) (oc po (nI q) np).toInt64) mow msu mne (by omega) (by omega) (by omega) (push _)
          rw [hd1] at a b
          refine ⟨r, s1, m1, m2, m3, m4, ?_, ?_⟩
          · rw [zf_Fo_value_L5, if_neg (nI_ge hkw (by omega))]
            simp (disch := omega) only [nI_clamp, pz_i2, nI_1]
            rw [e1, pz_bs, if_pos rfl, zf_Fo_valueOf, if_pos hneg, if_pos h6, pz_bs]
            exact a
          · have ec : zf_Mo_countOf (nI q) (nI np) po = some (oc po (nI q) np).toInt64 := pm_oc hp (nI q) np 0 2000 (by omega) (by omega)
            rw [zf_Mo_valueOf_L4, if_neg (nI_ge hkw (by omega))]
            simp (disch := omega) only [nI_clamp, pz_i2, nI_1]
            rw [e2, pz_bs, if_pos rfl, if_pos hneg, if_pos h6, ec, pz_bs]
            exact b
        · obtain ⟨c, hc5, ec⟩ := pz_sw hneg hop h6
          have es : zf_Fo_share (nI c) sm = some (shr sm c) := px_shL sm hc5 hS 5 0 2000 (by omega) (by omega)
          obtain ⟨a1, a2, a3, em⟩ := pm_shL (pk := pk) (pg := pg) (cp := cp) (cd := cd) (ck := ck) (cg := cg) hp hc ho hi hq sm hT hc5 5 0 2000 mow msu mne (by omega) (by omega)
          have em : zf_Mo_shareOf (nI q) (nI c) (nI np) (nI nc) po pk pg pi cp cd ck cg mow msu mne = some (shr sm c, a1, a2, a3) := by rw [if_neg (by omega)] at em; exact em
          obtain ⟨r, s1, m1, m2, m3, m4, a, b⟩ := ih (k + 1) n n' (vp_updL xfs (dp fw k) (shr sm c)) (vp_updL mst (dp fw k) (shr sm c)) a1 a2 a3 (by omega) (by omega) (by omega) (push _)
          rw [hd1] at a b
          refine ⟨r, s1, m1, m2, m3, m4, ?_, ?_⟩
          · rw [zf_Fo_value_L5, if_neg (nI_ge hkw (by omega))]
            simp (disch := omega) only [nI_clamp, pz_i2, nI_1]
            rw [e1, pz_bs, if_pos rfl, zf_Fo_valueOf, if_pos hneg, if_neg h6, ec, es, pz_bs, pz_bs]
            exact a
          · rw [zf_Mo_valueOf_L4, if_neg (nI_ge hkw (by omega))]
            simp (disch := omega) only [nI_clamp, pz_i2, nI_1]
            rw [e2, pz_bs, if_pos rfl, if_pos hneg, if_neg h6, ec, em, pz_bs]
            exact b
      · obtain ⟨r, s1, m1, m2, m3, m4, a, b⟩ := ih (k + 1) n n' (vp_updL xfs (dp fw k) (fw k).toInt64) (vp_updL mst (dp fw k) (fw k).toInt64) mow msu mne (by omega) (by omega) (by omega) (push _)
        rw [hd1] at a b
        refine ⟨r, s1, m1, m2, m3, m4, ?_, ?_⟩
        · rw [zf_Fo_value_L5, if_neg (nI_ge hkw (by omega))]
          simp (disch := omega) only [nI_clamp, pz_i2, nI_1]
          rw [e1, pz_bs, if_pos rfl, zf_Fo_valueOf, if_neg hneg, pz_bs]
          exact a
        · rw [zf_Mo_valueOf_L4, if_neg (nI_ge hkw (by omega))]
          simp (disch := omega) only [nI_clamp, pz_i2, nI_1]
          rw [e2, pz_bs, if_pos rfl, if_neg hneg]
          exact b
    · have h2 := hF.2.1 k hkw hop
      have hd1 : dp fw (k + 1) = dp fw k - 1 := by rw [dp, if_neg hop]
      have e1 : zf_Fo_joinsTwo (fw k) = some 1 := by rw [zf_Fo_joinsTwo, if_neg hop, if_neg f11]
      have e2 : zf_Mo_isOfTwo (fw k) = some 1 := by rw [zf_Mo_isOfTwo, if_neg hop]
      have g1 : nI (dp fw k) + (-1 : Int32) = nI (dp fw k - 1) := by
        obtain ⟨z, hz⟩ : ∃ z, dp fw k = z + 1 := ⟨dp fw k - 1, by omega⟩
        rw [hz, pk_m1]; rfl
      have g2 : nI (dp fw k - 1) - (1 : Int32) = nI (dp fw k - 2) := by
        obtain ⟨z, hz⟩ : ∃ z, dp fw k - 1 = z + 1 := ⟨dp fw k - 2, by omega⟩
        rw [hz, nI_pred]; congr 1; omega
      have v1 : xfs (dp fw k - 2) = mst (dp fw k - 2) := hst _ (by omega)
      have v2 : xfs (dp fw k - 1) = mst (dp fw k - 1) := hst _ (by omega)
      obtain ⟨r, s1, m1, m2, m3, m4, a, b⟩ := ih (k + 1) n n' (vp_updL xfs (dp fw k - 2) (jn (fw k) (mst (dp fw k - 2)) (mst (dp fw k - 1)))) (vp_updL mst (dp fw k - 2) (jn (fw k) (mst (dp fw k - 2)) (mst (dp fw k - 1)))) mow msu mne (by omega) (by omega) (by omega) (fun i hi => by
        rw [pz_updL, pz_updL]
        by_cases z : i = dp fw k - 2
        · rw [if_pos z, if_pos z]
        · rw [if_neg z, if_neg z]; exact hst i (by omega))
      rw [hd1] at a b
      have l2 : ¬ nI (dp fw k) < (2 : Int32) := nI_nlt (b := 2) h2 (by omega)
      refine ⟨r, s1, m1, m2, m3, m4, ?_, ?_⟩
      · rw [zf_Fo_value_L5, if_neg (nI_ge hkw (by omega))]
        simp (disch := omega) only [nI_clamp, pz_i2, nI_1, g1, g2]
        rw [e1, pz_bs, if_neg pz_b1, if_neg l2, px_jn, pz_bs, v1, v2]
        exact a
      · rw [zf_Mo_valueOf_L4, if_neg (nI_ge hkw (by omega))]
        simp (disch := omega) only [nI_clamp, pz_i2, nI_1, g1, g2]
        rw [e2, pz_bs, if_neg pz_b1, pm_jn, pz_bs]
        exact b
theorem p_valueFor (hI : IP np po pk pi pg) (hC : IC nc ck cg) {q : Nat} (hq : q < 8) {wn : Nat} {fw : Nat → Int32} (hw : wn ≤ 150) (hF : WF wn fw) (sm nt nl nd xfs mst mow msu mne : Nat → Int64) : ∃ r s1 t1 t2 t3 s2 m1 m2 m3 m4, zf_MP_valueFor (nI q) (nI np) (nI wn) sm po pk pg pi (nI nc) cp cd ck cg nt nl nd fw xfs = some (r, s1, t1, t2, t3, s2) ∧ zf_Mo_valueOf (nI q) (nI np) (nI nc) (nI wn) po pk pg pi cp cd ck cg fw mst mow msu mne = some (r, m1, m2, m3, m4) := by
  obtain ⟨hp, ho, hi, hk5, hG, hR⟩ := id hI
  obtain ⟨hc, hck, hcg⟩ := id hC
  obtain ⟨s1, t1, t2, t3, e1, h1⟩ := px_sw (pg := pg) (cg := cg) (d := 100000) (cp := cp) (cd := cd) hp hc ho hi (hk_kd hk5 hck) hq sm nt nl nd
  obtain ⟨r, s2, m1, m2, m3, m4, a, b⟩ := p_value hI hC hq s1 h1 hw hF wn 0 2000 2000 xfs mst mow msu mne (by omega) (by omega) (by omega) (fun i hi => absurd hi (Nat.not_lt_zero i))
  refine ⟨r, s1, t1, t2, t3, s2, m1, m2, m3, m4, ?_, b⟩
  have e2 : zf_Pa_ownCount (nI q) (nI np) po = some (oc po (nI q) np) := px_oc hp (nI q) np 0 2000 (by omega) (by omega)
  have a : zf_Fo_value (oc po (nI q) np) (nI wn) s1 fw xfs = some (r, s2) := a
  rw [zf_MP_valueFor, e1, pz_bs, e2, pz_bs, a, pz_bs]
/-- the formula: told or not -/
def IF (wn : Nat) (fw : Nat → Int32) (hf : Int32) : Prop := wn ≤ 150 ∧ ((wn = 0 ∧ hf = 0) ∨ (0 < wn ∧ hf = 1 ∧ WF wn fw))
theorem pp_scored {g : Nat} (hg : g ≤ 8) (hI : IP np po pk pi pg) (hC : IC nc ck cg) {wn : Nat} {fw : Nat → Int32} {hf : Int32} (hF : IF wn fw hf) (u1 : Int32) (sm nt nl nd xfs mst mow msu mne : Nat → Int64) : ∃ r s1 t1 t2 t3 s2 m1 m2 m3 m4, zf_MP_scored u1 (nI g) (nI np) (nI wn) sm po pk pg pi (nI nc) cp cd ck cg nt nl nd fw xfs = some (r, s1, t1, t2, t3, s2) ∧ zf_Mo_scored u1 (nI g) (nI np) (nI nc) (nI wn) hf po pk pg pi cp cd ck cg fw mst mow msu mne = some (r, m1, m2, m3, m4) := by
  obtain ⟨hw, ⟨rfl, rfl⟩ | ⟨hw0, rfl, hF⟩⟩ := hF
  · exact ⟨_, sm, nt, nl, nd, xfs, mst, mow, msu, mne, by rw [zf_MP_scored, zf_Fo_isTold, if_pos (by decide), pz_bs, if_pos rfl], by rw [zf_Mo_scored, if_pos rfl]⟩
  · have e0 : zf_Fo_isTold (nI wn) = some 1 := by rw [zf_Fo_isTold, if_neg (nI_nle hw0 (by omega))]
    rcases pz_good u1 (g := g) (by omega) with ⟨q, hq, eq, a1, b1⟩ | ⟨a1, b1⟩
    · subst eq
      obtain ⟨r, s1, t1, t2, t3, s2, m1, m2, m3, m4, a, b⟩ := p_valueFor (cp := cp) (cd := cd) hI hC (show q < 8 by omega) hw hF sm nt nl nd xfs mst mow msu mne
      refine ⟨r, s1, t1, t2, t3, s2, m1, m2, m3, m4, ?_, ?_⟩
      · rw [zf_MP_scored, e0, pz_bs, if_neg pz_b1, a1, pz_bs, if_neg pz_b1, a, pz_bs]
      · rw [zf_Mo_scored, if_neg pz_b1, b1, pz_bs, if_neg pz_b1, b, pz_bs]
    · exact ⟨_, sm, nt, nl, nd, xfs, mst, mow, msu, mne, by rw [zf_MP_scored, e0, pz_bs, if_neg pz_b1, a1, pz_bs, if_pos rfl], by rw [zf_Mo_scored, if_neg pz_b1, b1, pz_bs, if_pos rfl]⟩
theorem pp_swap {ver : Nat → Int32} (hI : IP np po pk pi pg) (hC : IC nc ck cg) {wn : Nat} {fw : Nat → Int32} {hf : Int32} (hF : IF wn fw hf) (u1 u2 : Int32) (sm nt nl nd xfs mst mow msu mne : Nat → Int64) : ∃ a ver' nc' cp' cd' ck' cg' s1 t1 t2 t3 s2 m1 m2 m3 m4, IC nc' ck' cg' ∧ zf_MP_swap u1 u2 ver (nI np) (nI wn) sm po pk pg pi (nI nc) cp cd ck cg nt nl nd fw xfs = some (a, ver', s1, nI nc', cp', cd', ck', cg', t1, t2, t3, s2) ∧ zf_Mo_swap u1 u2 (nI np) (nI nc) (nI wn) hf ver po pk pg pi cp cd ck cg fw mst mow msu mne = some (a, nI nc', ver', cp', cd', ck', cg', m1, m2, m3, m4) := by
  obtain ⟨hp, ho, hi, hk5, hG, hR⟩ := id hI
  obtain ⟨hc, hck, hcg⟩ := id hC
  have same : ∀ {P : Prop}, zf_MP_swap u1 u2 ver (nI np) (nI wn) sm po pk pg pi (nI nc) cp cd ck cg nt nl nd fw xfs = some (-1, ver, sm, nI nc, cp, cd, ck, cg, nt, nl, nd, xfs) → zf_Mo_swap u1 u2 (nI np) (nI nc) (nI wn) hf ver po pk pg pi cp cd ck cg fw mst mow msu mne = some (-1, nI nc, ver, cp, cd, ck, cg, mst, mow, msu, mne) → ∃ a ver' nc' cp' cd' ck' cg' s1 t1 t2 t3 s2 m1 m2 m3 m4, IC nc' ck' cg' ∧ zf_MP_swap u1 u2 ver (nI np) (nI wn) sm po pk pg pi (nI nc) cp cd ck cg nt nl nd fw xfs = some (a, ver', s1, nI nc', cp', cd', ck', cg', t1, t2, t3, s2) ∧ zf_Mo_swap u1 u2 (nI np) (nI nc) (nI wn) hf ver po pk pg pi cp cd ck cg fw mst mow msu mne = some (a, nI nc', ver', cp', cd', ck', cg', m1, m2, m3, m4) := fun a b => ⟨-1, ver, nc, cp, cd, ck, cg, sm, nt, nl, nd, xfs, mst, mow, msu, mne, hC, a, b⟩
  have mNo : ∀ {P : Prop}, (zf_Mo_isPart u1 (nI np) = some 0 ∨ (zf_Mo_isPart u1 (nI np) = some 1 ∧ (zf_Mo_isKind u2 = some 0 ∨ (zf_Mo_isKind u2 = some 1 ∧ (hf = 0 ∨ (hf = 1 ∧ nI nc = 20)))))) → zf_Mo_swap u1 u2 (nI np) (nI nc) (nI wn) hf ver po pk pg pi cp cd ck cg fw mst mow msu mne = some (-1, nI nc, ver, cp, cd, ck, cg, mst, mow, msu, mne) := fun h => by
    rcases h with h | ⟨h, h2 | ⟨h2, h3 | ⟨h3, h4⟩⟩⟩
    · rw [zf_Mo_swap, h, pz_bs, if_pos rfl]
    · rw [zf_Mo_swap, h, pz_bs, if_neg pz_b1, h2, pz_bs, if_pos rfl]
    · rw [zf_Mo_swap, h, pz_bs, if_neg pz_b1, h2, pz_bs, if_neg pz_b1, if_pos h3]
    · rw [zf_Mo_swap, h, pz_bs, if_neg pz_b1, h2, pz_bs, if_neg pz_b1, h3, if_neg pz_b1, if_pos h4]
  have pt : zf_Mo_isPart u1 (nI np) = some 0 ∨ zf_Mo_isPart u1 (nI np) = some 1 := by
    rcases pz_part u1 (g := np) (by omega) with ⟨j, hj, ej, a1, b1⟩ | ⟨a1, b1⟩
    · exact Or.inr b1
    · exact Or.inl b1
  have kt : zf_Mo_isKind u2 = some 0 ∨ zf_Mo_isKind u2 = some 1 := by
    rcases pz_kind u2 with ⟨j, hj, ej, a1, b1⟩ | ⟨a1, b1⟩
    · exact Or.inr b1
    · exact Or.inl b1
  obtain ⟨hw, ⟨rfl, rfl⟩ | ⟨hw0, rfl, hF⟩⟩ := hF
  · refine same (P := True) (by rw [zf_MP_swap, zf_Fo_isTold, if_pos (by decide), pz_bs, if_pos rfl]) (mNo (P := True) ?_)
    rcases pt with h | h
    · exact Or.inl h
    · rcases kt with h2 | h2
      · exact Or.inr ⟨h, Or.inl h2⟩
      · exact Or.inr ⟨h, Or.inr ⟨h2, Or.inl rfl⟩⟩
  · have e0 : zf_Fo_isTold (nI wn) = some 1 := by rw [zf_Fo_isTold, if_neg (nI_nle hw0 (by omega))]
    by_cases hn : nc = 20
    · subst hn
      refine same (P := True) (by rw [zf_MP_swap, e0, pz_bs, if_neg pz_b1, zf_Ch_isFull, if_neg (by decide), pz_bs, if_neg pz_b1]) (mNo (P := True) ?_)
      rcases pt with h | h
      · exact Or.inl h
      · rcases kt with h2 | h2
        · exact Or.inr ⟨h, Or.inl h2⟩
        · exact Or.inr ⟨h, Or.inr ⟨h2, Or.inr ⟨rfl, rfl⟩⟩⟩
    · have hlt : nc < 20 := by omega
      have f1 : zf_Ch_isFull (nI nc) = some 0 := by rw [zf_Ch_isFull, if_pos (show nI nc < (20 : Int32) from nI_lt (b := 20) hlt (by omega))]
      have f2 : ¬ nI nc = (20 : Int32) := fun q => hn ((nI_eq (b := 20) (by omega) (by omega)).mp q)
      rcases pz_part u1 (g := np) (by omega) with ⟨j, hj, ej, a1, b1⟩ | ⟨a1, b1⟩
      · rcases pz_kind u2 with ⟨k, hk, ek, a2, b2⟩ | ⟨a2, b2⟩
        · subst ej; subst ek
          obtain ⟨q1, q2⟩ := ho.at_ hj
          obtain ⟨w, hw9, ew⟩ := hg_gr (cp := cp) (cd := cd) (d := 100000) hG hcg hj
          have hC' : IC (nc + 1) (upd ck nc (nI k)) (vp_updL cg nc (gr pg nc cp cd cg 100000 j)) := by rw [ew]; exact hC.push hlt hk hw9
          obtain ⟨r, s1, t1, t2, t3, s2, m1, m2, m3, m4, a, b⟩ := p_valueFor (cp := cp) (cd := cd) hI hC q2 hw hF sm nt nl nd xfs mst mow msu mne
          obtain ⟨r', s1', t1', t2', t3', s2', m1', m2', m3', m4', a', b'⟩ := p_valueFor (cp := upd cp nc (nI j)) (cd := vp_updL cd nc 100000) hI hC' q2 hw hF s1 t1 t2 t3 s2 m1 m2 m3 m4
          by_cases hlt2 : r < r'
          · refine ⟨1, upd ver (ow po j) (ver (ow po j) + 1), nc + 1, upd cp nc (nI j), vp_updL cd nc 100000, upd ck nc (nI k), vp_updL cg nc (gr pg nc cp cd cg 100000 j), s1', t1', t2', t3', s2', m1', m2', m3', m4', hC', ?_, ?_⟩
            · rw [zf_MP_swap, e0, pz_bs, if_neg pz_b1, f1, pz_bs, if_pos rfl, a1, pz_bs, if_neg pz_b1, a2, pz_bs, if_neg pz_b1]
              simp (disch := omega) only [nI_clamp, pz_i2, q1]
              rw [a, pz_bs, px_gr hc (by omega), pz_bs, px_add hlt, pz_bs]
              simp only
              rw [a', pz_bs]
              simp only [if_pos hlt2]
            · rw [zf_Mo_swap, b1, pz_bs, if_neg pz_b1, b2, pz_bs, if_neg pz_b1, if_neg pz_b1, if_neg f2]
              simp (disch := omega) only [nI_clamp, pz_i2, q1]
              rw [b, pz_bs, pm_gr hc (by omega), pz_bs, pm_add hlt, pz_bs]
              simp only
              rw [b', pz_bs]
              simp only [if_neg (Int64.not_le.mpr hlt2)]
          · have hd : nI (nc + 1) - (1 : Int32) = nI nc := nI_pred nc
            refine ⟨0, ver, nc, upd cp nc (nI j), vp_updL cd nc 100000, upd ck nc (nI k), vp_updL cg nc (gr pg nc cp cd cg 100000 j), s1', t1', t2', t3', s2', m1', m2', m3', m4', ⟨by omega, fun i hi2 => hC'.2.1 i (by omega), fun i hi2 => hC'.2.2 i (by omega)⟩, ?_, ?_⟩
            · rw [zf_MP_swap, e0, pz_bs, if_neg pz_b1, f1, pz_bs, if_pos rfl, a1, pz_bs, if_neg pz_b1, a2, pz_bs, if_neg pz_b1]
              simp (disch := omega) only [nI_clamp, pz_i2, q1]
              rw [a, pz_bs, px_gr hc (by omega), pz_bs, px_add hlt, pz_bs]
              simp only
              rw [a', pz_bs]
              simp only [if_neg hlt2]
              rw [zf_Ch_dropLast, if_neg (nI_nle (by omega) (by omega)), pz_bs, hd]
            · rw [zf_Mo_swap, b1, pz_bs, if_neg pz_b1, b2, pz_bs, if_neg pz_b1, if_neg pz_b1, if_neg f2]
              simp (disch := omega) only [nI_clamp, pz_i2, q1]
              rw [b, pz_bs, pm_gr hc (by omega), pz_bs, pm_add hlt, pz_bs]
              simp only
              rw [b', pz_bs]
              simp only [if_pos (Int64.not_lt.mp hlt2), hd]
        · refine same (P := True) (by rw [zf_MP_swap, e0, pz_bs, if_neg pz_b1, f1, pz_bs, if_pos rfl, a1, pz_bs, if_neg pz_b1, a2, pz_bs, if_pos rfl]) (mNo (P := True) (Or.inr ⟨b1, Or.inl b2⟩))
      · exact same (P := True) (by rw [zf_MP_swap, e0, pz_bs, if_neg pz_b1, f1, pz_bs, if_pos rfl, a1, pz_bs, if_pos rfl]) (mNo (P := True) (Or.inl b1))
end PVA
