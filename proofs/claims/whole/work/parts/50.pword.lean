/-! PURE: a word of the text, both ways -/
def dg (c : Int32) : Nat := (c - 48).toNatClampNeg
theorem dg_ok {c : Int32} (h1 : ¬ c < (48 : Int32)) (h2 : ¬ (57 : Int32) < c) : dg c ≤ 9 ∧ c - 48 = nI (dg c) := by
  have a : 48 ≤ c.toInt := by rw [Int32.lt_iff_toInt_lt, show (48 : Int32).toInt = 48 from rfl] at h1; omega
  have b : c.toInt ≤ 57 := by rw [Int32.lt_iff_toInt_lt, show (57 : Int32).toInt = 57 from rfl] at h2; omega
  obtain ⟨k, hk, e⟩ := nI_of (x := c) (by rw [Int32.lt_iff_toInt_lt, Int32.toInt_zero]; omega)
  subst e
  rw [nI_toInt hk] at a b
  have e2 : nI k - (48 : Int32) = nI (k - 48) := pk_sub (a := k) (b := 48) (by omega)
  rw [dg, e2, nI_clamp (by omega)]
  exact ⟨by omega, rfl⟩
def nm (ft : Nat → Int32) : Nat → Nat → Nat → Option Nat
  | 0, _, a => some a
  | m + 1, k, a => if ft k < (48 : Int32) then none else (if (57 : Int32) < ft k then none else nm ft m (k + 1) (10 * a + dg (ft k)))
def ew : Option Nat → Int32
  | none => -12
  | some a => nI a
theorem nm_in (ft : Nat → Int32) : ∀ (m k a : Nat), (a + 1) * 10 ^ m ≤ 1000000 → ew (nm ft m k a) = -12 ∨ ¬ ew (nm ft m k a) < (-11 : Int32) := by
  intro m
  induction m with
  | zero =>
    intro k a h
    refine Or.inr (fun q => ?_)
    have hlt : a < 2 ^ 31 := by omega
    rw [nm, ew, Int32.lt_iff_toInt_lt, nI_toInt hlt, show (-11 : Int32).toInt = -11 from rfl] at q
    omega
  | succ m ih =>
    intro k a h
    rw [nm]
    by_cases h1 : ft k < (48 : Int32)
    · rw [if_pos h1]; exact Or.inl rfl
    · rw [if_neg h1]
      by_cases h2 : (57 : Int32) < ft k
      · rw [if_pos h2]; exact Or.inl rfl
      · rw [if_neg h2]
        refine ih (k + 1) _ ?_
        have hd := (dg_ok h1 h2).1
        refine Nat.le_trans ?_ h
        rw [Nat.pow_succ, Nat.mul_comm (10 ^ m) 10, ← Nat.mul_assoc]
        exact Nat.mul_le_mul_right _ (by omega)
theorem px_num (ft : Nat → Int32) (v1 : Int32) {e : Nat} (he : e ≤ 300) : ∀ (m k a n : Nat), k + m = e → m < n → (a + 1) * 10 ^ m ≤ 1000000 → zf_Fo_numberAt_L16 v1 (nI e) ft n (nI a) (nI k) = some (ew (nm ft m k a)) := by
  intro m
  induction m with
  | zero =>
    intro k a n hk hn _
    obtain ⟨n, rfl⟩ : ∃ q, n = q + 1 := ⟨n - 1, by omega⟩
    have e2 : k = e := by omega
    subst e2
    rw [zf_Fo_numberAt_L16, if_pos (nI_le (Nat.le_refl _) (by omega))]; rfl
  | succ m ih =>
    intro k a n hk hn h
    obtain ⟨n, rfl⟩ : ∃ q, n = q + 1 := ⟨n - 1, by omega⟩
    rw [zf_Fo_numberAt_L16, if_neg (nI_ge (show k < e by omega) (by omega)), nm]
    simp (disch := omega) only [nI_clamp, pz_i2, nI_1]
    by_cases h1 : ft k < (48 : Int32)
    · rw [zf_Fo_isDigit, if_pos h1, pz_bs, if_pos rfl, if_pos h1]; rfl
    · by_cases h2 : (57 : Int32) < ft k
      · rw [zf_Fo_isDigit, if_neg h1, if_pos h2, pz_bs, if_pos rfl, if_neg h1, if_pos h2]; rfl
      · obtain ⟨d1, d2⟩ := dg_ok h1 h2
        rw [zf_Fo_isDigit, if_neg h1, if_neg h2, pz_bs, if_neg pz_b1, if_neg h1, if_neg h2, d2, show (10 : Int32) = nI 10 from rfl, pk_mul, nI_add, Nat.mul_comm a 10]
        refine ih (k + 1) _ n (by omega) (by omega) (Nat.le_trans ?_ h)
        rw [Nat.pow_succ, Nat.mul_comm (10 ^ m) 10, ← Nat.mul_assoc]
        exact Nat.mul_le_mul_right _ (by omega)
theorem pm_no (ft : Nat → Int32) (v1 v2 v3 x : Int32) (n : Nat) : zf_Mo_wordAt_L184 v1 v2 v3 ft (n + 1) (-12) x = some (-12) := by
  rw [zf_Mo_wordAt_L184]
  by_cases h : v1 + v2 ≤ x
  · rw [if_pos h]
  · rw [if_neg h, if_pos (by decide)]
theorem pm_num (ft : Nat → Int32) (v3 : Int32) {s l : Nat} (he : s + l ≤ 300) : ∀ (m k a n : Nat), k + m = s + l → m < n → (a + 1) * 10 ^ m ≤ 1000000 → zf_Mo_wordAt_L184 (nI s) (nI l) v3 ft n (nI a) (nI k) = some (ew (nm ft m k a)) := by
  intro m
  induction m with
  | zero =>
    intro k a n hk hn _
    obtain ⟨n, rfl⟩ : ∃ q, n = q + 1 := ⟨n - 1, by omega⟩
    rw [zf_Mo_wordAt_L184, nI_add, if_pos (nI_le (by omega) (by omega))]; rfl
  | succ m ih =>
    intro k a n hk hn h
    obtain ⟨n, rfl⟩ : ∃ q, n = q + 1 := ⟨n - 1, by omega⟩
    obtain ⟨n, rfl⟩ : ∃ q, n = q + 1 := ⟨n - 1, by omega⟩
    have ha : a < 2 ^ 31 := by
      have : a + 1 ≤ (a + 1) * 10 ^ (m + 1) := Nat.le_mul_of_pos_right _ (Nat.pow_pos (by omega))
      omega
    rw [zf_Mo_wordAt_L184, nI_add, if_neg (nI_ge (show k < s + l by omega) (by omega)), if_neg (nI_pos ha), nm]
    simp (disch := omega) only [nI_clamp, pz_i2, nI_1]
    by_cases h1 : ft k < (48 : Int32)
    · rw [if_pos h1, if_pos h1, pm_no]; rfl
    · by_cases h2 : (57 : Int32) < ft k
      · rw [if_neg h1, if_pos h2, if_neg h1, if_pos h2, pm_no]; rfl
      · obtain ⟨d1, d2⟩ := dg_ok h1 h2
        have e3 : (10 : Int32) * nI a + ft k - 48 = nI (10 * a + dg (ft k)) := by
          rw [show (10 : Int32) * nI a + ft k - 48 = (10 : Int32) * nI a + (ft k - 48) by grind, d2, show (10 : Int32) = nI 10 from rfl, pk_mul, nI_add]
        rw [if_neg h1, if_neg h2, if_neg h1, if_neg h2, e3]
        refine ih (k + 1) _ (n + 1) (by omega) (by omega) (Nat.le_trans ?_ h)
        rw [Nat.pow_succ, Nat.mul_comm (10 ^ m) 10, ← Nat.mul_assoc]
        exact Nat.mul_le_mul_right _ (by omega)
theorem pm_is (ft : Nat → Int32) {s : Nat} (hs : s + 3 ≤ 300) (a b c : Int32) : zf_Mo_is (nI s) a b c ft = some (if ft s = a then (if ft (s + 1) = b then (if ft (s + 2) = c then 1 else 0) else 0) else 0) := by
  have e1 : nI s + (1 : Int32) = nI (s + 1) := nI_1 s
  have e2 : nI s + (2 : Int32) = nI (s + 2) := nI_add s 2
  rw [zf_Mo_is]
  simp (disch := omega) only [nI_clamp, pz_i2, e1, e2]
  by_cases h1 : ft s = a
  · by_cases h2 : ft (s + 1) = b
    · by_cases h3 : ft (s + 2) = c
      · simp only [if_pos h1, if_pos h2, if_pos h3]
      · simp only [if_pos h1, if_pos h2, if_neg h3]
    · simp only [if_pos h1, if_neg h2]
  · simp only [if_neg h1]
/-- what a word tells -/
def wd (ft : Nat → Int32) (s l : Nat) : Int32 :=
  if l = 1 ∧ (ft s = 110 ∨ ft s = 43 ∨ ft s = 45 ∨ ft s = 42) then (if ft s = 110 then -6 else (if ft s = 43 then -7 else (if ft s = 45 then -8 else -9)))
  else if l = 2 ∧ ft s = 107 ∧ ¬ ft (s + 1) < 48 ∧ ¬ (52 : Int32) < ft (s + 1) then (-1 : Int32) - (ft (s + 1) - 48)
  else if l = 3 ∧ ft s = 109 ∧ ft (s + 1) = 105 ∧ ft (s + 2) = 110 then -10
  else if l = 3 ∧ ft s = 109 ∧ ft (s + 1) = 97 ∧ ft (s + 2) = 120 then -11
  else if 6 < l then -12 else ew (nm ft l s 0)
theorem pw_10 {l : Nat} (h : ¬ 6 < l) : (0 + 1) * 10 ^ l ≤ 1000000 := by
  rcases (show l = 0 ∨ l = 1 ∨ l = 2 ∨ l = 3 ∨ l = 4 ∨ l = 5 ∨ l = 6 by omega) with rfl | rfl | rfl | rfl | rfl | rfl | rfl <;> decide
theorem pm_word (ft : Nat → Int32) {s l : Nat} (hl : 0 < l) (hs : s + l ≤ 300) : zf_Mo_wordAt (nI s) (nI l) ft = some (wd ft s l) := by
  have e1 : nI s + (1 : Int32) = nI (s + 1) := nI_1 s
  have num : ∀ v3, (if (6 : Int32) < nI l then zf_Mo_wordAt_L184 (nI s) (nI l) v3 ft 2000 (-12) (nI s) else zf_Mo_wordAt_L184 (nI s) (nI l) v3 ft 2000 0 (nI s)) = some (if 6 < l then -12 else ew (nm ft l s 0)) := fun v3 => by
    by_cases h : 6 < l
    · rw [if_pos (show (6 : Int32) < nI l from nI_lt (a := 6) h (by omega)), if_pos h, pm_no]
    · rw [if_neg (show ¬ (6 : Int32) < nI l from nI_nlt (a := 6) (by omega) (by omega)), if_neg h]
      exact pm_num ft v3 hs l s 0 2000 (by omega) (by omega) (pw_10 h)
  have k1 : nI l = (1 : Int32) ↔ l = 1 := nI_eq (b := 1) (by omega) (by omega)
  have k2 : nI l = (2 : Int32) ↔ l = 2 := nI_eq (b := 2) (by omega) (by omega)
  have k3 : nI l = (3 : Int32) ↔ l = 3 := nI_eq (b := 3) (by omega) (by omega)
  rw [zf_Mo_wordAt]
  by_cases l1 : l = 1
  · have n1 : nI l = (1 : Int32) := k1.mpr l1
    have n2 : ¬ nI l = (2 : Int32) := fun q => by have := k2.mp q; omega
    have n3 : ¬ nI l = (3 : Int32) := fun q => by have := k3.mp q; omega
    have a2 : ¬ l = 2 := by omega
    have a3 : ¬ l = 3 := by omega
    simp (disch := omega) only [nI_clamp, pz_i2, if_pos n1, if_neg n2, if_neg n3, num]
    unfold wd
    by_cases c1 : ft s = 110
    · simp [c1, l1]
    · by_cases c2 : ft s = 43
      · simp [c2, l1]
      · by_cases c3 : ft s = 45
        · simp [c3, l1]
        · by_cases c4 : ft s = 42
          · simp [c4, l1]
          · simp [c1, c2, c3, c4, a2, a3, l1]
  · have n1 : ¬ nI l = (1 : Int32) := fun q => l1 (k1.mp q)
    by_cases l2 : l = 2
    · have n2 : nI l = (2 : Int32) := k2.mpr l2
      have n3 : ¬ nI l = (3 : Int32) := fun q => by have := k3.mp q; omega
      have a3 : ¬ l = 3 := by omega
      simp (disch := omega) only [nI_clamp, pz_i2, if_neg n1, if_pos n2, if_neg n3, num, e1]
      unfold wd
      by_cases c1 : ft s = 107
      · by_cases c2 : ft (s + 1) < 48
        · simp [c1, c2, l1, l2]
        · by_cases c3 : (52 : Int32) < ft (s + 1)
          · simp [c1, c2, c3, l1, l2]
          · simp [c1, c2, c3, l2]
      · simp [c1, l2]
    · have n2 : ¬ nI l = (2 : Int32) := fun q => l2 (k2.mp q)
      by_cases l3 : l = 3
      · have n3 : nI l = (3 : Int32) := k3.mpr l3
        simp (disch := omega) only [nI_clamp, pz_i2, if_neg n1, if_neg n2, if_pos n3, num]
        rw [pm_is ft (by omega), pm_is ft (by omega), pz_bs, pz_bs]
        unfold wd
        by_cases c1 : ft s = 109
        · by_cases c2 : ft (s + 1) = 105
          · by_cases c3 : ft (s + 2) = 110
            · simp [c1, c2, c3, l3]
            · simp [c1, c2, c3, l3]
          · by_cases c4 : ft (s + 1) = 97
            · by_cases c5 : ft (s + 2) = 120
              · simp [c1, c4, c5, l3]
              · simp [c1, c4, c5, l3]
            · simp [c1, c2, c4, l3]
        · simp [c1, l3]
      · have n3 : ¬ nI l = (3 : Int32) := fun q => l3 (k3.mp q)
        simp (disch := omega) only [nI_clamp, pz_i2, if_neg n1, if_neg n2, if_neg n3, num]
        unfold wd
        simp [l1, l2, l3]
theorem wd_dig {ft : Nat → Int32} {s l : Nat} (h1 : ¬ ft s < (48 : Int32)) (h2 : ¬ (57 : Int32) < ft s) : wd ft s l = if 6 < l then -12 else ew (nm ft l s 0) := by
  have x1 : ¬ ft s = 110 := fun q => h2 (by rw [q]; decide)
  have x2 : ¬ ft s = 43 := fun q => h1 (by rw [q]; decide)
  have x3 : ¬ ft s = 45 := fun q => h1 (by rw [q]; decide)
  have x4 : ¬ ft s = 42 := fun q => h1 (by rw [q]; decide)
  have x5 : ¬ ft s = 107 := fun q => h2 (by rw [q]; decide)
  have x6 : ¬ ft s = 109 := fun q => h2 (by rw [q]; decide)
  unfold wd
  simp [x1, x2, x3, x4, x5, x6]
theorem wd_no {ft : Nat → Int32} {s l : Nat} (hl : 0 < l) (h : ft s < (48 : Int32) ∨ (57 : Int32) < ft s) : (if 6 < l then (-12 : Int32) else ew (nm ft l s 0)) = -12 := by
  by_cases q : 6 < l
  · rw [if_pos q]
  · rw [if_neg q]
    obtain ⟨m, rfl⟩ : ∃ m, l = m + 1 := ⟨l - 1, by omega⟩
    rw [nm]
    by_cases h1 : ft s < (48 : Int32)
    · rw [if_pos h1]; rfl
    · rw [if_neg h1, if_pos (h.resolve_left h1)]; rfl
theorem pw_k (c : Int32) : (c - 48 < 0 ∨ (5 : Int32) ≤ c - 48) ↔ (c < 48 ∨ (52 : Int32) < c) := by
  have b1 := Int32.le_toInt c
  have b2 := Int32.toInt_lt c
  rw [Int32.lt_iff_toInt_lt, Int32.le_iff_toInt_le, Int32.lt_iff_toInt_lt, Int32.lt_iff_toInt_lt, Int32.toInt_sub, show (48 : Int32).toInt = 48 from rfl, show (5 : Int32).toInt = 5 from rfl, show (52 : Int32).toInt = 52 from rfl, Int32.toInt_zero]
  by_cases h : -2147483600 ≤ c.toInt
  · rw [Int.bmod_eq_of_le (by omega) (by omega)]
    omega
  · have e : (c.toInt - 48).bmod (2 ^ 32) = c.toInt - 48 + 4294967296 := by
      rw [← Int.add_bmod_right, Int.bmod_eq_of_le (by omega) (by omega)]
      rfl
    rw [e]
    omega
theorem px_word (ft : Nat → Int32) {s l : Nat} (hl : 0 < l) (hs : s + l ≤ 300) : zf_Fo_wordAt (nI s) (nI (s + l)) ft = some (wd ft s l) := by
  have e1 : nI s + (1 : Int32) = nI (s + 1) := nI_1 s
  have e2 : nI s + (2 : Int32) = nI (s + 2) := nI_add s 2
  have e3 : nI (s + l) - nI s = nI l := by rw [pk_sub (by omega)]; congr 1; omega
  have k1 : nI l = (1 : Int32) ↔ l = 1 := nI_eq (b := 1) (by omega) (by omega)
  have k2 : nI l = (2 : Int32) ↔ l = 2 := nI_eq (b := 2) (by omega) (by omega)
  have k3 : nI l = (3 : Int32) ↔ l = 3 := nI_eq (b := 3) (by omega) (by omega)
  rw [zf_Fo_wordAt, e3]
  by_cases hd : ft s < (48 : Int32) ∨ (57 : Int32) < ft s
  · have no := wd_no (ft := ft) hl hd
    have y : zf_Fo_isDigit (ft s) = some 0 := by
      rw [zf_Fo_isDigit]
      by_cases h1 : ft s < (48 : Int32)
      · rw [if_pos h1]
      · rw [if_neg h1, if_pos (hd.resolve_left h1)]
    simp (disch := omega) only [nI_clamp, pz_i2]
    rw [y, pz_bs, if_pos rfl]
    by_cases l1 : l = 1
    · rw [if_pos (k1.mpr l1), zf_Fo_signOf]
      have a2 : ¬ l = 2 := by omega
      have a3 : ¬ l = 3 := by omega
      unfold wd
      rw [no]
      by_cases c1 : ft s = 110
      · simp [c1, l1]
      · by_cases c2 : ft s = 43
        · simp [c2, l1]
        · by_cases c3 : ft s = 45
          · simp [c3, l1]
          · by_cases c4 : ft s = 42
            · simp [c4, l1]
            · simp [c1, c2, c3, c4, l1]
    · rw [if_neg (fun q => l1 (k1.mp q))]
      by_cases l2 : l = 2
      · rw [if_pos (k2.mpr l2)]
        simp (disch := omega) only [e1, nI_clamp, pz_i2]
        unfold wd
        rw [no]
        by_cases c1 : ft s = 107
        · rw [if_pos c1, zf_Fo_shareOf, zf_MP_isKind]
          by_cases c2 : ft (s + 1) - 48 < 0
          · have := (pw_k (ft (s + 1))).mp (Or.inl c2)
            rw [if_pos c2, pz_bs, if_pos rfl, pz_bs]
            rcases this with t | t
            · simp [t, l2]
            · simp [t, l2]
          · by_cases c3 : (5 : Int32) ≤ ft (s + 1) - 48
            · have := (pw_k (ft (s + 1))).mp (Or.inr c3)
              rw [if_neg c2, if_pos c3, pz_bs, if_pos rfl, pz_bs]
              rcases this with t | t
              · simp [t, l2]
              · simp [t, l2]
            · have d1 : ¬ ft (s + 1) < 48 := fun q => ((pw_k (ft (s + 1))).mpr (Or.inl q)).elim c2 c3
              have d2 : ¬ (52 : Int32) < ft (s + 1) := fun q => ((pw_k (ft (s + 1))).mpr (Or.inr q)).elim c2 c3
              rw [if_neg c2, if_neg c3, pz_bs, if_neg pz_b1, pz_bs]
              simp [c1, d1, d2, l2]
        · simp [c1, l2]
      · rw [if_neg (fun q => l2 (k2.mp q))]
        by_cases l3 : l = 3
        · rw [if_pos (k3.mpr l3)]
          simp (disch := omega) only [e1, e2, nI_clamp, pz_i2]
          unfold wd
          rw [no]
          by_cases c1 : ft s = 109
          · rw [if_pos c1, zf_Fo_boundOf]
            by_cases c2 : ft (s + 1) = 105
            · by_cases c3 : ft (s + 2) = 110
              · simp [c1, c2, c3, l3]
              · simp [c1, c2, c3, l3]
            · by_cases c4 : ft (s + 1) = 97
              · by_cases c5 : ft (s + 2) = 120
                · simp [c1, c4, c5, l3]
                · simp [c1, c4, c5, l3]
              · simp [c1, c2, c4, l3]
          · simp [c1, l3]
        · rw [if_neg (fun q => l3 (k3.mp q))]
          unfold wd
          rw [no]
          simp [l1, l2, l3]
  · have h1 : ¬ ft s < (48 : Int32) := fun q => hd (Or.inl q)
    have h2 : ¬ (57 : Int32) < ft s := fun q => hd (Or.inr q)
    have y : zf_Fo_isDigit (ft s) = some 1 := by rw [zf_Fo_isDigit, if_neg h1, if_neg h2]
    simp (disch := omega) only [nI_clamp, pz_i2]
    rw [y, pz_bs, if_neg pz_b1, zf_Fo_numberAt, e3, wd_dig h1 h2]
    by_cases h : 6 < l
    · rw [if_neg (show ¬ nI l ≤ (6 : Int32) from nI_ge (a := 6) h (by omega)), if_pos h, pz_bs]
    · rw [if_pos (show nI l ≤ (6 : Int32) from nI_le (b := 6) (by omega) (by omega)), if_neg h]
      have q := px_num ft (nI s) hs l s 0 2000 (by omega) (by omega) (pw_10 h)
      have q : zf_Fo_numberAt_L16 (nI s) (nI (s + l)) ft 2000 0 (nI s) = _ := q
      rw [q, pz_bs]
