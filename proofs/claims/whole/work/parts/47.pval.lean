/-! PURE: totals don't pass the longs; the formula's value -/
def sN (f : Nat → Nat) : Nat → Nat
  | 0 => 0
  | n + 1 => sN f n + f n
theorem sN_le {f g : Nat → Nat} : ∀ {n : Nat}, (∀ j, j < n → f j ≤ g j) → sN f n ≤ sN g n
  | 0, _ => Nat.le_refl _
  | n + 1, h => by
    rw [sN, sN]
    have a := sN_le (fun j hj => h j (Nat.lt_succ_of_lt hj))
    have b := h n (Nat.lt_succ_self n)
    omega
theorem sN_add (f g : Nat → Nat) : ∀ n, sN (fun j => f j + g j) n = sN f n + sN g n
  | 0 => rfl
  | n + 1 => by rw [sN, sN, sN, sN_add f g n]; omega
theorem sN_mul (c : Nat) (f : Nat → Nat) : ∀ n, sN (fun j => c * f j) n = c * sN f n
  | 0 => by rw [sN, sN, Nat.mul_zero]
  | n + 1 => by rw [sN, sN, sN_mul c f n, Nat.mul_add]
theorem sN_bd {f : Nat → Nat} {M : Nat} : ∀ {n : Nat}, (∀ j, j < n → f j ≤ M) → sN f n ≤ n * M
  | 0, _ => by rw [sN]; omega
  | n + 1, h => by
    rw [sN, Nat.add_mul, Nat.one_mul]
    have a := sN_bd (fun j hj => h j (Nat.lt_succ_of_lt hj))
    have b := h n (Nat.lt_succ_self n)
    omega
theorem sg_lN {f : Nat → Int64} {h : Nat → Nat} : ∀ {n : Nat}, (∀ j, j < n → f j = lN (h j)) → sg f n = lN (sN h n)
  | 0, _ => rfl
  | n + 1, q => by rw [sg, sN, sg_lN (fun j hj => q j (Nat.lt_succ_of_lt hj)), q n (Nat.lt_succ_self n), lN_add]
theorem two_pow_ge (d : Nat) : d + 1 ≤ 2 ^ d := by
  induction d with
  | zero => decide
  | succ d ih => rw [Nat.pow_succ]; omega
section PBD
variable {np : Nat} {po pi : Nat → Int32}
/-- totals as numbers -/
def TN (np : Nat) (po pi : Nat → Int32) (w : Nat → Nat) : Nat → Nat → Nat
  | 0 => fun _ => 0
  | t + 1 => fun g => sN (fun j => if ow po j = g then w j else 0) np + sN (fun j => if ow po j = g ∧ 0 ≤ pi j then TN np po pi w t (pi j).toNatClampNeg else 0) np
theorem SS_TN (hi : HI np pi) {w : Nat → Int64} {wn : Nat → Nat} (hw : ∀ j, j < np → w j = lN (wn j)) : ∀ (t g : Nat), SS np po pi w t g = lN (TN np po pi wn t g)
  | 0, g => rfl
  | t + 1, g => by
    have e1 : OWN np po w g = lN (sN (fun j => if ow po j = g then wn j else 0) np) := sg_lN (fun j hj => by
      by_cases q : ow po j = g
      · rw [if_pos q, if_pos q, hw j hj]
      · rw [if_neg q, if_neg q]; rfl)
    have e2 : AV np po pi (SS np po pi w t) g = lN (sN (fun j => if ow po j = g ∧ 0 ≤ pi j then TN np po pi wn t (pi j).toNatClampNeg else 0) np) := sg_lN (fun j hj => by
      by_cases q : ow po j = g
      · by_cases q2 : 0 ≤ pi j
        · have q3 : ow po j = g ∧ 0 ≤ pi j := ⟨q, q2⟩
          rw [if_pos q, if_pos q2, if_pos q3, SS_TN hi hw t]
        · have q3 : ¬ (ow po j = g ∧ 0 ≤ pi j) := fun z => q2 z.2
          rw [if_pos q, if_neg q2, if_neg q3]; rfl
      · have q3 : ¬ (ow po j = g ∧ 0 ≤ pi j) := fun z => q z.1
        rw [if_neg q, if_neg q3]; rfl)
    show OWN np po w g + AV np po pi (SS np po pi w t) g = lN (sN (fun j => if ow po j = g then wn j else 0) np + sN (fun j => if ow po j = g ∧ 0 ≤ pi j then TN np po pi wn t (pi j).toNatClampNeg else 0) np)
    rw [e1, e2, lN_add]
theorem TN_bd (hp : np ≤ 24) (ho : HO np po) (hi : HI np pi) {rk : Nat → Nat} (hr : ∀ j, j < np → ∀ i, i < 8 → pi j = nI i → rk i < rk (ow po j)) {w : Nat → Nat} (hw : ∀ j, j < np → w j ≤ 1000000000) : ∀ (t v : Nat), TN np po pi w t v ≤ 24000000000 * 2 ^ (sN (fun j => if 0 ≤ pi j ∧ rk (ow po j) ≤ rk v then 1 else 0) np)
  | 0, v => Nat.zero_le _
  | t + 1, v => by
    have a1 : sN (fun j => if ow po j = v then w j else 0) np ≤ 24000000000 := by
      refine Nat.le_trans (sN_bd (M := 1000000000) (fun j hj => ?_)) (by omega)
      by_cases q : ow po j = v
      · rw [if_pos q]; exact hw j hj
      · rw [if_neg q]; omega
    generalize hE : sN (fun j => if 0 ≤ pi j ∧ rk (ow po j) ≤ rk v then 1 else 0) np = E
    generalize hDv : sN (fun j => if ow po j = v ∧ 0 ≤ pi j then 1 else 0) np = Dv
    have key : ∀ j, j < np → (ow po j = v ∧ 0 ≤ pi j) → sN (fun i => if 0 ≤ pi i ∧ rk (ow po i) ≤ rk (pi j).toNatClampNeg then 1 else 0) np + Dv ≤ E := by
      intro j hj ⟨q1, q2⟩
      have hrk : rk (pi j).toNatClampNeg < rk v := by
        rcases hi j hj with z | ⟨i, z1, z2⟩
        · rw [z] at q2; exact absurd q2 (by decide)
        · rw [z2, nI_clamp (by omega), ← q1]
          exact hr j hj i z1 z2
      rw [← hDv, ← hE, ← sN_add]
      refine sN_le (fun i hi2 => ?_)
      by_cases c0 : 0 ≤ pi i
      · by_cases c1 : ow po i = v
        · have n1 : ¬ (0 ≤ pi i ∧ rk (ow po i) ≤ rk (pi j).toNatClampNeg) := fun z => by rw [c1] at z; omega
          have n2 : ow po i = v ∧ 0 ≤ pi i := ⟨c1, c0⟩
          have n3 : 0 ≤ pi i ∧ rk (ow po i) ≤ rk v := ⟨c0, by rw [c1]; omega⟩
          rw [if_neg n1, if_pos n2, if_pos n3]
          omega
        · have n2 : ¬ (ow po i = v ∧ 0 ≤ pi i) := fun z => c1 z.1
          rw [if_neg n2]
          by_cases c2 : rk (ow po i) ≤ rk (pi j).toNatClampNeg
          · have n1 : 0 ≤ pi i ∧ rk (ow po i) ≤ rk (pi j).toNatClampNeg := ⟨c0, c2⟩
            have n3 : 0 ≤ pi i ∧ rk (ow po i) ≤ rk v := ⟨c0, by omega⟩
            rw [if_pos n1, if_pos n3]
            omega
          · have n1 : ¬ (0 ≤ pi i ∧ rk (ow po i) ≤ rk (pi j).toNatClampNeg) := fun z => c2 z.2
            rw [if_neg n1]
            omega
      · have n1 : ¬ (0 ≤ pi i ∧ rk (ow po i) ≤ rk (pi j).toNatClampNeg) := fun z => c0 z.1
        have n2 : ¬ (ow po i = v ∧ 0 ≤ pi i) := fun z => c0 z.2
        rw [if_neg n1, if_neg n2]
        omega
    have a2 : sN (fun j => if ow po j = v ∧ 0 ≤ pi j then TN np po pi w t (pi j).toNatClampNeg else 0) np ≤ 24000000000 * 2 ^ (E - Dv) * Dv := by
      rw [← hDv, ← sN_mul]
      refine sN_le (fun j hj => ?_)
      by_cases q : ow po j = v ∧ 0 ≤ pi j
      · rw [if_pos q, if_pos q, Nat.mul_one]
        refine Nat.le_trans (TN_bd hp ho hi hr hw t _) (Nat.mul_le_mul_left _ (Nat.pow_le_pow_right (by omega) ?_))
        have := key j hj q
        rw [hDv]
        omega
      · rw [if_neg q, if_neg q]; omega
    have a3 : Dv ≤ E := by
      by_cases z : ∃ j, j < np ∧ (ow po j = v ∧ 0 ≤ pi j)
      · obtain ⟨j, z1, z2⟩ := z
        have := key j z1 z2
        omega
      · have : Dv ≤ np * 0 := by
          rw [← hDv]
          refine sN_bd (fun j hj => ?_)
          rw [if_neg (fun q => z ⟨j, hj, q⟩)]
          omega
        omega
    have a4 : 2 ^ E = 2 ^ (E - Dv) * 2 ^ Dv := by rw [← Nat.pow_add]; congr 1; omega
    have a5 := two_pow_ge Dv
    have a6 : 1 ≤ 2 ^ (E - Dv) := Nat.one_le_two_pow
    show sN (fun j => if ow po j = v then w j else 0) np + sN (fun j => if ow po j = v ∧ 0 ≤ pi j then TN np po pi w t (pi j).toNatClampNeg else 0) np ≤ _
    rw [a4]
    have a7 : 2 ^ (E - Dv) * (Dv + 1) ≤ 2 ^ (E - Dv) * 2 ^ Dv := Nat.mul_le_mul_left _ a5
    rw [Nat.mul_add, Nat.mul_one] at a7
    have a8 : 24000000000 * 2 ^ (E - Dv) * Dv = 24000000000 * (2 ^ (E - Dv) * Dv) := Nat.mul_assoc _ _ _
    omega
end PBD
section PNN
variable {np nc : Nat} {po pi pk : Nat → Int32} {pg : Nat → Int64} {cp : Nat → Int32} {cd : Nat → Int64} {ck : Nat → Int32} {cg : Nat → Int64} {d : Int64}
theorem hg_gr (h1 : HG np pg) (h2 : HG nc cg) {j : Nat} (hj : j < np) : ∃ w, w ≤ 1000000000 ∧ gr pg nc cp cd cg d j = lN w := by
  unfold gr
  cases hl : lk cp cd (nI j) d nc with
  | none => exact h1 j hj
  | some f => exact h2 f (lk_lt hl)
theorem TX_nat (hI : IP np po pk pi pg) (hC : IC nc ck cg) {g : Nat} (hg : g < 8) (k : Nat) : ∃ T, T ≤ 402653184000000000 ∧ TX np po pi pk pg nc cp cd ck cg d g k = lN T := by
  obtain ⟨hp, ho, hi, -, h5, rk, h6⟩ := hI
  obtain ⟨hc, -, h8⟩ := hC
  have hx : ∀ j, ∃ w, w ≤ 1000000000 ∧ (j < np → wk pk pg nc cp cd ck cg d (nI k) j = lN w) := fun j => by
    by_cases hj : j < np
    · by_cases q : kd pk nc cp cd ck d j = nI k
      · obtain ⟨w, a, b⟩ := hg_gr (cp := cp) (cd := cd) (d := d) h5 h8 hj
        exact ⟨w, a, fun _ => by rw [wk, if_pos q, b]⟩
      · exact ⟨0, by omega, fun _ => by rw [wk, if_neg q]; rfl⟩
    · exact ⟨0, by omega, fun z => absurd z hj⟩
  have hw : ∀ j, (fun j => Classical.choose (hx j)) j ≤ 1000000000 ∧ (j < np → wk pk pg nc cp cd ck cg d (nI k) j = lN ((fun j => Classical.choose (hx j)) j)) := fun j => Classical.choose_spec (hx j)
  generalize (fun j => Classical.choose (hx j)) = w at hw
  refine ⟨TN np po pi w 8 g, ?_, ?_⟩
  · refine Nat.le_trans (TN_bd hp ho hi h6 (fun j _ => (hw j).1) 8 g) ?_
    refine Nat.le_trans (Nat.mul_le_mul_left _ (Nat.pow_le_pow_right (n := 2) (by omega) (j := 24) ?_)) (by decide)
    refine Nat.le_trans (sN_bd (M := 1) (fun j hj => ?_)) (by omega)
    by_cases q : 0 ≤ pi j ∧ rk (ow po j) ≤ rk g
    · rw [if_pos q]; omega
    · rw [if_neg q]; omega
  · rw [p_total ho hi hg, SS_TN hi (fun j hj => (hw j).2 hj)]
theorem TX_sum (hI : IP np po pk pi pg) (hC : IC nc ck cg) {g : Nat} (hg : g < 8) (T : Nat → Int64) (hT : ∀ k, k < 5 → T k = TX np po pi pk pg nc cp cd ck cg d g k) : sg T 5 ≤ 0 ↔ sg T 5 = 0 := by
  have hx : ∀ k, ∃ t, t ≤ 402653184000000000 ∧ (k < 5 → T k = lN t) := fun k => by
    obtain ⟨t, a, b⟩ := TX_nat (cp := cp) (cd := cd) (d := d) hI hC hg k
    exact ⟨t, a, fun h => by rw [hT k h, b]⟩
  have hw : ∀ k, (fun k => Classical.choose (hx k)) k ≤ 402653184000000000 ∧ (k < 5 → T k = lN ((fun k => Classical.choose (hx k)) k)) := fun k => Classical.choose_spec (hx k)
  generalize (fun k => Classical.choose (hx k)) = w at hw
  have e : sg T 5 = lN (sN w 5) := sg_lN (fun j hj => (hw j).2 hj)
  have b : sN w 5 ≤ 5 * 402653184000000000 := sN_bd (fun j _ => (hw j).1)
  rw [e]
  constructor
  · intro h
    rw [show (0 : Int64) = lN 0 from rfl, pk_lLE (by omega) (by omega)] at h
    rw [show sN w 5 = 0 by omega]
    rfl
  · intro h
    rw [h]
    exact Int64.le_refl 0
end PNN
/-- a kind's share -/
def shr (T : Nat → Int64) (k : Nat) : Int64 := if sg T 5 = 0 then 0 else ((1000 : Int64) * T k) / sg T 5
theorem px_shL (sm : Nat → Int64) {k : Nat} (hk : k < 5) (hS : sg sm 5 ≤ 0 ↔ sg sm 5 = 0) : ∀ (m o n : Nat), o + m = 5 → m < n → zf_Fo_share_L5 (nI k) sm n (sg sm o) (nI o) = some (shr sm k) := by
  intro m
  induction m with
  | zero =>
    intro o n ho hn
    obtain ⟨n, rfl⟩ : ∃ q, n = q + 1 := ⟨n - 1, by omega⟩
    have e : o = 5 := by omega
    subst e
    have e1 : zf_MP_isKind (nI k) = some 1 := by
      rcases pz_kind (nI k) with ⟨k', -, -, a, -⟩ | ⟨a, -⟩
      · exact a
      · rw [zf_MP_isKind, if_neg (nI_pos (by omega)), if_neg (show ¬ (5 : Int32) ≤ nI k from nI_ge (b := 5) hk (by omega))]
    rw [zf_Fo_share_L5, if_pos (by decide), e1, pz_bs, if_neg pz_b1, shr]
    simp (disch := omega) only [nI_clamp, pz_i2]
    by_cases q : sg sm 5 = 0
    · rw [if_pos (hS.mpr q), if_pos q]
    · rw [if_neg (fun z => q (hS.mp z)), if_neg q, if_neg q]
  | succ m ih =>
    intro o n ho hn
    obtain ⟨n, rfl⟩ : ∃ q, n = q + 1 := ⟨n - 1, by omega⟩
    have e := ih (o + 1) n (by omega) (by omega)
    rw [zf_Fo_share_L5, if_neg (show ¬ (5 : Int32) ≤ nI o from nI_ge (b := 5) (by omega) (by omega))]
    simp (disch := omega) only [nI_clamp, pz_i2, nI_1]
    exact e
section PSH
variable {np nc : Nat} {po pi pk : Nat → Int32} {pg : Nat → Int64} {cp : Nat → Int32} {cd : Nat → Int64} {ck : Nat → Int32} {cg : Nat → Int64}
theorem pm_shL (hp : np ≤ 24) (hc : nc ≤ 20) (ho : HO np po) (hi : HI np pi) {q : Nat} (hq : q < 8) (T : Nat → Int64) (hT : ∀ k, k < 5 → T k = TX np po pi pk pg nc cp cd ck cg 100000 q k) {k : Nat} (hk : k < 5) : ∀ (m o n : Nat) (mow msu mne : Nat → Int64), o + m = 5 → m < n → ∃ m1 m2 m3, zf_Mo_shareOf_L8 (nI q) (nI k) (nI np) (nI nc) po pk pg pi cp cd ck cg n (sg T o) (if k < o then T k else 0) (nI o) mow msu mne = some (shr T k, m1, m2, m3) := by
  intro m
  induction m with
  | zero =>
    intro o n mow msu mne ho5 hn
    obtain ⟨n, rfl⟩ : ∃ q, n = q + 1 := ⟨n - 1, by omega⟩
    have e : o = 5 := by omega
    subst e
    refine ⟨mow, msu, mne, ?_⟩
    rw [zf_Mo_shareOf_L8, if_pos (by decide), shr, if_pos hk]
    by_cases z : sg T 5 = 0
    · rw [if_pos z, if_pos z]
    · rw [if_neg z, if_neg z, if_neg z]
  | succ m ih =>
    intro o n mow msu mne ho5 hn
    obtain ⟨n, rfl⟩ : ∃ q, n = q + 1 := ⟨n - 1, by omega⟩
    obtain ⟨a, b, c, e2, h2⟩ := pm_sum (pk := pk) (pg := pg) (cp := cp) (cd := cd) (ck := ck) (cg := cg) (d := 100000) hp hc ho hi (nI o) mow msu mne
    have hb : b q = T o := by rw [h2 q hq, hT o (by omega), p_total ho hi hq]
    obtain ⟨m1, m2, m3, e⟩ := ih (o + 1) n a b c (by omega) (by omega)
    refine ⟨m1, m2, m3, ?_⟩
    rw [zf_Mo_shareOf_L8, if_neg (show ¬ (5 : Int32) ≤ nI o from nI_ge (b := 5) (by omega) (by omega)), e2, pz_bs]
    simp (disch := omega) only [nI_clamp, pz_i2, nI_1, hb, pz_eq]
    rw [sg] at e
    by_cases z : o = k
    · subst z
      rw [if_pos (by omega)] at e
      rw [if_pos rfl]
      exact e
    · rw [if_neg z]
      by_cases z2 : k < o
      · rw [if_pos (by omega)] at e
        rw [if_pos z2]
        exact e
      · rw [if_neg (by omega)] at e
        rw [if_neg z2]
        exact e
end PSH
/-- two joined by a sign -/
def cut (x : Int64) : Int64 := if x ≤ 1000000000000 then (if (-1000000000000) ≤ x then x else -1000000000000) else 1000000000000
def ab (x : Int64) : Int64 := if 0 < x then x else -x
def prd (a b : Int64) : Int64 := if a = 0 then 0 else (if ((1000000000000 : Int64) / ab a) < ab b then (if 0 ≤ a then (if 0 ≤ b then 1000000000000 else -1000000000000) else (if 0 ≤ b then -1000000000000 else 1000000000000)) else a * b)
def jn (w : Int32) (a b : Int64) : Int64 := if w = (-10 : Int32) then (if b < a then b else a) else (if w = (-9 : Int32) then prd a b else (if w = (-8 : Int32) then cut (a - b) else (if w = (-7 : Int32) then cut (a + b) else (if b < a then a else b))))
theorem px_cut (x : Int64) : zf_Fo_cut x = some (cut x) := by
  rw [zf_Fo_cut, cut]
  congr 1
  have e1 : (1000000000000 : Int64).toInt = 1000000000000 := by decide
  have e2 : (-1000000000000 : Int64).toInt = -1000000000000 := by decide
  by_cases h1 : x ≤ 1000000000000
  · rw [if_pos h1]
    by_cases h2 : x < 1000000000000
    · rw [if_pos h2]
      by_cases h3 : (-1000000000000) ≤ x
      · rw [if_pos h3, if_neg (fun q => by rw [Int64.le_iff_toInt_le] at h3; rw [Int64.lt_iff_toInt_lt] at q; omega)]
      · rw [if_neg h3, if_pos (by rw [Int64.le_iff_toInt_le] at h3; rw [Int64.lt_iff_toInt_lt]; omega)]
    · have h3 : x = 1000000000000 := by
        rw [← Int64.toInt_inj]
        rw [Int64.le_iff_toInt_le] at h1
        rw [Int64.lt_iff_toInt_lt] at h2
        omega
      subst h3
      decide
  · have h2 : ¬ x < 1000000000000 := fun q => h1 (by rw [Int64.lt_iff_toInt_lt] at q; rw [Int64.le_iff_toInt_le]; omega)
    rw [if_neg h1, if_neg h2]
    decide
theorem pm_cut (x : Int64) : zf_Mo_cut x = some (cut x) := by
  rw [zf_Mo_cut, cut]
  by_cases h1 : x ≤ 1000000000000
  · rw [if_pos h1, if_pos h1]
    by_cases h2 : (-1000000000000) ≤ x
    · rw [if_pos h2, if_pos h2]
    · rw [if_neg h2, if_neg h2]
  · rw [if_neg h1, if_neg h1]
theorem ab_ne {a : Int64} (h : ¬ a = 0) : ¬ ab a = 0 := by
  unfold ab
  by_cases q : 0 < a
  · rw [if_pos q]; exact h
  · rw [if_neg q]
    intro z
    exact h (by grind)
theorem px_prd (a b : Int64) : zf_Fo_cutProduct a b = some (prd a b) := by
  have h01 : ¬ (0 : Int32) = 1 := by decide
  rw [zf_Fo_cutProduct, prd]
  by_cases h0 : a = 0
  · rw [if_pos h0, if_pos h0]
  · rw [if_neg h0, if_neg h0, if_neg (show ¬ (if 0 < a then a else -a) = 0 from ab_ne h0)]
    show (if ((1000000000000 : Int64) / ab a) < ab b then _ else _) = _
    by_cases h1 : ((1000000000000 : Int64) / ab a) < ab b
    · rw [if_pos h1, if_pos h1]
      by_cases h2 : 0 ≤ a <;> by_cases h3 : 0 ≤ b <;> simp only [h2, h3, if_true, if_false, pz_b1, h01]
    · rw [if_neg h1, if_neg h1]
theorem dv_pos {x : Int64} (h : 0 < x ∨ x = -9223372036854775808) : ¬ ((1000000000000 : Int64) / x) < 0 := by
  rcases h with h | rfl
  · rw [Int64.lt_iff_toInt_lt] at h ⊢
    have e0 : (0 : Int64).toInt = 0 := rfl
    rw [e0] at h ⊢
    obtain ⟨k, hk, e⟩ := pk_lOf (x := x) (fun q => by rw [Int64.lt_iff_toInt_lt, e0] at q; omega)
    subst e
    rw [pk_lT hk] at h
    rw [show (1000000000000 : Int64) = lN 1000000000000 from rfl, pk_lDiv (by omega) (by omega) hk, pk_lT (Nat.lt_of_le_of_lt (Nat.div_le_self _ _) (by omega))]
    exact Int.not_lt.mpr (Int.natCast_nonneg _)
  · decide
theorem ab_pos {a : Int64} (h : ¬ a = 0) : 0 < ab a ∨ ab a = -9223372036854775808 := by
  unfold ab
  by_cases q : 0 < a
  · rw [if_pos q]; exact Or.inl q
  · rw [if_neg q]
    by_cases z : a = -9223372036854775808
    · subst z; exact Or.inr (by decide)
    · refine Or.inl ?_
      have e0 : (0 : Int64).toInt = 0 := rfl
      have em : (-9223372036854775808 : Int64).toInt = -9223372036854775808 := by decide
      rw [← Int64.toInt_inj, e0] at h
      rw [← Int64.toInt_inj, em] at z
      rw [Int64.lt_iff_toInt_lt, e0] at q ⊢
      have b1 := Int64.le_toInt a
      have b2 := Int64.toInt_lt a
      rw [Int64.toInt_neg]
      rw [Int.bmod_eq_of_le (by omega) (by omega)]
      omega
theorem ab_nn {a : Int64} : ab a = if 0 ≤ a then a else -a := by
  unfold ab
  by_cases q : 0 < a
  · rw [if_pos q, if_pos (Int64.le_of_lt q)]
  · rw [if_neg q]
    by_cases z : 0 ≤ a
    · rw [if_pos z]
      have e0 : (0 : Int64).toInt = 0 := rfl
      have : a = 0 := by
        rw [← Int64.toInt_inj]
        rw [Int64.lt_iff_toInt_lt] at q
        rw [Int64.le_iff_toInt_le] at z
        omega
      subst this
      decide
    · rw [if_neg z]
