/-! PURE: which change counts on a day -/
def lk (cp : Nat → Int32) (cd : Nat → Int64) (p : Int32) (d : Int64) : Nat → Option Nat
  | 0 => none
  | c + 1 => match lk cp cd p d c with
    | none => if cp c = p then (if d < cd c then none else some c) else none
    | some f => if cp c = p then (if d < cd c then some f else (if cd c < cd f then some f else some c)) else some f
def en : Option Nat → Int32
  | none => -1
  | some f => nI f
theorem lk_lt {cp : Nat → Int32} {cd : Nat → Int64} {p : Int32} {d : Int64} : ∀ {c f : Nat}, lk cp cd p d c = some f → f < c
  | 0, f, h => by simp [lk] at h
  | c + 1, f, h => by
    rw [lk] at h
    cases hl : lk cp cd p d c with
    | none =>
      rw [hl] at h
      simp only at h
      split at h
      · split at h
        · cases h
        · cases h; omega
      · cases h
    | some g =>
      have hg := lk_lt hl
      rw [hl] at h
      simp only at h
      split at h
      · split at h
        · cases h; omega
        · split at h
          · cases h; omega
          · cases h; omega
      · cases h; omega
theorem px_cnt (p : Int32) (d : Int64) (cp : Nat → Int32) (cd : Nat → Int64) {nc : Nat} (hc : nc ≤ 20) : ∀ (m k n : Nat), k + m = nc → m < n → zf_Ch_countingOn_L6 p d (nI nc) cp cd n (en (lk cp cd p d k)) (nI k) = some (en (lk cp cd p d nc)) := by
  intro m
  induction m with
  | zero =>
    intro k n hk hn
    obtain ⟨n, rfl⟩ : ∃ q, n = q + 1 := ⟨n - 1, by omega⟩
    have e : k = nc := by omega
    subst e
    rw [zf_Ch_countingOn_L6, if_pos (nI_le (Nat.le_refl _) (by omega))]
  | succ m ih =>
    intro k n hk hn
    obtain ⟨n, rfl⟩ : ∃ q, n = q + 1 := ⟨n - 1, by omega⟩
    have e := ih (k + 1) n (by omega) (by omega)
    rw [zf_Ch_countingOn_L6, if_neg (nI_ge (show k < nc by omega) (by omega))]
    rw [lk] at e
    cases hl : lk cp cd p d k with
    | none =>
      rw [hl] at e
      simp (disch := omega) only [nI_clamp, nI_1, pz_i2, en, if_true] at e ⊢
      by_cases h1 : cp k = p <;> by_cases h2 : d < cd k <;> simp only [h1, h2, if_true, if_false, en] at e ⊢ <;> exact e
    | some f =>
      have hf := lk_lt hl
      rw [hl] at e
      simp (disch := omega) only [nI_clamp, nI_1, pz_i2, en, pz_n1] at e ⊢
      by_cases h1 : cp k = p <;> by_cases h2 : d < cd k <;> by_cases h3 : cd k < cd f <;> simp only [h1, h2, h3, if_true, if_false, en] at e ⊢ <;> exact e
theorem pm_cnt (p : Int32) (d : Int64) (cp : Nat → Int32) (cd : Nat → Int64) {nc : Nat} (hc : nc ≤ 20) : ∀ (m k n : Nat), k + m = nc → m < n → zf_Mo_changeOf_L6 p d (nI nc) cp cd n (en (lk cp cd p d k)) (nI k) = some (en (lk cp cd p d nc)) := by
  intro m
  induction m with
  | zero =>
    intro k n hk hn
    obtain ⟨n, rfl⟩ : ∃ q, n = q + 1 := ⟨n - 1, by omega⟩
    have e : k = nc := by omega
    subst e
    rw [zf_Mo_changeOf_L6, if_pos (nI_le (Nat.le_refl _) (by omega))]
  | succ m ih =>
    intro k n hk hn
    obtain ⟨n, rfl⟩ : ∃ q, n = q + 1 := ⟨n - 1, by omega⟩
    have e := ih (k + 1) n (by omega) (by omega)
    rw [zf_Mo_changeOf_L6, if_neg (nI_ge (show k < nc by omega) (by omega))]
    rw [lk] at e
    have h10 : ¬ (1 : Int32) = 0 := by decide
    have hm1 : (-1 : Int32) < 0 := by decide
    cases hl : lk cp cd p d k with
    | none =>
      rw [hl] at e
      simp (disch := omega) only [nI_clamp, nI_1, pz_i2, en, if_true, h10, if_false, hm1] at e ⊢
      by_cases h1 : cp k = p <;> by_cases h2 : d < cd k <;> simp only [h1, h2, if_true, if_false, en] at e ⊢ <;> exact e
    | some f =>
      have hf := lk_lt hl
      rw [hl] at e
      simp (disch := omega) only [nI_clamp, nI_1, pz_i2, en, pz_n0, h10, if_false, if_true] at e ⊢
      by_cases h1 : cp k = p <;> by_cases h2 : d < cd k <;> by_cases h3 : cd k < cd f <;> simp only [h1, h2, h3, if_true, if_false, en] at e ⊢ <;> exact e
/-- a part's kind and grams on a day -/
def kd (pk : Nat → Int32) (nc : Nat) (cp : Nat → Int32) (cd : Nat → Int64) (ck : Nat → Int32) (d : Int64) (j : Nat) : Int32 := match lk cp cd (nI j) d nc with
  | none => pk j
  | some f => ck f
def gr (pg : Nat → Int64) (nc : Nat) (cp : Nat → Int32) (cd : Nat → Int64) (cg : Nat → Int64) (d : Int64) (j : Nat) : Int64 := match lk cp cd (nI j) d nc with
  | none => pg j
  | some f => cg f
section PCH
variable {pk : Nat → Int32} {pg : Nat → Int64} {nc : Nat} {cp : Nat → Int32} {cd : Nat → Int64} {ck : Nat → Int32} {cg : Nat → Int64} {d : Int64} {j : Nat}
theorem px_kd (hc : nc ≤ 20) (hj : j < 24) : zf_Pa_kindOn (nI j) d pk (nI nc) cp cd ck = some (kd pk nc cp cd ck d j) := by
  have e := px_cnt (nI j) d cp cd hc nc 0 2000 (by omega) (by omega)
  have e : zf_Ch_countingOn (nI j) d (nI nc) cp cd = some (en (lk cp cd (nI j) d nc)) := e
  rw [zf_Pa_kindOn, e, pz_bs, kd]
  cases hl : lk cp cd (nI j) d nc with
  | none => simp (disch := omega) only [en, if_true, nI_clamp, pz_i2]
  | some f =>
    have hf := lk_lt hl
    simp (disch := omega) only [en, pz_n1, nI_clamp, pz_i2]
theorem px_gr (hc : nc ≤ 20) (hj : j < 24) : zf_Pa_gramsOn (nI j) d pg (nI nc) cp cd cg = some (gr pg nc cp cd cg d j) := by
  have e := px_cnt (nI j) d cp cd hc nc 0 2000 (by omega) (by omega)
  have e : zf_Ch_countingOn (nI j) d (nI nc) cp cd = some (en (lk cp cd (nI j) d nc)) := e
  rw [zf_Pa_gramsOn, e, pz_bs, gr]
  cases hl : lk cp cd (nI j) d nc with
  | none => simp (disch := omega) only [en, if_true, nI_clamp, pz_i2]
  | some f =>
    have hf := lk_lt hl
    simp (disch := omega) only [en, pz_n1, nI_clamp, pz_i2]
theorem pm_kd (hc : nc ≤ 20) (hj : j < 24) : zf_Mo_kindOn (nI j) d (nI nc) pk cp cd ck = some (kd pk nc cp cd ck d j) := by
  have e := pm_cnt (nI j) d cp cd hc nc 0 2000 (by omega) (by omega)
  have hm1 : ¬ (0 : Int32) ≤ -1 := by decide
  have e : zf_Mo_changeOf (nI j) d (nI nc) cp cd = some (en (lk cp cd (nI j) d nc)) := e
  rw [zf_Mo_kindOn, e, pz_bs, kd]
  cases hl : lk cp cd (nI j) d nc with
  | none => simp (disch := omega) only [en, hm1, if_false, nI_clamp, pz_i2]
  | some f =>
    have hf := lk_lt hl
    simp (disch := omega) only [en, pz_p0, nI_clamp, pz_i2]
theorem pm_gr (hc : nc ≤ 20) (hj : j < 24) : zf_Mo_gramsOn (nI j) d (nI nc) pg cp cd cg = some (gr pg nc cp cd cg d j) := by
  have e := pm_cnt (nI j) d cp cd hc nc 0 2000 (by omega) (by omega)
  have hm1 : ¬ (0 : Int32) ≤ -1 := by decide
  have e : zf_Mo_changeOf (nI j) d (nI nc) cp cd = some (en (lk cp cd (nI j) d nc)) := e
  rw [zf_Mo_gramsOn, e, pz_bs, gr]
  cases hl : lk cp cd (nI j) d nc with
  | none => simp (disch := omega) only [en, hm1, if_false, nI_clamp, pz_i2]
  | some f =>
    have hf := lk_lt hl
    simp (disch := omega) only [en, pz_p0, nI_clamp, pz_i2]
end PCH
