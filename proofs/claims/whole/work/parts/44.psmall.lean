/-! PURE: frees, seen, most: sums and searches over the parts -/
section PSL
variable {np : Nat} {po pi pk pl : Nat → Int32} {pg : Nat → Int64} {nc : Nat} {cp : Nat → Int32} {cd : Nat → Int64} {ck : Nat → Int32} {cg : Nat → Int64} {d : Int64}
abbrev fr_t (pk pl : Nat → Int32) (pg : Nat → Int64) (nc : Nat) (cp : Nat → Int32) (cd : Nat → Int64) (ck : Nat → Int32) (cg : Nat → Int64) (v1 v2 : Int32) (j : Nat) : Int64 := if pl j = v2 then (if kd pk nc cp cd ck 100000 j = v1 then gr pg nc cp cd cg 100000 j else 0) else 0
theorem px_frL (hp : np ≤ 24) (hc : nc ≤ 20) (v1 v2 : Int32) : ∀ (m k n : Nat), k + m = np → m < n → zf_MP_frees_L23 v1 v2 (nI np) pk pg pl (nI nc) cp cd ck cg n (sg (fr_t pk pl pg nc cp cd ck cg v1 v2) k) (nI k) = some (sg (fr_t pk pl pg nc cp cd ck cg v1 v2) np) := by
  intro m
  induction m with
  | zero =>
    intro k n hk hn
    obtain ⟨n, rfl⟩ : ∃ q, n = q + 1 := ⟨n - 1, by omega⟩
    have e : k = np := by omega
    subst e
    rw [zf_MP_frees_L23, if_pos (nI_le (Nat.le_refl _) (by omega))]
  | succ m ih =>
    intro k n hk hn
    obtain ⟨n, rfl⟩ : ∃ q, n = q + 1 := ⟨n - 1, by omega⟩
    have e := ih (k + 1) n (by omega) (by omega)
    have hkn : k < np := by omega
    rw [zf_MP_frees_L23, if_neg (nI_ge hkn (by omega)), px_kd hc (by omega), pz_bs, px_gr hc (by omega), pz_bs]
    rw [sg, fr_t] at e
    by_cases h1 : pl k = v2
    · by_cases h2 : kd pk nc cp cd ck 100000 k = v1
      · simp (disch := omega) only [nI_clamp, nI_1, pz_i2, h1, h2, if_true] at e ⊢
        exact e
      · simp (disch := omega) only [nI_clamp, nI_1, pz_i2, h1, h2, if_true, if_false, Int64.add_zero] at e ⊢
        exact e
    · simp (disch := omega) only [nI_clamp, nI_1, pz_i2, h1, if_false, Int64.add_zero] at e ⊢
      exact e
theorem pm_frL (hp : np ≤ 24) (hc : nc ≤ 20) (v1 v2 : Int32) : ∀ (m k n : Nat), k + m = np → m < n → zf_Mo_frees_L28 v1 v2 (nI np) (nI nc) pk pg pl cp cd ck cg n (sg (fr_t pk pl pg nc cp cd ck cg v1 v2) k) (nI k) = some (sg (fr_t pk pl pg nc cp cd ck cg v1 v2) np) := by
  intro m
  induction m with
  | zero =>
    intro k n hk hn
    obtain ⟨n, rfl⟩ : ∃ q, n = q + 1 := ⟨n - 1, by omega⟩
    have e : k = np := by omega
    subst e
    rw [zf_Mo_frees_L28, if_pos (nI_le (Nat.le_refl _) (by omega))]
  | succ m ih =>
    intro k n hk hn
    obtain ⟨n, rfl⟩ : ∃ q, n = q + 1 := ⟨n - 1, by omega⟩
    have e := ih (k + 1) n (by omega) (by omega)
    have hkn : k < np := by omega
    rw [zf_Mo_frees_L28, if_neg (nI_ge hkn (by omega)), pm_kd hc (by omega), pz_bs, pm_gr hc (by omega), pz_bs]
    rw [sg, fr_t] at e
    by_cases h1 : pl k = v2
    · by_cases h2 : kd pk nc cp cd ck 100000 k = v1
      · simp (disch := omega) only [nI_clamp, nI_1, pz_i2, h1, h2, if_true] at e ⊢
        exact e
      · simp (disch := omega) only [nI_clamp, nI_1, pz_i2, h1, h2, if_true, if_false] at e ⊢
        exact e
    · simp (disch := omega) only [nI_clamp, nI_1, pz_i2, h1, if_false] at e ⊢
      exact e
/-- the k-th own part -/
def op (po : Nat → Int32) (g k : Int32) : Nat → Nat → Int32 → Int32
  | 0, _, _ => -1
  | m + 1, j, own => if po j = g then (if own = k then nI j else op po g k m (j + 1) (own + 1)) else op po g k m (j + 1) own
theorem op_in (g k : Int32) : ∀ (m j : Nat) (own : Int32), j + m ≤ 24 → op po g k m j own = -1 ∨ ∃ i, i < j + m ∧ op po g k m j own = nI i := by
  intro m
  induction m with
  | zero => intro j own h; exact Or.inl rfl
  | succ m ih =>
    intro j own h
    rw [op]
    by_cases h1 : po j = g
    · rw [if_pos h1]
      by_cases h2 : own = k
      · rw [if_pos h2]; exact Or.inr ⟨j, by omega, rfl⟩
      · rw [if_neg h2]
        rcases ih (j + 1) (own + 1) (by omega) with q | ⟨i, q1, q2⟩
        · exact Or.inl q
        · exact Or.inr ⟨i, by omega, q2⟩
    · rw [if_neg h1]
      rcases ih (j + 1) own (by omega) with q | ⟨i, q1, q2⟩
      · exact Or.inl q
      · exact Or.inr ⟨i, by omega, q2⟩
theorem px_op (hp : np ≤ 24) (g k : Int32) : ∀ (m j n : Nat) (own : Int32), j + m = np → m < n → zf_Pa_ownPart_L5 g k (nI np) po n own (nI j) = some (op po g k m j own) := by
  intro m
  induction m with
  | zero =>
    intro j n own hj hn
    obtain ⟨n, rfl⟩ : ∃ q, n = q + 1 := ⟨n - 1, by omega⟩
    have e : j = np := by omega
    subst e
    rw [zf_Pa_ownPart_L5, if_pos (nI_le (Nat.le_refl _) (by omega))]; rfl
  | succ m ih =>
    intro j n own hj hn
    obtain ⟨n, rfl⟩ : ∃ q, n = q + 1 := ⟨n - 1, by omega⟩
    rw [zf_Pa_ownPart_L5, if_neg (nI_ge (show j < np by omega) (by omega)), op]
    simp (disch := omega) only [nI_clamp, nI_1, pz_i2, ih]
    by_cases h1 : po j = g
    · by_cases h2 : own = k
      · simp only [h1, h2, if_true]
      · simp only [h1, h2, if_true, if_false]
    · simp only [h1, if_false]
theorem pm_op (hp : np ≤ 24) (g k : Int32) : ∀ (m j n : Nat) (own : Int32), j + m = np → m < n → zf_Mo_partOf_L5 g k (nI np) po n own (nI j) = some (op po g k m j own) := by
  intro m
  induction m with
  | zero =>
    intro j n own hj hn
    obtain ⟨n, rfl⟩ : ∃ q, n = q + 1 := ⟨n - 1, by omega⟩
    have e : j = np := by omega
    subst e
    rw [zf_Mo_partOf_L5, if_pos (nI_le (Nat.le_refl _) (by omega))]; rfl
  | succ m ih =>
    intro j n own hj hn
    obtain ⟨n, rfl⟩ : ∃ q, n = q + 1 := ⟨n - 1, by omega⟩
    rw [zf_Mo_partOf_L5, if_neg (nI_ge (show j < np by omega) (by omega)), op]
    simp (disch := omega) only [nI_clamp, nI_1, pz_i2, ih]
    by_cases h1 : po j = g
    · by_cases h2 : own = k
      · simp only [h1, h2, if_true]
      · simp only [h1, h2, if_true, if_false]
    · simp only [h1, if_false]
abbrev og_t (po pk : Nat → Int32) (pg : Nat → Int64) (nc : Nat) (cp : Nat → Int32) (cd : Nat → Int64) (ck : Nat → Int32) (cg : Nat → Int64) (g u : Int32) (j : Nat) : Int64 := if po j = g then (if kd pk nc cp cd ck 100000 j = u then gr pg nc cp cd cg 100000 j else 0) else 0
theorem px_ogL (hp : np ≤ 24) (hc : nc ≤ 20) (g u : Int32) : ∀ (m k n : Nat), k + m = np → m < n → zf_Pa_ownGrams_L6 g u 100000 (nI np) po pk pg (nI nc) cp cd ck cg n (sg (og_t po pk pg nc cp cd ck cg g u) k) (nI k) = some (sg (og_t po pk pg nc cp cd ck cg g u) np) := by
  intro m
  induction m with
  | zero =>
    intro k n hk hn
    obtain ⟨n, rfl⟩ : ∃ q, n = q + 1 := ⟨n - 1, by omega⟩
    have e : k = np := by omega
    subst e
    rw [zf_Pa_ownGrams_L6, if_pos (nI_le (Nat.le_refl _) (by omega))]
  | succ m ih =>
    intro k n hk hn
    obtain ⟨n, rfl⟩ : ∃ q, n = q + 1 := ⟨n - 1, by omega⟩
    have e := ih (k + 1) n (by omega) (by omega)
    have hkn : k < np := by omega
    rw [zf_Pa_ownGrams_L6, if_neg (nI_ge hkn (by omega)), px_kd hc (by omega), pz_bs, px_gr hc (by omega), pz_bs]
    rw [sg, og_t] at e
    by_cases h1 : po k = g
    · by_cases h2 : kd pk nc cp cd ck 100000 k = u
      · simp (disch := omega) only [nI_clamp, nI_1, pz_i2, h1, h2, if_true] at e ⊢
        exact e
      · simp (disch := omega) only [nI_clamp, nI_1, pz_i2, h1, h2, if_true, if_false, Int64.add_zero] at e ⊢
        exact e
    · simp (disch := omega) only [nI_clamp, nI_1, pz_i2, h1, if_false, Int64.add_zero] at e ⊢
      exact e
theorem pm_seL (hp : np ≤ 24) (hc : nc ≤ 20) (v1 g v3 v4 v6 : Int32) {i : Nat} (hi : i < 24) {mgc : Int32} {mri : Nat → Int32} : ∀ (m k n : Nat), k + m = np → m < n → zf_Mo_seen_L130 v1 g v3 v4 (nI i) v6 mgc (nI np) (nI nc) po pk pg pl cp cd ck cg mri n (sg (og_t po pk pg nc cp cd ck cg g (kd pk nc cp cd ck 100000 i)) k) (nI k) = some (sg (og_t po pk pg nc cp cd ck cg g (kd pk nc cp cd ck 100000 i)) np) := by
  intro m
  induction m with
  | zero =>
    intro k n hk hn
    obtain ⟨n, rfl⟩ : ∃ q, n = q + 1 := ⟨n - 1, by omega⟩
    have e : k = np := by omega
    subst e
    rw [zf_Mo_seen_L130, if_pos (nI_le (Nat.le_refl _) (by omega))]
  | succ m ih =>
    intro k n hk hn
    obtain ⟨n, rfl⟩ : ∃ q, n = q + 1 := ⟨n - 1, by omega⟩
    have e := ih (k + 1) n (by omega) (by omega)
    have hkn : k < np := by omega
    have h10 : ¬ (1 : Int32) = 0 := by decide
    rw [zf_Mo_seen_L130, if_neg (nI_ge hkn (by omega)), pm_kd hc (by omega), pz_bs, pm_kd hc hi, pz_bs, pm_gr hc (by omega), pz_bs]
    rw [sg, og_t] at e
    by_cases h1 : po k = g
    · by_cases h2 : kd pk nc cp cd ck 100000 k = kd pk nc cp cd ck 100000 i
      · simp (disch := omega) only [nI_clamp, nI_1, pz_i2, h1, h2, h10, if_true, if_false] at e ⊢
        exact e
      · simp (disch := omega) only [nI_clamp, nI_1, pz_i2, h1, h2, if_true, if_false] at e ⊢
        exact e
    · simp (disch := omega) only [nI_clamp, nI_1, pz_i2, h1, if_false, if_true] at e ⊢
      exact e
/-- how many parts -/
def oc (po : Nat → Int32) (g : Int32) : Nat → Int32
  | 0 => 0
  | n + 1 => if po n = g then oc po g n + 1 else oc po g n
theorem px_oc (hp : np ≤ 24) (g : Int32) : ∀ (m k n : Nat), k + m = np → m < n → zf_Pa_ownCount_L4 g (nI np) po n (oc po g k) (nI k) = some (oc po g np) := by
  intro m
  induction m with
  | zero =>
    intro k n hk hn
    obtain ⟨n, rfl⟩ : ∃ q, n = q + 1 := ⟨n - 1, by omega⟩
    have e : k = np := by omega
    subst e
    rw [zf_Pa_ownCount_L4, if_pos (nI_le (Nat.le_refl _) (by omega))]
  | succ m ih =>
    intro k n hk hn
    obtain ⟨n, rfl⟩ : ∃ q, n = q + 1 := ⟨n - 1, by omega⟩
    have e := ih (k + 1) n (by omega) (by omega)
    rw [zf_Pa_ownCount_L4, if_neg (nI_ge (show k < np by omega) (by omega))]
    rw [oc] at e
    by_cases h1 : po k = g
    · simp (disch := omega) only [nI_clamp, nI_1, pz_i2, h1, if_true] at e ⊢
      exact e
    · simp (disch := omega) only [nI_clamp, nI_1, pz_i2, h1, if_false] at e ⊢
      exact e
theorem pm_oc (hp : np ≤ 24) (g : Int32) : ∀ (m k n : Nat), k + m = np → m < n → zf_Mo_countOf_L4 g (nI np) po n (oc po g k) (nI k) = some (oc po g np).toInt64 := by
  intro m
  induction m with
  | zero =>
    intro k n hk hn
    obtain ⟨n, rfl⟩ : ∃ q, n = q + 1 := ⟨n - 1, by omega⟩
    have e : k = np := by omega
    subst e
    rw [zf_Mo_countOf_L4, if_pos (nI_le (Nat.le_refl _) (by omega))]
  | succ m ih =>
    intro k n hk hn
    obtain ⟨n, rfl⟩ : ∃ q, n = q + 1 := ⟨n - 1, by omega⟩
    have e := ih (k + 1) n (by omega) (by omega)
    rw [zf_Mo_countOf_L4, if_neg (nI_ge (show k < np by omega) (by omega))]
    rw [oc] at e
    by_cases h1 : po k = g
    · simp (disch := omega) only [nI_clamp, nI_1, pz_i2, h1, if_true] at e ⊢
      exact e
    · simp (disch := omega) only [nI_clamp, nI_1, pz_i2, h1, if_false, Int32.add_zero] at e ⊢
      exact e
abbrev al_t (pk : Nat → Int32) (pg : Nat → Int64) (nc : Nat) (cp : Nat → Int32) (cd : Nat → Int64) (ck : Nat → Int32) (cg : Nat → Int64) (u : Int32) (j : Nat) : Int64 := if kd pk nc cp cd ck 100000 j = u then gr pg nc cp cd cg 100000 j else 0
theorem pm_alL (hp : np ≤ 24) (hc : nc ≤ 20) (u : Int32) : ∀ (m k n : Nat), k + m = np → m < n → zf_Mo_allOf_L5 u (nI np) (nI nc) pk pg cp cd ck cg n (sg (al_t pk pg nc cp cd ck cg u) k) (nI k) = some (sg (al_t pk pg nc cp cd ck cg u) np) := by
  intro m
  induction m with
  | zero =>
    intro k n hk hn
    obtain ⟨n, rfl⟩ : ∃ q, n = q + 1 := ⟨n - 1, by omega⟩
    have e : k = np := by omega
    subst e
    rw [zf_Mo_allOf_L5, if_pos (nI_le (Nat.le_refl _) (by omega))]
  | succ m ih =>
    intro k n hk hn
    obtain ⟨n, rfl⟩ : ∃ q, n = q + 1 := ⟨n - 1, by omega⟩
    have e := ih (k + 1) n (by omega) (by omega)
    have hkn : k < np := by omega
    rw [zf_Mo_allOf_L5, if_neg (nI_ge hkn (by omega)), pm_kd hc (by omega), pz_bs, pm_gr hc (by omega), pz_bs]
    rw [sg, al_t] at e
    by_cases h2 : kd pk nc cp cd ck 100000 k = u
    · simp (disch := omega) only [nI_1, h2, if_true] at e ⊢
      exact e
    · simp (disch := omega) only [nI_1, h2, if_false] at e ⊢
      exact e
end PSL
