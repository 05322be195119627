/-! PURE: totals: the reference's way, and that both are one -/
def OWN (np : Nat) (po : Nat → Int32) (w : Nat → Int64) (g : Nat) : Int64 := sg (fun j => if ow po j = g then w j else 0) np
def AV (np : Nat) (po pi : Nat → Int32) (v : Nat → Int64) (g : Nat) : Int64 := sg (fun j => if ow po j = g then (if 0 ≤ pi j then v (pi j).toNatClampNeg else 0) else 0) np
def SS (np : Nat) (po pi : Nat → Int32) (w : Nat → Int64) : Nat → Nat → Int64
  | 0 => fun _ => 0
  | t + 1 => fun g => OWN np po w g + AV np po pi (SS np po pi w t) g
theorem AV_congr {np : Nat} {po pi : Nat → Int32} (hi : HI np pi) {v v' : Nat → Int64} (h : ∀ i, i < 8 → v i = v' i) (g : Nat) : AV np po pi v g = AV np po pi v' g := by
  unfold AV
  refine sg_congr (fun j hj => ?_)
  rcases hi j hj with q | ⟨i, h1, h2⟩
  · rw [q]; rfl
  · rw [h2, nI_clamp (by omega), h i h1]
section PSM
variable {np : Nat} {po pi pk : Nat → Int32} {pg : Nat → Int64} {nc : Nat} {cp : Nat → Int32} {cd : Nat → Int64} {ck : Nat → Int32} {cg : Nat → Int64} {d : Int64}
abbrev wk (pk : Nat → Int32) (pg : Nat → Int64) (nc : Nat) (cp : Nat → Int32) (cd : Nat → Int64) (ck : Nat → Int32) (cg : Nat → Int64) (d : Int64) (u : Int32) (j : Nat) : Int64 := if kd pk nc cp cd ck d j = u then gr pg nc cp cd cg d j else 0
theorem pm_189 {xpn xcn : Int32} {v1 : Int32} {mow ne : Nat → Int64} (v4 : Int32) (K : Int32 → (Nat → Int64) → (Nat → Int64) → Option ((Nat → Int64) × (Nat → Int64) × (Nat → Int64))) : ∀ (m k n : Nat) (su : Nat → Int64), k + m = 8 → m < n → (∀ i, i < k → su i = ne i) → ∃ su', (∀ i, i < 8 → su' i = ne i) ∧ zf_Mo_sum_L189 v1 d v4 mow ne xpn xcn po pk pg pi cp cd ck cg K n (nI k) su = K (v4 + 1) su' ne := by
  intro m
  induction m with
  | zero =>
    intro k n su hk hn h
    obtain ⟨n, rfl⟩ : ∃ q, n = q + 1 := ⟨n - 1, by omega⟩
    have e : k = 8 := by omega
    subst e
    exact ⟨su, h, by rw [zf_Mo_sum_L189, if_pos (by decide)]⟩
  | succ m ih =>
    intro k n su hk hn h
    obtain ⟨n, rfl⟩ : ∃ q, n = q + 1 := ⟨n - 1, by omega⟩
    obtain ⟨su', h', e⟩ := ih (k + 1) n (vp_updL su k (ne k)) (by omega) (by omega) (fun i hi => by
      rw [pz_updL]
      by_cases q : i = k
      · subst q; rw [if_pos rfl]
      · rw [if_neg q]; exact h i (by omega))
    refine ⟨su', h', ?_⟩
    rw [zf_Mo_sum_L189, show (8 : Int32) = nI 8 from rfl, if_neg (nI_ge (show k < 8 by omega) (by omega))]
    simp (disch := omega) only [nI_clamp, nI_1, pz_i2]
    exact e
theorem pm_130 (hp : np ≤ 24) (ho : HO np po) (hi : HI np pi) {xcn : Int32} {v1 : Int32} {mow su : Nat → Int64} (v4 : Int32) (K : Int32 → (Nat → Int64) → (Nat → Int64) → Option ((Nat → Int64) × (Nat → Int64) × (Nat → Int64))) : ∀ (m k n : Nat) (ne : Nat → Int64), k + m = np → m < n → (∀ g, g < 8 → ne g = mow g + sg (fun j => if ow po j = g then (if 0 ≤ pi j then su (pi j).toNatClampNeg else 0) else 0) k) → ∃ ne', (∀ g, g < 8 → ne' g = mow g + AV np po pi su g) ∧ zf_Mo_sum_L130 v1 d v4 mow su (nI np) xcn po pk pg pi cp cd ck cg K n (nI k) ne = zf_Mo_sum_L189 v1 d v4 mow ne' (nI np) xcn po pk pg pi cp cd ck cg K 2000 (nI 0) su := by
  intro m
  induction m with
  | zero =>
    intro k n ne hk hn h
    obtain ⟨n, rfl⟩ : ∃ q, n = q + 1 := ⟨n - 1, by omega⟩
    have e : k = np := by omega
    subst e
    exact ⟨ne, h, by rw [zf_Mo_sum_L130, if_pos (nI_le (Nat.le_refl _) (by omega))]; rfl⟩
  | succ m ih =>
    intro k n ne hk hn h
    obtain ⟨n, rfl⟩ : ∃ q, n = q + 1 := ⟨n - 1, by omega⟩
    have hkn : k < np := by omega
    obtain ⟨q1, q2⟩ := ho.at_ hkn
    have key : ∀ x : Int64, (if 0 ≤ pi k then su (pi k).toNatClampNeg else 0) = x → ∀ g, g < 8 → vp_updL ne (ow po k) (ne (ow po k) + x) g = mow g + sg (fun j => if ow po j = g then (if 0 ≤ pi j then su (pi j).toNatClampNeg else 0) else 0) (k + 1) := by
      intro x hx g hg
      rw [sg, pz_updL, hx]
      by_cases q : g = ow po k
      · subst q
        rw [if_pos rfl, if_pos rfl, h _ hg]
        grind
      · rw [if_neg q, if_neg (fun z => q z.symm), h g hg]
        simp
    rcases hi k hkn with hm | ⟨i0, hi0, hm⟩
    · have hm1 : ¬ (0 : Int32) ≤ -1 := by decide
      obtain ⟨ne', h1, h2⟩ := ih (k + 1) n (vp_updL ne (ow po k) (ne (ow po k) + 0)) (by omega) (by omega) (key 0 (by rw [hm]; rfl))
      refine ⟨ne', h1, ?_⟩
      rw [zf_Mo_sum_L130, if_neg (nI_ge hkn (by omega))]
      simp (disch := omega) only [nI_clamp, nI_1, pz_i2, hm, hm1, if_false, q1]
      exact h2
    · obtain ⟨ne', h1, h2⟩ := ih (k + 1) n (vp_updL ne (ow po k) (ne (ow po k) + su i0)) (by omega) (by omega) (key (su i0) (by rw [hm, pz_p0 (by omega), nI_clamp (by omega)]))
      refine ⟨ne', h1, ?_⟩
      rw [zf_Mo_sum_L130, if_neg (nI_ge hkn (by omega))]
      simp (disch := omega) only [nI_clamp, nI_1, pz_i2, hm, pz_p0, q1]
      exact h2
theorem pm_100 {xpn xcn : Int32} {v1 : Int32} {mow su : Nat → Int64} (v4 : Int32) (K : Int32 → (Nat → Int64) → (Nat → Int64) → Option ((Nat → Int64) × (Nat → Int64) × (Nat → Int64))) : ∀ (m k n : Nat) (ne : Nat → Int64), k + m = 8 → m < n → (∀ i, i < k → ne i = mow i) → ∃ ne', (∀ i, i < 8 → ne' i = mow i) ∧ zf_Mo_sum_L100 v1 d v4 mow su xpn xcn po pk pg pi cp cd ck cg K n (nI k) ne = zf_Mo_sum_L130 v1 d v4 mow su xpn xcn po pk pg pi cp cd ck cg K 2000 (nI 0) ne' := by
  intro m
  induction m with
  | zero =>
    intro k n ne hk hn h
    obtain ⟨n, rfl⟩ : ∃ q, n = q + 1 := ⟨n - 1, by omega⟩
    have e : k = 8 := by omega
    subst e
    exact ⟨ne, h, by rw [zf_Mo_sum_L100, if_pos (by decide)]; rfl⟩
  | succ m ih =>
    intro k n ne hk hn h
    obtain ⟨n, rfl⟩ : ∃ q, n = q + 1 := ⟨n - 1, by omega⟩
    obtain ⟨ne', h', e⟩ := ih (k + 1) n (vp_updL ne k (mow k)) (by omega) (by omega) (fun i hi => by
      rw [pz_updL]
      by_cases q : i = k
      · subst q; rw [if_pos rfl]
      · rw [if_neg q]; exact h i (by omega))
    refine ⟨ne', h', ?_⟩
    rw [zf_Mo_sum_L100, show (8 : Int32) = nI 8 from rfl, if_neg (nI_ge (show k < 8 by omega) (by omega))]
    simp (disch := omega) only [nI_clamp, nI_1, pz_i2]
    exact e
theorem pm_90 (hp : np ≤ 24) (ho : HO np po) (hi : HI np pi) {xcn : Int32} {v1 : Int32} {mow : Nat → Int64} (w : Nat → Int64) (hw : ∀ g, g < 8 → mow g = OWN np po w g) : ∀ (m t n : Nat) (su ne : Nat → Int64), t + m = 8 → m < n → (∀ g, g < 8 → su g = SS np po pi w t g) → ∃ su' ne', zf_Mo_sum_L90 v1 d mow (nI np) xcn po pk pg pi cp cd ck cg n (nI t) su ne = some (mow, su', ne') ∧ ∀ g, g < 8 → su' g = SS np po pi w 8 g := by
  intro m
  induction m with
  | zero =>
    intro t n su ne hk hn h
    obtain ⟨n, rfl⟩ : ∃ q, n = q + 1 := ⟨n - 1, by omega⟩
    have e : t = 8 := by omega
    subst e
    exact ⟨su, ne, by rw [zf_Mo_sum_L90, if_pos (by decide)], h⟩
  | succ m ih =>
    intro t n su ne hk hn h
    obtain ⟨n, rfl⟩ : ∃ q, n = q + 1 := ⟨n - 1, by omega⟩
    obtain ⟨ne1, a1, b1⟩ := pm_100 (d := d) (po := po) (pi := pi) (pk := pk) (pg := pg) (cp := cp) (cd := cd) (ck := ck) (cg := cg) (xpn := nI np) (xcn := xcn) (v1 := v1) (mow := mow) (su := su) (nI t) (fun uv4 umsu umne => zf_Mo_sum_L90 v1 d mow (nI np) xcn po pk pg pi cp cd ck cg n uv4 umsu umne) 8 0 2000 ne (by omega) (by omega) (fun i hi => by omega)
    obtain ⟨ne2, a2, b2⟩ := pm_130 (d := d) (pk := pk) (pg := pg) (cp := cp) (cd := cd) (ck := ck) (cg := cg) hp ho hi (xcn := xcn) (v1 := v1) (mow := mow) (su := su) (nI t) (fun uv4 umsu umne => zf_Mo_sum_L90 v1 d mow (nI np) xcn po pk pg pi cp cd ck cg n uv4 umsu umne) np 0 2000 ne1 (by omega) (by omega) (fun g hg => by rw [a1 g hg]; simp [sg])
    obtain ⟨su1, a3, b3⟩ := pm_189 (d := d) (po := po) (pi := pi) (pk := pk) (pg := pg) (cp := cp) (cd := cd) (ck := ck) (cg := cg) (xpn := nI np) (xcn := xcn) (v1 := v1) (mow := mow) (ne := ne2) (nI t) (fun uv4 umsu umne => zf_Mo_sum_L90 v1 d mow (nI np) xcn po pk pg pi cp cd ck cg n uv4 umsu umne) 8 0 2000 su (by omega) (by omega) (fun i hi => by omega)
    obtain ⟨su', ne', e, h'⟩ := ih (t + 1) n su1 ne2 (by omega) (by omega) (fun g hg => by
      rw [a3 g hg, a2 g hg, SS, hw g hg]
      congr 1
      exact AV_congr hi h g)
    refine ⟨su', ne', ?_, h'⟩
    rw [zf_Mo_sum_L90, show (8 : Int32) = nI 8 from rfl, if_neg (nI_ge (show t < 8 by omega) (by omega)), show (0 : Int32) = nI 0 from rfl, b1, b2, b3]
    simp only [nI_1]
    exact e
theorem pm_35 (hp : np ≤ 24) (hc : nc ≤ 20) (ho : HO np po) (v1 : Int32) (su ne : Nat → Int64) : ∀ (m k n : Nat) (mow : Nat → Int64), k + m = np → m < n → (∀ g, g < 8 → mow g = sg (fun j => if ow po j = g then wk pk pg nc cp cd ck cg d v1 j else 0) k) → ∃ mow', (∀ g, g < 8 → mow' g = OWN np po (wk pk pg nc cp cd ck cg d v1) g) ∧ zf_Mo_sum_L35 v1 d su ne (nI np) (nI nc) po pk pg pi cp cd ck cg n (nI k) mow = zf_Mo_sum_L90 v1 d mow' (nI np) (nI nc) po pk pg pi cp cd ck cg 2000 (nI 0) su ne := by
  intro m
  induction m with
  | zero =>
    intro k n mow hk hn h
    obtain ⟨n, rfl⟩ : ∃ q, n = q + 1 := ⟨n - 1, by omega⟩
    have e : k = np := by omega
    subst e
    exact ⟨mow, h, by rw [zf_Mo_sum_L35, if_pos (nI_le (Nat.le_refl _) (by omega))]; rfl⟩
  | succ m ih =>
    intro k n mow hk hn h
    obtain ⟨n, rfl⟩ : ∃ q, n = q + 1 := ⟨n - 1, by omega⟩
    have hkn : k < np := by omega
    obtain ⟨q1, q2⟩ := ho.at_ hkn
    obtain ⟨mow', h1, h2⟩ := ih (k + 1) n (vp_updL mow (ow po k) (mow (ow po k) + wk pk pg nc cp cd ck cg d v1 k)) (by omega) (by omega) (fun g hg => by
      rw [sg, pz_updL]
      by_cases q : g = ow po k
      · subst q
        rw [if_pos rfl, if_pos rfl, h _ hg]
      · rw [if_neg q, if_neg (fun z => q z.symm), h g hg]
        simp)
    refine ⟨mow', h1, ?_⟩
    rw [zf_Mo_sum_L35, if_neg (nI_ge hkn (by omega)), pm_kd hc (by omega), pz_bs, pm_gr hc (by omega), pz_bs, ← h2, wk]
    by_cases hq : kd pk nc cp cd ck d k = v1
    · simp (disch := omega) only [nI_clamp, nI_1, pz_i2, q1, hq, if_true]
    · simp (disch := omega) only [nI_clamp, nI_1, pz_i2, q1, hq, if_false]
theorem pm_3 (v1 : Int32) {xpn xcn : Int32} (ne : Nat → Int64) : ∀ (m k n : Nat) (mow su : Nat → Int64), k + m = 8 → m < n → (∀ i, i < k → mow i = 0 ∧ su i = 0) → ∃ mow' su', (∀ i, i < 8 → mow' i = 0 ∧ su' i = 0) ∧ zf_Mo_sum_L3 v1 d ne xpn xcn po pk pg pi cp cd ck cg n (nI k) mow su = zf_Mo_sum_L35 v1 d su' ne xpn xcn po pk pg pi cp cd ck cg 2000 (nI 0) mow' := by
  intro m
  induction m with
  | zero =>
    intro k n mow su hk hn h
    obtain ⟨n, rfl⟩ : ∃ q, n = q + 1 := ⟨n - 1, by omega⟩
    have e : k = 8 := by omega
    subst e
    exact ⟨mow, su, h, by rw [zf_Mo_sum_L3, if_pos (by decide)]; rfl⟩
  | succ m ih =>
    intro k n mow su hk hn h
    obtain ⟨n, rfl⟩ : ∃ q, n = q + 1 := ⟨n - 1, by omega⟩
    obtain ⟨mow', su', h', e⟩ := ih (k + 1) n (vp_updL mow k 0) (vp_updL su k 0) (by omega) (by omega) (fun i hi => by
      rw [pz_updL, pz_updL]
      by_cases q : i = k
      · rw [if_pos q, if_pos q]; exact ⟨rfl, rfl⟩
      · rw [if_neg q, if_neg q]; exact h i (by omega))
    refine ⟨mow', su', h', ?_⟩
    rw [zf_Mo_sum_L3, show (8 : Int32) = nI 8 from rfl, if_neg (nI_ge (show k < 8 by omega) (by omega))]
    simp (disch := omega) only [nI_clamp, nI_1, pz_i2]
    exact e
theorem pm_sum (hp : np ≤ 24) (hc : nc ≤ 20) (ho : HO np po) (hi : HI np pi) (v1 : Int32) (mow su ne : Nat → Int64) : ∃ a b c, zf_Mo_sum v1 d (nI np) (nI nc) po pk pg pi cp cd ck cg mow su ne = some (a, b, c) ∧ ∀ g, g < 8 → b g = SS np po pi (wk pk pg nc cp cd ck cg d v1) 8 g := by
  obtain ⟨m1, s1, h1, e1⟩ := pm_3 (d := d) (po := po) (pi := pi) (pk := pk) (pg := pg) (cp := cp) (cd := cd) (ck := ck) (cg := cg) (xpn := nI np) (xcn := nI nc) v1 ne 8 0 2000 mow su (by omega) (by omega) (fun i hi => by omega)
  obtain ⟨m2, h2, e2⟩ := pm_35 (d := d) (pi := pi) (pk := pk) (pg := pg) (cp := cp) (cd := cd) (ck := ck) (cg := cg) hp hc ho v1 s1 ne np 0 2000 m1 (by omega) (by omega) (fun g hg => by rw [(h1 g hg).1]; rfl)
  obtain ⟨su', ne', e3, h3⟩ := pm_90 (d := d) (pk := pk) (pg := pg) (cp := cp) (cd := cd) (ck := ck) (cg := cg) hp ho hi (xcn := nI nc) (v1 := v1) (wk pk pg nc cp cd ck cg d v1) h2 8 0 2000 s1 ne (by omega) (by omega) (fun g hg => by rw [(h1 g hg).2]; rfl)
  refine ⟨m2, su', ne', ?_, h3⟩
  rw [zf_Mo_sum, show (0 : Int32) = nI 0 from rfl, e1, e2, e3]
end PSM
/-- the inner product over the goods -/
def ip (l v : Nat → Int64) : Int64 := sg (fun i => l i * v i) 8
theorem ip_pick {f : Nat → Int64} {l : Nat → Int64} (np : Nat) (t : Nat → Nat) (ht : ∀ j, j < np → t j < 8) : ip l (fun i => sg (fun j => if t j = i then f j else 0) np) = sg (fun j => l (t j) * f j) np := by
  unfold ip
  have h1 : ∀ i, l i * sg (fun j => if t j = i then f j else 0) np = sg (fun j => if i = t j then l (t j) * f j else 0) np := fun i => by
    rw [← sg_mul]
    refine sg_congr (fun j _ => ?_)
    by_cases q : t j = i
    · rw [if_pos q, if_pos q.symm, q]
    · rw [if_neg q, if_neg (fun z => q z.symm)]; simp
  rw [sg_congr (fun i _ => h1 i), sg_swap]
  refine sg_congr (fun j hj => ?_)
  rw [sg_one, if_pos (ht j hj)]
theorem ip_comm (l v : Nat → Int64) : ip l v = ip v l := sg_congr (fun i _ => by grind)
section PEQ
variable {np : Nat} {po pi : Nat → Int32}
theorem ip_A (ho : HO np po) (hi : HI np pi) (l v : Nat → Int64) : ip (AT np po pi l) v = ip l (AV np po pi v) := by
  have a : ip l (AV np po pi v) = sg (fun j => l (ow po j) * (if 0 ≤ pi j then v (pi j).toNatClampNeg else 0)) np := ip_pick np (ow po) (fun j hj => (ho.at_ hj).2)
  have b : ip (AT np po pi l) v = sg (fun j => l (ow po j) * (if 0 ≤ pi j then v (pi j).toNatClampNeg else 0)) np := by
    unfold ip AT
    have h1 : ∀ i, i < 8 → sg (fun j => if pi j = nI i then l (ow po j) else 0) np * v i = sg (fun j => if i = (pi j).toNatClampNeg then l (ow po j) * (if 0 ≤ pi j then v (pi j).toNatClampNeg else 0) else 0) np := fun i hi8 => by
      have c : sg (fun j => if pi j = nI i then l (ow po j) else 0) np * v i = v i * sg (fun j => if pi j = nI i then l (ow po j) else 0) np := by grind
      rw [c, ← sg_mul]
      refine sg_congr (fun j hj => ?_)
      rcases hi j hj with q | ⟨i0, q1, q2⟩
      · rw [q, if_neg (fun z => pz_neg i (by omega) z.symm), if_neg (show ¬ (0 : Int32) ≤ -1 by decide)]
        simp
      · rw [q2, nI_clamp (by omega), pz_p0 (by omega)]
        by_cases q : i = i0
        · subst q
          rw [if_pos rfl, if_pos rfl]
          grind
        · rw [if_neg q, if_neg (fun z => q ((nI_eq (by omega) (by omega)).mp z).symm)]
          simp
    rw [sg_congr h1, sg_swap]
    refine sg_congr (fun j hj => ?_)
    rw [sg_one]
    rcases hi j hj with q | ⟨i0, q1, q2⟩
    · rw [q]; simp
    · rw [q2, nI_clamp (by omega), if_pos q1]
  rw [a, b]
theorem LA_shift (l : Nat → Int64) : ∀ t, LA np po pi (AT np po pi l) t = LA np po pi l (t + 1)
  | 0 => rfl
  | t + 1 => by rw [LA, LA_shift l t]; rfl
theorem ip_add (l u v : Nat → Int64) : ip l (fun i => u i + v i) = ip l u + ip l v := by
  unfold ip
  rw [← sg_add]
  exact sg_congr (fun i _ => by grind)
theorem sg_head (f : Nat → Int64) : ∀ n, sg f (n + 1) = f 0 + sg (fun j => f (j + 1)) n
  | 0 => by simp [sg]
  | n + 1 => by
    rw [sg, sg_head f n, sg]
    grind
theorem ip_SS (ho : HO np po) (hi : HI np pi) (w : Nat → Int64) : ∀ (t : Nat) (l : Nat → Int64), ip l (SS np po pi w t) = sg (fun c => ip (LA np po pi l c) (OWN np po w)) t
  | 0, l => by
    rw [sg, SS]
    unfold ip
    rw [sg_congr (g := fun _ => 0) (fun i _ => by simp), sg_zero]
  | t + 1, l => by
    have a : ip l (SS np po pi w (t + 1)) = ip l (OWN np po w) + ip l (AV np po pi (SS np po pi w t)) := ip_add l _ _
    rw [a, ← ip_A ho hi, ip_SS ho hi w t (AT np po pi l), sg_head, show sg (fun c => ip (LA np po pi (AT np po pi l) c) (OWN np po w)) t = sg (fun j => ip (LA np po pi l (j + 1)) (OWN np po w)) t from sg_congr (fun c _ => by rw [LA_shift])]
    rfl
theorem ip_e1 {g : Nat} (hg : g < 8) (v : Nat → Int64) : ip (e1 g) v = v g := by
  unfold ip e1
  rw [sg_congr (g := fun i => if i = g then v g else 0) (fun i _ => by
    by_cases q : i = g
    · rw [if_pos q, if_pos q, q]; simp
    · rw [if_neg q, if_neg q]; simp), sg_one, if_pos hg]
/-- BOTH WAYS ARE ONE -/
theorem p_total {pk : Nat → Int32} {pg : Nat → Int64} {nc : Nat} {cp : Nat → Int32} {cd : Nat → Int64} {ck : Nat → Int32} {cg : Nat → Int64} {d : Int64} (ho : HO np po) (hi : HI np pi) {g : Nat} (hg : g < 8) (k : Nat) : TX np po pi pk pg nc cp cd ck cg d g k = SS np po pi (wk pk pg nc cp cd ck cg d (nI k)) 8 g := by
  have a := ip_SS ho hi (wk pk pg nc cp cd ck cg d (nI k)) 8 (e1 g)
  rw [ip_e1 hg] at a
  rw [a]
  have b : ∀ c, ip (LA np po pi (e1 g) c) (OWN np po (wk pk pg nc cp cd ck cg d (nI k))) = sg (fun j => LA np po pi (e1 g) c (ow po j) * wk pk pg nc cp cd ck cg d (nI k) j) np := fun c => ip_pick np (ow po) (fun j hj => (ho.at_ hj).2)
  rw [sg_congr (fun c _ => b c), sg_swap]
  unfold TX
  refine sg_congr (fun j _ => ?_)
  have c1 : sg (fun i => LA np po pi (e1 g) i (ow po j) * wk pk pg nc cp cd ck cg d (nI k) j) 8 = wk pk pg nc cp cd ck cg d (nI k) j * sg (fun i => LA np po pi (e1 g) i (ow po j)) 8 := by
    rw [← sg_mul]
    exact sg_congr (fun i _ => by grind)
  rw [c1, wk]
  by_cases q : kd pk nc cp cd ck d j = nI k
  · rw [if_pos q, if_pos q]; grind
  · rw [if_neg q, if_neg q]; simp
end PEQ
