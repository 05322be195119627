/-! PURE: totals: the one way -/
def ow (po : Nat → Int32) (j : Nat) : Nat := (po j).toNatClampNeg
def HO (np : Nat) (po : Nat → Int32) : Prop := ∀ j, j < np → ∃ o, o < 8 ∧ po j = nI o
def HI (np : Nat) (pi : Nat → Int32) : Prop := ∀ j, j < np → pi j = -1 ∨ ∃ i, i < 8 ∧ pi j = nI i
theorem HO.at_ {np : Nat} {po : Nat → Int32} (h : HO np po) {j : Nat} (hj : j < np) : po j = nI (ow po j) ∧ ow po j < 8 := by
  obtain ⟨o, h1, h2⟩ := h j hj
  have e : ow po j = o := by rw [ow, h2, nI_clamp (by omega)]
  rw [e]
  exact ⟨h2, h1⟩
def AT (np : Nat) (po pi : Nat → Int32) (l : Nat → Int64) (i : Nat) : Int64 := sg (fun j => if pi j = nI i then l (ow po j) else 0) np
def LA (np : Nat) (po pi : Nat → Int32) (l : Nat → Int64) : Nat → Nat → Int64
  | 0 => l
  | d + 1 => AT np po pi (LA np po pi l d)
def e1 (g : Nat) : Nat → Int64 := fun i => if i = g then 1 else 0
theorem px_fillL (v : Int64) {n0 : Nat} (h : n0 ≤ 300) : ∀ (m k n : Nat) (f : Nat → Int64), k + m = n0 → m < n → (∀ i, i < k → f i = v) → ∃ f', zf_Ja_fill_L6 v (nI n0) n0 n (nI k) f = some f' ∧ ∀ i, i < n0 → f' i = v := by
  intro m
  induction m with
  | zero =>
    intro k n f hk hn hf
    obtain ⟨n, rfl⟩ : ∃ q, n = q + 1 := ⟨n - 1, by omega⟩
    have e : k = n0 := by omega
    subst e
    exact ⟨f, by rw [zf_Ja_fill_L6, if_pos (nI_le (Nat.le_refl _) (by omega))], hf⟩
  | succ m ih =>
    intro k n f hk hn hf
    obtain ⟨n, rfl⟩ : ∃ q, n = q + 1 := ⟨n - 1, by omega⟩
    obtain ⟨f', e, h'⟩ := ih (k + 1) n (vp_updL f k v) (by omega) (by omega) (fun i hi => by
      rw [pz_updL]
      by_cases q : i = k
      · rw [if_pos q]
      · rw [if_neg q]; exact hf i (by omega))
    refine ⟨f', ?_, h'⟩
    rw [zf_Ja_fill_L6, if_neg (nI_ge (show k < n0 by omega) (by omega))]
    simp (disch := omega) only [nI_clamp, nI_1, pz_i2]
    exact e
theorem px_fill (v : Int64) {n0 : Nat} (h : n0 ≤ 300) (f : Nat → Int64) : ∃ f', zf_Ja_fill v n0 f = some f' ∧ ∀ i, i < n0 → f' i = v :=
  px_fillL v h n0 0 2000 f (by omega) (by omega) (fun i hi => by omega)
section PTX
variable {np : Nat} {po pi : Nat → Int32}
theorem px_go58 (nd nt : Nat → Int64) (xpn : Int32) : ∀ (m k n : Nat) (nt' nl' : Nat → Int64), k + m = 8 → m < n → (∀ i, i < 8 → nt' i = if i < k then nt i + nd i else nt i) → (∀ i, i < k → nl' i = nd i) → ∃ a b, zf_Ne_goDeeper_L58 nd xpn po pi n (nI k) nt' nl' = some (a, b, nd) ∧ ∀ i, i < 8 → a i = nt i + nd i ∧ b i = nd i := by
  intro m
  induction m with
  | zero =>
    intro k n nt' nl' hk hn h1 h2
    obtain ⟨n, rfl⟩ : ∃ q, n = q + 1 := ⟨n - 1, by omega⟩
    have e : k = 8 := by omega
    subst e
    refine ⟨nt', nl', by rw [zf_Ne_goDeeper_L58, if_pos (by decide)], fun i hi => ⟨?_, h2 i hi⟩⟩
    rw [h1 i hi, if_pos hi]
  | succ m ih =>
    intro k n nt' nl' hk hn h1 h2
    obtain ⟨n, rfl⟩ : ∃ q, n = q + 1 := ⟨n - 1, by omega⟩
    obtain ⟨a, b, e, h⟩ := ih (k + 1) n (vp_updL nt' k (nt' k + nd k)) (vp_updL nl' k (nd k)) (by omega) (by omega) (fun i hi => by
      rw [pz_updL]
      by_cases q : i = k
      · subst q
        rw [if_pos rfl, if_pos (by omega), h1 i hi, if_neg (by omega)]
      · rw [if_neg q, h1 i hi]
        by_cases q2 : i < k
        · rw [if_pos q2, if_pos (by omega)]
        · rw [if_neg q2, if_neg (by omega)]) (fun i hi => by
      rw [pz_updL]
      by_cases q : i = k
      · subst q; rw [if_pos rfl]
      · rw [if_neg q]; exact h2 i (by omega))
    refine ⟨a, b, ?_, h⟩
    rw [zf_Ne_goDeeper_L58, show (8 : Int32) = nI 8 from rfl, if_neg (nI_ge (show k < 8 by omega) (by omega))]
    simp (disch := omega) only [nI_clamp, nI_1, pz_i2]
    exact e
theorem px_go10 (hp : np ≤ 24) (ho : HO np po) (hi : HI np pi) (nt nl : Nat → Int64) : ∀ (m k n : Nat) (nd : Nat → Int64), k + m = np → m < n → (∀ i, i < 8 → nd i = sg (fun j => if pi j = nI i then nl (ow po j) else 0) k) → ∃ nd', (∀ i, i < 8 → nd' i = AT np po pi nl i) ∧ zf_Ne_goDeeper_L10 nt nl (nI np) po pi n (nI k) nd = zf_Ne_goDeeper_L58 nd' (nI np) po pi 2000 (nI 0) nt nl := by
  intro m
  induction m with
  | zero =>
    intro k n nd hk hn h
    obtain ⟨n, rfl⟩ : ∃ q, n = q + 1 := ⟨n - 1, by omega⟩
    have e : k = np := by omega
    subst e
    exact ⟨nd, h, by rw [zf_Ne_goDeeper_L10, if_pos (nI_le (Nat.le_refl _) (by omega))]; rfl⟩
  | succ m ih =>
    intro k n nd hk hn h
    obtain ⟨n, rfl⟩ : ∃ q, n = q + 1 := ⟨n - 1, by omega⟩
    have hkn : k < np := by omega
    obtain ⟨q1, q2⟩ := ho.at_ hkn
    rcases hi k hkn with hm | ⟨i0, hi0, hm⟩
    · obtain ⟨nd', h1, h2⟩ := ih (k + 1) n nd (by omega) (by omega) (fun i hi8 => by
        rw [sg, h i hi8, if_neg (by rw [hm]; exact fun q => pz_neg i (by omega) q.symm)]
        simp)
      refine ⟨nd', h1, ?_⟩
      rw [zf_Ne_goDeeper_L10, if_neg (nI_ge hkn (by omega))]
      simp (disch := omega) only [nI_clamp, nI_1, pz_i2, hm, if_true]
      exact h2
    · obtain ⟨nd', h1, h2⟩ := ih (k + 1) n (vp_updL nd i0 (nd i0 + nl (ow po k))) (by omega) (by omega) (fun i hi8 => by
        rw [sg, pz_updL]
        by_cases q : i = i0
        · subst q
          rw [if_pos rfl, if_pos hm, h i hi8]
        · rw [if_neg q, h i hi8, if_neg (by rw [hm]; exact fun z => q ((nI_eq (by omega) (by omega)).mp z).symm)]
          simp)
      refine ⟨nd', h1, ?_⟩
      rw [zf_Ne_goDeeper_L10, if_neg (nI_ge hkn (by omega))]
      simp (disch := omega) only [nI_clamp, nI_1, pz_i2, hm, pz_n1, q1]
      exact h2
theorem px_go (hp : np ≤ 24) (ho : HO np po) (hi : HI np pi) (nt nl nd : Nat → Int64) : ∃ a b c, zf_Ne_goDeeper (nI np) po pi nt nl nd = some (a, b, c) ∧ ∀ i, i < 8 → a i = nt i + AT np po pi nl i ∧ b i = AT np po pi nl i := by
  obtain ⟨f, e1, h1⟩ := px_fill 0 (n0 := 8) (by omega) nd
  obtain ⟨nd', h2, e2⟩ := px_go10 hp ho hi nt nl np 0 2000 f (by omega) (by omega) (fun i hi => by rw [h1 i hi]; rfl)
  obtain ⟨a, b, e3, h3⟩ := px_go58 (po := po) (pi := pi) nd' nt (nI np) 8 0 2000 nt nl (by omega) (by omega) (fun i hi => by rw [if_neg (by omega)]) (fun i hi => by omega)
  refine ⟨a, b, nd', ?_, fun i hi => ?_⟩
  · rw [zf_Ne_goDeeper, e1, pz_bs, show (0 : Int32) = nI 0 from rfl, e2, e3]
  · rw [(h3 i hi).1, (h3 i hi).2, h2 i hi]
    exact ⟨rfl, rfl⟩
theorem AT_congr (ho : HO np po) {l l' : Nat → Int64} (h : ∀ i, i < 8 → l i = l' i) (i : Nat) : AT np po pi l i = AT np po pi l' i := by
  unfold AT
  refine sg_congr (fun j hj => ?_)
  rw [h _ (ho.at_ hj).2]
theorem px_cwL (hp : np ≤ 24) (ho : HO np po) (hi : HI np pi) (g : Nat) (v2 : Int32) : ∀ (m t n : Nat) (nt nl nd : Nat → Int64), t + m = 7 → m < n → (∀ i, i < 8 → nl i = LA np po pi (e1 g) t i) → (∀ i, i < 8 → nt i = sg (fun d => LA np po pi (e1 g) d i) (t + 1)) → ∃ a b c, zf_Ne_countWithin_L32 v2 (nI np) po pi n (nI (t + 1)) nt nl nd = some (a, b, c) ∧ ∀ i, i < 8 → a i = sg (fun d => LA np po pi (e1 g) d i) 8 := by
  intro m
  induction m with
  | zero =>
    intro t n nt nl nd hk hn h1 h2
    obtain ⟨n, rfl⟩ : ∃ q, n = q + 1 := ⟨n - 1, by omega⟩
    have e : t = 7 := by omega
    subst e
    exact ⟨nt, nl, nd, by rw [zf_Ne_countWithin_L32, if_pos (by decide)], h2⟩
  | succ m ih =>
    intro t n nt nl nd hk hn h1 h2
    obtain ⟨n, rfl⟩ : ∃ q, n = q + 1 := ⟨n - 1, by omega⟩
    obtain ⟨a, b, c, e, h⟩ := px_go hp ho hi nt nl nd
    obtain ⟨a', b', c', e', h'⟩ := ih (t + 1) n a b c (by omega) (by omega) (fun i hi8 => by
      rw [(h i hi8).2, LA]
      exact AT_congr ho h1 i) (fun i hi8 => by
      rw [(h i hi8).1, h2 i hi8]
      show _ = sg (fun d => LA np po pi (e1 g) d i) (t + 1) + AT np po pi (LA np po pi (e1 g) t) i
      rw [AT_congr ho h1 i])
    refine ⟨a', b', c', ?_, h'⟩
    rw [zf_Ne_countWithin_L32, show (8 : Int32) = nI 8 from rfl, if_neg (nI_ge (show t + 1 < 8 by omega) (by omega)), e, pz_bs, nI_1]
    exact e'
theorem px_cw (hp : np ≤ 24) (ho : HO np po) (hi : HI np pi) {g : Nat} (hg : g < 8) (nt nl nd : Nat → Int64) : ∃ a b c, zf_Ne_countWithin (nI g) (nI np) po pi nt nl nd = some (a, b, c) ∧ ∀ i, i < 8 → a i = sg (fun d => LA np po pi (e1 g) d i) 8 := by
  obtain ⟨f, ef, hf⟩ := px_fill 0 (n0 := 8) (by omega) nt
  obtain ⟨f', ef', hf'⟩ := px_fill 0 (n0 := 8) (by omega) nl
  obtain ⟨a, b, c, e, h⟩ := px_cwL hp ho hi g (nI g) 7 0 2000 (vp_updL f g 1) (vp_updL f' g 1) nd (by omega) (by omega) (fun i hi => by
    rw [pz_updL, LA, e1]
    by_cases q : i = g
    · rw [if_pos q, if_pos q]
    · rw [if_neg q, if_neg q, hf' i hi]) (fun i hi => by
    rw [pz_updL]
    simp only [sg, LA, e1]
    by_cases q : i = g
    · rw [if_pos q, if_pos q]; rfl
    · rw [if_neg q, if_neg q, hf i hi]; rfl)
  refine ⟨a, b, c, ?_, h⟩
  rw [zf_Ne_countWithin, ef, pz_bs, ef', pz_bs]
  simp (disch := omega) only [nI_clamp, pz_i2]
  exact e
end PTX
section PTS
variable {np : Nat} {po pi pk : Nat → Int32} {pg : Nat → Int64} {nc : Nat} {cp : Nat → Int32} {cd : Nat → Int64} {ck : Nat → Int32} {cg : Nat → Int64} {d : Int64}
def HK (np : Nat) (kf : Nat → Int32) : Prop := ∀ j, j < np → ∃ k, k < 5 ∧ kf j = nI k
theorem px_sbL (hp : np ≤ 24) (hc : nc ≤ 20) (ho : HO np po) (hk : HK np (kd pk nc cp cd ck d)) (nt : Nat → Int64) : ∀ (m j n : Nat) (sm : Nat → Int64), j + m = np → m < n → (∀ k, k < 5 → sm k = sg (fun j => if kd pk nc cp cd ck d j = nI k then nt (ow po j) * gr pg nc cp cd cg d j else 0) j) → ∃ sm', zf_Ne_sumByTimes_L9 d (nI np) po pk pg (nI nc) cp cd ck cg nt n (nI j) sm = some sm' ∧ ∀ k, k < 5 → sm' k = sg (fun j => if kd pk nc cp cd ck d j = nI k then nt (ow po j) * gr pg nc cp cd cg d j else 0) np := by
  intro m
  induction m with
  | zero =>
    intro j n sm hj hn h
    obtain ⟨n, rfl⟩ : ∃ q, n = q + 1 := ⟨n - 1, by omega⟩
    have e : j = np := by omega
    subst e
    exact ⟨sm, by rw [zf_Ne_sumByTimes_L9, if_pos (nI_le (Nat.le_refl _) (by omega))], h⟩
  | succ m ih =>
    intro j n sm hj hn h
    obtain ⟨n, rfl⟩ : ∃ q, n = q + 1 := ⟨n - 1, by omega⟩
    have hjn : j < np := by omega
    obtain ⟨q1, q2⟩ := ho.at_ hjn
    obtain ⟨k0, hk0, ek0⟩ := hk j hjn
    obtain ⟨sm', e, h'⟩ := ih (j + 1) n (vp_updL sm k0 (sm k0 + nt (ow po j) * gr pg nc cp cd cg d j)) (by omega) (by omega) (fun k hk5 => by
      rw [sg, pz_updL]
      by_cases q : k = k0
      · subst q
        rw [if_pos rfl, if_pos ek0, h k hk5]
      · rw [if_neg q, h k hk5, if_neg (by rw [ek0]; exact fun z => q ((nI_eq (by omega) (by omega)).mp z).symm)]
        simp)
    refine ⟨sm', ?_, h'⟩
    rw [zf_Ne_sumByTimes_L9, if_neg (nI_ge hjn (by omega)), px_gr hc (by omega), pz_bs, px_kd hc (by omega), pz_bs, ek0]
    simp (disch := omega) only [nI_clamp, nI_1, pz_i2, q1]
    exact e
theorem px_sb (hp : np ≤ 24) (hc : nc ≤ 20) (ho : HO np po) (hk : HK np (kd pk nc cp cd ck d)) (nt sm : Nat → Int64) : ∃ sm', zf_Ne_sumByTimes d (nI np) sm po pk pg (nI nc) cp cd ck cg nt = some sm' ∧ ∀ k, k < 5 → sm' k = sg (fun j => if kd pk nc cp cd ck d j = nI k then nt (ow po j) * gr pg nc cp cd cg d j else 0) np := by
  obtain ⟨f, ef, hf⟩ := px_fill 0 (n0 := 5) (by omega) sm
  obtain ⟨sm', e, h⟩ := px_sbL (pg := pg) (cg := cg) hp hc ho hk nt np 0 2000 f (by omega) (by omega) (fun k hk => by rw [hf k hk]; rfl)
  exact ⟨sm', by rw [zf_Ne_sumByTimes, ef, pz_bs]; exact e, h⟩
/-- the total of a good and a kind -/
def TX (np : Nat) (po pi pk : Nat → Int32) (pg : Nat → Int64) (nc : Nat) (cp : Nat → Int32) (cd : Nat → Int64) (ck : Nat → Int32) (cg : Nat → Int64) (d : Int64) (g k : Nat) : Int64 := sg (fun j => if kd pk nc cp cd ck d j = nI k then sg (fun t => LA np po pi (e1 g) t (ow po j)) 8 * gr pg nc cp cd cg d j else 0) np
theorem px_sw (hp : np ≤ 24) (hc : nc ≤ 20) (ho : HO np po) (hi : HI np pi) (hk : HK np (kd pk nc cp cd ck d)) {g : Nat} (hg : g < 8) (sm nt nl nd : Nat → Int64) : ∃ s1 a b c, zf_Ne_sumWithin (nI g) d (nI np) sm po pk pg pi (nI nc) cp cd ck cg nt nl nd = some (s1, a, b, c) ∧ ∀ k, k < 5 → s1 k = TX np po pi pk pg nc cp cd ck cg d g k := by
  obtain ⟨a, b, c, e, h⟩ := px_cw hp ho hi hg nt nl nd
  obtain ⟨s1, e2, h2⟩ := px_sb (pg := pg) (cg := cg) hp hc ho hk a sm
  refine ⟨s1, a, b, c, by rw [zf_Ne_sumWithin, e, pz_bs]; simp only; rw [e2, pz_bs], fun k hk5 => ?_⟩
  rw [h2 k hk5, TX]
  refine sg_congr (fun j hj => ?_)
  rw [h _ (ho.at_ hj).2]
end PTS
