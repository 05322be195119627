/-! PURE: score: the text, both ways -/
theorem wd_in (ft : Nat → Int32) (s l : Nat) : wd ft s l = -12 ∨ ¬ wd ft s l < (-11 : Int32) := by
  unfold wd
  split
  · refine Or.inr ?_
    repeat' split
    all_goals decide
  · split
    · rename_i h
      refine Or.inr (fun q => ?_)
      obtain ⟨-, -, h1, h2⟩ := h
      have h2' : ¬ (57 : Int32) < ft (s + 1) := fun z => h2 (by
        rw [Int32.lt_iff_toInt_lt, show (57 : Int32).toInt = 57 from rfl] at z
        rw [Int32.lt_iff_toInt_lt, show (52 : Int32).toInt = 52 from rfl]
        omega)
      obtain ⟨d1, d2⟩ := dg_ok h1 h2'
      rw [d2] at q
      rcases (show dg (ft (s + 1)) = 0 ∨ dg (ft (s + 1)) = 1 ∨ dg (ft (s + 1)) = 2 ∨ dg (ft (s + 1)) = 3 ∨ dg (ft (s + 1)) = 4 ∨ dg (ft (s + 1)) = 5 ∨ dg (ft (s + 1)) = 6 ∨ dg (ft (s + 1)) = 7 ∨ dg (ft (s + 1)) = 8 ∨ dg (ft (s + 1)) = 9 by omega) with e | e | e | e | e | e | e | e | e | e <;> rw [e] at q <;> revert q <;> decide
    · split
      · exact Or.inr (by decide)
      · split
        · exact Or.inr (by decide)
        · split
          · exact Or.inl rfl
          · rename_i h
            exact nm_in ft l s 0 (pw_10 h)
theorem dp_congr {f g : Nat → Int32} : ∀ {k : Nat}, (∀ j, j < k → f j = g j) → dp f k = dp g k
  | 0, _ => rfl
  | k + 1, h => by rw [dp, dp, h k (Nat.lt_succ_self k), dp_congr (fun j hj => h j (Nat.lt_succ_of_lt hj))]
theorem dp_upd {f : Nat → Int32} {c k : Nat} {w : Int32} (h : k ≤ c) : dp (upd f c w) k = dp f k := dp_congr (fun j hj => by rw [pz_upd, if_neg (by omega)])
theorem dp_push {f : Nat → Int32} {c : Nat} {w : Int32} : dp (upd f c w) (c + 1) = if (-7 : Int32) < w then dp f c + 1 else dp f c - 1 := by
  rw [dp, dp_upd (Nat.le_refl c), pz_upd, if_pos rfl]
def JS (c : Nat) (fr nw : Nat → Int32) : Prop := (∀ j, j < c → fr j = nw j) ∧ (∀ j, j < c → ¬ fr j < (-11 : Int32)) ∧ ∀ j, j < c → ¬ (-7 : Int32) < fr j → 2 ≤ dp fr j
theorem JS.push {c : Nat} {fr nw : Nat → Int32} (h : JS c fr nw) {w : Int32} (h1 : ¬ w < (-11 : Int32)) (h2 : ¬ (-7 : Int32) < w → 2 ≤ dp fr c) : JS (c + 1) (upd fr c w) (upd nw c w) := by
  obtain ⟨a, b, d⟩ := h
  refine ⟨fun j hj => ?_, fun j hj => ?_, fun j hj q => ?_⟩
  · rw [pz_upd, pz_upd]
    by_cases z : j = c
    · rw [if_pos z, if_pos z]
    · rw [if_neg z, if_neg z]; exact a j (by omega)
  · rw [pz_upd]
    by_cases z : j = c
    · rw [if_pos z]; exact h1
    · rw [if_neg z]; exact b j (by omega)
  · rw [dp_upd (by omega)]
    rw [pz_upd] at q
    by_cases z : j = c
    · rw [if_pos z] at q; rw [z]; exact h2 q
    · rw [if_neg z] at q; exact d j (by omega) q
/-- both ways end alike -/
def SR (X : Option (Int32 × Int32 × Int32 × Int32 × Int32 × (Nat → Int32) × (Nat → Int32))) (M : Option (Int32 × Int32 × Int32 × Int32 × (Nat → Int32) × (Nat → Int32))) : Prop := ∃ a wn fw hf rc rd fr nw, IF wn fw hf ∧ X = some (a, 0, rc, rd, nI wn, fr, fw) ∧ M = some (a, 0, nI wn, hf, fw, nw)
theorem pm_copy (ft nw : Nat → Int32) {c : Nat} (hc : c ≤ 150) (v2 v3 v4 mwc mhf : Int32) : ∀ (m k n : Nat) (wo : Nat → Int32), k + m = c → m < n → ∃ wo', zf_Mo_score_L168 (nI c) v2 v3 v4 0 mwc mhf nw ft n (nI k) wo = some (nI c, 0, nI c, 1, wo', nw) ∧ ∀ j, wo' j = if k ≤ j ∧ j < c then nw j else wo j := by
  intro m
  induction m with
  | zero =>
    intro k n wo hk hn
    obtain ⟨n, rfl⟩ : ∃ q, n = q + 1 := ⟨n - 1, by omega⟩
    have e : k = c := by omega
    subst e
    exact ⟨wo, by rw [zf_Mo_score_L168, if_pos (nI_le (Nat.le_refl _) (by omega))], fun j => by rw [if_neg (by omega)]⟩
  | succ m ih =>
    intro k n wo hk hn
    obtain ⟨n, rfl⟩ : ∃ q, n = q + 1 := ⟨n - 1, by omega⟩
    obtain ⟨wo', a, b⟩ := ih (k + 1) n (upd wo k (nw k)) (by omega) (by omega)
    refine ⟨wo', ?_, fun j => ?_⟩
    · rw [zf_Mo_score_L168, if_neg (nI_ge (show k < c by omega) (by omega))]
      simp (disch := omega) only [nI_clamp, pz_i2, nI_1]
      exact a
    · rw [b j, pz_upd]
      by_cases z : j = k
      · subst z
        rw [if_neg (by omega), if_pos rfl, if_pos (by omega)]
      · rw [if_neg z]
        by_cases z2 : k + 1 ≤ j ∧ j < c
        · rw [if_pos z2, if_pos (by omega)]
        · rw [if_neg z2, if_neg (by omega)]
section PTE
variable {ft fw : Nat → Int32} {tn wn : Nat} {hf : Int32}
theorem ps_fin (ht : tn ≤ 300) (hF : IF wn fw hf) {c : Nat} {fr nw : Nat → Int32} (hc : 2 * c ≤ tn + 1) (hJ : JS c fr nw) (st : Int32) (n n' : Nat) : SR (zf_Fo_readText_L24 (nI tn) 0 (nI wn) fw ft (n + 1) st (nI (tn + 1)) (nI c) (nI (dp fr c)) fr) (zf_Mo_score_L9 (nI tn) (nI wn) hf fw ft (n' + 1) (nI c) (nI (dp fr c)) (-1) (nI tn) nw) := by
  have hd := dp_le fr c
  have c1 : ¬ (0 : Int32) ≤ -1 := by decide
  have c2 : (-1 : Int32) < 0 := by decide
  rw [zf_Fo_readText_L24, if_pos (nI_lt (Nat.lt_succ_self tn) (by omega)), zf_Mo_score_L9, if_pos (nI_le (Nat.le_refl _) (by omega)), if_neg c1]
  by_cases h : dp fr c = 1
  · have e1 : nI (dp fr c) = (1 : Int32) := by rw [h]; rfl
    obtain ⟨wo', a, b⟩ := pm_copy ft nw (show c ≤ 150 by omega) (nI (dp fr c)) (-1) (nI tn) (nI wn) hf c 0 2000 fw (by omega) (by omega)
    have hc0 : 0 < c := by
      rcases Nat.eq_zero_or_pos c with z | z
      · rw [z, dp] at h; omega
      · exact z
    have ew : wo' = va_cpy fr fw 0 0 c := by
      funext j
      rw [b j]
      by_cases z : j < c
      · rw [if_pos ⟨by omega, z⟩, pk_cpy_in (by omega) (by omega), hJ.1 _ (by omega)]
        simp
      · rw [if_neg (by omega), pk_cpy_out (by omega)]
    have eq1 : ∀ j, j < c → va_cpy fr fw 0 0 c j = fr j := fun j hj => by rw [pk_cpy_in (by omega) (by omega)]; simp
    refine ⟨nI c, c, va_cpy fr fw 0 0 c, 1, nI c, nI (dp fr c), fr, nw, ⟨by omega, Or.inr ⟨hc0, rfl, fun j hj => ?_, fun j hj q => ?_, ?_⟩⟩, ?_, ?_⟩
    · rw [eq1 j hj]; exact hJ.2.1 j hj
    · rw [eq1 j hj] at q
      rw [dp_congr (g := fr) (fun i hi => eq1 i (by omega))]
      exact hJ.2.2 j hj q
    · rw [dp_congr (g := fr) eq1, h]
    · rw [if_pos e1, if_neg]
      · simp (disch := omega) only [nI_clamp]
        rfl
      · simp (disch := omega) only [nI_clamp]
        have : (0 : Int32).toNatClampNeg = 0 := rfl
        rw [this]
        rintro (q | q | q | q | q)
        · exact absurd q (by decide)
        · exact absurd q (by decide)
        · exact nI_pos (by omega) q
        · omega
        · omega
    · rw [if_pos e1, if_pos c2, ← ew]
      exact a
  · have e1 : ¬ nI (dp fr c) = (1 : Int32) := fun q => h ((nI_eq (b := 1) (by omega) (by omega)).mp q)
    exact ⟨_, wn, fw, hf, nI c, nI (dp fr c), fr, nw, hF, by rw [if_neg e1], by rw [if_neg e1, if_neg (nI_pos (by omega))]⟩
def gap (ft : Nat → Int32) (k : Nat) : Prop := ft k = 32 ∨ ft k = 10
theorem px_gap {k : Nat} : (gap ft k → zf_Fo_isGap (ft k) = some 1 ∧ zf_Mo_isBlank (ft k) = some 1) ∧ (¬ gap ft k → zf_Fo_isGap (ft k) = some 0 ∧ zf_Mo_isBlank (ft k) = some 0) := by
  constructor
  · rintro (h | h)
    · exact ⟨by rw [zf_Fo_isGap, if_pos h], by rw [zf_Mo_isBlank, if_pos h]⟩
    · have n : ¬ ft k = 32 := by rw [h]; decide
      exact ⟨by rw [zf_Fo_isGap, if_neg n, if_pos h], by rw [zf_Mo_isBlank, if_neg n, if_pos h]⟩
  · intro h
    have n1 : ¬ ft k = 32 := fun q => h (Or.inl q)
    have n2 : ¬ ft k = 10 := fun q => h (Or.inr q)
    exact ⟨by rw [zf_Fo_isGap, if_neg n1, if_neg n2], by rw [zf_Mo_isBlank, if_neg n1, if_neg n2]⟩
theorem p_wend : ∀ (m k : Nat), k + m = tn → ∃ e, k ≤ e ∧ e ≤ tn ∧ (∀ i, k ≤ i → i < e → ¬ gap ft i) ∧ (e = tn ∨ gap ft e) := by
  intro m
  induction m with
  | zero => intro k hk; exact ⟨k, by omega, by omega, fun i h1 h2 => by omega, Or.inl (by omega)⟩
  | succ m ih =>
    intro k hk
    by_cases h : gap ft k
    · exact ⟨k, by omega, by omega, fun i h1 h2 => by omega, Or.inr h⟩
    · obtain ⟨e, h1, h2, h3, h4⟩ := ih (k + 1) (by omega)
      refine ⟨e, by omega, h2, fun i z1 z2 => ?_, h4⟩
      by_cases z : i = k
      · rw [z]; exact h
      · exact h3 i (by omega) z2
theorem px_scan (ht : tn ≤ 300) (s xwc rc rd : Int32) (fr : Nat → Int32) : ∀ (d k n : Nat), k + d ≤ tn → (∀ i, k ≤ i → i < k + d → ¬ gap ft i) → zf_Fo_readText_L24 (nI tn) 0 xwc fw ft (n + d) s (nI k) rc rd fr = zf_Fo_readText_L24 (nI tn) 0 xwc fw ft n s (nI (k + d)) rc rd fr := by
  intro d
  induction d with
  | zero => intro k n _ _; rfl
  | succ d ih =>
    intro k n hk h
    have hkt : k < tn := by omega
    rw [show n + (d + 1) = (n + d) + 1 by omega, zf_Fo_readText_L24, if_neg (nI_nlt (by omega) (by omega)), if_neg (fun q => by have := (nI_eq (by omega) (by omega)).mp q; omega)]
    simp (disch := omega) only [nI_clamp, pz_i2, nI_1]
    rw [(px_gap.2 (h k (by omega) (by omega))).1, pz_bs, if_pos rfl, ih (k + 1) n (by omega) (fun i h1 h2 => h i (by omega) (by omega)), show k + 1 + d = k + (d + 1) by omega]
theorem pm_scan (ht : tn ≤ 300) (v1 v2 v3 v5 mwc mhf : Int32) (nw : Nat → Int32) (K : Int32 → Int32 → Int32 → Int32 → (Nat → Int32) → Option (Int32 × Int32 × Int32 × Int32 × (Nat → Int32) × (Nat → Int32))) : ∀ (d k n : Nat), k + d ≤ tn → (∀ i, k ≤ i → i < k + d → ¬ gap ft i) → zf_Mo_score_L45 v1 v2 v3 v5 (nI tn) mwc mhf fw nw ft K (n + d) (nI k) = zf_Mo_score_L45 v1 v2 v3 v5 (nI tn) mwc mhf fw nw ft K n (nI (k + d)) := by
  intro d
  induction d with
  | zero => intro k n _ _; rfl
  | succ d ih =>
    intro k n hk h
    have hkt : k < tn := by omega
    rw [show n + (d + 1) = (n + d) + 1 by omega, zf_Mo_score_L45, if_neg (nI_ge hkt (by omega))]
    simp (disch := omega) only [nI_clamp, pz_i2, nI_1]
    rw [(px_gap.2 (h k (by omega) (by omega))).2, pz_bs, if_pos rfl, ih (k + 1) n (by omega) (fun i h1 h2 => h i (by omega) (by omega)), show k + 1 + d = k + (d + 1) by omega]
/-- the word's step, first way -/
def stX (xwc : Int32) (fw ft : Nat → Int32) (tn n e : Nat) (w rc rd : Int32) (fr : Nat → Int32) : Option (Int32 × Int32 × Int32 × Int32 × Int32 × (Nat → Int32) × (Nat → Int32)) := (zf_Fo_takeWord w rc rd fr).bind (fun y => if y.1 = 0 then some ((-1 : Int32) - y.2.1, 0, y.2.1, y.2.2.1, xwc, y.2.2.2, fw) else zf_Fo_readText_L24 (nI tn) 0 xwc fw ft n (nI (e + 1)) (nI (e + 1)) y.2.1 y.2.2.1 y.2.2.2)
theorem px_take (ht : tn ≤ 300) {s e : Nat} (hs : s < e) (he : e ≤ tn) (hg : e = tn ∨ gap ft e) (xwc rc rd : Int32) (fr : Nat → Int32) (n : Nat) : zf_Fo_readText_L24 (nI tn) 0 xwc fw ft (n + 1) (nI s) (nI e) rc rd fr = stX xwc fw ft tn n e (wd ft s (e - s)) rc rd fr := by
  have ew : zf_Fo_wordAt (nI s) (nI e) ft = some (wd ft s (e - s)) := by
    have := px_word ft (s := s) (l := e - s) (by omega) (by omega)
    rw [show s + (e - s) = e by omega] at this
    exact this
  rw [zf_Fo_readText_L24, if_neg (nI_nlt (by omega) (by omega)), stX]
  by_cases q : e = tn
  · subst q
    rw [if_pos rfl, if_neg (nI_ge hs (by omega)), ew, pz_bs, nI_1]
  · rw [if_neg (fun z => q ((nI_eq (by omega) (by omega)).mp z))]
    simp (disch := omega) only [nI_clamp, pz_i2, nI_1]
    rw [(px_gap.1 (hg.resolve_left q)).1, pz_bs, if_neg pz_b1, if_neg (nI_ge hs (by omega)), ew, pz_bs]
/-- the word's step, second way -/
def stM (K : Int32 → Int32 → Int32 → Int32 → (Nat → Int32) → Option (Int32 × Int32 × Int32 × Int32 × (Nat → Int32) × (Nat → Int32))) (w v1 v2 v3 : Int32) (e : Nat) (nw : Nat → Int32) : Option (Int32 × Int32 × Int32 × Int32 × (Nat → Int32) × (Nat → Int32)) := if w = (-12 : Int32) then K v1 v2 v1 (nI e) nw else ((zf_Mo_isOfTwo w).bind (fun y22 => (if y22 = 0 then (if v1 < 0 ∨ 150 ≤ v1.toNatClampNeg then none else ((zf_Mo_isOfTwo w).bind (fun y25 => (if y25 = 0 then K (v1 + (1 : Int32)) (v2 + (1 : Int32)) v3 (nI e) (upd nw v1.toNatClampNeg w) else K (v1 + (1 : Int32)) (v2 + (-1 : Int32)) v3 (nI e) (upd nw v1.toNatClampNeg w))))) else (if (2 : Int32) ≤ v2 then (if v1 < 0 ∨ 150 ≤ v1.toNatClampNeg then none else ((zf_Mo_isOfTwo w).bind (fun y29 => (if y29 = 0 then K (v1 + (1 : Int32)) (v2 + (1 : Int32)) v3 (nI e) (upd nw v1.toNatClampNeg w) else K (v1 + (1 : Int32)) (v2 + (-1 : Int32)) v3 (nI e) (upd nw v1.toNatClampNeg w))))) else K v1 v2 v1 (nI e) nw))))
theorem pm_take (ht : tn ≤ 300) {s e : Nat} (hs : s < e) (he : e ≤ tn) (hg : e = tn ∨ gap ft e) (v1 v2 v3 mwc mhf : Int32) (nw : Nat → Int32) (K : Int32 → Int32 → Int32 → Int32 → (Nat → Int32) → Option (Int32 × Int32 × Int32 × Int32 × (Nat → Int32) × (Nat → Int32))) (n : Nat) : zf_Mo_score_L45 v1 v2 v3 (nI s) (nI tn) mwc mhf fw nw ft K (n + 1) (nI e) = stM K (wd ft s (e - s)) v1 v2 v3 e nw := by
  have ew : zf_Mo_wordAt (nI s) (nI e - nI s) ft = some (wd ft s (e - s)) := by
    rw [pk_sub (by omega)]
    exact pm_word ft (by omega) (by omega)
  rw [zf_Mo_score_L45, stM]
  by_cases q : e = tn
  · subst q
    rw [if_pos (nI_le (Nat.le_refl _) (by omega)), ew, pz_bs]
  · rw [if_neg (nI_ge (show e < tn by omega) (by omega))]
    rw [if_neg (nI_in (show e < 300 by omega) (by omega)), nI_clamp (by omega), (px_gap.1 (hg.resolve_left q)).2, pz_bs, if_neg pz_b1, ew, pz_bs]
theorem ps_loop (ht : tn ≤ 300) (hF : IF wn fw hf) : ∀ (m k c : Nat) (n n' : Nat) (fr nw : Nat → Int32), k + m = tn → m + 2 ≤ n → m + 2 ≤ n' → 2 * c ≤ k → JS c fr nw → SR (zf_Fo_readText_L24 (nI tn) 0 (nI wn) fw ft n (nI k) (nI k) (nI c) (nI (dp fr c)) fr) (zf_Mo_score_L9 (nI tn) (nI wn) hf fw ft n' (nI c) (nI (dp fr c)) (-1) (nI k) nw) := by
  intro m
  induction m using Nat.strongRecOn with
  | ind m ih =>
  intro k c n n' fr nw hk hn hn' hc hJ
  have hd := dp_le fr c
  have c1 : ¬ (0 : Int32) ≤ -1 := by decide
  by_cases hkt : k = tn
  · subst hkt
    obtain ⟨n, rfl⟩ : ∃ q, n = (q + 1) + 1 := ⟨n - 2, by omega⟩
    obtain ⟨n', rfl⟩ : ∃ q, n' = q + 1 := ⟨n' - 1, by omega⟩
    rw [zf_Fo_readText_L24, if_neg (nI_nlt (Nat.le_refl _) (by omega)), if_pos rfl, if_pos (nI_le (Nat.le_refl _) (by omega)), nI_1]
    exact ps_fin ht hF (by omega) hJ _ n n'
  · have hlt : k < tn := by omega
    obtain ⟨n', rfl⟩ : ∃ q, n' = q + 1 := ⟨n' - 1, by omega⟩
    by_cases hgap : gap ft k
    · obtain ⟨n, rfl⟩ : ∃ q, n = q + 1 := ⟨n - 1, by omega⟩
      have r := ih (m - 1) (by omega) (k + 1) c n n' fr nw (by omega) (by omega) (by omega) (by omega) hJ
      rw [zf_Fo_readText_L24, if_neg (nI_nlt (by omega) (by omega)), if_neg (fun z => hkt ((nI_eq (by omega) (by omega)).mp z)), zf_Mo_score_L9, if_neg (nI_ge hlt (by omega)), if_neg c1]
      simp (disch := omega) only [nI_clamp, pz_i2, nI_1]
      rw [(px_gap.1 hgap).1, pz_bs, if_neg pz_b1, if_pos (nI_le (Nat.le_refl _) (by omega)), (px_gap.1 hgap).2, pz_bs, if_neg pz_b1]
      exact r
    · obtain ⟨e, h1, h2, h3, h4⟩ := p_wend (ft := ft) (tn := tn) m k hk
      have hke : k < e := by
        rcases Nat.lt_or_ge k e with z | z
        · exact z
        · have z2 : e = k := by omega
          rcases h4 with h4 | h4
          · omega
          · rw [z2] at h4; exact absurd h4 hgap
      have eX : zf_Fo_readText_L24 (nI tn) 0 (nI wn) fw ft n (nI k) (nI k) (nI c) (nI (dp fr c)) fr = stX (nI wn) fw ft tn (n - (e - k) - 1) e (wd ft k (e - k)) (nI c) (nI (dp fr c)) fr := by
        have a := px_scan (ft := ft) (fw := fw) ht (nI k) (nI wn) (nI c) (nI (dp fr c)) fr (e - k) k (n - (e - k) - 1 + 1) (by omega) (fun i z1 z2 => h3 i z1 (by omega))
        rw [show n - (e - k) - 1 + 1 + (e - k) = n by omega, show k + (e - k) = e by omega] at a
        rw [a]
        exact px_take ht hke h2 h4 (nI wn) (nI c) (nI (dp fr c)) fr _
      have eM : zf_Mo_score_L9 (nI tn) (nI wn) hf fw ft (n' + 1) (nI c) (nI (dp fr c)) (-1) (nI k) nw = stM (fun uv1 uv2 uv3 uv4 umnw => zf_Mo_score_L9 (nI tn) (nI wn) hf fw ft n' uv1 uv2 uv3 uv4 umnw) (wd ft k (e - k)) (nI c) (nI (dp fr c)) (-1) e nw := by
        rw [zf_Mo_score_L9, if_neg (nI_ge hlt (by omega)), if_neg c1]
        simp (disch := omega) only [nI_clamp, pz_i2]
        rw [(px_gap.2 hgap).2, pz_bs, if_pos rfl]
        have a := pm_scan (ft := ft) (fw := fw) ht (nI c) (nI (dp fr c)) (-1) (nI k) (nI wn) hf nw (fun uv1 uv2 uv3 uv4 umnw => zf_Mo_score_L9 (nI tn) (nI wn) hf fw ft n' uv1 uv2 uv3 uv4 umnw) (e - k) k (2000 - (e - k) - 1 + 1) (by omega) (fun i z1 z2 => h3 i z1 (by omega))
        rw [show 2000 - (e - k) - 1 + 1 + (e - k) = 2000 by omega, show k + (e - k) = e by omega] at a
        rw [a]
        exact pm_take ht hke h2 h4 (nI c) (nI (dp fr c)) (-1) (nI wn) hf nw _ _
      rw [eX, eM]
      generalize hw : wd ft k (e - k) = w
      have hwi : w = -12 ∨ ¬ w < (-11 : Int32) := by rw [← hw]; exact wd_in ft k (e - k)
      -- the reference stops with a wrong word
      have mwrong : zf_Mo_score_L9 (nI tn) (nI wn) hf fw ft n' (nI c) (nI (dp fr c)) (nI c) (nI e) nw = some ((-1 : Int32) - nI c, 0, nI wn, hf, fw, nw) := by
        obtain ⟨q, rfl⟩ : ∃ q, n' = q + 1 := ⟨n' - 1, by omega⟩
        rw [zf_Mo_score_L9]
        have p0 : (0 : Int32) ≤ nI c := nI_pos' (by omega)
        have p1 : ¬ nI c < 0 := nI_pos (by omega)
        by_cases z : nI tn ≤ nI e
        · rw [if_pos z, if_pos p0, if_neg p1]
        · rw [if_neg z, if_pos p0, if_pos p0, if_neg p1]
      have wrong : ∀ {R : Prop}, zf_Fo_takeWord w (nI c) (nI (dp fr c)) fr = some (0, nI c, nI (dp fr c), fr) → stM (fun uv1 uv2 uv3 uv4 umnw => zf_Mo_score_L9 (nI tn) (nI wn) hf fw ft n' uv1 uv2 uv3 uv4 umnw) w (nI c) (nI (dp fr c)) (-1) e nw = zf_Mo_score_L9 (nI tn) (nI wn) hf fw ft n' (nI c) (nI (dp fr c)) (nI c) (nI e) nw → SR (stX (nI wn) fw ft tn (n - (e - k) - 1) e w (nI c) (nI (dp fr c)) fr) (stM (fun uv1 uv2 uv3 uv4 umnw => zf_Mo_score_L9 (nI tn) (nI wn) hf fw ft n' uv1 uv2 uv3 uv4 umnw) w (nI c) (nI (dp fr c)) (-1) e nw) := fun a b => by
        refine ⟨(-1 : Int32) - nI c, wn, fw, hf, nI c, nI (dp fr c), fr, nw, hF, ?_, ?_⟩
        · rw [stX, a, pz_bs]
          simp only [if_true]
        · rw [b, mwrong]
      -- a word that is taken
      have taken : ∀ {R : Prop}, ¬ w < (-11 : Int32) → (¬ (-7 : Int32) < w → 2 ≤ dp fr c) → zf_Fo_takeWord w (nI c) (nI (dp fr c)) fr = some (1, nI (c + 1), nI (dp (upd fr c w) (c + 1)), upd fr c w) → stM (fun uv1 uv2 uv3 uv4 umnw => zf_Mo_score_L9 (nI tn) (nI wn) hf fw ft n' uv1 uv2 uv3 uv4 umnw) w (nI c) (nI (dp fr c)) (-1) e nw = zf_Mo_score_L9 (nI tn) (nI wn) hf fw ft n' (nI (c + 1)) (nI (dp (upd fr c w) (c + 1))) (-1) (nI e) (upd nw c w) → SR (stX (nI wn) fw ft tn (n - (e - k) - 1) e w (nI c) (nI (dp fr c)) fr) (stM (fun uv1 uv2 uv3 uv4 umnw => zf_Mo_score_L9 (nI tn) (nI wn) hf fw ft n' uv1 uv2 uv3 uv4 umnw) w (nI c) (nI (dp fr c)) (-1) e nw) := fun q1 q2 a b => by
        have hJ' := hJ.push q1 q2
        rw [b, stX, a, pz_bs]
        simp only [if_neg pz_b1]
        by_cases z : e = tn
        · obtain ⟨x, hx⟩ : ∃ x, n - (e - k) - 1 = x + 1 := ⟨n - (e - k) - 2, by omega⟩
          obtain ⟨y, rfl⟩ : ∃ q, n' = q + 1 := ⟨n' - 1, by omega⟩
          rw [hx, z]
          exact ps_fin ht hF (by omega) hJ' _ x y
        · have ge : gap ft e := h4.resolve_left z
          obtain ⟨y, rfl⟩ : ∃ q, n' = q + 1 := ⟨n' - 1, by omega⟩
          have r := ih (tn - (e + 1)) (by omega) (e + 1) (c + 1) (n - (e - k) - 1) y (upd fr c w) (upd nw c w) (by omega) (by omega) (by omega) (by omega) hJ'
          have eM2 : zf_Mo_score_L9 (nI tn) (nI wn) hf fw ft (y + 1) (nI (c + 1)) (nI (dp (upd fr c w) (c + 1))) (-1) (nI e) (upd nw c w) = zf_Mo_score_L9 (nI tn) (nI wn) hf fw ft y (nI (c + 1)) (nI (dp (upd fr c w) (c + 1))) (-1) (nI (e + 1)) (upd nw c w) := by
            rw [zf_Mo_score_L9, if_neg (nI_ge (show e < tn by omega) (by omega)), if_neg c1]
            rw [if_neg (nI_in (show e < 300 by omega) (by omega)), nI_clamp (by omega), (px_gap.1 ge).2, pz_bs, if_neg pz_b1, nI_1]
          rw [eM2]
          exact r
      have l150 : nI c < (150 : Int32) := nI_lt (b := 150) (by omega) (by omega)
      rcases hwi with hno | hok
      · have j0 : zf_Fo_joinsTwo w = some 0 := by rw [hno]; rfl
        refine wrong (R := True) ?_ ?_
        · rw [zf_Fo_takeWord, j0, pz_bs, if_pos hno]
        · rw [stM, if_pos hno]
      · have hn12 : ¬ w = -12 := fun z => hok (by rw [z]; decide)
        by_cases hop : (-7 : Int32) < w
        · have j0 : zf_Fo_joinsTwo w = some 0 := by rw [zf_Fo_joinsTwo, if_pos hop]
          have o0 : zf_Mo_isOfTwo w = some 0 := by rw [zf_Mo_isOfTwo, if_pos hop]
          have ed : dp (upd fr c w) (c + 1) = dp fr c + 1 := by rw [dp_push, if_pos hop]
          refine taken (R := True) hok (fun z => absurd hop z) ?_ ?_
          · rw [zf_Fo_takeWord, j0, pz_bs, if_neg hn12, if_pos rfl, if_pos l150, ed]
            simp (disch := omega) only [nI_clamp, pz_i2, nI_1, if_true]
          · rw [stM, if_neg hn12, o0, pz_bs, if_pos rfl, ed]
            simp (disch := omega) only [nI_clamp, pz_i2, nI_1, pz_bs, if_true]
        · have j1 : zf_Fo_joinsTwo w = some 1 := by rw [zf_Fo_joinsTwo, if_neg hop, if_neg hok]
          have o1 : zf_Mo_isOfTwo w = some 1 := by rw [zf_Mo_isOfTwo, if_neg hop]
          by_cases h2d : 2 ≤ dp fr c
          · have ed : dp (upd fr c w) (c + 1) = dp fr c - 1 := by rw [dp_push, if_neg hop]
            have g1 : nI (dp fr c) + (-1 : Int32) = nI (dp fr c - 1) := by
              obtain ⟨z, hz⟩ : ∃ z, dp fr c = z + 1 := ⟨dp fr c - 1, by omega⟩
              rw [hz, pk_m1]; rfl
            have l2 : ¬ nI (dp fr c) < (2 : Int32) := nI_nlt (b := 2) h2d (by omega)
            have g2 : (2 : Int32) ≤ nI (dp fr c) := nI_le (a := 2) h2d (by omega)
            refine taken (R := True) hok (fun _ => h2d) ?_ ?_
            · rw [zf_Fo_takeWord, j1, pz_bs, if_neg hn12, if_neg pz_b1, if_neg l2, if_pos l150, ed, g1]
              simp (disch := omega) only [nI_clamp, pz_i2, nI_1, if_neg pz_b1]
            · rw [stM, if_neg hn12, o1, pz_bs, if_neg pz_b1, if_pos g2, ed, g1]
              simp (disch := omega) only [nI_clamp, pz_i2, nI_1, pz_bs, if_neg pz_b1]
          · have l2 : nI (dp fr c) < (2 : Int32) := nI_lt (b := 2) (by omega) (by omega)
            have g2 : ¬ (2 : Int32) ≤ nI (dp fr c) := nI_ge (b := 2) (by omega) (by omega)
            refine wrong (R := True) ?_ ?_
            · rw [zf_Fo_takeWord, j1, pz_bs, if_neg hn12, if_neg pz_b1, if_pos l2]
            · rw [stM, if_neg hn12, o1, pz_bs, if_neg pz_b1, if_neg g2]
theorem pp_score (ht : tn ≤ 300) (hF : IF wn fw hf) (xrc xrd : Int32) (fr nw : Nat → Int32) : ∃ a wn' fw' hf' rc rd fr' nw', IF wn' fw' hf' ∧ zf_MP_score (nI tn) xrc xrd (nI wn) ft fr fw = some (a, 0, rc, rd, nI wn', fr', fw') ∧ zf_Mo_score (nI tn) (nI wn) hf ft fw nw = some (a, 0, nI wn', hf', fw', nw') := by
  obtain ⟨a, wn', fw', hf', rc, rd, fr', nw', h1, h2, h3⟩ := ps_loop (ft := ft) ht hF tn 0 0 2000 2000 fr nw (by omega) (by omega) (by omega) (by omega) ⟨fun j hj => absurd hj (Nat.not_lt_zero j), fun j hj => absurd hj (Nat.not_lt_zero j), fun j hj => absurd hj (Nat.not_lt_zero j)⟩
  have h2 : zf_Fo_readText (nI tn) xrc xrd (nI wn) ft fr fw = some (a, 0, rc, rd, nI wn', fr', fw') := h2
  exact ⟨a, wn', fw', hf', rc, rd, fr', nw', h1, by rw [zf_MP_score, h2, pz_bs], h3⟩
end PTE
