/-! PURE: the state, and the calls that change it -/
def HG (n : Nat) (f : Nat → Int64) : Prop := ∀ j, j < n → ∃ w, w ≤ 1000000000 ∧ f j = lN w
theorem pz_rng (u c : Int32) : zf_Mo_isIn u.toInt64 0 c.toInt64 = (if u < 0 then some 0 else (if c < u then some 0 else some 1)) := by
  unfold zf_Mo_isIn
  have h1 : (u.toInt64 < 0) ↔ u < 0 := by rw [Int64.lt_iff_toInt_lt, Int32.lt_iff_toInt_lt, Int32.toInt_toInt64]; rfl
  have h2 : (c.toInt64 < u.toInt64) ↔ c < u := by rw [Int64.lt_iff_toInt_lt, Int32.lt_iff_toInt_lt, Int32.toInt_toInt64, Int32.toInt_toInt64]
  by_cases a : u < 0
  · rw [if_pos a, if_pos (h1.mpr a)]
  · rw [if_neg a, if_neg (fun q => a (h1.mp q))]
    by_cases b : c < u
    · rw [if_pos b, if_pos (h2.mpr b)]
    · rw [if_neg b, if_neg (fun q => b (h2.mp q))]
theorem pz_life (u : Int32) : zf_Mo_isIn u.toInt64 (0 : Int64) (200 : Int64) = zf_MP_isLife u := (pz_rng u 200).trans rfl
theorem pz_lt8 (u : Int32) : (7 : Int32) < u ↔ (8 : Int32) ≤ u := by
  rw [Int32.lt_iff_toInt_lt, Int32.le_iff_toInt_le, show (7 : Int32).toInt = 7 from rfl, show (8 : Int32).toInt = 8 from rfl]
  omega
theorem pz_pers (u : Int32) : zf_Mo_isIn u.toInt64 (0 : Int64) (7 : Int64) = zf_MP_isPerson u := by
  rw [show zf_Mo_isIn u.toInt64 (0 : Int64) (7 : Int64) = _ from pz_rng u 7, zf_MP_isPerson]
  by_cases a : u < 0
  · rw [if_pos a, if_pos a]
  · rw [if_neg a, if_neg a]
    by_cases b : (7 : Int32) < u
    · rw [if_pos b, if_pos ((pz_lt8 u).mp b)]
    · rw [if_neg b, if_neg (fun q => b ((pz_lt8 u).mpr q))]
/-- a good number: it answers 1 and is under the count; else 0 -/
theorem pz_good (u : Int32) {g : Nat} (hg : g < 2 ^ 31) : (∃ k, k < g ∧ u = nI k ∧ zf_MP_isGood u (nI g) = some 1 ∧ zf_Mo_isGood u (nI g) = some 1) ∨ (zf_MP_isGood u (nI g) = some 0 ∧ zf_Mo_isGood u (nI g) = some 0) := by
  rcases pk_ix u hg with h | h | ⟨k, h1, h2⟩
  · exact Or.inr ⟨by rw [zf_MP_isGood, if_pos h], by rw [zf_Mo_isGood, if_pos h]⟩
  · by_cases q : u < 0
    · exact Or.inr ⟨by rw [zf_MP_isGood, if_pos q], by rw [zf_Mo_isGood, if_pos q]⟩
    · exact Or.inr ⟨by rw [zf_MP_isGood, if_neg q, if_pos h], by rw [zf_Mo_isGood, if_neg q, if_pos h]⟩
  · subst h2
    refine Or.inl ⟨k, h1, rfl, ?_, ?_⟩
    · rw [zf_MP_isGood, if_neg (nI_pos (by omega)), if_neg (nI_ge h1 hg)]
    · rw [zf_Mo_isGood, if_neg (nI_pos (by omega)), if_neg (nI_ge h1 hg)]
theorem pz_part (u : Int32) {g : Nat} (hg : g < 2 ^ 31) : (∃ k, k < g ∧ u = nI k ∧ zf_Pa_has u (nI g) = some 1 ∧ zf_Mo_isPart u (nI g) = some 1) ∨ (zf_Pa_has u (nI g) = some 0 ∧ zf_Mo_isPart u (nI g) = some 0) := pz_good u hg
theorem pz_kind (u : Int32) : (∃ k, k < 5 ∧ u = nI k ∧ zf_MP_isKind u = some 1 ∧ zf_Mo_isKind u = some 1) ∨ (zf_MP_isKind u = some 0 ∧ zf_Mo_isKind u = some 0) := pz_good u (g := 5) (by omega)
theorem pz_b1 : ¬ (1 : Int32) = 0 := by decide
theorem pp_good {g : Nat} (hg : g ≤ 8) : ∃ a g', g' ≤ 8 ∧ zf_MP_good (nI g) = some (a, nI g') ∧ zf_Mo_good (nI g) = some (a, nI g') := by
  by_cases h : g = 8
  · subst h
    exact ⟨-1, 8, by omega, rfl, rfl⟩
  · refine ⟨nI g + 1 - 1, g + 1, by omega, ?_, ?_⟩
    · rw [zf_MP_good, if_pos (show nI g < (8 : Int32) from nI_lt (b := 8) (by omega) (by omega)), nI_1]
    · rw [zf_Mo_good, if_neg (show ¬ nI g = (8 : Int32) from fun q => h ((nI_eq (b := 8) (by omega) (by omega)).mp q)), nI_1]
/-- what holds of parts, changes, formula -/
def IP (np : Nat) (po pk pi : Nat → Int32) (pg : Nat → Int64) : Prop := np ≤ 24 ∧ HO np po ∧ HI np pi ∧ HK np pk ∧ HG np pg ∧ ∃ rk : Nat → Nat, ∀ j, j < np → ∀ i, i < 8 → pi j = nI i → rk i < rk (ow po j)
def IC (nc : Nat) (ck : Nat → Int32) (cg : Nat → Int64) : Prop := nc ≤ 20 ∧ HK nc ck ∧ HG nc cg
theorem HG.push {n : Nat} {f : Nat → Int64} (h : HG n f) {x : Int64} {w : Nat} (hw : w ≤ 1000000000) (hx : x = lN w) : HG (n + 1) (vp_updL f n x) := fun j hj => by
  rw [pz_updL]
  by_cases q : j = n
  · rw [if_pos q]; exact ⟨w, hw, hx⟩
  · rw [if_neg q]; exact h j (by omega)
theorem HK.push {n : Nat} {f : Nat → Int32} (h : HK n f) {x : Int32} {k : Nat} (hk : k < 5) (hx : x = nI k) : HK (n + 1) (upd f n x) := fun j hj => by
  rw [pz_upd]
  by_cases q : j = n
  · rw [if_pos q]; exact ⟨k, hk, hx⟩
  · rw [if_neg q]; exact h j (by omega)
theorem HO.push {n : Nat} {f : Nat → Int32} (h : HO n f) {x : Int32} {k : Nat} (hk : k < 8) (hx : x = nI k) : HO (n + 1) (upd f n x) := fun j hj => by
  rw [pz_upd]
  by_cases q : j = n
  · rw [if_pos q]; exact ⟨k, hk, hx⟩
  · rw [if_neg q]; exact h j (by omega)
theorem HI.push {n : Nat} {f : Nat → Int32} (h : HI n f) : HI (n + 1) (upd f n (-1)) := fun j hj => by
  rw [pz_upd]
  by_cases q : j = n
  · rw [if_pos q]; exact Or.inl rfl
  · rw [if_neg q]; exact h j (by omega)
theorem pz_gram {x : Int64} (h1 : ¬ x < 0) (h2 : ¬ (1000000000 : Int64) < x) : ∃ w, w ≤ 1000000000 ∧ x = lN w := by
  obtain ⟨k, hk, e⟩ := pk_lOf h1
  refine ⟨k, ?_, e⟩
  subst e
  rw [show (1000000000 : Int64) = lN 1000000000 from rfl, pk_lLT (by omega) hk] at h2
  omega
/-- kind and grams, both ways -/
theorem pz_mat (u : Int32) (x : Int64) : (∃ k w, k < 5 ∧ u = nI k ∧ w ≤ 1000000000 ∧ x = lN w ∧ zf_MP_isMaterial u x = some 1 ∧ zf_Mo_isKind u = some 1 ∧ zf_Mo_isIn x 0 1000000000 = some 1) ∨ (zf_MP_isMaterial u x = some 0 ∧ (zf_Mo_isKind u = some 0 ∨ (zf_Mo_isKind u = some 1 ∧ zf_Mo_isIn x 0 1000000000 = some 0))) := by
  rcases pz_kind u with ⟨k, hk, e, a, b⟩ | ⟨a, b⟩
  · by_cases h1 : x < 0
    · exact Or.inr ⟨by rw [zf_MP_isMaterial, a, pz_bs, if_neg pz_b1, if_pos h1], Or.inr ⟨b, by rw [zf_Mo_isIn, if_pos h1]⟩⟩
    · by_cases h2 : (1000000000 : Int64) < x
      · exact Or.inr ⟨by rw [zf_MP_isMaterial, a, pz_bs, if_neg pz_b1, if_neg h1, if_pos h2], Or.inr ⟨b, by rw [zf_Mo_isIn, if_neg h1, if_pos h2]⟩⟩
      · obtain ⟨w, hw, ew⟩ := pz_gram h1 h2
        exact Or.inl ⟨k, w, hk, e, hw, ew, by rw [zf_MP_isMaterial, a, pz_bs, if_neg pz_b1, if_neg h1, if_neg h2], b, by rw [zf_Mo_isIn, if_neg h1, if_neg h2]⟩
  · exact Or.inr ⟨by rw [zf_MP_isMaterial, a, pz_bs, if_pos rfl], Or.inl b⟩
theorem pz_isLife (u : Int32) : zf_MP_isLife u = some 1 ∨ zf_MP_isLife u = some 0 := by
  unfold zf_MP_isLife
  by_cases a : u < 0
  · rw [if_pos a]; exact Or.inr rfl
  · rw [if_neg a]
    by_cases b : (200 : Int32) < u
    · rw [if_pos b]; exact Or.inr rfl
    · rw [if_neg b]; exact Or.inl rfl
section PCA
variable {g np nc : Nat} {po pi pk pl ver : Nat → Int32} {pg : Nat → Int64} {cp : Nat → Int32} {cd : Nat → Int64} {ck : Nat → Int32} {cg : Nat → Int64}
theorem IP.push (h : IP np po pk pi pg) (hn : np < 24) {o k w : Nat} (ho : o < 8) (hk : k < 5) (hw : w ≤ 1000000000) : IP (np + 1) (upd po np (nI o)) (upd pk np (nI k)) (upd pi np (-1)) (vp_updL pg np (lN w)) := by
  obtain ⟨h1, h2, h3, h4, h5, rk, h6⟩ := h
  refine ⟨by omega, h2.push ho rfl, h3.push, h4.push hk rfl, h5.push hw rfl, rk, fun j hj i hi e => ?_⟩
  rw [pz_upd] at e
  by_cases q : j = np
  · rw [if_pos q] at e
    exact absurd e.symm (pz_neg i (by omega))
  · rw [if_neg q] at e
    have z : ow (upd po np (nI o)) j = ow po j := by rw [ow, ow, pz_upd, if_neg q]
    rw [z]
    exact h6 j (by omega) i hi e
theorem pp_part (hg : g ≤ 8) (hI : IP np po pk pi pg) (u1 u2 : Int32) (u3 : Int64) (u5 : Int32) : ∃ a ver' np' po' pk' pg' pl' pi', IP np' po' pk' pi' pg' ∧ zf_MP_part u1 u2 u3 u5 (nI g) ver (nI np) po pk pg pl pi = some (a, ver', nI np', po', pk', pg', pl', pi') ∧ zf_Mo_part u1 u2 u3 u5 (nI g) (nI np) ver po pk pg pl pi = some (a, nI np', ver', po', pk', pg', pl', pi') := by
  have hp := hI.1
  have same : ∀ {P : Prop}, (zf_MP_part u1 u2 u3 u5 (nI g) ver (nI np) po pk pg pl pi = some (-1, ver, nI np, po, pk, pg, pl, pi)) → (zf_Mo_part u1 u2 u3 u5 (nI g) (nI np) ver po pk pg pl pi = some (-1, nI np, ver, po, pk, pg, pl, pi)) → ∃ a ver' np' po' pk' pg' pl' pi', IP np' po' pk' pi' pg' ∧ zf_MP_part u1 u2 u3 u5 (nI g) ver (nI np) po pk pg pl pi = some (a, ver', nI np', po', pk', pg', pl', pi') ∧ zf_Mo_part u1 u2 u3 u5 (nI g) (nI np) ver po pk pg pl pi = some (a, nI np', ver', po', pk', pg', pl', pi') := fun a b => ⟨-1, ver, np, po, pk, pg, pl, pi, hI, a, b⟩
  by_cases hn : np = 24
  · subst hn
    refine same (P := True) ?_ ?_
    · rw [zf_MP_part, zf_Pa_isFull, if_neg (by decide), pz_bs, if_neg pz_b1]
    · rw [zf_Mo_part, if_pos (by decide)]
  · have hlt : np < 24 := by omega
    have f1 : zf_Pa_isFull (nI np) = some 0 := by rw [zf_Pa_isFull, if_pos (show nI np < (24 : Int32) from nI_lt (b := 24) hlt (by omega))]
    have f2 : ¬ nI np = (24 : Int32) := show ¬ nI np = nI 24 from fun q => hn ((nI_eq (by omega) (by omega)).mp q)
    rcases pz_good u1 (g := g) (by omega) with ⟨o, ho, eo, a1, b1⟩ | ⟨a1, b1⟩
    · rcases pz_mat u2 u3 with ⟨k, w, hk, ek, hw, ew, a2, b2, c2⟩ | ⟨a2, b2⟩
      · rcases pz_isLife u5 with a3 | a3
        · subst eo; subst ek; subst ew
          refine ⟨nI np + 1 - 1, upd ver o (ver o + 1), np + 1, upd po np (nI o), upd pk np (nI k), vp_updL pg np (lN w), upd pl np u5, upd pi np (-1), hI.push hlt (by omega) hk hw, ?_, ?_⟩
          · rw [zf_MP_part, f1, pz_bs, if_pos rfl, a1, pz_bs, if_neg pz_b1, a2, pz_bs, if_neg pz_b1, a3, pz_bs, if_neg pz_b1, zf_Pa_add, f1, pz_bs, if_pos rfl]
            simp (disch := omega) only [nI_clamp, pz_i2, pz_bs, nI_1]
          · rw [zf_Mo_part, if_neg f2, b1, pz_bs, if_neg pz_b1, b2, pz_bs, if_neg pz_b1, c2, pz_bs, if_neg pz_b1, pz_life, a3, pz_bs, if_neg pz_b1]
            simp (disch := omega) only [nI_clamp, pz_i2, nI_1]
        · refine same (P := True) ?_ ?_
          · rw [zf_MP_part, f1, pz_bs, if_pos rfl, a1, pz_bs, if_neg pz_b1, a2, pz_bs, if_neg pz_b1, a3, pz_bs, if_pos rfl]
          · rw [zf_Mo_part, if_neg f2, b1, pz_bs, if_neg pz_b1, b2, pz_bs, if_neg pz_b1, c2, pz_bs, if_neg pz_b1, pz_life, a3, pz_bs, if_pos rfl]
      · refine same (P := True) ?_ ?_
        · rw [zf_MP_part, f1, pz_bs, if_pos rfl, a1, pz_bs, if_neg pz_b1, a2, pz_bs, if_pos rfl]
        · rcases b2 with b2 | ⟨b2, c2⟩
          · rw [zf_Mo_part, if_neg f2, b1, pz_bs, if_neg pz_b1, b2, pz_bs, if_pos rfl]
          · rw [zf_Mo_part, if_neg f2, b1, pz_bs, if_neg pz_b1, b2, pz_bs, if_neg pz_b1, c2, pz_bs, if_pos rfl]
    · refine same (P := True) ?_ ?_
      · rw [zf_MP_part, f1, pz_bs, if_pos rfl, a1, pz_bs, if_pos rfl]
      · rw [zf_Mo_part, if_neg f2, b1, pz_bs, if_pos rfl]
theorem pp_life (hp : np ≤ 24) (ho : HO np po) (u1 u2 : Int32) : ∃ a ver' pl', zf_MP_life u1 u2 ver (nI np) po pl = some (a, ver', pl') ∧ zf_Mo_life u1 u2 (nI np) ver po pl = some (a, ver', pl') := by
  rcases pz_part u1 (g := np) (by omega) with ⟨j, hj, ej, a1, b1⟩ | ⟨a1, b1⟩
  · obtain ⟨q1, q2⟩ := ho.at_ hj
    rcases pz_isLife u2 with a3 | a3
    · subst ej
      refine ⟨1, upd ver (ow po j) (ver (ow po j) + 1), upd pl j u2, ?_, ?_⟩
      · rw [zf_MP_life, a1, pz_bs, if_neg pz_b1, a3, pz_bs, if_neg pz_b1]
        simp (disch := omega) only [nI_clamp, pz_i2, q1]
      · rw [zf_Mo_life, b1, pz_bs, if_neg pz_b1, pz_life, a3, pz_bs, if_neg pz_b1]
        simp (disch := omega) only [nI_clamp, pz_i2, q1]
    · exact ⟨0, ver, pl, by rw [zf_MP_life, a1, pz_bs, if_neg pz_b1, a3, pz_bs, if_pos rfl], by rw [zf_Mo_life, b1, pz_bs, if_neg pz_b1, pz_life, a3, pz_bs, if_pos rfl]⟩
  · exact ⟨0, ver, pl, by rw [zf_MP_life, a1, pz_bs, if_pos rfl], by rw [zf_Mo_life, b1, pz_bs, if_pos rfl]⟩
theorem IC.push (h : IC nc ck cg) (hn : nc < 20) {k w : Nat} (hk : k < 5) (hw : w ≤ 1000000000) : IC (nc + 1) (upd ck nc (nI k)) (vp_updL cg nc (lN w)) := ⟨by omega, h.2.1.push hk rfl, h.2.2.push hw rfl⟩
theorem px_add (hn : nc < 20) (u1 : Int32) (u2 : Int64) (u4 : Int32) (u5 : Int64) : zf_Ch_add u1 u2 u4 u5 (nI nc) cp cd ck cg = some (nI (nc + 1), upd cp nc u1, vp_updL cd nc u2, upd ck nc u4, vp_updL cg nc u5) := by
  rw [zf_Ch_add, zf_Ch_isFull, if_pos (show nI nc < (20 : Int32) from nI_lt (b := 20) hn (by omega)), pz_bs, if_pos rfl]
  simp (disch := omega) only [nI_clamp, pz_i2, nI_1]
theorem pm_add (hn : nc < 20) (u1 : Int32) (u2 : Int64) (u4 : Int32) (u5 : Int64) : zf_Mo_add u1 u2 u4 u5 (nI nc) cp cd ck cg = some (nI (nc + 1), upd cp nc u1, vp_updL cd nc u2, upd ck nc u4, vp_updL cg nc u5) := by
  rw [zf_Mo_add]
  simp (disch := omega) only [nI_clamp, pz_i2, nI_1]
theorem pz_day (x : Int64) : (zf_MP_isDay x = some 1 ∧ zf_Mo_isIn x 0 100000 = some 1) ∨ (zf_MP_isDay x = some 0 ∧ zf_Mo_isIn x 0 100000 = some 0) := by
  unfold zf_MP_isDay zf_Mo_isIn
  by_cases a : x < 0
  · rw [if_pos a]; exact Or.inr ⟨rfl, rfl⟩
  · rw [if_neg a]
    by_cases b : (100000 : Int64) < x
    · rw [if_pos b]; exact Or.inr ⟨rfl, rfl⟩
    · rw [if_neg b]; exact Or.inl ⟨rfl, rfl⟩
theorem pp_change (hp : np ≤ 24) (ho : HO np po) (hI : IC nc ck cg) (u1 : Int32) (u2 : Int64) (u4 : Int32) (u5 : Int64) : ∃ a ver' nc' cp' cd' ck' cg', IC nc' ck' cg' ∧ zf_MP_change u1 u2 u4 u5 ver (nI np) po (nI nc) cp cd ck cg = some (a, ver', nI nc', cp', cd', ck', cg') ∧ zf_Mo_change u1 u2 u4 u5 (nI np) (nI nc) ver po cp cd ck cg = some (a, nI nc', ver', cp', cd', ck', cg') := by
  have hc := hI.1
  have same : ∀ {P : Prop}, (zf_MP_change u1 u2 u4 u5 ver (nI np) po (nI nc) cp cd ck cg = some (0, ver, nI nc, cp, cd, ck, cg)) → (zf_Mo_change u1 u2 u4 u5 (nI np) (nI nc) ver po cp cd ck cg = some (0, nI nc, ver, cp, cd, ck, cg)) → ∃ a ver' nc' cp' cd' ck' cg', IC nc' ck' cg' ∧ zf_MP_change u1 u2 u4 u5 ver (nI np) po (nI nc) cp cd ck cg = some (a, ver', nI nc', cp', cd', ck', cg') ∧ zf_Mo_change u1 u2 u4 u5 (nI np) (nI nc) ver po cp cd ck cg = some (a, nI nc', ver', cp', cd', ck', cg') := fun a b => ⟨0, ver, nc, cp, cd, ck, cg, hI, a, b⟩
  by_cases hn : nc = 20
  · subst hn
    refine same (P := True) ?_ ?_
    · rw [zf_MP_change, zf_Ch_isFull, if_neg (by decide), pz_bs, if_neg pz_b1]
    · rw [zf_Mo_change, if_pos (by decide)]
  · have hlt : nc < 20 := by omega
    have f1 : zf_Ch_isFull (nI nc) = some 0 := by rw [zf_Ch_isFull, if_pos (show nI nc < (20 : Int32) from nI_lt (b := 20) hlt (by omega))]
    have f2 : ¬ nI nc = (20 : Int32) := show ¬ nI nc = nI 20 from fun q => hn ((nI_eq (by omega) (by omega)).mp q)
    rcases pz_part u1 (g := np) (by omega) with ⟨j, hj, ej, a1, b1⟩ | ⟨a1, b1⟩
    · obtain ⟨q1, q2⟩ := ho.at_ hj
      rcases pz_day u2 with ⟨a2, b2⟩ | ⟨a2, b2⟩
      · rcases pz_mat u4 u5 with ⟨k, w, hk, ek, hw, ew, a3, b3, c3⟩ | ⟨a3, b3⟩
        · subst ej; subst ek; subst ew
          refine ⟨1, upd ver (ow po j) (ver (ow po j) + 1), nc + 1, upd cp nc (nI j), vp_updL cd nc u2, upd ck nc (nI k), vp_updL cg nc (lN w), hI.push hlt hk hw, ?_, ?_⟩
          · rw [zf_MP_change, f1, pz_bs, if_pos rfl, a1, pz_bs, if_neg pz_b1, a2, pz_bs, if_neg pz_b1, a3, pz_bs, if_neg pz_b1, px_add hlt, pz_bs]
            simp (disch := omega) only [nI_clamp, pz_i2, q1]
          · rw [zf_Mo_change, if_neg f2, b1, pz_bs, if_neg pz_b1, b2, pz_bs, if_neg pz_b1, b3, pz_bs, if_neg pz_b1, c3, pz_bs, if_neg pz_b1, pm_add hlt, pz_bs]
            simp (disch := omega) only [nI_clamp, pz_i2, q1]
        · refine same (P := True) ?_ ?_
          · rw [zf_MP_change, f1, pz_bs, if_pos rfl, a1, pz_bs, if_neg pz_b1, a2, pz_bs, if_neg pz_b1, a3, pz_bs, if_pos rfl]
          · rcases b3 with b3 | ⟨b3, c3⟩
            · rw [zf_Mo_change, if_neg f2, b1, pz_bs, if_neg pz_b1, b2, pz_bs, if_neg pz_b1, b3, pz_bs, if_pos rfl]
            · rw [zf_Mo_change, if_neg f2, b1, pz_bs, if_neg pz_b1, b2, pz_bs, if_neg pz_b1, b3, pz_bs, if_neg pz_b1, c3, pz_bs, if_pos rfl]
      · refine same (P := True) ?_ ?_
        · rw [zf_MP_change, f1, pz_bs, if_pos rfl, a1, pz_bs, if_neg pz_b1, a2, pz_bs, if_pos rfl]
        · rw [zf_Mo_change, if_neg f2, b1, pz_bs, if_neg pz_b1, b2, pz_bs, if_pos rfl]
    · refine same (P := True) ?_ ?_
      · rw [zf_MP_change, f1, pz_bs, if_pos rfl, a1, pz_bs, if_pos rfl]
      · rw [zf_Mo_change, if_neg f2, b1, pz_bs, if_pos rfl]
theorem pp_version (hg : g ≤ 8) (u1 : Int32) : ∃ a, zf_MP_version u1 (nI g) ver = some a ∧ zf_Mo_version u1 (nI g) ver = some a := by
  rcases pz_good u1 (g := g) (by omega) with ⟨k, hk, ek, a1, b1⟩ | ⟨a1, b1⟩
  · subst ek
    refine ⟨ver k, ?_, ?_⟩
    · rw [zf_MP_version, a1, pz_bs, if_neg pz_b1]
      simp (disch := omega) only [nI_clamp, pz_i2]
    · rw [zf_Mo_version, b1, pz_bs, if_neg pz_b1]
      simp (disch := omega) only [nI_clamp, pz_i2]
  · exact ⟨-1, by rw [zf_MP_version, a1, pz_bs, if_pos rfl], by rw [zf_Mo_version, b1, pz_bs, if_pos rfl]⟩
theorem pz_person (u : Int32) : (∃ k, k < 8 ∧ u = nI k ∧ zf_MP_isPerson u = some 1) ∨ zf_MP_isPerson u = some 0 := by
  rcases pz_good u (g := 8) (by omega) with ⟨k, hk, ek, a1, -⟩ | ⟨a1, -⟩
  · exact Or.inl ⟨k, hk, ek, a1⟩
  · exact Or.inr a1
theorem pz_ri (p k : Nat) : nI p * (8 : Int32) + nI k = nI (8 * p + k) := by
  rw [show (8 : Int32) = nI 8 from rfl, pk_mul, nI_add, Nat.mul_comm]
theorem pz_ri2 (p k : Nat) : (8 : Int32) * nI p + nI k = nI (8 * p + k) := by
  rw [show (8 : Int32) = nI 8 from rfl, pk_mul, nI_add]
theorem pp_right {rig : Nat → Int32} (hg : g ≤ 8) (u1 u2 u3 : Int32) : ∃ a rig', zf_MP_right u1 u2 u3 (nI g) rig = some (a, rig') ∧ zf_Mo_right u1 u2 u3 (nI g) rig = some (a, rig') := by
  rcases pz_person u1 with ⟨p, hp, ep, a0⟩ | a0
  · rcases pz_good u2 (g := g) (by omega) with ⟨k, hk, ek, a1, b1⟩ | ⟨a1, b1⟩
    · subst ep; subst ek
      refine ⟨1, upd rig (8 * p + k) (vp_nar .boolean u3), ?_, ?_⟩
      · rw [zf_MP_right, a0, pz_bs, if_neg pz_b1, a1, pz_bs, if_neg pz_b1, zf_MP_rightIndex, pz_bs, pz_ri]
        simp (disch := omega) only [nI_clamp, pz_i2]
      · rw [zf_Mo_right, pz_pers, a0, pz_bs, if_neg pz_b1, b1, pz_bs, if_neg pz_b1, pz_ri2]
        simp (disch := omega) only [nI_clamp, pz_i2]
    · exact ⟨0, rig, by rw [zf_MP_right, a0, pz_bs, if_neg pz_b1, a1, pz_bs, if_pos rfl], by rw [zf_Mo_right, pz_pers, a0, pz_bs, if_neg pz_b1, b1, pz_bs, if_pos rfl]⟩
  · exact ⟨0, rig, by rw [zf_MP_right, a0, pz_bs, if_pos rfl], by rw [zf_Mo_right, pz_pers, a0, pz_bs, if_pos rfl]⟩
theorem pp_unit {tn : Nat} {ft : Nat → Int32} (ht : tn ≤ 300) (u1 : Int32) : ∃ a tn' ft', tn' ≤ 300 ∧ zf_MP_unit u1 (nI tn) ft = some (a, nI tn', ft') ∧ zf_Mo_unit u1 (nI tn) ft = some (a, nI tn', ft') := by
  have e := pz_rng u1 255
  have e : zf_Mo_isIn u1.toInt64 0 255 = _ := e
  by_cases h1 : u1 < 0
  · exact ⟨0, tn, ft, ht, by rw [zf_MP_unit, zf_Fo_addByte, if_pos h1, pz_bs], by rw [zf_Mo_unit, e, if_pos h1, pz_bs, if_pos rfl]⟩
  · by_cases h2 : (255 : Int32) < u1
    · exact ⟨0, tn, ft, ht, by rw [zf_MP_unit, zf_Fo_addByte, if_neg h1, if_pos h2, pz_bs], by rw [zf_Mo_unit, e, if_neg h1, if_pos h2, pz_bs, if_pos rfl]⟩
    · by_cases h3 : tn = 300
      · subst h3
        exact ⟨0, 300, ft, ht, by rw [zf_MP_unit, zf_Fo_addByte, if_neg h1, if_neg h2, if_neg (by decide), pz_bs], by rw [zf_Mo_unit, e, if_neg h1, if_neg h2, pz_bs, if_neg pz_b1, if_pos (by decide)]⟩
      · refine ⟨1, tn + 1, upd ft tn u1, by omega, ?_, ?_⟩
        · rw [zf_MP_unit, zf_Fo_addByte, if_neg h1, if_neg h2, if_pos (show nI tn < (300 : Int32) from nI_lt (b := 300) (by omega) (by omega))]
          simp (disch := omega) only [nI_clamp, pz_i2, nI_1, pz_bs]
        · rw [zf_Mo_unit, e, if_neg h1, if_neg h2, pz_bs, if_neg pz_b1, if_neg (show ¬ nI tn = (300 : Int32) from fun q => h3 ((nI_eq (b := 300) (by omega) (by omega)).mp q))]
          simp (disch := omega) only [nI_clamp, pz_i2, nI_1]
end PCA
