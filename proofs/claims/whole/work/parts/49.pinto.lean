/-! ===== rows of kit/laws/BITS.to-paste: Int32 by its bits ===== -/
def bt (x : Int32) (i : Nat) : Bool := x.toBitVec.getLsbD i
theorem b_ext {x y : Int32} (h : ∀ i, i < 32 → bt x i = bt y i) : x = y := Int32.toBitVec_inj.mp (BitVec.eq_of_getLsbD_eq (fun i hi => h i hi))
theorem b_or (x y : Int32) (i : Nat) : bt (x ||| y) i = (bt x i || bt y i) := by unfold bt; rw [Int32.toBitVec_or, BitVec.getLsbD_or]
theorem b_and (x y : Int32) (i : Nat) : bt (x &&& y) i = (bt x i && bt y i) := by unfold bt; rw [Int32.toBitVec_and, BitVec.getLsbD_and]
theorem b_0 (i : Nat) : bt 0 i = false := BitVec.getLsbD_zero
theorem s_l : ∀ n, n < 32 → ((nI n &&& 31).toBitVec.smod 32).toNat = n := by decide +kernel
theorem b_shl (n : Nat) (hn : n < 32) (x : Int32) {i : Nat} (hi : i < 32) : bt (x <<< (nI n &&& 31)) i = (decide (n ≤ i) && bt x (i - n)) := by
  unfold bt
  rw [Int32.toBitVec_shiftLeft]
  show (x.toBitVec <<< ((nI n &&& 31).toBitVec.smod 32).toNat).getLsbD i = _
  rw [s_l n hn, BitVec.getLsbD_shiftLeft]
  rcases Nat.lt_or_ge i n with h | h
  · simp [h, Nat.not_le.mpr h]
  · simp [hi, h, Nat.not_lt.mpr h]
theorem b_sshr (n : Nat) (hn : n < 32) (x : Int32) {i : Nat} (hi : i < 32) : bt (x >>> (nI n &&& 31)) i = if n + i < 32 then bt x (n + i) else bt x 31 := by
  unfold bt
  rw [Int32.toBitVec_shiftRight]
  show (x.toBitVec.sshiftRight ((nI n &&& 31).toBitVec.smod 32).toNat).getLsbD i = _
  rw [s_l n hn, BitVec.getLsbD_sshiftRight, BitVec.msb_eq_getLsbD_last]
  simp [hi]
/-! PURE: into: what is within what -/
theorem b_1 : ∀ i, i < 32 → bt 1 i = decide (i = 0) := by decide +kernel
theorem b_test {x : Int32} : (x &&& (1 : Int32)) = 1 ↔ bt x 0 = true := by
  constructor
  · intro h
    have a := b_and x 1 0
    rw [h, b_1 0 (by omega)] at a
    simpa using a.symm
  · intro h
    refine b_ext (fun i hi => ?_)
    rw [b_and, b_1 i hi]
    by_cases q : i = 0
    · subst q; rw [h]; rfl
    · simp [q]
/-- the bit of a good in a set -/
def bs (x : Int32) (v : Nat) : Prop := bt x v = true
theorem bs_iff {x : Int32} {v : Nat} (hv : v < 8) : ((x >>> (nI v &&& 31)) &&& (1 : Int32)) = 1 ↔ bs x v := by
  rw [b_test, b_sshr v (by omega) x (by omega), if_pos (by omega)]
  exact Iff.rfl
theorem bs_one {i v : Nat} (hi : i < 8) (hv : v < 8) : bs ((1 : Int32) <<< (nI i &&& 31)) v ↔ v = i := by
  unfold bs
  rw [b_shl i (by omega) 1 (by omega), b_1 (v - i) (by omega)]
  simp
  omega
theorem bs_or {x y : Int32} {v : Nat} : bs (x ||| y) v ↔ bs x v ∨ bs y v := by
  unfold bs
  rw [b_or]
  simp
theorem or_0 (x : Int32) : x ||| (0 : Int32) = x := b_ext (fun i _ => by rw [b_or, b_0]; simp)
section PIN
variable {np : Nat} {po pi : Nat → Int32}
/-- by so many steps from i to v -/
def RT (np : Nat) (po pi : Nat → Int32) (i : Nat) : Nat → Nat → Prop
  | 0, v => v = i
  | d + 1, v => ∃ j, j < np ∧ pi j = nI v ∧ RT np po pi i d (ow po j)
def LN (np : Nat) (po pi : Nat → Int32) (i : Nat) : Nat → Nat → Nat
  | 0, v => if v = i then 1 else 0
  | d + 1, v => sN (fun j => if pi j = nI v then LN np po pi i d (ow po j) else 0) np
theorem LA_LN (i : Nat) : ∀ (d v : Nat), LA np po pi (e1 i) d v = lN (LN np po pi i d v)
  | 0, v => by
    rw [LA, e1, LN]
    by_cases q : v = i
    · rw [if_pos q, if_pos q]; rfl
    · rw [if_neg q, if_neg q]; rfl
  | d + 1, v => by
    rw [LA, AT, LN]
    refine sg_lN (fun j hj => ?_)
    by_cases q : pi j = nI v
    · rw [if_pos q, if_pos q, LA_LN i d]
    · rw [if_neg q, if_neg q]; rfl
theorem LN_bd (hp : np ≤ 24) (i : Nat) : ∀ (d v : Nat), LN np po pi i d v ≤ 24 ^ d
  | 0, v => by
    rw [LN]
    by_cases q : v = i
    · rw [if_pos q]; decide
    · rw [if_neg q]; decide
  | d + 1, v => by
    rw [LN]
    refine Nat.le_trans (sN_bd (M := 24 ^ d) (fun j hj => ?_)) (by rw [Nat.pow_succ, Nat.mul_comm]; exact Nat.mul_le_mul_left _ hp)
    by_cases q : pi j = nI v
    · rw [if_pos q]; exact LN_bd hp i d _
    · rw [if_neg q]; exact Nat.zero_le _
theorem sN_pos {f : Nat → Nat} : ∀ {n : Nat}, 0 < sN f n ↔ ∃ j, j < n ∧ 0 < f j
  | 0 => by
    rw [sN]
    exact ⟨fun h => absurd h (by omega), fun ⟨j, h, _⟩ => by omega⟩
  | n + 1 => by
    rw [sN]
    constructor
    · intro h
      by_cases q : 0 < f n
      · exact ⟨n, by omega, q⟩
      · obtain ⟨j, h1, h2⟩ := sN_pos.mp (show 0 < sN f n by omega)
        exact ⟨j, by omega, h2⟩
    · rintro ⟨j, h1, h2⟩
      by_cases q : j = n
      · subst q; omega
      · have := sN_pos.mpr ⟨j, (show j < n by omega), h2⟩
        omega
theorem LN_RT (i : Nat) : ∀ (d v : Nat), 0 < LN np po pi i d v ↔ RT np po pi i d v
  | 0, v => by
    rw [LN, RT]
    by_cases q : v = i
    · rw [if_pos q]; exact ⟨fun _ => q, fun _ => by omega⟩
    · rw [if_neg q]; exact ⟨fun h => absurd h (by omega), fun h => absurd h q⟩
  | d + 1, v => by
    rw [LN, RT, sN_pos]
    constructor
    · rintro ⟨j, h1, h2⟩
      by_cases q : pi j = nI v
      · rw [if_pos q] at h2
        exact ⟨j, h1, q, (LN_RT i d _).mp h2⟩
      · rw [if_neg q] at h2; omega
    · rintro ⟨j, h1, h2, h3⟩
      exact ⟨j, h1, by rw [if_pos h2]; exact (LN_RT i d _).mpr h3⟩
/-- the test by times -/
theorem px_test (hp : np ≤ 24) (i v : Nat) : sg (fun d => LA np po pi (e1 i) d v) 8 ≤ 0 ↔ ¬ ∃ d, d < 8 ∧ RT np po pi i d v := by
  have e : sg (fun d => LA np po pi (e1 i) d v) 8 = lN (sN (fun d => LN np po pi i d v) 8) := sg_lN (fun d _ => LA_LN i d v)
  have b : sN (fun d => LN np po pi i d v) 8 ≤ 8 * 24 ^ 8 := sN_bd (fun d hd => Nat.le_trans (LN_bd hp i d v) (Nat.pow_le_pow_right (by omega) (by omega)))
  have b2 : 8 * 24 ^ 8 < 2 ^ 63 := by decide
  rw [e, show (0 : Int64) = lN 0 from rfl, pk_lLE (by omega) (by omega)]
  constructor
  · rintro h ⟨d, h1, h2⟩
    have := (sN_pos (f := fun d => LN np po pi i d v)).mpr ⟨d, h1, (LN_RT i d v).mpr h2⟩
    omega
  · intro h
    by_cases q : 0 < sN (fun d => LN np po pi i d v) 8
    · obtain ⟨d, h1, h2⟩ := sN_pos.mp q
      exact absurd ⟨d, h1, (LN_RT i d v).mp h2⟩ h
    · omega
/-- within t steps -/
def RW (np : Nat) (po pi : Nat → Int32) (i t v : Nat) : Prop := ∃ d, d ≤ t ∧ RT np po pi i d v
noncomputable def ct (P : Nat → Prop) : Nat := sN (fun v => @ite _ (P v) (Classical.propDecidable _) 1 0) 8
theorem sN_one {a : Nat} (ha : a < 8) : sN (fun v => if v = a then 1 else 0) 8 = 1 := by
  rcases (show a = 0 ∨ a = 1 ∨ a = 2 ∨ a = 3 ∨ a = 4 ∨ a = 5 ∨ a = 6 ∨ a = 7 by omega) with rfl | rfl | rfl | rfl | rfl | rfl | rfl | rfl <;> decide
theorem ct_lt {P Q : Nat → Prop} (h : ∀ v, v < 8 → P v → Q v) {a : Nat} (ha : a < 8) (h1 : Q a) (h2 : ¬ P a) : ct P + 1 ≤ ct Q := by
  have e := sN_one ha
  have key : ct P + sN (fun v => if v = a then 1 else 0) 8 ≤ ct Q := by
    unfold ct
    rw [← sN_add]
    refine sN_le (fun v hv => ?_)
    by_cases p : P v
    · have n : ¬ v = a := fun z => h2 (z ▸ p)
      rw [if_pos p, if_neg n, if_pos (h v hv p)]
      omega
    · rw [if_neg p]
      by_cases z : v = a
      · have hQ : Q v := z ▸ h1
        rw [if_pos z, if_pos hQ]
        omega
      · rw [if_neg z]
        exact Nat.zero_le _
  omega
theorem ct_le (P : Nat → Prop) : ct P ≤ 8 := by
  unfold ct
  refine Nat.le_trans (sN_bd (M := 1) (fun v _ => ?_)) (by omega)
  by_cases p : P v
  · rw [if_pos p]; omega
  · rw [if_neg p]; omega
theorem RT_short (ho : HO np po) {i : Nat} (hi : i < 8) {s v : Nat} (hv : v < 8) (h : RT np po pi i s v) : ∃ d, d < 8 ∧ RT np po pi i d v := by
  have stab : ∃ t, t ≤ 7 ∧ ∀ v, v < 8 → RW np po pi i (t + 1) v → RW np po pi i t v := by
    refine Classical.byContradiction (fun hno => ?_)
    have grow : ∀ t, t ≤ 7 → ∃ v, v < 8 ∧ RW np po pi i (t + 1) v ∧ ¬ RW np po pi i t v := fun t ht =>
      Classical.byContradiction (fun q => hno ⟨t, ht, fun v hv h => Classical.byContradiction (fun z => q ⟨v, hv, h, z⟩)⟩)
    have cnt : ∀ t, t ≤ 8 → t + 1 ≤ ct (RW np po pi i t) := by
      intro t
      induction t with
      | zero =>
        intro _
        have := ct_lt (P := fun _ => False) (Q := RW np po pi i 0) (fun _ _ z => z.elim) hi ⟨0, by omega, rfl⟩ (fun z => z)
        omega
      | succ t ih =>
        intro ht
        obtain ⟨v, h1, h2, h3⟩ := grow t (by omega)
        have := ct_lt (P := RW np po pi i t) (Q := RW np po pi i (t + 1)) (fun _ _ ⟨d, z1, z2⟩ => ⟨d, by omega, z2⟩) h1 h2 h3
        have := ih (by omega)
        omega
    have a := cnt 8 (by omega)
    have b := ct_le (RW np po pi i 8)
    omega
  obtain ⟨t, ht, hs⟩ := stab
  have all : ∀ s v, v < 8 → RT np po pi i s v → RW np po pi i t v := by
    intro s
    induction s with
    | zero => intro v _ h; exact ⟨0, by omega, h⟩
    | succ s ih =>
      rintro v hv ⟨j, h1, h2, h3⟩
      obtain ⟨d, z1, z2⟩ := ih (ow po j) (ho.at_ h1).2 h3
      exact hs v hv ⟨d + 1, by omega, j, h1, h2, z2⟩
  obtain ⟨d, z1, z2⟩ := all s v hv h
  exact ⟨d, by omega, z2⟩
/-- the reference's pass over the parts -/
theorem pm_pass (hp : np ≤ 24) (ho : HO np po) (hi : HI np pi) (v1 v3 : Int32) (K : Int32 → Int32 → Option Int32) : ∀ (m k n : Nat) (x : Int32), k + m = np → m < n → ∃ y, zf_Mo_inside_L15 v1 v3 (nI np) po pi K n x (nI k) = K y (v3 + 1) ∧ (∀ v, bs x v → bs y v) ∧ (∀ j, k ≤ j → j < np → bs x (ow po j) → ∀ w, w < 8 → pi j = nI w → bs y w) ∧ (∀ P : Nat → Prop, (∀ v, v < 8 → bs x v → P v) → (∀ j, j < np → P (ow po j) → ∀ w, w < 8 → pi j = nI w → P w) → ∀ v, v < 8 → bs y v → P v) := by
  intro m
  induction m with
  | zero =>
    intro k n x hk hn
    obtain ⟨n, rfl⟩ : ∃ q, n = q + 1 := ⟨n - 1, by omega⟩
    have e : k = np := by omega
    subst e
    exact ⟨x, by rw [zf_Mo_inside_L15, if_pos (nI_le (Nat.le_refl _) (by omega))], fun _ h => h, fun j h1 h2 => by omega, fun P h _ => h⟩
  | succ m ih =>
    intro k n x hk hn
    obtain ⟨n, rfl⟩ : ∃ q, n = q + 1 := ⟨n - 1, by omega⟩
    have hkn : k < np := by omega
    obtain ⟨q1, q2⟩ := ho.at_ hkn
    have same : ∀ {R : Prop}, (zf_Mo_inside_L15 v1 v3 (nI np) po pi K (n + 1) x (nI k) = zf_Mo_inside_L15 v1 v3 (nI np) po pi K n x (nI (k + 1))) → (bs x (ow po k) → ∀ w, w < 8 → ¬ pi k = nI w) → ∃ y, zf_Mo_inside_L15 v1 v3 (nI np) po pi K (n + 1) x (nI k) = K y (v3 + 1) ∧ (∀ v, bs x v → bs y v) ∧ (∀ j, k ≤ j → j < np → bs x (ow po j) → ∀ w, w < 8 → pi j = nI w → bs y w) ∧ (∀ P : Nat → Prop, (∀ v, v < 8 → bs x v → P v) → (∀ j, j < np → P (ow po j) → ∀ w, w < 8 → pi j = nI w → P w) → ∀ v, v < 8 → bs y v → P v) := fun e hno => by
      obtain ⟨y, a, b, c, d⟩ := ih (k + 1) n x (by omega) (by omega)
      refine ⟨y, e.trans a, b, fun j h1 h2 h3 w h4 h5 => ?_, d⟩
      by_cases z : j = k
      · subst z; exact absurd h5 (hno h3 w h4)
      · exact c j (by omega) h2 h3 w h4 h5
    have hexp : zf_Mo_inside_L15 v1 v3 (nI np) po pi K (n + 1) x (nI k) = (if ((x >>> (nI (ow po k) &&& 31)) &&& (1 : Int32)) = 1 then (if pi k < 0 then zf_Mo_inside_L15 v1 v3 (nI np) po pi K n x (nI (k + 1)) else zf_Mo_inside_L15 v1 v3 (nI np) po pi K n (x ||| ((1 : Int32) <<< (pi k &&& 31))) (nI (k + 1))) else zf_Mo_inside_L15 v1 v3 (nI np) po pi K n x (nI (k + 1))) := by
      rw [zf_Mo_inside_L15, if_neg (nI_ge hkn (by omega))]
      simp (disch := omega) only [nI_clamp, pz_i2, nI_1, or_0]
      rw [← q1]
    by_cases hb : bs x (ow po k)
    · rw [if_pos ((bs_iff q2).mpr hb)] at hexp
      rcases hi k hkn with hm | ⟨w0, hw0, hm⟩
      · rw [hm, if_pos (by decide)] at hexp
        exact same (R := True) hexp (fun _ w hw z => pz_neg w (by omega) (by rw [← z]; exact hm))
      · rw [hm, if_neg (nI_pos (by omega))] at hexp
        obtain ⟨y, a, b, c, d⟩ := ih (k + 1) n (x ||| ((1 : Int32) <<< (nI w0 &&& 31))) (by omega) (by omega)
        refine ⟨y, hexp.trans a, fun v h => b v (bs_or.mpr (Or.inl h)), fun j h1 h2 h3 w h4 h5 => ?_, fun P h1 h2 => d P (fun v hv h => ?_) h2⟩
        · by_cases z : j = k
          · subst z
            have ew : w = w0 := (nI_eq (by omega) (by omega)).mp (h5.symm.trans hm)
            subst ew
            exact b w (bs_or.mpr (Or.inr ((bs_one h4 h4).mpr rfl)))
          · exact c j (by omega) h2 (bs_or.mpr (Or.inl h3)) w h4 h5
        · rcases bs_or.mp h with h | h
          · exact h1 v hv h
          · have ev := (bs_one hw0 hv).mp h
            subst ev
            exact h2 k hkn (h1 _ q2 hb) v hv hm
    · rw [if_neg (fun z => hb ((bs_iff q2).mp z))] at hexp
      exact same (R := True) hexp (fun z => absurd z hb)
theorem pm_turns (hp : np ≤ 24) (ho : HO np po) (hi : HI np pi) {i : Nat} (v1 : Int32) : ∀ (m t n : Nat) (x : Int32), t + m = 8 → m < n → (∀ v, v < 8 → bs x v → ∃ d, RT np po pi i d v) → (∀ d v, d ≤ t → v < 8 → RT np po pi i d v → bs x v) → ∃ y, zf_Mo_inside_L6 v1 (nI np) po pi n x (nI t) = some y ∧ (∀ v, v < 8 → bs y v → ∃ d, RT np po pi i d v) ∧ (∀ d v, d ≤ 8 → v < 8 → RT np po pi i d v → bs y v) := by
  intro m
  induction m with
  | zero =>
    intro t n x hk hn h1 h2
    obtain ⟨n, rfl⟩ : ∃ q, n = q + 1 := ⟨n - 1, by omega⟩
    have e : t = 8 := by omega
    subst e
    exact ⟨x, by rw [zf_Mo_inside_L6, if_pos (by decide)], h1, h2⟩
  | succ m ih =>
    intro t n x hk hn h1 h2
    obtain ⟨n, rfl⟩ : ∃ q, n = q + 1 := ⟨n - 1, by omega⟩
    obtain ⟨y, a, b, c, d⟩ := pm_pass hp ho hi v1 (nI t) (fun uv2 uv3 => zf_Mo_inside_L6 v1 (nI np) po pi n uv2 uv3) np 0 2000 x (by omega) (by omega)
    obtain ⟨z, e, f, g⟩ := ih (t + 1) n y (by omega) (by omega) (d (fun v => ∃ d, RT np po pi i d v) h1 (fun j hj ⟨s, hs⟩ w hw hm => ⟨s + 1, j, hj, hm, hs⟩)) (fun s v hs hv hr => by
      cases s with
      | zero => exact b v (h2 0 v (by omega) hv hr)
      | succ s =>
        obtain ⟨j, hj, hm, hr⟩ := hr
        exact c j (by omega) hj (h2 s _ (by omega) (ho.at_ hj).2 hr) v hv hm)
    refine ⟨z, ?_, f, g⟩
    rw [zf_Mo_inside_L6, if_neg (show ¬ (8 : Int32) ≤ nI t from nI_ge (b := 8) (by omega) (by omega))]
    refine a.trans ?_
    simp only [nI_1]
    exact e
theorem pm_inside (hp : np ≤ 24) (ho : HO np po) (hi : HI np pi) {i : Nat} (hi8 : i < 8) : ∃ y, zf_Mo_inside (nI i) (nI np) po pi = some y ∧ ∀ v, v < 8 → (bs y v ↔ ∃ d, RT np po pi i d v) := by
  obtain ⟨y, a, b, c⟩ := pm_turns (i := i) hp ho hi (nI i) 8 0 2000 ((1 : Int32) <<< (nI i &&& 31)) (by omega) (by omega) (fun v hv h => ⟨0, (bs_one hi8 hv).mp h⟩) (fun d v hd hv hr => by
    rw [show d = 0 by omega] at hr
    exact (bs_one hi8 hv).mpr hr)
  refine ⟨y, a, fun v hv => ⟨b v hv, fun ⟨s, hs⟩ => ?_⟩⟩
  obtain ⟨d, hd, hr⟩ := RT_short ho hi8 hv hs
  exact c d v (by omega) hv hr
theorem IP.into_ {pk : Nat → Int32} {pg : Nat → Int64} (h : IP np po pk pi pg) {jj i : Nat} (hj : jj < np) (hi8 : i < 8) (hno : ¬ ∃ d, RT np po pi i d (ow po jj)) : IP np po pk (upd pi jj (nI i)) pg := by
  obtain ⟨h1, h2, h3, h4, h5, rk, h6⟩ := h
  refine ⟨h1, h2, fun j hj2 => ?_, h4, h5, ?_⟩
  · rw [pz_upd]
    by_cases q : j = jj
    · rw [if_pos q]; exact Or.inr ⟨i, hi8, rfl⟩
    · rw [if_neg q]; exact h3 j hj2
  · refine ⟨fun v => @ite _ (∃ d, RT np po pi i d v) (Classical.propDecidable _) (rk v) (rk v + rk i + 1), fun j hj2 w hw e => ?_⟩
    rw [pz_upd] at e
    by_cases q : j = jj
    · rw [if_pos q] at e
      have ew : w = i := (nI_eq (by omega) (by omega)).mp e.symm
      subst ew
      subst q
      show @ite _ (∃ d, RT np po pi w d w) (Classical.propDecidable _) (rk w) (rk w + rk w + 1) < @ite _ (∃ d, RT np po pi w d (ow po j)) (Classical.propDecidable _) (rk (ow po j)) (rk (ow po j) + rk w + 1)
      rw [if_pos ⟨0, rfl⟩, if_neg hno]
      omega
    · rw [if_neg q] at e
      have old := h6 j hj2 w hw e
      show @ite _ (∃ d, RT np po pi i d w) (Classical.propDecidable _) (rk w) (rk w + rk i + 1) < @ite _ (∃ d, RT np po pi i d (ow po j)) (Classical.propDecidable _) (rk (ow po j)) (rk (ow po j) + rk i + 1)
      by_cases z : ∃ d, RT np po pi i d (ow po j)
      · obtain ⟨d, hd⟩ := z
        rw [if_pos ⟨d + 1, j, hj2, e, hd⟩, if_pos ⟨d, hd⟩]
        exact old
      · rw [if_neg z]
        by_cases z2 : ∃ d, RT np po pi i d w
        · rw [if_pos z2]; omega
        · rw [if_neg z2]; omega
theorem pp_into {g : Nat} {pk ver : Nat → Int32} {pg : Nat → Int64} (hg : g ≤ 8) (hI : IP np po pk pi pg) (u1 u2 : Int32) (nt nl nd : Nat → Int64) : ∃ a ver' pi' t1 t2 t3, IP np po pk pi' pg ∧ zf_MP_into u1 u2 (nI g) ver (nI np) po pi nt nl nd = some (a, ver', pi', t1, t2, t3) ∧ zf_Mo_into u1 u2 (nI g) (nI np) ver po pi = some (a, ver', pi') := by
  obtain ⟨hp, ho, hi, hk5, hG, hR⟩ := id hI
  rcases pz_part u1 (g := np) (by omega) with ⟨j, hj, ej, a1, b1⟩ | ⟨a1, b1⟩
  · rcases pz_good u2 (g := g) (by omega) with ⟨i, hig, ei, a2, b2⟩ | ⟨a2, b2⟩
    · subst ej; subst ei
      obtain ⟨q1, q2⟩ := ho.at_ hj
      rcases hi j hj with hm | ⟨w, hw, hm⟩
      · obtain ⟨t1, t2, t3, e1, h1⟩ := px_cw hp ho hi (show i < 8 by omega) nt nl nd
        obtain ⟨y, e2, h2⟩ := pm_inside hp ho hi (show i < 8 by omega)
        have hn1 : ¬ (0 : Int32) ≤ -1 := by decide
        have test : (t1 (ow po j) ≤ 0) ↔ ¬ bs y (ow po j) := by
          rw [h1 _ q2, px_test hp, h2 _ q2]
          constructor
          · rintro h ⟨s, hs⟩
            exact h (RT_short ho (by omega) q2 hs)
          · rintro h ⟨d, -, hd⟩
            exact h ⟨d, hd⟩
        by_cases hb : bs y (ow po j)
        · refine ⟨0, ver, pi, t1, t2, t3, hI, ?_, ?_⟩
          · rw [zf_MP_into, a1, pz_bs, if_neg pz_b1, a2, pz_bs, if_neg pz_b1]
            simp (disch := omega) only [nI_clamp, pz_i2, hm, if_true, q1]
            rw [zf_Ne_holds, e1, pz_bs]
            simp (disch := omega) only [nI_clamp, pz_i2]
            rw [if_neg (fun z => test.mp z hb), pz_bs]
            simp only [if_neg pz_b1]
          · rw [zf_Mo_into, b1, pz_bs, if_neg pz_b1, b2, pz_bs, if_neg pz_b1]
            simp (disch := omega) only [nI_clamp, pz_i2, hm, if_neg hn1, q1]
            rw [e2, pz_bs, if_pos ((bs_iff q2).mpr hb)]
        · refine ⟨1, upd ver (ow po j) (ver (ow po j) + 1), upd pi j (nI i), t1, t2, t3, hI.into_ hj (by omega) (fun z => hb ((h2 _ q2).mpr z)), ?_, ?_⟩
          · rw [zf_MP_into, a1, pz_bs, if_neg pz_b1, a2, pz_bs, if_neg pz_b1]
            simp (disch := omega) only [nI_clamp, pz_i2, hm, if_true, q1]
            rw [zf_Ne_holds, e1, pz_bs]
            simp (disch := omega) only [nI_clamp, pz_i2]
            rw [if_pos (test.mpr hb), pz_bs]
            simp only [if_true]
          · rw [zf_Mo_into, b1, pz_bs, if_neg pz_b1, b2, pz_bs, if_neg pz_b1]
            simp (disch := omega) only [nI_clamp, pz_i2, hm, if_neg hn1, q1]
            rw [e2, pz_bs, if_neg (fun z => hb ((bs_iff q2).mp z))]
      · refine ⟨0, ver, pi, nt, nl, nd, hI, ?_, ?_⟩
        · rw [zf_MP_into, a1, pz_bs, if_neg pz_b1, a2, pz_bs, if_neg pz_b1]
          simp (disch := omega) only [nI_clamp, pz_i2, hm, pz_n1]
        · rw [zf_Mo_into, b1, pz_bs, if_neg pz_b1, b2, pz_bs, if_neg pz_b1]
          simp (disch := omega) only [nI_clamp, pz_i2, hm, pz_p0]
    · exact ⟨0, ver, pi, nt, nl, nd, hI, by rw [zf_MP_into, a1, pz_bs, if_neg pz_b1, a2, pz_bs, if_pos rfl], by rw [zf_Mo_into, b1, pz_bs, if_neg pz_b1, b2, pz_bs, if_pos rfl]⟩
  · exact ⟨0, ver, pi, nt, nl, nd, hI, by rw [zf_MP_into, a1, pz_bs, if_pos rfl], by rw [zf_Mo_into, b1, pz_bs, if_pos rfl]⟩
end PIN
