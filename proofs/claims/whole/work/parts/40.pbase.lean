/-! PURE: numbers, sums -/
theorem pz_if {α : Type} {k N : Nat} {x : Option α} (h : k < N) (hN : N < 2 ^ 31) : (if nI k < 0 ∨ N ≤ (nI k).toNatClampNeg then none else x) = x := if_neg (nI_in h hN)
theorem pz_le {α : Type} {a b : Nat} {x y : α} (ha : a < 2 ^ 31) (hb : b < 2 ^ 31) : (if nI a ≤ nI b then x else y) = if a ≤ b then x else y := by
  by_cases h : a ≤ b
  · rw [if_pos h, if_pos ((nI_leI ha hb).mpr h)]
  · rw [if_neg h, if_neg (fun q => h ((nI_leI ha hb).mp q))]
theorem pz_lt {α : Type} {a b : Nat} {x y : α} (ha : a < 2 ^ 31) (hb : b < 2 ^ 31) : (if nI a < nI b then x else y) = if a < b then x else y := by
  by_cases h : a < b
  · rw [if_pos h, if_pos ((nI_ltI ha hb).mpr h)]
  · rw [if_neg h, if_neg (fun q => h ((nI_ltI ha hb).mp q))]
theorem pz_eq {α : Type} {a b : Nat} {x y : α} (ha : a < 2 ^ 31) (hb : b < 2 ^ 31) : (if nI a = nI b then x else y) = if a = b then x else y := by
  by_cases h : a = b
  · rw [if_pos h, if_pos (by rw [h])]
  · rw [if_neg h, if_neg (fun q => h ((nI_eq ha hb).mp q))]
theorem pz_neg (k : Nat) (h : k < 2 ^ 31) : ¬ nI k = (-1 : Int32) := by
  intro q
  have a := nI_toInt h
  rw [q] at a
  have b : (-1 : Int32).toInt = -1 := by decide
  omega
theorem pz_upd (f : Nat → Int32) (k : Nat) (x : Int32) (j : Nat) : upd f k x j = if j = k then x else f j := rfl
theorem pz_updL (f : Nat → Int64) (k : Nat) (x : Int64) (j : Nat) : vp_updL f k x j = if j = k then x else f j := rfl
/-- an Int32 that is good: of a number under b -/
theorem pz_in (x : Int32) (b : Nat) (hb : b < 2 ^ 31) : (∃ k, k < b ∧ x = nI k) ∨ (x < 0 ∨ nI b ≤ x) := by
  rcases pk_ix x hb with h | h | h
  · exact Or.inr (Or.inl h)
  · exact Or.inr (Or.inr h)
  · exact Or.inl h
/-- sums -/
def sg (f : Nat → Int64) : Nat → Int64
  | 0 => 0
  | n + 1 => sg f n + f n
theorem sg_congr {f g : Nat → Int64} : ∀ {n : Nat}, (∀ j, j < n → f j = g j) → sg f n = sg g n
  | 0, _ => rfl
  | n + 1, h => by rw [sg, sg, sg_congr (fun j hj => h j (by omega)), h n (by omega)]
theorem sg_add (f g : Nat → Int64) : ∀ n, sg (fun j => f j + g j) n = sg f n + sg g n
  | 0 => by simp [sg]
  | n + 1 => by rw [sg, sg, sg, sg_add f g n]; grind
theorem sg_mul (c : Int64) (f : Nat → Int64) : ∀ n, sg (fun j => c * f j) n = c * sg f n
  | 0 => by simp [sg]
  | n + 1 => by rw [sg, sg, sg_mul c f n]; grind
theorem sg_zero : ∀ n, sg (fun _ => 0) n = 0
  | 0 => rfl
  | n + 1 => by rw [sg, sg_zero n]; rfl
theorem sg_swap (f : Nat → Nat → Int64) (m : Nat) : ∀ n, sg (fun i => sg (fun j => f i j) m) n = sg (fun j => sg (fun i => f i j) n) m
  | 0 => by simp only [sg]; rw [sg_zero]
  | n + 1 => by rw [sg, sg_swap f m n, ← sg_add]; rfl
/-- one term of a sum -/
theorem sg_one (a : Nat) (x : Int64) : ∀ n, sg (fun i => if i = a then x else 0) n = if a < n then x else 0
  | 0 => by simp [sg]
  | n + 1 => by
    rw [sg, sg_one a x n]
    by_cases h : n = a
    · subst h
      simp
    · by_cases h2 : a < n
      · rw [if_pos h2, if_neg h, if_pos (by omega)]; simp
      · rw [if_neg h2, if_neg h, if_neg (by omega)]; simp
theorem pz_i2 {α : Type} {k N : Nat} {x : Option α} (h : k < N) (hN : k < 2 ^ 31) : (if nI k < 0 ∨ N ≤ k then none else x) = x := if_neg (fun q => by
  rcases q with q | q
  · exact nI_pos hN q
  · omega)
theorem pz_bs {α β : Type} (x : α) (k : α → Option β) : (some x).bind k = k x := rfl
theorem pz_n1 {α : Type} {k : Nat} {x y : α} (h : k < 2 ^ 31) : (if nI k = (-1 : Int32) then x else y) = y := if_neg (pz_neg k h)
theorem pz_n0 {α : Type} {k : Nat} {x y : α} (h : k < 2 ^ 31) : (if nI k < 0 then x else y) = y := if_neg (nI_pos h)
theorem pz_p0 {α : Type} {k : Nat} {x y : α} (h : k < 2 ^ 31) : (if 0 ≤ nI k then x else y) = x := if_pos (nI_pos' h)
