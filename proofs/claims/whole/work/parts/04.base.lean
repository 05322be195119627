/-! what the rows of the methods stand on: pure steps, and calls in one row each -/
theorem mp_t {α : Type} {c : Prop} [Decidable c] {x y r : α} (h : c) (hf : (if c then x else y) = r) : x = r := by rw [if_pos h] at hf; exact hf
theorem mp_f {α : Type} {c : Prop} [Decidable c] {x y r : α} (h : ¬ c) (hf : (if c then x else y) = r) : y = r := by rw [if_neg h] at hf; exact hf
theorem mp_in {α : Type} {c : Prop} [Decidable c] {x : Option α} {r : α} (hf : (if c then none else x) = some r) : (¬ c) ∧ x = some r := by
  by_cases h : c
  · rw [if_pos h] at hf; cases hf
  · rw [if_neg h] at hf; exact ⟨h, hf⟩
theorem mp_bd {α β : Type} {x : Option α} {k : α → Option β} {r : β} (hf : x.bind k = some r) : ∃ y, x = some y ∧ k y = some r := by
  cases x with
  | none => cases hf
  | some y => exact ⟨y, rfl, hf⟩
theorem mp_cp {a b c : Prop} {x y z w : Nat} (h : ¬ (a ∨ b ∨ c ∨ x < y ∨ z < w)) : ¬ a ∧ ¬ b ∧ ¬ c ∧ y ≤ x ∧ w ≤ z :=
  ⟨fun q => h (Or.inl q), fun q => h (Or.inr (Or.inl q)), fun q => h (Or.inr (Or.inr (Or.inl q))), Nat.le_of_not_lt (fun q => h (Or.inr (Or.inr (Or.inr (Or.inl q))))), Nat.le_of_not_lt (fun q => h (Or.inr (Or.inr (Or.inr (Or.inr q)))))⟩
abbrev mp_b (x : Int32) : Prop := x = 0 ∨ x = 1
theorem mp_nz {x : Int32} (h : mp_b x) : narrow .boolean (.int x) = .int x := by
  rcases h with rfl | rfl <;> decide
abbrev mp_tys (cI cJ cZ : ClassId) : List (ClassId × FieldType) := [(cI, .int), (cJ, .long), (cZ, .boolean)]
/-- what the tables say of nest mates -/
def mp_N (U : State) : Prop := va_Nw (.methodLinkNest zR_MP 19 zy_Pa_init zR_MP) U ∧ va_Nw (.methodLinkNest zR_Pa 30 zy_Ch_init zR_MP) U ∧ va_Nw (.methodLinkNest zR_MP 26 zy_Ne_init zR_MP) U ∧ va_Nw (.methodLinkNest zR_MP 33 zy_Fo_init zR_MP) U ∧ va_Nw (.methodLinkNest zR_Fo 74 zy_MP_isKind zR_MP) U
theorem mp_N.warm {s U : State} (hW : s.WarmedH U.vm) (h : mp_N s) : mp_N U := ⟨va_Nw.warmM hW h.1, va_Nw.warmM hW h.2.1, va_Nw.warmM hW h.2.2.1, va_Nw.warmM hW h.2.2.2.1, va_Nw.warmM hW h.2.2.2.2⟩
theorem mp_N.same {u U : State} (hv : u.vm = U.vm) (h : mp_N u) : mp_N U := ⟨va_Nw.same rfl hv h.1, va_Nw.same rfl hv h.2.1, va_Nw.same rfl hv h.2.2.1, va_Nw.same rfl hv h.2.2.2.1, va_Nw.same rfl hv h.2.2.2.2⟩
abbrev mp_PR (D : va_G) (cl : List vw_C) (tys : List (ClassId × FieldType)) (ws : va_W) (av : List Value) : Array Value → State → Prop := va_Pc av (fun U => va_P D cl ws U.heap ∧ va_K D cl tys U ∧ mp_N U)
abbrev mp_PM (D : va_G) (cl : List vw_C) (tys : List (ClassId × FieldType)) (ws : va_W) (sz : Nat) (av : List Value) : Array Value → State → Prop := va_Pc av (fun U => U.heap.size = sz ∧ va_P D cl ws U.heap ∧ va_K D cl tys U ∧ va_D (fun _ => True) ws ∧ mp_N U)
abbrev mp_BM (D : va_G) (cl : List vw_C) (w1 : va_W) (A : Nat → Prop) : Unit → State → Prop := fun _ t => va_P D cl w1 t.heap ∧ va_D A w1
theorem mp_goodw {w : Cond} (h : w ∈ mp_tbl) : (w.onTables && w.keeps) = true ∨ ∃ ty, w = .arrayClass ty := good_of_word (List.mem_filter.mp h).2
theorem mp_gC {Ts : List Cond} (hs : ∀ w ∈ mp_tbl, w ∈ Ts) {k : Cond} (h : k ∈ mp_tbl) : GoodIn Ts (k :: mp_tbl) := fun w hw => by
  rcases List.mem_cons.mp hw with rfl | q
  · exact ⟨hs _ h, mp_goodw h⟩
  · exact ⟨hs _ q, mp_goodw q⟩
theorem mp_gL {Ts : List Cond} (hs : ∀ w ∈ mp_tbl, w ∈ Ts) {L ws : List Cond} (hL : ∀ w ∈ L, w ∈ mp_tbl) (hg : GoodIn Ts ws) : GoodIn Ts (L ++ ws) := fun w hw => by
  rcases List.mem_append.mp hw with q | q
  · exact ⟨hs _ (hL w q), mp_goodw (hL w q)⟩
  · exact hg w q
theorem mp_gV {Ts : List Cond} (hs : ∀ w ∈ mp_tbl, w ∈ Ts) {own C : String} {idx : Nat} {y : MethodName} {k : Cond} (h1 : Cond.methodLink own idx y ∈ mp_tbl) (h2 : Cond.instanceMethod y ∈ mp_tbl) (h3 : Cond.selects C y y ∈ mp_tbl) (h4 : Cond.initialized C ∈ mp_tbl) (h5 : k ∈ mp_tbl) : GoodIn Ts (wsV own idx C y (k :: mp_tbl)) :=
  mp_gL hs (List.forall_mem_cons.mpr ⟨h1, List.forall_mem_cons.mpr ⟨h2, List.forall_mem_cons.mpr ⟨h3, List.forall_mem_cons.mpr ⟨h4, fun _ h => absurd h List.not_mem_nil⟩⟩⟩⟩) (mp_gC hs h5)
theorem mp_gS {Ts : List Cond} (hs : ∀ w ∈ mp_tbl, w ∈ Ts) {own : String} {idx : Nat} {y : MethodName} {k : Cond} (h1 : Cond.methodLink own idx y ∈ mp_tbl) (h2 : Cond.static y ∈ mp_tbl) (h3 : Cond.initialized y.cls ∈ mp_tbl) (h4 : k ∈ mp_tbl) : GoodIn Ts (va_wsS own idx y (k :: mp_tbl)) :=
  mp_gL hs (List.forall_mem_cons.mpr ⟨h1, List.forall_mem_cons.mpr ⟨h2, List.forall_mem_cons.mpr ⟨h3, fun _ h => absurd h List.not_mem_nil⟩⟩⟩) (mp_gC hs h4)
abbrev mp_BC {S : Type} (D : va_G) (cl : List vw_C) (B1 : S → va_W) (A : Nat → Prop) : S → State → Prop := fun u t => va_P D cl (B1 u) t.heap ∧ va_D A (B1 u)
section MPC
variable {p : Program} {l : Launch} {e : Env} {R : Room} {s : State} {m : MethodId} {args : Array Value} {below : List Frame} {meth : Method} {c : Code} {H : Heap} {locs : List Loc} {cells slots : Nat} {Q : State → Prop}
variable {D : va_G} {cl : List vw_C} {tys : List (ClassId × FieldType)} {ws wc wr w1 : va_W} {av : List Value} {a : Array Value} {st0 rest : List Value} {pc : Nat} {ls : Array Slot} {A0 : Nat → Prop} {H0 : Heap}
theorem mp_blR : FrameBlind (mp_PR D cl tys ws av) := fun a U g mk q => ⟨q.1, q.2.1, va_K.moved (u := U) (U := U.calling g mk a) (Vm.Alike.refl U.vm) q.2.2.1, mp_N.same (u := U) (U := U.calling g mk a) rfl q.2.2.2⟩
theorem mp_blM {sz : Nat} : FrameBlind (mp_PM D cl tys ws sz av) := fun a U g mk q => ⟨q.1, q.2.1, q.2.2.1, va_K.moved (u := U) (U := U.calling g mk a) (Vm.Alike.refl U.vm) q.2.2.2.1, q.2.2.2.2.1, mp_N.same (u := U) (U := U.calling g mk a) rfl q.2.2.2.2.2⟩
theorem mp_preR (hN : mp_N s) (hK : va_K D cl tys s) (hP : va_P D cl wc H) : ∀ U : State, U.heap = H → s.WarmedH U.vm → mp_PR D cl tys wc av av.toArray U := fun U hU hW => ⟨rfl, by rw [hU]; exact hP, va_K.moved hW.alike hK, mp_N.warm hW hN⟩
theorem mp_preM (hN : mp_N s) (hK : va_K D cl tys s) (hP : va_P D cl wc H) (hD : va_D A0 wc) : ∀ U : State, U.heap = H → s.WarmedH U.vm → mp_PM D cl tys wc H.size av av.toArray U := fun U hU hW => ⟨rfl, by rw [hU], by rw [hU]; exact hP, va_K.moved hW.alike hK, hD.weaken (fun _ _ _ _ => trivial), mp_N.warm hW hN⟩
theorem mp_Ri {res : Int32} (hr : va_Run p l e R s m args below meth c H locs cells slots 0 0 (F0 m pc ls st0) rest (vp_Si (fun r => r = res) a) (fun _ => False))
    (kk : W p l e R s m args below meth c H locs cells slots Q (F0 m (pc + 3) ls (.int res :: rest))) : W p l e R s m args below meth c H locs cells slots Q (F0 m pc ls st0) := vp_callSi hr.run (fun r h => by rw [h]; exact kk)
theorem mp_Rz {res : Int32} (hr : va_Run p l e R s m args below meth c H locs cells slots 0 0 (F0 m pc ls st0) rest (vp_Si (fun r => r = res ∧ mp_b res) a) (fun _ => False))
    (kk : mp_b res → W p l e R s m args below meth c H locs cells slots Q (F0 m (pc + 3) ls (.int res :: rest))) : W p l e R s m args below meth c H locs cells slots Q (F0 m pc ls st0) := vp_callSi hr.run (fun r h => by rw [h.1]; exact kk h.2)
theorem mp_Rl {res : Int64} (hr : va_Run p l e R s m args below meth c H locs cells slots 0 0 (F0 m pc ls st0) rest (vp_Sl (fun r => r = res) a) (fun _ => False))
    (kk : W p l e R s m args below meth c H locs cells slots Q (F0 m (pc + 3) ls (.long res :: rest))) : W p l e R s m args below meth c H locs cells slots Q (F0 m pc ls st0) := vp_callSl hr.run (fun r h => by rw [h]; exact kk)
theorem mp_Mi {res : Int32} (hr : va_Run p l e R s m args below meth c H locs cells slots 0 0 (F0 m pc ls st0) rest (va_Qi (fun r (_ : Unit) => r = res) (mp_BM D cl w1 (va_A wc H.size)) (va_A wc H.size) a) (va_A wc H.size))
    (hP : va_P D cl ws H) (hD : va_D A0 ws) (hS : va_S A0 H0 H locs) (hA : ∀ q, H0.size ≤ q → A0 q) (isC isR : List Nat) (hC : isC.map (fun i => ws[i]?) = wc.map some) (hR : isR.map (fun i => ws[i]?) = wr.map some) (hn : va_nd isR = true) (hdis : ∀ i ∈ isR, i ∉ isC)
    (kk : ∀ (H1 : Heap) (locs1 : List Loc), va_P D cl (wr ++ w1) H1 → va_D A0 (wr ++ w1) → va_S A0 H0 H1 locs1 → W p l e R s m args below meth c H1 locs1 cells slots Q (F0 m (pc + 3) ls (.int res :: rest))) : W p l e R s m args below meth c H locs cells slots Q (F0 m pc ls st0) := by
  have hF := va_free (wc := wc) hD hS hA isC hC
  refine va_calli hr hS (fun q _ h => hF q h) hF (fun r u t H1 locs1 ht hvm hw hB hz1 hk1 hS1 => ?_)
  obtain ⟨hP1, hD1⟩ := hB
  rw [ht] at hP1
  obtain ⟨hP2, hD2⟩ := va_join hP hD isC isR hC hR hn hdis hk1 hF hP1 hD1
  rw [hw]
  exact kk H1 locs1 hP2 hD2 hS1
theorem mp_Mz {res : Int32} (hr : va_Run p l e R s m args below meth c H locs cells slots 0 0 (F0 m pc ls st0) rest (va_Qi (fun r (_ : Unit) => r = res ∧ mp_b res) (mp_BM D cl w1 (va_A wc H.size)) (va_A wc H.size) a) (va_A wc H.size))
    (hP : va_P D cl ws H) (hD : va_D A0 ws) (hS : va_S A0 H0 H locs) (hA : ∀ q, H0.size ≤ q → A0 q) (isC isR : List Nat) (hC : isC.map (fun i => ws[i]?) = wc.map some) (hR : isR.map (fun i => ws[i]?) = wr.map some) (hn : va_nd isR = true) (hdis : ∀ i ∈ isR, i ∉ isC)
    (kk : ∀ (H1 : Heap) (locs1 : List Loc), va_P D cl (wr ++ w1) H1 → va_D A0 (wr ++ w1) → va_S A0 H0 H1 locs1 → mp_b res → W p l e R s m args below meth c H1 locs1 cells slots Q (F0 m (pc + 3) ls (.int res :: rest))) : W p l e R s m args below meth c H locs cells slots Q (F0 m pc ls st0) := by
  have hF := va_free (wc := wc) hD hS hA isC hC
  refine va_calli hr hS (fun q _ h => hF q h) hF (fun r u t H1 locs1 ht hvm hw hB hz1 hk1 hS1 => ?_)
  obtain ⟨hP1, hD1⟩ := hB
  rw [ht] at hP1
  obtain ⟨hP2, hD2⟩ := va_join hP hD isC isR hC hR hn hdis hk1 hF hP1 hD1
  rw [hw.1]
  exact kk H1 locs1 hP2 hD2 hS1 hw.2
theorem mp_Ml {res : Int64} (hr : va_Run p l e R s m args below meth c H locs cells slots 0 0 (F0 m pc ls st0) rest (va_Ql (fun r (_ : Unit) => r = res) (mp_BM D cl w1 (va_A wc H.size)) (va_A wc H.size) a) (va_A wc H.size))
    (hP : va_P D cl ws H) (hD : va_D A0 ws) (hS : va_S A0 H0 H locs) (hA : ∀ q, H0.size ≤ q → A0 q) (isC isR : List Nat) (hC : isC.map (fun i => ws[i]?) = wc.map some) (hR : isR.map (fun i => ws[i]?) = wr.map some) (hn : va_nd isR = true) (hdis : ∀ i ∈ isR, i ∉ isC)
    (kk : ∀ (H1 : Heap) (locs1 : List Loc), va_P D cl (wr ++ w1) H1 → va_D A0 (wr ++ w1) → va_S A0 H0 H1 locs1 → W p l e R s m args below meth c H1 locs1 cells slots Q (F0 m (pc + 3) ls (.long res :: rest))) : W p l e R s m args below meth c H locs cells slots Q (F0 m pc ls st0) := by
  have hF := va_free (wc := wc) hD hS hA isC hC
  refine va_calll hr hS (fun q _ h => hF q h) hF (fun r u t H1 locs1 ht hvm hw hB hz1 hk1 hS1 => ?_)
  obtain ⟨hP1, hD1⟩ := hB
  rw [ht] at hP1
  obtain ⟨hP2, hD2⟩ := va_join hP hD isC isR hC hR hn hdis hk1 hF hP1 hD1
  rw [hw]
  exact kk H1 locs1 hP2 hD2 hS1
theorem mp_Mv (hr : va_Run p l e R s m args below meth c H locs cells slots 0 0 (F0 m pc ls st0) rest (va_Qv (fun (_ : Unit) => True) (mp_BM D cl w1 (va_A wc H.size)) (va_A wc H.size) a) (va_A wc H.size))
    (hP : va_P D cl ws H) (hD : va_D A0 ws) (hS : va_S A0 H0 H locs) (hA : ∀ q, H0.size ≤ q → A0 q) (isC isR : List Nat) (hC : isC.map (fun i => ws[i]?) = wc.map some) (hR : isR.map (fun i => ws[i]?) = wr.map some) (hn : va_nd isR = true) (hdis : ∀ i ∈ isR, i ∉ isC)
    (kk : ∀ (H1 : Heap) (locs1 : List Loc), va_P D cl (wr ++ w1) H1 → va_D A0 (wr ++ w1) → va_S A0 H0 H1 locs1 → W p l e R s m args below meth c H1 locs1 cells slots Q (F0 m (pc + 3) ls rest)) : W p l e R s m args below meth c H locs cells slots Q (F0 m pc ls st0) := by
  have hF := va_free (wc := wc) hD hS hA isC hC
  refine va_callv hr hS (fun q _ h => hF q h) hF (fun u t H1 locs1 ht hvm hw hB hz1 hk1 hS1 => ?_)
  obtain ⟨hP1, hD1⟩ := hB
  rw [ht] at hP1
  obtain ⟨hP2, hD2⟩ := va_join hP hD isC isR hC hR hn hdis hk1 hF hP1 hD1
  exact kk H1 locs1 hP2 hD2 hS1
theorem mp_Cv {S : Type} {B1 : S → va_W} {mc ms : Nat} (hr : va_Run p l e R s m args below meth c H locs cells slots mc ms (F0 m pc ls st0) rest (va_Qv (fun (_ : S) => True) (mp_BC D cl B1 (va_A wc H.size)) (va_A wc H.size) a) (va_A wc H.size))
    (hP : va_P D cl ws H) (hD : va_D A0 ws) (hS : va_S A0 H0 H locs) (hA : ∀ q, H0.size ≤ q → A0 q) (isC isR : List Nat) (hC : isC.map (fun i => ws[i]?) = wc.map some) (hR : isR.map (fun i => ws[i]?) = wr.map some) (hn : va_nd isR = true) (hdis : ∀ i ∈ isR, i ∉ isC)
    (kk : ∀ (u : S) (H1 : Heap) (locs1 : List Loc), va_P D cl (wr ++ B1 u) H1 → va_D A0 (wr ++ B1 u) → va_S A0 H0 H1 locs1 → W p l e R s m args below meth c H1 locs1 (cells + mc) (slots + ms) Q (F0 m (pc + 3) ls rest)) : W p l e R s m args below meth c H locs cells slots Q (F0 m pc ls st0) := by
  have hF := va_free (wc := wc) hD hS hA isC hC
  refine va_callv hr hS (fun q _ h => hF q h) hF (fun u t H1 locs1 ht hvm hw hB hz1 hk1 hS1 => ?_)
  obtain ⟨hP1, hD1⟩ := hB
  rw [ht] at hP1
  obtain ⟨hP2, hD2⟩ := va_join hP hD isC isR hC hR hn hdis hk1 hF hP1 hD1
  exact kk u H1 locs1 hP2 hD2 hS1
theorem mp_sameI {cI cJ cZ cA : ClassId} (h : va_K D cl (mp_tys cI cJ cZ ++ [(cA, .int)]) s) : cI = cA := Option.some.inj ((h.2 0 _ rfl).2.symm.trans (h.2 3 _ rfl).2)
theorem mp_sameJ {cI cJ cZ cA : ClassId} (h : va_K D cl (mp_tys cI cJ cZ ++ [(cA, .long)]) s) : cJ = cA := Option.some.inj ((h.2 1 _ rfl).2.symm.trans (h.2 3 _ rfl).2)
theorem mp_sameZ {cI cJ cZ cA : ClassId} (h : va_K D cl (mp_tys cI cJ cZ ++ [(cA, .boolean)]) s) : cZ = cA := Option.some.inj ((h.2 2 _ rfl).2.symm.trans (h.2 3 _ rfl).2)
theorem mp_arr {ty : FieldType} (h : (Cond.arrayClass ty).before args s = true) : ∃ cA : ClassId, ArrOfT s cA ty ∧ s.vm.findClass ("[" ++ ty.toString) = some cA := by
  obtain ⟨cA, kA, comp, hfind, hk, hkind⟩ := Cond.arrayClass_spec h
  exact ⟨cA, fun n z => ⟨fun k h => (by cases h), kA, hk, comp, hkind⟩, hfind⟩
end MPC
