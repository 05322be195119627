set_option maxHeartbeats 4000000 in
set_option maxRecDepth 100000 in
theorem zc_MP_good (l : Launch) (dC : Nat → ClassId) (dI : Nat → Nat → Nat) (cI cJ cZ : ClassId) (ad : Nat → Nat) (sz : Nat) (xgc : Int32) (res : Int32 × Int32) (hf : zf_MP_good xgc = some res) : Met l zy_MP_good zw_MP_good ({ frames := 0, cells := 0, slots := 0, locals := 0 } : Room) (mp_PM (dC, dI) vwCl (mp_tys cI cJ cZ) [(ad 0, .inr (4, [.ref (ad 1), .ref (ad 2), .ref (ad 3), .ref (ad 4), .ref (ad 5), .ref (ad 6), .int xgc]))] sz [.ref (ad 0)]) (va_Qi (fun r (_ : Unit) => r = res.1) (mp_BM (dC, dI) vwCl [(ad 0, .inr (4, [.ref (ad 1), .ref (ad 2), .ref (ad 3), .ref (ad 4), .ref (ad 5), .ref (ad 6), .int res.2]))] (va_A [(ad 0, .inr (4, [.ref (ad 1), .ref (ad 2), .ref (ad 3), .ref (ad 4), .ref (ad 5), .ref (ad 6), .int xgc]))] sz)) (va_A [(ad 0, .inr (4, [.ref (ad 1), .ref (ad 2), .ref (ad 3), .ref (ad 4), .ref (ad 5), .ref (ad 6), .int xgc]))] sz)) 0 0 ((va_A [(ad 0, .inr (4, [.ref (ad 1), .ref (ad 2), .ref (ad 3), .ref (ad 4), .ref (ad 5), .ref (ad 6), .int xgc]))] sz)) := by
  refine Met.ofW (cc := zb_MP_good) (maxL := 1) (ret := (some .int)) (by decide) rfl ?_
  intro p e s m args below meth c s₁ B hml hv
  obtain ⟨rfl, hsz, hP, hK, hD0, hN⟩ := hv
  have hx := B.exec
  have hb := B.bytes
  have hr := B.returns
  have hts := atoms_spec (ws := zw_MP_good) B.pre
  have hsub : ∀ w ∈ mp_tbl, w ∈ zw_MP_good := fun w h => List.mem_cons_of_mem _ h
  have hw : ∀ w ∈ mp_tbl, w.before _ s = true := fun w h => hts w (hsub w h)
  have hown : s.vm.findClass zR_MP = some m.cls := findClass_of_methodNamed B.named
  have hlocks := B.notSynchronized
  subst hsz
  have hD := hD0.self (sz := s.heap.size)
  generalize hAe : va_A [(ad 0, .inr (4, [.ref (ad 1), .ref (ad 2), .ref (ad 3), .ref (ad 4), .ref (ad 5), .ref (ad 6), .int xgc]))] s.heap.size = A at hD ⊢
  have hA : ∀ q : Nat, s.heap.size ≤ q → A q := fun q h => by rw [← hAe]; exact Or.inr h
  have hS : va_S A s.heap s.heap [] := va_S.rf
  have hP : va_P (dC, dI) vwCl [(ad 0, .inr (4, [.ref (ad 1), .ref (ad 2), .ref (ad 3), .ref (ad 4), .ref (ad 5), .ref (ad 6), .int xgc]))] s.heap := hP
  clear hAe hD0
  have hl := lv_entry ([.ref (ad 0)]) (n := 1) (Nat.le_of_ble_eq_true rfl)
  rw [lg_entry_eq]
  generalize (lg_sl ([.ref (ad 0)]) ++ List.replicate (1 - (lg_sl ([.ref (ad 0)])).length) Slot.unset).toArray = ls at hl ⊢
  have hl : lv_has ls 1 [(0, .ref (ad 0))] := hl
  unfold zf_MP_good at hf
  refine lv_aload_n hx hb zd_MP_good_0 rfl (lv_at hl 0 rfl) ?_
  refine va_get (D := (dC, dI)) (ci := 4) (v := .int xgc) (C := zR_MP) (T := zT_MP) (N := 7) hx hb hts (fun w h => hsub w (zi_MP w h)) hown hK hP 0 rfl rfl 6 (by decide) (hw _ zq_158) (fun _ h9 => h9) rfl zd_MP_good_1 ?_
  refine lv_bipush (v := 8) hx hb zd_MP_good_4 (by decide) ?_
  refine lv_icmp_lt (tgt := 11) hx hb zd_MP_good_6 (by decide) (fun c_1 => ?_) (fun c_1 => ?_)
  · have hf := mp_t c_1 hf
    refine lv_aload_n hx hb zd_MP_good_11 rfl (lv_at hl 0 rfl) ?_
    refine lv_dup hx hb zd_MP_good_12 rfl ?_
    refine va_get (D := (dC, dI)) (ci := 4) (v := .int xgc) (C := zR_MP) (T := zT_MP) (N := 7) hx hb hts (fun w h => hsub w (zi_MP w h)) hown hK hP 0 rfl rfl 6 (by decide) (hw _ zq_158) (fun _ h9 => h9) rfl zd_MP_good_13 ?_
    refine lv_iconst (v := 1) hx hb zd_MP_good_16 (by decide) ?_
    refine lv_iadd hx hb zd_MP_good_17 ?_
    refine va_put (D := (dC, dI)) (ci := 4) (v := .int (xgc + (1 : Int32))) (ty := .int) (C := zR_MP) (T := zT_MP) (N := 7) hx hb hts (fun w h => hsub w (zi_MP w h)) zt_MP zt_MP_ok zn_MP hown hK hP hD hS 0 rfl rfl 6 (by decide) (hw _ zq_158) (fun _ h9 => h9) rfl (by decide +kernel) rfl rfl (Nat.le_of_ble_eq_true rfl) zd_MP_good_18 (fun H locs hP hD hS => ?_)
    have hP : va_P (dC, dI) vwCl [(ad 0, .inr (4, [.ref (ad 1), .ref (ad 2), .ref (ad 3), .ref (ad 4), .ref (ad 5), .ref (ad 6), .int (xgc + (1 : Int32))]))] H := hP
    have hD : va_D A [(ad 0, .inr (4, [.ref (ad 1), .ref (ad 2), .ref (ad 3), .ref (ad 4), .ref (ad 5), .ref (ad 6), .int (xgc + (1 : Int32))]))] := hD
    refine lv_aload_n hx hb zd_MP_good_21 rfl (lv_at hl 0 rfl) ?_
    refine va_get (D := (dC, dI)) (ci := 4) (v := .int (xgc + (1 : Int32))) (C := zR_MP) (T := zT_MP) (N := 7) hx hb hts (fun w h => hsub w (zi_MP w h)) hown hK hP 0 rfl rfl 6 (by decide) (hw _ zq_158) (fun _ h9 => h9) rfl zd_MP_good_22 ?_
    refine lv_iconst (v := 1) hx hb zd_MP_good_25 (by decide) ?_
    refine lv_isub hx hb zd_MP_good_26 ?_
    have hf := Option.some.inj hf
    subst hf
    exact W.iret (v := ((xgc + (1 : Int32)) - (1 : Int32))) hx hb hr (fun t ht hW => ⟨⟨((xgc + (1 : Int32)) - (1 : Int32)), (), rfl, rfl, by rw [ht]; exact hP, hD⟩, hS.F ht⟩) hS.2.2 zd_MP_good_27
  · have hf := mp_f c_1 hf
    refine lv_iconst (v := -1) hx hb zd_MP_good_9 (by decide) ?_
    have hf := Option.some.inj hf
    subst hf
    exact W.iret (v := (-1 : Int32)) hx hb hr (fun t ht hW => ⟨⟨(-1 : Int32), (), rfl, rfl, by rw [ht]; exact hP, hD⟩, hS.F ht⟩) hS.2.2 zd_MP_good_10
set_option maxHeartbeats 4000000 in
set_option maxRecDepth 100000 in
theorem zc_Pa_isFull (l : Launch) (dC : Nat → ClassId) (dI : Nat → Nat → Nat) (cI cJ cZ : ClassId) (ad : Nat → Nat) (xpn : Int32) (res : Int32) (hf : zf_Pa_isFull xpn = some res) : Met l zy_Pa_isFull zw_Pa_isFull ({ frames := 0, cells := 0, slots := 0, locals := 0 } : Room) (mp_PR (dC, dI) vwCl (mp_tys cI cJ cZ) [(ad 3, .inr (3, [.ref (ad 7), .ref (ad 8), .ref (ad 9), .ref (ad 10), .ref (ad 11), .ref (ad 12), .int xpn]))] [.ref (ad 3)]) (vp_Si (fun r => r = res ∧ mp_b res)) 0 0 (fun _ => False) := by
  refine Met.ofW (cc := zb_Pa_isFull) (maxL := 1) (ret := (some .boolean)) (by decide) rfl ?_
  intro p e s m args below meth c s₁ B hml hv
  obtain ⟨rfl, hP, hK, hN⟩ := hv
  have hx := B.exec
  have hb := B.bytes
  have hr := B.returns
  have hts := atoms_spec (ws := zw_Pa_isFull) B.pre
  have hsub : ∀ w ∈ mp_tbl, w ∈ zw_Pa_isFull := fun w h => List.mem_cons_of_mem _ h
  have hw : ∀ w ∈ mp_tbl, w.before _ s = true := fun w h => hts w (hsub w h)
  have hown : s.vm.findClass zR_Pa = some m.cls := findClass_of_methodNamed B.named
  have hlocks := B.notSynchronized
  have hl := lv_entry ([.ref (ad 3)]) (n := 1) (Nat.le_of_ble_eq_true rfl)
  rw [lg_entry_eq]
  generalize (lg_sl ([.ref (ad 3)]) ++ List.replicate (1 - (lg_sl ([.ref (ad 3)])).length) Slot.unset).toArray = ls at hl ⊢
  have hl : lv_has ls 1 [(0, .ref (ad 3))] := hl
  unfold zf_Pa_isFull at hf
  refine lv_aload_n hx hb zd_Pa_isFull_0 rfl (lv_at hl 0 rfl) ?_
  refine va_get (D := (dC, dI)) (ci := 3) (v := .int xpn) (C := zR_Pa) (T := zT_Pa) (N := 7) hx hb hts (fun w h => hsub w (zi_Pa w h)) hown hK hP 0 rfl rfl 6 (by decide) (hw _ zq_87) (fun _ h9 => h9) rfl zd_Pa_isFull_1 ?_
  refine lv_bipush (v := 24) hx hb zd_Pa_isFull_4 (by decide) ?_
  refine lv_icmp_lt (tgt := 13) hx hb zd_Pa_isFull_6 (by decide) (fun c_1 => ?_) (fun c_1 => ?_)
  · have hf := mp_t c_1 hf
    refine lv_iconst (v := 0) hx hb zd_Pa_isFull_13 (by decide) ?_
    have hf := Option.some.inj hf
    subst hf
    exact W.zret (v := (0 : Int32)) hx hb hr (mp_nz (Or.inl rfl)) (fun t ht hW => ⟨(0 : Int32), rfl, ⟨rfl, (Or.inl rfl)⟩, ht⟩) (fun q h => by cases h) zd_Pa_isFull_14
  · have hf := mp_f c_1 hf
    refine lv_iconst (v := 1) hx hb zd_Pa_isFull_9 (by decide) ?_
    refine lv_goto (tgt := 14) hx hb zd_Pa_isFull_10 (by decide) ?_
    have hf := Option.some.inj hf
    subst hf
    exact W.zret (v := (1 : Int32)) hx hb hr (mp_nz (Or.inr rfl)) (fun t ht hW => ⟨(1 : Int32), rfl, ⟨rfl, (Or.inr rfl)⟩, ht⟩) (fun q h => by cases h) zd_Pa_isFull_14
set_option maxHeartbeats 4000000 in
set_option maxRecDepth 100000 in
theorem zc_MP_isGood (l : Launch) (dC : Nat → ClassId) (dI : Nat → Nat → Nat) (cI cJ cZ : ClassId) (ad : Nat → Nat) (xgc : Int32) (u1 : Int32) (res : Int32) (hf : zf_MP_isGood u1 xgc = some res) : Met l zy_MP_isGood zw_MP_isGood ({ frames := 0, cells := 0, slots := 0, locals := 0 } : Room) (mp_PR (dC, dI) vwCl (mp_tys cI cJ cZ) [(ad 0, .inr (4, [.ref (ad 1), .ref (ad 2), .ref (ad 3), .ref (ad 4), .ref (ad 5), .ref (ad 6), .int xgc]))] [.ref (ad 0), .int u1]) (vp_Si (fun r => r = res ∧ mp_b res)) 0 0 (fun _ => False) := by
  refine Met.ofW (cc := zb_MP_isGood) (maxL := 2) (ret := (some .boolean)) (by decide) rfl ?_
  intro p e s m args below meth c s₁ B hml hv
  obtain ⟨rfl, hP, hK, hN⟩ := hv
  have hx := B.exec
  have hb := B.bytes
  have hr := B.returns
  have hts := atoms_spec (ws := zw_MP_isGood) B.pre
  have hsub : ∀ w ∈ mp_tbl, w ∈ zw_MP_isGood := fun w h => List.mem_cons_of_mem _ h
  have hw : ∀ w ∈ mp_tbl, w.before _ s = true := fun w h => hts w (hsub w h)
  have hown : s.vm.findClass zR_MP = some m.cls := findClass_of_methodNamed B.named
  have hlocks := B.notSynchronized
  have hl := lv_entry ([.ref (ad 0), .int u1]) (n := 2) (Nat.le_of_ble_eq_true rfl)
  rw [lg_entry_eq]
  generalize (lg_sl ([.ref (ad 0), .int u1]) ++ List.replicate (2 - (lg_sl ([.ref (ad 0), .int u1])).length) Slot.unset).toArray = ls at hl ⊢
  have hl : lv_has ls 2 [(0, .ref (ad 0)), (1, .int u1)] := hl
  unfold zf_MP_isGood at hf
  refine lv_iload_n hx hb zd_MP_isGood_0 rfl (lv_at hl 1 rfl) ?_
  refine lv_if_lt (tgt := 16) hx hb zd_MP_isGood_1 (by decide) (fun c_1 => ?_) (fun c_1 => ?_)
  · have hf := mp_t c_1 hf
    refine lv_iconst (v := 0) hx hb zd_MP_isGood_16 (by decide) ?_
    have hf := Option.some.inj hf
    subst hf
    exact W.zret (v := (0 : Int32)) hx hb hr (mp_nz (Or.inl rfl)) (fun t ht hW => ⟨(0 : Int32), rfl, ⟨rfl, (Or.inl rfl)⟩, ht⟩) (fun q h => by cases h) zd_MP_isGood_17
  · have hf := mp_f c_1 hf
    refine lv_iload_n hx hb zd_MP_isGood_4 rfl (lv_at hl 1 rfl) ?_
    refine lv_aload_n hx hb zd_MP_isGood_5 rfl (lv_at hl 0 rfl) ?_
    refine va_get (D := (dC, dI)) (ci := 4) (v := .int xgc) (C := zR_MP) (T := zT_MP) (N := 7) hx hb hts (fun w h => hsub w (zi_MP w h)) hown hK hP 0 rfl rfl 6 (by decide) (hw _ zq_158) (fun _ h9 => h9) rfl zd_MP_isGood_6 ?_
    refine lv_icmp_ge (tgt := 16) hx hb zd_MP_isGood_9 (by decide) (fun c_2 => ?_) (fun c_2 => ?_)
    · have hf := mp_t c_2 hf
      refine lv_iconst (v := 0) hx hb zd_MP_isGood_16 (by decide) ?_
      have hf := Option.some.inj hf
      subst hf
      exact W.zret (v := (0 : Int32)) hx hb hr (mp_nz (Or.inl rfl)) (fun t ht hW => ⟨(0 : Int32), rfl, ⟨rfl, (Or.inl rfl)⟩, ht⟩) (fun q h => by cases h) zd_MP_isGood_17
    · have hf := mp_f c_2 hf
      refine lv_iconst (v := 1) hx hb zd_MP_isGood_12 (by decide) ?_
      refine lv_goto (tgt := 17) hx hb zd_MP_isGood_13 (by decide) ?_
      have hf := Option.some.inj hf
      subst hf
      exact W.zret (v := (1 : Int32)) hx hb hr (mp_nz (Or.inr rfl)) (fun t ht hW => ⟨(1 : Int32), rfl, ⟨rfl, (Or.inr rfl)⟩, ht⟩) (fun q h => by cases h) zd_MP_isGood_17
set_option maxHeartbeats 4000000 in
set_option maxRecDepth 100000 in
theorem zc_MP_isKind (l : Launch) (dC : Nat → ClassId) (dI : Nat → Nat → Nat) (cI cJ cZ : ClassId) (ad : Nat → Nat) (u0 : Int32) (res : Int32) (hf : zf_MP_isKind u0 = some res) : Met l zy_MP_isKind zw_MP_isKind ({ frames := 0, cells := 0, slots := 0, locals := 0 } : Room) (mp_PR (dC, dI) vwCl (mp_tys cI cJ cZ) [] [.int u0]) (vp_Si (fun r => r = res ∧ mp_b res)) 0 0 (fun _ => False) := by
  refine Met.ofW (cc := zb_MP_isKind) (maxL := 1) (ret := (some .boolean)) (by decide) rfl ?_
  intro p e s m args below meth c s₁ B hml hv
  obtain ⟨rfl, hP, hK, hN⟩ := hv
  have hx := B.exec
  have hb := B.bytes
  have hr := B.returns
  have hts := atoms_spec (ws := zw_MP_isKind) B.pre
  have hsub : ∀ w ∈ mp_tbl, w ∈ zw_MP_isKind := fun w h => List.mem_cons_of_mem _ h
  have hw : ∀ w ∈ mp_tbl, w.before _ s = true := fun w h => hts w (hsub w h)
  have hown : s.vm.findClass zR_MP = some m.cls := findClass_of_methodNamed B.named
  have hlocks := B.notSynchronized
  have hl := lv_entry ([.int u0]) (n := 1) (Nat.le_of_ble_eq_true rfl)
  rw [lg_entry_eq]
  generalize (lg_sl ([.int u0]) ++ List.replicate (1 - (lg_sl ([.int u0])).length) Slot.unset).toArray = ls at hl ⊢
  have hl : lv_has ls 1 [(0, .int u0)] := hl
  unfold zf_MP_isKind at hf
  refine lv_iload_n hx hb zd_MP_isKind_0 rfl (lv_at hl 0 rfl) ?_
  refine lv_if_lt (tgt := 13) hx hb zd_MP_isKind_1 (by decide) (fun c_1 => ?_) (fun c_1 => ?_)
  · have hf := mp_t c_1 hf
    refine lv_iconst (v := 0) hx hb zd_MP_isKind_13 (by decide) ?_
    have hf := Option.some.inj hf
    subst hf
    exact W.zret (v := (0 : Int32)) hx hb hr (mp_nz (Or.inl rfl)) (fun t ht hW => ⟨(0 : Int32), rfl, ⟨rfl, (Or.inl rfl)⟩, ht⟩) (fun q h => by cases h) zd_MP_isKind_14
  · have hf := mp_f c_1 hf
    refine lv_iload_n hx hb zd_MP_isKind_4 rfl (lv_at hl 0 rfl) ?_
    refine lv_iconst (v := 5) hx hb zd_MP_isKind_5 (by decide) ?_
    refine lv_icmp_ge (tgt := 13) hx hb zd_MP_isKind_6 (by decide) (fun c_2 => ?_) (fun c_2 => ?_)
    · have hf := mp_t c_2 hf
      refine lv_iconst (v := 0) hx hb zd_MP_isKind_13 (by decide) ?_
      have hf := Option.some.inj hf
      subst hf
      exact W.zret (v := (0 : Int32)) hx hb hr (mp_nz (Or.inl rfl)) (fun t ht hW => ⟨(0 : Int32), rfl, ⟨rfl, (Or.inl rfl)⟩, ht⟩) (fun q h => by cases h) zd_MP_isKind_14
    · have hf := mp_f c_2 hf
      refine lv_iconst (v := 1) hx hb zd_MP_isKind_9 (by decide) ?_
      refine lv_goto (tgt := 14) hx hb zd_MP_isKind_10 (by decide) ?_
      have hf := Option.some.inj hf
      subst hf
      exact W.zret (v := (1 : Int32)) hx hb hr (mp_nz (Or.inr rfl)) (fun t ht hW => ⟨(1 : Int32), rfl, ⟨rfl, (Or.inr rfl)⟩, ht⟩) (fun q h => by cases h) zd_MP_isKind_14
set_option maxHeartbeats 4000000 in
set_option maxRecDepth 100000 in
theorem zc_MP_isMaterial (l : Launch) (dC : Nat → ClassId) (dI : Nat → Nat → Nat) (cI cJ cZ : ClassId) (ad : Nat → Nat) (u0 : Int32) (u1 : Int64) (res : Int32) (hf : zf_MP_isMaterial u0 u1 = some res) : Met l zy_MP_isMaterial zw_MP_isMaterial ({ frames := 1, cells := 0, slots := 0, locals := 20 } : Room) (mp_PR (dC, dI) vwCl (mp_tys cI cJ cZ) [] [.int u0, .long u1]) (vp_Si (fun r => r = res ∧ mp_b res)) 0 0 (fun _ => False) := by
  refine Met.ofW (cc := zb_MP_isMaterial) (maxL := 3) (ret := (some .boolean)) (by decide) rfl ?_
  intro p e s m args below meth c s₁ B hml hv
  obtain ⟨rfl, hP, hK, hN⟩ := hv
  have hx := B.exec
  have hb := B.bytes
  have hr := B.returns
  have hts := atoms_spec (ws := zw_MP_isMaterial) B.pre
  have hsub : ∀ w ∈ mp_tbl, w ∈ zw_MP_isMaterial := fun w h => List.mem_cons_of_mem _ h
  have hw : ∀ w ∈ mp_tbl, w.before _ s = true := fun w h => hts w (hsub w h)
  have hown : s.vm.findClass zR_MP = some m.cls := findClass_of_methodNamed B.named
  have hlocks := B.notSynchronized
  have hl := lv_entry ([.int u0, .long u1]) (n := 3) (Nat.le_of_ble_eq_true rfl)
  rw [lg_entry_eq]
  generalize (lg_sl ([.int u0, .long u1]) ++ List.replicate (3 - (lg_sl ([.int u0, .long u1])).length) Slot.unset).toArray = ls at hl ⊢
  have hl : lv_has ls 3 [(0, .int u0), (1, .long u1)] := hl
  unfold zf_MP_isMaterial at hf
  refine lv_iload_n hx hb zd_MP_isMaterial_0 rfl (lv_at hl 0 rfl) ?_
  obtain ⟨y1, hg1, hf⟩ := mp_bd hf
  refine mp_Rz (va_runS (As := [.int u0]) (rest := []) ⟨hx, hb, hml, hown, hts⟩ (zc_MP_isKind l dC dI cI cJ cZ ad u0 y1 hg1) (va_cwS 1 hts (mp_gS hsub zq_193 zq_194 zq_25 zq_195) rfl rfl rfl (by decide +kernel) ⟨Nat.le_of_ble_eq_true rfl, Nat.le_of_ble_eq_true rfl⟩) ⟨mp_blR, mp_preR hN hK (hP.sub [] rfl)⟩ rfl rfl hl.1 rfl (lv_room (Nat.le_of_ble_eq_true rfl)) zd_MP_isMaterial_1 ⟨Nat.zero_le _, Nat.zero_le _⟩) (fun hz1 => ?_)
  refine lv_if_eq (tgt := 25) hx hb zd_MP_isMaterial_4 (by decide) (fun c_2 => ?_) (fun c_2 => ?_)
  · have hf := mp_t c_2 hf
    refine lv_iconst (v := 0) hx hb zd_MP_isMaterial_25 (by decide) ?_
    have hf := Option.some.inj hf
    subst hf
    exact W.zret (v := (0 : Int32)) hx hb hr (mp_nz (Or.inl rfl)) (fun t ht hW => ⟨(0 : Int32), rfl, ⟨rfl, (Or.inl rfl)⟩, ht⟩) (fun q h => by cases h) zd_MP_isMaterial_26
  · have hf := mp_f c_2 hf
    refine lv_lload_n hx hb zd_MP_isMaterial_7 rfl (lv_at hl 1 rfl) ?_
    refine lv_lconst (v := 0) hx hb zd_MP_isMaterial_8 (by decide) ?_
    refine W.lcmp hx hb zd_MP_isMaterial_9 ?_
    refine lv_if_lt (tgt := 25) hx hb zd_MP_isMaterial_10 (by decide) (fun c_3 => ?_) (fun c_3 => ?_)
    · have c_3 := (lg_cmp_lt _ _).mp c_3
      have hf := mp_t c_3 hf
      refine lv_iconst (v := 0) hx hb zd_MP_isMaterial_25 (by decide) ?_
      have hf := Option.some.inj hf
      subst hf
      exact W.zret (v := (0 : Int32)) hx hb hr (mp_nz (Or.inl rfl)) (fun t ht hW => ⟨(0 : Int32), rfl, ⟨rfl, (Or.inl rfl)⟩, ht⟩) (fun q h => by cases h) zd_MP_isMaterial_26
    · have c_3 := fun h9 => c_3 ((lg_cmp_lt _ _).mpr h9)
      have hf := mp_f c_3 hf
      refine lv_lload_n hx hb zd_MP_isMaterial_13 rfl (lv_at hl 1 rfl) ?_
      refine lv_ldc2 (v := 1000000000) hx hb hown (hw _ zq_196) zd_MP_isMaterial_14 ?_
      refine W.lcmp hx hb zd_MP_isMaterial_17 ?_
      refine lv_if_gt (tgt := 25) hx hb zd_MP_isMaterial_18 (by decide) (fun c_4 => ?_) (fun c_4 => ?_)
      · have c_4 := (lg_cmp_gt _ _).mp c_4
        have hf := mp_t c_4 hf
        refine lv_iconst (v := 0) hx hb zd_MP_isMaterial_25 (by decide) ?_
        have hf := Option.some.inj hf
        subst hf
        exact W.zret (v := (0 : Int32)) hx hb hr (mp_nz (Or.inl rfl)) (fun t ht hW => ⟨(0 : Int32), rfl, ⟨rfl, (Or.inl rfl)⟩, ht⟩) (fun q h => by cases h) zd_MP_isMaterial_26
      · have c_4 := fun h9 => c_4 ((lg_cmp_gt _ _).mpr h9)
        have hf := mp_f c_4 hf
        refine lv_iconst (v := 1) hx hb zd_MP_isMaterial_21 (by decide) ?_
        refine lv_goto (tgt := 26) hx hb zd_MP_isMaterial_22 (by decide) ?_
        have hf := Option.some.inj hf
        subst hf
        exact W.zret (v := (1 : Int32)) hx hb hr (mp_nz (Or.inr rfl)) (fun t ht hW => ⟨(1 : Int32), rfl, ⟨rfl, (Or.inr rfl)⟩, ht⟩) (fun q h => by cases h) zd_MP_isMaterial_26
set_option maxHeartbeats 4000000 in
set_option maxRecDepth 100000 in
theorem zc_MP_isLife (l : Launch) (dC : Nat → ClassId) (dI : Nat → Nat → Nat) (cI cJ cZ : ClassId) (ad : Nat → Nat) (u0 : Int32) (res : Int32) (hf : zf_MP_isLife u0 = some res) : Met l zy_MP_isLife zw_MP_isLife ({ frames := 0, cells := 0, slots := 0, locals := 0 } : Room) (mp_PR (dC, dI) vwCl (mp_tys cI cJ cZ) [] [.int u0]) (vp_Si (fun r => r = res ∧ mp_b res)) 0 0 (fun _ => False) := by
  refine Met.ofW (cc := zb_MP_isLife) (maxL := 1) (ret := (some .boolean)) (by decide) rfl ?_
  intro p e s m args below meth c s₁ B hml hv
  obtain ⟨rfl, hP, hK, hN⟩ := hv
  have hx := B.exec
  have hb := B.bytes
  have hr := B.returns
  have hts := atoms_spec (ws := zw_MP_isLife) B.pre
  have hsub : ∀ w ∈ mp_tbl, w ∈ zw_MP_isLife := fun w h => List.mem_cons_of_mem _ h
  have hw : ∀ w ∈ mp_tbl, w.before _ s = true := fun w h => hts w (hsub w h)
  have hown : s.vm.findClass zR_MP = some m.cls := findClass_of_methodNamed B.named
  have hlocks := B.notSynchronized
  have hl := lv_entry ([.int u0]) (n := 1) (Nat.le_of_ble_eq_true rfl)
  rw [lg_entry_eq]
  generalize (lg_sl ([.int u0]) ++ List.replicate (1 - (lg_sl ([.int u0])).length) Slot.unset).toArray = ls at hl ⊢
  have hl : lv_has ls 1 [(0, .int u0)] := hl
  unfold zf_MP_isLife at hf
  refine lv_iload_n hx hb zd_MP_isLife_0 rfl (lv_at hl 0 rfl) ?_
  refine lv_if_lt (tgt := 15) hx hb zd_MP_isLife_1 (by decide) (fun c_1 => ?_) (fun c_1 => ?_)
  · have hf := mp_t c_1 hf
    refine lv_iconst (v := 0) hx hb zd_MP_isLife_15 (by decide) ?_
    have hf := Option.some.inj hf
    subst hf
    exact W.zret (v := (0 : Int32)) hx hb hr (mp_nz (Or.inl rfl)) (fun t ht hW => ⟨(0 : Int32), rfl, ⟨rfl, (Or.inl rfl)⟩, ht⟩) (fun q h => by cases h) zd_MP_isLife_16
  · have hf := mp_f c_1 hf
    refine lv_iload_n hx hb zd_MP_isLife_4 rfl (lv_at hl 0 rfl) ?_
    refine lv_sipush (v := 200) hx hb zd_MP_isLife_5 (by decide) ?_
    refine lv_icmp_gt (tgt := 15) hx hb zd_MP_isLife_8 (by decide) (fun c_2 => ?_) (fun c_2 => ?_)
    · have hf := mp_t c_2 hf
      refine lv_iconst (v := 0) hx hb zd_MP_isLife_15 (by decide) ?_
      have hf := Option.some.inj hf
      subst hf
      exact W.zret (v := (0 : Int32)) hx hb hr (mp_nz (Or.inl rfl)) (fun t ht hW => ⟨(0 : Int32), rfl, ⟨rfl, (Or.inl rfl)⟩, ht⟩) (fun q h => by cases h) zd_MP_isLife_16
    · have hf := mp_f c_2 hf
      refine lv_iconst (v := 1) hx hb zd_MP_isLife_11 (by decide) ?_
      refine lv_goto (tgt := 16) hx hb zd_MP_isLife_12 (by decide) ?_
      have hf := Option.some.inj hf
      subst hf
      exact W.zret (v := (1 : Int32)) hx hb hr (mp_nz (Or.inr rfl)) (fun t ht hW => ⟨(1 : Int32), rfl, ⟨rfl, (Or.inr rfl)⟩, ht⟩) (fun q h => by cases h) zd_MP_isLife_16
set_option maxHeartbeats 4000000 in
set_option maxRecDepth 100000 in
theorem zc_Pa_add (l : Launch) (dC : Nat → ClassId) (dI : Nat → Nat → Nat) (cI cJ cZ : ClassId) (ad : Nat → Nat) (sz : Nat) (xpn : Int32) (xpo : Nat → Int32) (xpk : Nat → Int32) (xpg : Nat → Int64) (xpl : Nat → Int32) (xpi : Nat → Int32) (u1 : Int32) (u2 : Int32) (u3 : Int64) (u5 : Int32) (res : Int32 × Int32 × (Nat → Int32) × (Nat → Int32) × (Nat → Int64) × (Nat → Int32) × (Nat → Int32)) (hf : zf_Pa_add u1 u2 u3 u5 xpn xpo xpk xpg xpl xpi = some res) : Met l zy_Pa_add zw_Pa_add ({ frames := 1, cells := 0, slots := 0, locals := 20 } : Room) (mp_PM (dC, dI) vwCl (mp_tys cI cJ cZ) [(ad 3, .inr (3, [.ref (ad 7), .ref (ad 8), .ref (ad 9), .ref (ad 10), .ref (ad 11), .ref (ad 12), .int xpn])), (ad 7, .inl (cI, 24, .inl xpo)), (ad 8, .inl (cI, 24, .inl xpk)), (ad 9, .inl (cJ, 24, .inr (.inl xpg))), (ad 10, .inl (cI, 24, .inl xpl)), (ad 11, .inl (cI, 24, .inl xpi))] sz [.ref (ad 3), .int u1, .int u2, .long u3, .int u5]) (va_Qi (fun r (_ : Unit) => r = res.1) (mp_BM (dC, dI) vwCl [(ad 3, .inr (3, [.ref (ad 7), .ref (ad 8), .ref (ad 9), .ref (ad 10), .ref (ad 11), .ref (ad 12), .int res.2.1])), (ad 7, .inl (cI, 24, .inl res.2.2.1)), (ad 8, .inl (cI, 24, .inl res.2.2.2.1)), (ad 9, .inl (cJ, 24, .inr (.inl res.2.2.2.2.1))), (ad 10, .inl (cI, 24, .inl res.2.2.2.2.2.1)), (ad 11, .inl (cI, 24, .inl res.2.2.2.2.2.2))] (va_A [(ad 3, .inr (3, [.ref (ad 7), .ref (ad 8), .ref (ad 9), .ref (ad 10), .ref (ad 11), .ref (ad 12), .int xpn])), (ad 7, .inl (cI, 24, .inl xpo)), (ad 8, .inl (cI, 24, .inl xpk)), (ad 9, .inl (cJ, 24, .inr (.inl xpg))), (ad 10, .inl (cI, 24, .inl xpl)), (ad 11, .inl (cI, 24, .inl xpi))] sz)) (va_A [(ad 3, .inr (3, [.ref (ad 7), .ref (ad 8), .ref (ad 9), .ref (ad 10), .ref (ad 11), .ref (ad 12), .int xpn])), (ad 7, .inl (cI, 24, .inl xpo)), (ad 8, .inl (cI, 24, .inl xpk)), (ad 9, .inl (cJ, 24, .inr (.inl xpg))), (ad 10, .inl (cI, 24, .inl xpl)), (ad 11, .inl (cI, 24, .inl xpi))] sz)) 0 0 ((va_A [(ad 3, .inr (3, [.ref (ad 7), .ref (ad 8), .ref (ad 9), .ref (ad 10), .ref (ad 11), .ref (ad 12), .int xpn])), (ad 7, .inl (cI, 24, .inl xpo)), (ad 8, .inl (cI, 24, .inl xpk)), (ad 9, .inl (cJ, 24, .inr (.inl xpg))), (ad 10, .inl (cI, 24, .inl xpl)), (ad 11, .inl (cI, 24, .inl xpi))] sz)) := by
  refine Met.ofW (cc := zb_Pa_add) (maxL := 6) (ret := (some .int)) (by decide) rfl ?_
  intro p e s m args below meth c s₁ B hml hv
  obtain ⟨rfl, hsz, hP, hK, hD0, hN⟩ := hv
  have hx := B.exec
  have hb := B.bytes
  have hr := B.returns
  have hts := atoms_spec (ws := zw_Pa_add) B.pre
  have hsub : ∀ w ∈ mp_tbl, w ∈ zw_Pa_add := fun w h => List.mem_cons_of_mem _ h
  have hw : ∀ w ∈ mp_tbl, w.before _ s = true := fun w h => hts w (hsub w h)
  have hown : s.vm.findClass zR_Pa = some m.cls := findClass_of_methodNamed B.named
  have hlocks := B.notSynchronized
  subst hsz
  have hD := hD0.self (sz := s.heap.size)
  generalize hAe : va_A [(ad 3, .inr (3, [.ref (ad 7), .ref (ad 8), .ref (ad 9), .ref (ad 10), .ref (ad 11), .ref (ad 12), .int xpn])), (ad 7, .inl (cI, 24, .inl xpo)), (ad 8, .inl (cI, 24, .inl xpk)), (ad 9, .inl (cJ, 24, .inr (.inl xpg))), (ad 10, .inl (cI, 24, .inl xpl)), (ad 11, .inl (cI, 24, .inl xpi))] s.heap.size = A at hD ⊢
  have hA : ∀ q : Nat, s.heap.size ≤ q → A q := fun q h => by rw [← hAe]; exact Or.inr h
  have hS : va_S A s.heap s.heap [] := va_S.rf
  have hP : va_P (dC, dI) vwCl [(ad 3, .inr (3, [.ref (ad 7), .ref (ad 8), .ref (ad 9), .ref (ad 10), .ref (ad 11), .ref (ad 12), .int xpn])), (ad 7, .inl (cI, 24, .inl xpo)), (ad 8, .inl (cI, 24, .inl xpk)), (ad 9, .inl (cJ, 24, .inr (.inl xpg))), (ad 10, .inl (cI, 24, .inl xpl)), (ad 11, .inl (cI, 24, .inl xpi))] s.heap := hP
  clear hAe hD0
  have hl := lv_entry ([.ref (ad 3), .int u1, .int u2, .long u3, .int u5]) (n := 6) (Nat.le_of_ble_eq_true rfl)
  rw [lg_entry_eq]
  generalize (lg_sl ([.ref (ad 3), .int u1, .int u2, .long u3, .int u5]) ++ List.replicate (6 - (lg_sl ([.ref (ad 3), .int u1, .int u2, .long u3, .int u5])).length) Slot.unset).toArray = ls at hl ⊢
  have hl : lv_has ls 6 [(0, .ref (ad 3)), (1, .int u1), (2, .int u2), (3, .long u3), (5, .int u5)] := hl
  unfold zf_Pa_add at hf
  refine lv_aload_n hx hb zd_Pa_add_0 rfl (lv_at hl 0 rfl) ?_
  obtain ⟨y1, hg1, hf⟩ := mp_bd hf
  refine mp_Rz (va_runV (As := []) (rest := []) ⟨hx, hb, hml, hown, hts⟩ (zc_Pa_isFull l dC dI cI cJ cZ ad xpn y1 hg1) (cwV 0 hts (mp_gV hsub zq_204 zq_183 zq_184 zq_26 zq_185) rfl rfl rfl (by decide +kernel) ⟨Nat.le_of_ble_eq_true rfl, Nat.le_of_ble_eq_true rfl⟩) ⟨mp_blR, va_recv hK hP (ci := 3) (q0 := 0) rfl rfl, mp_preR hN hK (hP.sub [0] rfl)⟩ rfl rfl hl.1 rfl (lv_room (Nat.le_of_ble_eq_true rfl)) zd_Pa_add_1 ⟨Nat.zero_le _, Nat.zero_le _⟩) (fun hz1 => ?_)
  refine lv_if_eq (tgt := 9) hx hb zd_Pa_add_4 (by decide) (fun c_2 => ?_) (fun c_2 => ?_)
  · have hf := mp_t c_2 hf
    refine lv_aload_n hx hb zd_Pa_add_9 rfl (lv_at hl 0 rfl) ?_
    refine va_get (D := (dC, dI)) (ci := 3) (v := .ref (ad 7)) (C := zR_Pa) (T := zT_Pa) (N := 7) hx hb hts (fun w h => hsub w (zi_Pa w h)) hown hK hP 0 rfl rfl 0 (by decide) (hw _ zq_75) (fun _ h9 => h9) rfl zd_Pa_add_10 ?_
    refine lv_aload_n hx hb zd_Pa_add_13 rfl (lv_at hl 0 rfl) ?_
    refine va_get (D := (dC, dI)) (ci := 3) (v := .int xpn) (C := zR_Pa) (T := zT_Pa) (N := 7) hx hb hts (fun w h => hsub w (zi_Pa w h)) hown hK hP 0 rfl rfl 6 (by decide) (hw _ zq_87) (fun _ h9 => h9) rfl zd_Pa_add_14 ?_
    refine lv_iload_n hx hb zd_Pa_add_17 rfl (lv_at hl 1 rfl) ?_
    obtain ⟨h_3, hf⟩ := mp_in hf
    refine va_iast hx hb hK hP hD hS 1 0 rfl rfl (i := xpn) (x := u1) h_3 zd_Pa_add_18 (fun H locs hP hD hS => ?_)
    have hP : va_P (dC, dI) vwCl [(ad 3, .inr (3, [.ref (ad 7), .ref (ad 8), .ref (ad 9), .ref (ad 10), .ref (ad 11), .ref (ad 12), .int xpn])), (ad 7, .inl (cI, 24, .inl (upd xpo xpn.toNatClampNeg u1))), (ad 8, .inl (cI, 24, .inl xpk)), (ad 9, .inl (cJ, 24, .inr (.inl xpg))), (ad 10, .inl (cI, 24, .inl xpl)), (ad 11, .inl (cI, 24, .inl xpi))] H := hP
    have hD : va_D A [(ad 3, .inr (3, [.ref (ad 7), .ref (ad 8), .ref (ad 9), .ref (ad 10), .ref (ad 11), .ref (ad 12), .int xpn])), (ad 7, .inl (cI, 24, .inl (upd xpo xpn.toNatClampNeg u1))), (ad 8, .inl (cI, 24, .inl xpk)), (ad 9, .inl (cJ, 24, .inr (.inl xpg))), (ad 10, .inl (cI, 24, .inl xpl)), (ad 11, .inl (cI, 24, .inl xpi))] := hD
    refine lv_aload_n hx hb zd_Pa_add_19 rfl (lv_at hl 0 rfl) ?_
    refine va_get (D := (dC, dI)) (ci := 3) (v := .ref (ad 8)) (C := zR_Pa) (T := zT_Pa) (N := 7) hx hb hts (fun w h => hsub w (zi_Pa w h)) hown hK hP 0 rfl rfl 1 (by decide) (hw _ zq_78) (fun _ h9 => h9) rfl zd_Pa_add_20 ?_
    refine lv_aload_n hx hb zd_Pa_add_23 rfl (lv_at hl 0 rfl) ?_
    refine va_get (D := (dC, dI)) (ci := 3) (v := .int xpn) (C := zR_Pa) (T := zT_Pa) (N := 7) hx hb hts (fun w h => hsub w (zi_Pa w h)) hown hK hP 0 rfl rfl 6 (by decide) (hw _ zq_87) (fun _ h9 => h9) rfl zd_Pa_add_24 ?_
    refine lv_iload_n hx hb zd_Pa_add_27 rfl (lv_at hl 2 rfl) ?_
    obtain ⟨h_4, hf⟩ := mp_in hf
    refine va_iast hx hb hK hP hD hS 2 0 rfl rfl (i := xpn) (x := u2) h_4 zd_Pa_add_28 (fun H locs hP hD hS => ?_)
    have hP : va_P (dC, dI) vwCl [(ad 3, .inr (3, [.ref (ad 7), .ref (ad 8), .ref (ad 9), .ref (ad 10), .ref (ad 11), .ref (ad 12), .int xpn])), (ad 7, .inl (cI, 24, .inl (upd xpo xpn.toNatClampNeg u1))), (ad 8, .inl (cI, 24, .inl (upd xpk xpn.toNatClampNeg u2))), (ad 9, .inl (cJ, 24, .inr (.inl xpg))), (ad 10, .inl (cI, 24, .inl xpl)), (ad 11, .inl (cI, 24, .inl xpi))] H := hP
    have hD : va_D A [(ad 3, .inr (3, [.ref (ad 7), .ref (ad 8), .ref (ad 9), .ref (ad 10), .ref (ad 11), .ref (ad 12), .int xpn])), (ad 7, .inl (cI, 24, .inl (upd xpo xpn.toNatClampNeg u1))), (ad 8, .inl (cI, 24, .inl (upd xpk xpn.toNatClampNeg u2))), (ad 9, .inl (cJ, 24, .inr (.inl xpg))), (ad 10, .inl (cI, 24, .inl xpl)), (ad 11, .inl (cI, 24, .inl xpi))] := hD
    refine lv_aload_n hx hb zd_Pa_add_29 rfl (lv_at hl 0 rfl) ?_
    refine va_get (D := (dC, dI)) (ci := 3) (v := .ref (ad 9)) (C := zR_Pa) (T := zT_Pa) (N := 7) hx hb hts (fun w h => hsub w (zi_Pa w h)) hown hK hP 0 rfl rfl 2 (by decide) (hw _ zq_79) (fun _ h9 => h9) rfl zd_Pa_add_30 ?_
    refine lv_aload_n hx hb zd_Pa_add_33 rfl (lv_at hl 0 rfl) ?_
    refine va_get (D := (dC, dI)) (ci := 3) (v := .int xpn) (C := zR_Pa) (T := zT_Pa) (N := 7) hx hb hts (fun w h => hsub w (zi_Pa w h)) hown hK hP 0 rfl rfl 6 (by decide) (hw _ zq_87) (fun _ h9 => h9) rfl zd_Pa_add_34 ?_
    refine lv_lload_n hx hb zd_Pa_add_37 rfl (lv_at hl 3 rfl) ?_
    obtain ⟨h_5, hf⟩ := mp_in hf
    refine va_last hx hb hK hP hD hS 3 1 rfl rfl (i := xpn) (x := u3) h_5 zd_Pa_add_38 (fun H locs hP hD hS => ?_)
    have hP : va_P (dC, dI) vwCl [(ad 3, .inr (3, [.ref (ad 7), .ref (ad 8), .ref (ad 9), .ref (ad 10), .ref (ad 11), .ref (ad 12), .int xpn])), (ad 7, .inl (cI, 24, .inl (upd xpo xpn.toNatClampNeg u1))), (ad 8, .inl (cI, 24, .inl (upd xpk xpn.toNatClampNeg u2))), (ad 9, .inl (cJ, 24, .inr (.inl (vp_updL xpg xpn.toNatClampNeg u3)))), (ad 10, .inl (cI, 24, .inl xpl)), (ad 11, .inl (cI, 24, .inl xpi))] H := hP
    have hD : va_D A [(ad 3, .inr (3, [.ref (ad 7), .ref (ad 8), .ref (ad 9), .ref (ad 10), .ref (ad 11), .ref (ad 12), .int xpn])), (ad 7, .inl (cI, 24, .inl (upd xpo xpn.toNatClampNeg u1))), (ad 8, .inl (cI, 24, .inl (upd xpk xpn.toNatClampNeg u2))), (ad 9, .inl (cJ, 24, .inr (.inl (vp_updL xpg xpn.toNatClampNeg u3)))), (ad 10, .inl (cI, 24, .inl xpl)), (ad 11, .inl (cI, 24, .inl xpi))] := hD
    refine lv_aload_n hx hb zd_Pa_add_39 rfl (lv_at hl 0 rfl) ?_
    refine va_get (D := (dC, dI)) (ci := 3) (v := .ref (ad 10)) (C := zR_Pa) (T := zT_Pa) (N := 7) hx hb hts (fun w h => hsub w (zi_Pa w h)) hown hK hP 0 rfl rfl 3 (by decide) (hw _ zq_80) (fun _ h9 => h9) rfl zd_Pa_add_40 ?_
    refine lv_aload_n hx hb zd_Pa_add_43 rfl (lv_at hl 0 rfl) ?_
    refine va_get (D := (dC, dI)) (ci := 3) (v := .int xpn) (C := zR_Pa) (T := zT_Pa) (N := 7) hx hb hts (fun w h => hsub w (zi_Pa w h)) hown hK hP 0 rfl rfl 6 (by decide) (hw _ zq_87) (fun _ h9 => h9) rfl zd_Pa_add_44 ?_
    refine lv_iload hx hb zd_Pa_add_47 (lv_at hl 4 rfl) ?_
    obtain ⟨h_6, hf⟩ := mp_in hf
    refine va_iast hx hb hK hP hD hS 4 0 rfl rfl (i := xpn) (x := u5) h_6 zd_Pa_add_49 (fun H locs hP hD hS => ?_)
    have hP : va_P (dC, dI) vwCl [(ad 3, .inr (3, [.ref (ad 7), .ref (ad 8), .ref (ad 9), .ref (ad 10), .ref (ad 11), .ref (ad 12), .int xpn])), (ad 7, .inl (cI, 24, .inl (upd xpo xpn.toNatClampNeg u1))), (ad 8, .inl (cI, 24, .inl (upd xpk xpn.toNatClampNeg u2))), (ad 9, .inl (cJ, 24, .inr (.inl (vp_updL xpg xpn.toNatClampNeg u3)))), (ad 10, .inl (cI, 24, .inl (upd xpl xpn.toNatClampNeg u5))), (ad 11, .inl (cI, 24, .inl xpi))] H := hP
    have hD : va_D A [(ad 3, .inr (3, [.ref (ad 7), .ref (ad 8), .ref (ad 9), .ref (ad 10), .ref (ad 11), .ref (ad 12), .int xpn])), (ad 7, .inl (cI, 24, .inl (upd xpo xpn.toNatClampNeg u1))), (ad 8, .inl (cI, 24, .inl (upd xpk xpn.toNatClampNeg u2))), (ad 9, .inl (cJ, 24, .inr (.inl (vp_updL xpg xpn.toNatClampNeg u3)))), (ad 10, .inl (cI, 24, .inl (upd xpl xpn.toNatClampNeg u5))), (ad 11, .inl (cI, 24, .inl xpi))] := hD
    refine lv_aload_n hx hb zd_Pa_add_50 rfl (lv_at hl 0 rfl) ?_
    refine va_get (D := (dC, dI)) (ci := 3) (v := .ref (ad 11)) (C := zR_Pa) (T := zT_Pa) (N := 7) hx hb hts (fun w h => hsub w (zi_Pa w h)) hown hK hP 0 rfl rfl 4 (by decide) (hw _ zq_82) (fun _ h9 => h9) rfl zd_Pa_add_51 ?_
    refine lv_aload_n hx hb zd_Pa_add_54 rfl (lv_at hl 0 rfl) ?_
    refine va_get (D := (dC, dI)) (ci := 3) (v := .int xpn) (C := zR_Pa) (T := zT_Pa) (N := 7) hx hb hts (fun w h => hsub w (zi_Pa w h)) hown hK hP 0 rfl rfl 6 (by decide) (hw _ zq_87) (fun _ h9 => h9) rfl zd_Pa_add_55 ?_
    refine lv_iconst (v := -1) hx hb zd_Pa_add_58 (by decide) ?_
    obtain ⟨h_7, hf⟩ := mp_in hf
    refine va_iast hx hb hK hP hD hS 5 0 rfl rfl (i := xpn) (x := (-1 : Int32)) h_7 zd_Pa_add_59 (fun H locs hP hD hS => ?_)
    have hP : va_P (dC, dI) vwCl [(ad 3, .inr (3, [.ref (ad 7), .ref (ad 8), .ref (ad 9), .ref (ad 10), .ref (ad 11), .ref (ad 12), .int xpn])), (ad 7, .inl (cI, 24, .inl (upd xpo xpn.toNatClampNeg u1))), (ad 8, .inl (cI, 24, .inl (upd xpk xpn.toNatClampNeg u2))), (ad 9, .inl (cJ, 24, .inr (.inl (vp_updL xpg xpn.toNatClampNeg u3)))), (ad 10, .inl (cI, 24, .inl (upd xpl xpn.toNatClampNeg u5))), (ad 11, .inl (cI, 24, .inl (upd xpi xpn.toNatClampNeg (-1 : Int32))))] H := hP
    have hD : va_D A [(ad 3, .inr (3, [.ref (ad 7), .ref (ad 8), .ref (ad 9), .ref (ad 10), .ref (ad 11), .ref (ad 12), .int xpn])), (ad 7, .inl (cI, 24, .inl (upd xpo xpn.toNatClampNeg u1))), (ad 8, .inl (cI, 24, .inl (upd xpk xpn.toNatClampNeg u2))), (ad 9, .inl (cJ, 24, .inr (.inl (vp_updL xpg xpn.toNatClampNeg u3)))), (ad 10, .inl (cI, 24, .inl (upd xpl xpn.toNatClampNeg u5))), (ad 11, .inl (cI, 24, .inl (upd xpi xpn.toNatClampNeg (-1 : Int32))))] := hD
    refine lv_aload_n hx hb zd_Pa_add_60 rfl (lv_at hl 0 rfl) ?_
    refine lv_dup hx hb zd_Pa_add_61 rfl ?_
    refine va_get (D := (dC, dI)) (ci := 3) (v := .int xpn) (C := zR_Pa) (T := zT_Pa) (N := 7) hx hb hts (fun w h => hsub w (zi_Pa w h)) hown hK hP 0 rfl rfl 6 (by decide) (hw _ zq_87) (fun _ h9 => h9) rfl zd_Pa_add_62 ?_
    refine lv_iconst (v := 1) hx hb zd_Pa_add_65 (by decide) ?_
    refine lv_iadd hx hb zd_Pa_add_66 ?_
    refine va_put (D := (dC, dI)) (ci := 3) (v := .int (xpn + (1 : Int32))) (ty := .int) (C := zR_Pa) (T := zT_Pa) (N := 7) hx hb hts (fun w h => hsub w (zi_Pa w h)) zt_Pa zt_Pa_ok zn_Pa hown hK hP hD hS 0 rfl rfl 6 (by decide) (hw _ zq_87) (fun _ h9 => h9) rfl (by decide +kernel) rfl rfl (Nat.le_of_ble_eq_true rfl) zd_Pa_add_67 (fun H locs hP hD hS => ?_)
    have hP : va_P (dC, dI) vwCl [(ad 3, .inr (3, [.ref (ad 7), .ref (ad 8), .ref (ad 9), .ref (ad 10), .ref (ad 11), .ref (ad 12), .int (xpn + (1 : Int32))])), (ad 7, .inl (cI, 24, .inl (upd xpo xpn.toNatClampNeg u1))), (ad 8, .inl (cI, 24, .inl (upd xpk xpn.toNatClampNeg u2))), (ad 9, .inl (cJ, 24, .inr (.inl (vp_updL xpg xpn.toNatClampNeg u3)))), (ad 10, .inl (cI, 24, .inl (upd xpl xpn.toNatClampNeg u5))), (ad 11, .inl (cI, 24, .inl (upd xpi xpn.toNatClampNeg (-1 : Int32))))] H := hP
    have hD : va_D A [(ad 3, .inr (3, [.ref (ad 7), .ref (ad 8), .ref (ad 9), .ref (ad 10), .ref (ad 11), .ref (ad 12), .int (xpn + (1 : Int32))])), (ad 7, .inl (cI, 24, .inl (upd xpo xpn.toNatClampNeg u1))), (ad 8, .inl (cI, 24, .inl (upd xpk xpn.toNatClampNeg u2))), (ad 9, .inl (cJ, 24, .inr (.inl (vp_updL xpg xpn.toNatClampNeg u3)))), (ad 10, .inl (cI, 24, .inl (upd xpl xpn.toNatClampNeg u5))), (ad 11, .inl (cI, 24, .inl (upd xpi xpn.toNatClampNeg (-1 : Int32))))] := hD
    refine lv_aload_n hx hb zd_Pa_add_70 rfl (lv_at hl 0 rfl) ?_
    refine va_get (D := (dC, dI)) (ci := 3) (v := .int (xpn + (1 : Int32))) (C := zR_Pa) (T := zT_Pa) (N := 7) hx hb hts (fun w h => hsub w (zi_Pa w h)) hown hK hP 0 rfl rfl 6 (by decide) (hw _ zq_87) (fun _ h9 => h9) rfl zd_Pa_add_71 ?_
    refine lv_iconst (v := 1) hx hb zd_Pa_add_74 (by decide) ?_
    refine lv_isub hx hb zd_Pa_add_75 ?_
    have hf := Option.some.inj hf
    subst hf
    exact W.iret (v := ((xpn + (1 : Int32)) - (1 : Int32))) hx hb hr (fun t ht hW => ⟨⟨((xpn + (1 : Int32)) - (1 : Int32)), (), rfl, rfl, by rw [ht]; exact hP, hD⟩, hS.F ht⟩) hS.2.2 zd_Pa_add_76
  · have hf := mp_f c_2 hf
    refine lv_iconst (v := -1) hx hb zd_Pa_add_7 (by decide) ?_
    have hf := Option.some.inj hf
    subst hf
    exact W.iret (v := (-1 : Int32)) hx hb hr (fun t ht hW => ⟨⟨(-1 : Int32), (), rfl, rfl, by rw [ht]; exact hP, hD⟩, hS.F ht⟩) hS.2.2 zd_Pa_add_8
set_option maxHeartbeats 4000000 in
set_option maxRecDepth 100000 in
theorem zc_MP_part (l : Launch) (dC : Nat → ClassId) (dI : Nat → Nat → Nat) (cI cJ cZ : ClassId) (ad : Nat → Nat) (sz : Nat) (xgc : Int32) (xver : Nat → Int32) (xpn : Int32) (xpo : Nat → Int32) (xpk : Nat → Int32) (xpg : Nat → Int64) (xpl : Nat → Int32) (xpi : Nat → Int32) (u1 : Int32) (u2 : Int32) (u3 : Int64) (u5 : Int32) (res : Int32 × (Nat → Int32) × Int32 × (Nat → Int32) × (Nat → Int32) × (Nat → Int64) × (Nat → Int32) × (Nat → Int32)) (hf : zf_MP_part u1 u2 u3 u5 xgc xver xpn xpo xpk xpg xpl xpi = some res) : Met l zy_MP_part zw_MP_part ({ frames := 2, cells := 0, slots := 0, locals := 45 } : Room) (mp_PM (dC, dI) vwCl (mp_tys cI cJ cZ) [(ad 0, .inr (4, [.ref (ad 1), .ref (ad 2), .ref (ad 3), .ref (ad 4), .ref (ad 5), .ref (ad 6), .int xgc])), (ad 1, .inl (cI, 8, .inl xver)), (ad 3, .inr (3, [.ref (ad 7), .ref (ad 8), .ref (ad 9), .ref (ad 10), .ref (ad 11), .ref (ad 12), .int xpn])), (ad 7, .inl (cI, 24, .inl xpo)), (ad 8, .inl (cI, 24, .inl xpk)), (ad 9, .inl (cJ, 24, .inr (.inl xpg))), (ad 10, .inl (cI, 24, .inl xpl)), (ad 11, .inl (cI, 24, .inl xpi))] sz [.ref (ad 0), .int u1, .int u2, .long u3, .int u5]) (va_Qi (fun r (_ : Unit) => r = res.1) (mp_BM (dC, dI) vwCl [(ad 0, .inr (4, [.ref (ad 1), .ref (ad 2), .ref (ad 3), .ref (ad 4), .ref (ad 5), .ref (ad 6), .int xgc])), (ad 1, .inl (cI, 8, .inl res.2.1)), (ad 3, .inr (3, [.ref (ad 7), .ref (ad 8), .ref (ad 9), .ref (ad 10), .ref (ad 11), .ref (ad 12), .int res.2.2.1])), (ad 7, .inl (cI, 24, .inl res.2.2.2.1)), (ad 8, .inl (cI, 24, .inl res.2.2.2.2.1)), (ad 9, .inl (cJ, 24, .inr (.inl res.2.2.2.2.2.1))), (ad 10, .inl (cI, 24, .inl res.2.2.2.2.2.2.1)), (ad 11, .inl (cI, 24, .inl res.2.2.2.2.2.2.2))] (va_A [(ad 0, .inr (4, [.ref (ad 1), .ref (ad 2), .ref (ad 3), .ref (ad 4), .ref (ad 5), .ref (ad 6), .int xgc])), (ad 1, .inl (cI, 8, .inl xver)), (ad 3, .inr (3, [.ref (ad 7), .ref (ad 8), .ref (ad 9), .ref (ad 10), .ref (ad 11), .ref (ad 12), .int xpn])), (ad 7, .inl (cI, 24, .inl xpo)), (ad 8, .inl (cI, 24, .inl xpk)), (ad 9, .inl (cJ, 24, .inr (.inl xpg))), (ad 10, .inl (cI, 24, .inl xpl)), (ad 11, .inl (cI, 24, .inl xpi))] sz)) (va_A [(ad 0, .inr (4, [.ref (ad 1), .ref (ad 2), .ref (ad 3), .ref (ad 4), .ref (ad 5), .ref (ad 6), .int xgc])), (ad 1, .inl (cI, 8, .inl xver)), (ad 3, .inr (3, [.ref (ad 7), .ref (ad 8), .ref (ad 9), .ref (ad 10), .ref (ad 11), .ref (ad 12), .int xpn])), (ad 7, .inl (cI, 24, .inl xpo)), (ad 8, .inl (cI, 24, .inl xpk)), (ad 9, .inl (cJ, 24, .inr (.inl xpg))), (ad 10, .inl (cI, 24, .inl xpl)), (ad 11, .inl (cI, 24, .inl xpi))] sz)) 0 0 ((va_A [(ad 0, .inr (4, [.ref (ad 1), .ref (ad 2), .ref (ad 3), .ref (ad 4), .ref (ad 5), .ref (ad 6), .int xgc])), (ad 1, .inl (cI, 8, .inl xver)), (ad 3, .inr (3, [.ref (ad 7), .ref (ad 8), .ref (ad 9), .ref (ad 10), .ref (ad 11), .ref (ad 12), .int xpn])), (ad 7, .inl (cI, 24, .inl xpo)), (ad 8, .inl (cI, 24, .inl xpk)), (ad 9, .inl (cJ, 24, .inr (.inl xpg))), (ad 10, .inl (cI, 24, .inl xpl)), (ad 11, .inl (cI, 24, .inl xpi))] sz)) := by
  refine Met.ofW (cc := zb_MP_part) (maxL := 6) (ret := (some .int)) (by decide) rfl ?_
  intro p e s m args below meth c s₁ B hml hv
  obtain ⟨rfl, hsz, hP, hK, hD0, hN⟩ := hv
  have hx := B.exec
  have hb := B.bytes
  have hr := B.returns
  have hts := atoms_spec (ws := zw_MP_part) B.pre
  have hsub : ∀ w ∈ mp_tbl, w ∈ zw_MP_part := fun w h => List.mem_cons_of_mem _ h
  have hw : ∀ w ∈ mp_tbl, w.before _ s = true := fun w h => hts w (hsub w h)
  have hown : s.vm.findClass zR_MP = some m.cls := findClass_of_methodNamed B.named
  have hlocks := B.notSynchronized
  subst hsz
  have hD := hD0.self (sz := s.heap.size)
  generalize hAe : va_A [(ad 0, .inr (4, [.ref (ad 1), .ref (ad 2), .ref (ad 3), .ref (ad 4), .ref (ad 5), .ref (ad 6), .int xgc])), (ad 1, .inl (cI, 8, .inl xver)), (ad 3, .inr (3, [.ref (ad 7), .ref (ad 8), .ref (ad 9), .ref (ad 10), .ref (ad 11), .ref (ad 12), .int xpn])), (ad 7, .inl (cI, 24, .inl xpo)), (ad 8, .inl (cI, 24, .inl xpk)), (ad 9, .inl (cJ, 24, .inr (.inl xpg))), (ad 10, .inl (cI, 24, .inl xpl)), (ad 11, .inl (cI, 24, .inl xpi))] s.heap.size = A at hD ⊢
  have hA : ∀ q : Nat, s.heap.size ≤ q → A q := fun q h => by rw [← hAe]; exact Or.inr h
  have hS : va_S A s.heap s.heap [] := va_S.rf
  have hP : va_P (dC, dI) vwCl [(ad 0, .inr (4, [.ref (ad 1), .ref (ad 2), .ref (ad 3), .ref (ad 4), .ref (ad 5), .ref (ad 6), .int xgc])), (ad 1, .inl (cI, 8, .inl xver)), (ad 3, .inr (3, [.ref (ad 7), .ref (ad 8), .ref (ad 9), .ref (ad 10), .ref (ad 11), .ref (ad 12), .int xpn])), (ad 7, .inl (cI, 24, .inl xpo)), (ad 8, .inl (cI, 24, .inl xpk)), (ad 9, .inl (cJ, 24, .inr (.inl xpg))), (ad 10, .inl (cI, 24, .inl xpl)), (ad 11, .inl (cI, 24, .inl xpi))] s.heap := hP
  clear hAe hD0
  have hl := lv_entry ([.ref (ad 0), .int u1, .int u2, .long u3, .int u5]) (n := 6) (Nat.le_of_ble_eq_true rfl)
  rw [lg_entry_eq]
  generalize (lg_sl ([.ref (ad 0), .int u1, .int u2, .long u3, .int u5]) ++ List.replicate (6 - (lg_sl ([.ref (ad 0), .int u1, .int u2, .long u3, .int u5])).length) Slot.unset).toArray = ls at hl ⊢
  have hl : lv_has ls 6 [(0, .ref (ad 0)), (1, .int u1), (2, .int u2), (3, .long u3), (5, .int u5)] := hl
  unfold zf_MP_part at hf
  refine lv_aload_n hx hb zd_MP_part_0 rfl (lv_at hl 0 rfl) ?_
  refine va_get (D := (dC, dI)) (ci := 4) (v := .ref (ad 3)) (C := zR_MP) (T := zT_MP) (N := 7) hx hb hts (fun w h => hsub w (zi_MP w h)) hown hK hP 0 rfl rfl 2 (by decide) (hw _ zq_154) (fun _ h9 => h9) rfl zd_MP_part_1 ?_
  obtain ⟨y1, hg1, hf⟩ := mp_bd hf
  refine mp_Rz (va_runV (As := []) (rest := []) ⟨hx, hb, hml, hown, hts⟩ (zc_Pa_isFull l dC dI cI cJ cZ ad xpn y1 hg1) (cwV 0 hts (mp_gV hsub zq_182 zq_183 zq_184 zq_26 zq_185) rfl rfl rfl (by decide +kernel) ⟨Nat.le_of_ble_eq_true rfl, Nat.le_of_ble_eq_true rfl⟩) ⟨mp_blR, va_recv hK hP (ci := 3) (q0 := 2) rfl rfl, mp_preR hN hK (hP.sub [2] rfl)⟩ rfl rfl hl.1 rfl (lv_room (Nat.le_of_ble_eq_true rfl)) zd_MP_part_4 ⟨Nat.zero_le _, Nat.zero_le _⟩) (fun hz1 => ?_)
  refine lv_if_ne (tgt := 34) hx hb zd_MP_part_7 (by decide) (fun c_2 => ?_) (fun c_2 => ?_)
  · have hf := mp_f c_2 hf
    refine lv_iconst (v := -1) hx hb zd_MP_part_34 (by decide) ?_
    have hf := Option.some.inj hf
    subst hf
    exact W.iret (v := (-1 : Int32)) hx hb hr (fun t ht hW => ⟨⟨(-1 : Int32), (), rfl, rfl, by rw [ht]; exact hP, hD⟩, hS.F ht⟩) hS.2.2 zd_MP_part_35
  · have hf := mp_t c_2 hf
    refine lv_aload_n hx hb zd_MP_part_10 rfl (lv_at hl 0 rfl) ?_
    refine lv_iload_n hx hb zd_MP_part_11 rfl (lv_at hl 1 rfl) ?_
    obtain ⟨y3, hg3, hf⟩ := mp_bd hf
    refine mp_Rz (va_runV (As := [.int u1]) (rest := []) ⟨hx, hb, hml, hown, hts⟩ (zc_MP_isGood l dC dI cI cJ cZ ad xgc u1 y3 hg3) (cwV 1 hts (mp_gV hsub zq_186 zq_188 zq_0 zq_25 zq_189) rfl rfl rfl (by decide +kernel) ⟨Nat.le_of_ble_eq_true rfl, Nat.le_of_ble_eq_true rfl⟩) ⟨mp_blR, va_recv hK hP (ci := 4) (q0 := 0) rfl rfl, mp_preR hN hK (hP.sub [0] rfl)⟩ rfl rfl hl.1 rfl (lv_room (Nat.le_of_ble_eq_true rfl)) zd_MP_part_12 ⟨Nat.zero_le _, Nat.zero_le _⟩) (fun hz3 => ?_)
    refine lv_if_eq (tgt := 34) hx hb zd_MP_part_15 (by decide) (fun c_4 => ?_) (fun c_4 => ?_)
    · have hf := mp_t c_4 hf
      refine lv_iconst (v := -1) hx hb zd_MP_part_34 (by decide) ?_
      have hf := Option.some.inj hf
      subst hf
      exact W.iret (v := (-1 : Int32)) hx hb hr (fun t ht hW => ⟨⟨(-1 : Int32), (), rfl, rfl, by rw [ht]; exact hP, hD⟩, hS.F ht⟩) hS.2.2 zd_MP_part_35
    · have hf := mp_f c_4 hf
      refine lv_iload_n hx hb zd_MP_part_18 rfl (lv_at hl 2 rfl) ?_
      refine lv_lload_n hx hb zd_MP_part_19 rfl (lv_at hl 3 rfl) ?_
      obtain ⟨y5, hg5, hf⟩ := mp_bd hf
      refine mp_Rz (va_runS (As := [.int u2, .long u3]) (rest := []) ⟨hx, hb, hml, hown, hts⟩ (zc_MP_isMaterial l dC dI cI cJ cZ ad u2 u3 y5 hg5) (va_cwS 2 hts (mp_gS hsub zq_190 zq_191 zq_25 zq_192) rfl rfl rfl (by decide +kernel) ⟨Nat.le_of_ble_eq_true rfl, Nat.le_of_ble_eq_true rfl⟩) ⟨mp_blR, mp_preR hN hK (hP.sub [] rfl)⟩ rfl rfl hl.1 rfl (lv_room (Nat.le_of_ble_eq_true rfl)) zd_MP_part_20 ⟨Nat.zero_le _, Nat.zero_le _⟩) (fun hz5 => ?_)
      refine lv_if_eq (tgt := 34) hx hb zd_MP_part_23 (by decide) (fun c_6 => ?_) (fun c_6 => ?_)
      · have hf := mp_t c_6 hf
        refine lv_iconst (v := -1) hx hb zd_MP_part_34 (by decide) ?_
        have hf := Option.some.inj hf
        subst hf
        exact W.iret (v := (-1 : Int32)) hx hb hr (fun t ht hW => ⟨⟨(-1 : Int32), (), rfl, rfl, by rw [ht]; exact hP, hD⟩, hS.F ht⟩) hS.2.2 zd_MP_part_35
      · have hf := mp_f c_6 hf
        refine lv_iload hx hb zd_MP_part_26 (lv_at hl 4 rfl) ?_
        obtain ⟨y7, hg7, hf⟩ := mp_bd hf
        refine mp_Rz (va_runS (As := [.int u5]) (rest := []) ⟨hx, hb, hml, hown, hts⟩ (zc_MP_isLife l dC dI cI cJ cZ ad u5 y7 hg7) (va_cwS 1 hts (mp_gS hsub zq_197 zq_198 zq_25 zq_199) rfl rfl rfl (by decide +kernel) ⟨Nat.le_of_ble_eq_true rfl, Nat.le_of_ble_eq_true rfl⟩) ⟨mp_blR, mp_preR hN hK (hP.sub [] rfl)⟩ rfl rfl hl.1 rfl (lv_room (Nat.le_of_ble_eq_true rfl)) zd_MP_part_28 ⟨Nat.zero_le _, Nat.zero_le _⟩) (fun hz7 => ?_)
        refine lv_if_ne (tgt := 36) hx hb zd_MP_part_31 (by decide) (fun c_8 => ?_) (fun c_8 => ?_)
        · have hf := mp_f c_8 hf
          refine lv_aload_n hx hb zd_MP_part_36 rfl (lv_at hl 0 rfl) ?_
          refine va_get (D := (dC, dI)) (ci := 4) (v := .ref (ad 1)) (C := zR_MP) (T := zT_MP) (N := 7) hx hb hts (fun w h => hsub w (zi_MP w h)) hown hK hP 0 rfl rfl 0 (by decide) (hw _ zq_152) (fun _ h9 => h9) rfl zd_MP_part_37 ?_
          refine lv_iload_n hx hb zd_MP_part_40 rfl (lv_at hl 1 rfl) ?_
          refine lv_dup2_11 hx hb zd_MP_part_41 rfl rfl ?_
          obtain ⟨h_9, hf⟩ := mp_in hf
          refine va_iald hx hb hK hP 1 0 rfl rfl (i := u1) h_9 zd_MP_part_42 ?_
          refine lv_iconst (v := 1) hx hb zd_MP_part_43 (by decide) ?_
          refine lv_iadd hx hb zd_MP_part_44 ?_
          obtain ⟨h_10, hf⟩ := mp_in hf
          refine va_iast hx hb hK hP hD hS 1 0 rfl rfl (i := u1) (x := ((xver u1.toNatClampNeg) + (1 : Int32))) h_10 zd_MP_part_45 (fun H locs hP hD hS => ?_)
          have hP : va_P (dC, dI) vwCl [(ad 0, .inr (4, [.ref (ad 1), .ref (ad 2), .ref (ad 3), .ref (ad 4), .ref (ad 5), .ref (ad 6), .int xgc])), (ad 1, .inl (cI, 8, .inl (upd xver u1.toNatClampNeg ((xver u1.toNatClampNeg) + (1 : Int32))))), (ad 3, .inr (3, [.ref (ad 7), .ref (ad 8), .ref (ad 9), .ref (ad 10), .ref (ad 11), .ref (ad 12), .int xpn])), (ad 7, .inl (cI, 24, .inl xpo)), (ad 8, .inl (cI, 24, .inl xpk)), (ad 9, .inl (cJ, 24, .inr (.inl xpg))), (ad 10, .inl (cI, 24, .inl xpl)), (ad 11, .inl (cI, 24, .inl xpi))] H := hP
          have hD : va_D A [(ad 0, .inr (4, [.ref (ad 1), .ref (ad 2), .ref (ad 3), .ref (ad 4), .ref (ad 5), .ref (ad 6), .int xgc])), (ad 1, .inl (cI, 8, .inl (upd xver u1.toNatClampNeg ((xver u1.toNatClampNeg) + (1 : Int32))))), (ad 3, .inr (3, [.ref (ad 7), .ref (ad 8), .ref (ad 9), .ref (ad 10), .ref (ad 11), .ref (ad 12), .int xpn])), (ad 7, .inl (cI, 24, .inl xpo)), (ad 8, .inl (cI, 24, .inl xpk)), (ad 9, .inl (cJ, 24, .inr (.inl xpg))), (ad 10, .inl (cI, 24, .inl xpl)), (ad 11, .inl (cI, 24, .inl xpi))] := hD
          refine lv_aload_n hx hb zd_MP_part_46 rfl (lv_at hl 0 rfl) ?_
          refine va_get (D := (dC, dI)) (ci := 4) (v := .ref (ad 3)) (C := zR_MP) (T := zT_MP) (N := 7) hx hb hts (fun w h => hsub w (zi_MP w h)) hown hK hP 0 rfl rfl 2 (by decide) (hw _ zq_154) (fun _ h9 => h9) rfl zd_MP_part_47 ?_
          refine lv_iload_n hx hb zd_MP_part_50 rfl (lv_at hl 1 rfl) ?_
          refine lv_iload_n hx hb zd_MP_part_51 rfl (lv_at hl 2 rfl) ?_
          refine lv_lload_n hx hb zd_MP_part_52 rfl (lv_at hl 3 rfl) ?_
          refine lv_iload hx hb zd_MP_part_53 (lv_at hl 4 rfl) ?_
          obtain ⟨y11, hg11, hf⟩ := mp_bd hf
          refine mp_Mi (wr := [(ad 0, .inr (4, [.ref (ad 1), .ref (ad 2), .ref (ad 3), .ref (ad 4), .ref (ad 5), .ref (ad 6), .int xgc])), (ad 1, .inl (cI, 8, .inl (upd xver u1.toNatClampNeg ((xver u1.toNatClampNeg) + (1 : Int32)))))]) (va_runV (As := [.int u1, .int u2, .long u3, .int u5]) (rest := []) ⟨hx, hb, hml, hown, hts⟩ (zc_Pa_add l dC dI cI cJ cZ ad _ xpn xpo xpk xpg xpl xpi u1 u2 u3 u5 y11 hg11) (cwV 4 hts (mp_gV hsub zq_200 zq_201 zq_202 zq_26 zq_203) rfl rfl rfl (by decide +kernel) ⟨Nat.le_of_ble_eq_true rfl, Nat.le_of_ble_eq_true rfl⟩) ⟨mp_blM, va_recv hK hP (ci := 3) (q0 := 2) rfl rfl, mp_preM hN hK (hP.sub [2, 3, 4, 5, 6, 7] rfl) (hD.sub [2, 3, 4, 5, 6, 7] (by decide) rfl)⟩ rfl rfl hl.1 rfl (lv_room (Nat.le_of_ble_eq_true rfl)) zd_MP_part_55 ⟨Nat.zero_le _, Nat.zero_le _⟩) hP hD hS hA [2, 3, 4, 5, 6, 7] [0, 1] rfl rfl (by decide) (by decide) (fun H locs hP hD hS => ?_)
          have hP : va_P (dC, dI) vwCl [(ad 0, .inr (4, [.ref (ad 1), .ref (ad 2), .ref (ad 3), .ref (ad 4), .ref (ad 5), .ref (ad 6), .int xgc])), (ad 1, .inl (cI, 8, .inl (upd xver u1.toNatClampNeg ((xver u1.toNatClampNeg) + (1 : Int32))))), (ad 3, .inr (3, [.ref (ad 7), .ref (ad 8), .ref (ad 9), .ref (ad 10), .ref (ad 11), .ref (ad 12), .int y11.2.1])), (ad 7, .inl (cI, 24, .inl y11.2.2.1)), (ad 8, .inl (cI, 24, .inl y11.2.2.2.1)), (ad 9, .inl (cJ, 24, .inr (.inl y11.2.2.2.2.1))), (ad 10, .inl (cI, 24, .inl y11.2.2.2.2.2.1)), (ad 11, .inl (cI, 24, .inl y11.2.2.2.2.2.2))] H := hP
          have hD : va_D A [(ad 0, .inr (4, [.ref (ad 1), .ref (ad 2), .ref (ad 3), .ref (ad 4), .ref (ad 5), .ref (ad 6), .int xgc])), (ad 1, .inl (cI, 8, .inl (upd xver u1.toNatClampNeg ((xver u1.toNatClampNeg) + (1 : Int32))))), (ad 3, .inr (3, [.ref (ad 7), .ref (ad 8), .ref (ad 9), .ref (ad 10), .ref (ad 11), .ref (ad 12), .int y11.2.1])), (ad 7, .inl (cI, 24, .inl y11.2.2.1)), (ad 8, .inl (cI, 24, .inl y11.2.2.2.1)), (ad 9, .inl (cJ, 24, .inr (.inl y11.2.2.2.2.1))), (ad 10, .inl (cI, 24, .inl y11.2.2.2.2.2.1)), (ad 11, .inl (cI, 24, .inl y11.2.2.2.2.2.2))] := hD
          have hf := Option.some.inj hf
          subst hf
          exact W.iret (v := y11.1) hx hb hr (fun t ht hW => ⟨⟨y11.1, (), rfl, rfl, by rw [ht]; exact hP, hD⟩, hS.F ht⟩) hS.2.2 zd_MP_part_58
        · have hf := mp_t c_8 hf
          refine lv_iconst (v := -1) hx hb zd_MP_part_34 (by decide) ?_
          have hf := Option.some.inj hf
          subst hf
          exact W.iret (v := (-1 : Int32)) hx hb hr (fun t ht hW => ⟨⟨(-1 : Int32), (), rfl, rfl, by rw [ht]; exact hP, hD⟩, hS.F ht⟩) hS.2.2 zd_MP_part_35
set_option maxHeartbeats 4000000 in
set_option maxRecDepth 100000 in
theorem zc_Pa_has (l : Launch) (dC : Nat → ClassId) (dI : Nat → Nat → Nat) (cI cJ cZ : ClassId) (ad : Nat → Nat) (xpn : Int32) (u1 : Int32) (res : Int32) (hf : zf_Pa_has u1 xpn = some res) : Met l zy_Pa_has zw_Pa_has ({ frames := 0, cells := 0, slots := 0, locals := 0 } : Room) (mp_PR (dC, dI) vwCl (mp_tys cI cJ cZ) [(ad 3, .inr (3, [.ref (ad 7), .ref (ad 8), .ref (ad 9), .ref (ad 10), .ref (ad 11), .ref (ad 12), .int xpn]))] [.ref (ad 3), .int u1]) (vp_Si (fun r => r = res ∧ mp_b res)) 0 0 (fun _ => False) := by
  refine Met.ofW (cc := zb_Pa_has) (maxL := 2) (ret := (some .boolean)) (by decide) rfl ?_
  intro p e s m args below meth c s₁ B hml hv
  obtain ⟨rfl, hP, hK, hN⟩ := hv
  have hx := B.exec
  have hb := B.bytes
  have hr := B.returns
  have hts := atoms_spec (ws := zw_Pa_has) B.pre
  have hsub : ∀ w ∈ mp_tbl, w ∈ zw_Pa_has := fun w h => List.mem_cons_of_mem _ h
  have hw : ∀ w ∈ mp_tbl, w.before _ s = true := fun w h => hts w (hsub w h)
  have hown : s.vm.findClass zR_Pa = some m.cls := findClass_of_methodNamed B.named
  have hlocks := B.notSynchronized
  have hl := lv_entry ([.ref (ad 3), .int u1]) (n := 2) (Nat.le_of_ble_eq_true rfl)
  rw [lg_entry_eq]
  generalize (lg_sl ([.ref (ad 3), .int u1]) ++ List.replicate (2 - (lg_sl ([.ref (ad 3), .int u1])).length) Slot.unset).toArray = ls at hl ⊢
  have hl : lv_has ls 2 [(0, .ref (ad 3)), (1, .int u1)] := hl
  unfold zf_Pa_has at hf
  refine lv_iload_n hx hb zd_Pa_has_0 rfl (lv_at hl 1 rfl) ?_
  refine lv_if_lt (tgt := 16) hx hb zd_Pa_has_1 (by decide) (fun c_1 => ?_) (fun c_1 => ?_)
  · have hf := mp_t c_1 hf
    refine lv_iconst (v := 0) hx hb zd_Pa_has_16 (by decide) ?_
    have hf := Option.some.inj hf
    subst hf
    exact W.zret (v := (0 : Int32)) hx hb hr (mp_nz (Or.inl rfl)) (fun t ht hW => ⟨(0 : Int32), rfl, ⟨rfl, (Or.inl rfl)⟩, ht⟩) (fun q h => by cases h) zd_Pa_has_17
  · have hf := mp_f c_1 hf
    refine lv_iload_n hx hb zd_Pa_has_4 rfl (lv_at hl 1 rfl) ?_
    refine lv_aload_n hx hb zd_Pa_has_5 rfl (lv_at hl 0 rfl) ?_
    refine va_get (D := (dC, dI)) (ci := 3) (v := .int xpn) (C := zR_Pa) (T := zT_Pa) (N := 7) hx hb hts (fun w h => hsub w (zi_Pa w h)) hown hK hP 0 rfl rfl 6 (by decide) (hw _ zq_87) (fun _ h9 => h9) rfl zd_Pa_has_6 ?_
    refine lv_icmp_ge (tgt := 16) hx hb zd_Pa_has_9 (by decide) (fun c_2 => ?_) (fun c_2 => ?_)
    · have hf := mp_t c_2 hf
      refine lv_iconst (v := 0) hx hb zd_Pa_has_16 (by decide) ?_
      have hf := Option.some.inj hf
      subst hf
      exact W.zret (v := (0 : Int32)) hx hb hr (mp_nz (Or.inl rfl)) (fun t ht hW => ⟨(0 : Int32), rfl, ⟨rfl, (Or.inl rfl)⟩, ht⟩) (fun q h => by cases h) zd_Pa_has_17
    · have hf := mp_f c_2 hf
      refine lv_iconst (v := 1) hx hb zd_Pa_has_12 (by decide) ?_
      refine lv_goto (tgt := 17) hx hb zd_Pa_has_13 (by decide) ?_
      have hf := Option.some.inj hf
      subst hf
      exact W.zret (v := (1 : Int32)) hx hb hr (mp_nz (Or.inr rfl)) (fun t ht hW => ⟨(1 : Int32), rfl, ⟨rfl, (Or.inr rfl)⟩, ht⟩) (fun q h => by cases h) zd_Pa_has_17
set_option maxHeartbeats 4000000 in
set_option maxRecDepth 100000 in
theorem zc_Ja_fill (l : Launch) (dC : Nat → ClassId) (dI : Nat → Nat → Nat) (cI cJ cZ : ClassId) (a0 n0 : Nat) (sz : Nat) (f0 : Nat → Int64) (u1 : Int64) (res : (Nat → Int64)) (hf : zf_Ja_fill u1 n0 f0 = some res) : Met l zy_Ja_fill zw_Ja_fill ({ frames := 0, cells := 0, slots := 0, locals := 0 } : Room) (mp_PM (dC, dI) vwCl (mp_tys cI cJ cZ) [(a0, .inl (cJ, n0, .inr (.inl f0)))] sz [.ref a0, .long u1]) (va_Qv (fun (_ : Unit) => True) (mp_BM (dC, dI) vwCl [(a0, .inl (cJ, n0, .inr (.inl res)))] (va_A [(a0, .inl (cJ, n0, .inr (.inl f0)))] sz)) (va_A [(a0, .inl (cJ, n0, .inr (.inl f0)))] sz)) 0 0 ((va_A [(a0, .inl (cJ, n0, .inr (.inl f0)))] sz)) := by
  refine Met.ofW (cc := zb_Ja_fill) (maxL := 5) (ret := none) (by decide) rfl ?_
  intro p e s m args below meth c s₁ B hml hv
  obtain ⟨rfl, hsz, hP, hK, hD0, hN⟩ := hv
  have hx := B.exec
  have hb := B.bytes
  have hr := B.returns
  have hts := atoms_spec (ws := zw_Ja_fill) B.pre
  have hsub : ∀ w ∈ mp_tbl, w ∈ zw_Ja_fill := fun w h => List.mem_cons_of_mem _ h
  have hw : ∀ w ∈ mp_tbl, w.before _ s = true := fun w h => hts w (hsub w h)
  have hown : s.vm.findClass zR_Ja = some m.cls := findClass_of_methodNamed B.named
  have hlocks := B.notSynchronized
  subst hsz
  have hD := hD0.self (sz := s.heap.size)
  generalize hAe : va_A [(a0, .inl (cJ, n0, .inr (.inl f0)))] s.heap.size = A at hD ⊢
  have hA : ∀ q : Nat, s.heap.size ≤ q → A q := fun q h => by rw [← hAe]; exact Or.inr h
  have hS : va_S A s.heap s.heap [] := va_S.rf
  have hP : va_P (dC, dI) vwCl [(a0, .inl (cJ, n0, .inr (.inl f0)))] s.heap := hP
  clear hAe hD0
  have loop6 : ∀ (v1 : Int64) (v4 : Int32) (n : Nat) (v3 : Int32) (f0 : Nat → Int64) (H : Heap) (locs : List Loc) (ls : Array Slot), zf_Ja_fill_L6 v1 v4 n0 n v3 f0 = some res → va_P (dC, dI) vwCl [(a0, .inl (cJ, n0, .inr (.inl f0)))] H → va_D A [(a0, .inl (cJ, n0, .inr (.inl f0)))] → va_S A s.heap H locs → lv_has ls 5 [(0, .ref a0), (1, .long v1), (3, .int v3), (4, .int v4)] → W p l e (headSpec zw_Ja_fill ({ frames := 0, cells := 0, slots := 0, locals := 0 } : Room)).room s m ([.ref a0, .long u1] : List Value).toArray below meth c H locs 0 0 (MQ below (va_Qv (fun (_ : Unit) => True) (mp_BM (dC, dI) vwCl [(a0, .inl (cJ, n0, .inr (.inl res)))] A) A) ([.ref a0, .long u1] : List Value).toArray s 0 0 (A)) (F0 m 6 ls []) := by
    intro v1 v4 n
    induction n with
    | zero => intro v3 f0 H locs ls hf; simp [zf_Ja_fill_L6] at hf
    | succ n ih =>
      intro v3 f0 H locs ls hf hP hD hS hl
      rw [zf_Ja_fill_L6] at hf
      refine lv_iload_n hx hb zd_Ja_fill_6 rfl (lv_at hl 2 rfl) ?_
      refine lv_iload hx hb zd_Ja_fill_7 (lv_at hl 3 rfl) ?_
      refine lv_icmp_ge (tgt := 22) hx hb zd_Ja_fill_9 (by decide) (fun c_1 => ?_) (fun c_1 => ?_)
      · have hf := mp_t c_1 hf
        have hf := Option.some.inj hf
        subst hf
        exact W.vret hx hb hr (fun t ht hW => ⟨⟨(), rfl, trivial, by rw [ht]; exact hP, hD⟩, hS.F ht⟩) hS.2.2 zd_Ja_fill_22
      · have hf := mp_f c_1 hf
        refine lv_aload_n hx hb zd_Ja_fill_12 rfl (lv_at hl 0 rfl) ?_
        refine lv_iload_n hx hb zd_Ja_fill_13 rfl (lv_at hl 2 rfl) ?_
        refine lv_lload_n hx hb zd_Ja_fill_14 rfl (lv_at hl 1 rfl) ?_
        obtain ⟨h_2, hf⟩ := mp_in hf
        refine va_last hx hb hK hP hD hS 0 1 rfl rfl (i := v3) (x := v1) h_2 zd_Ja_fill_15 (fun H locs hP hD hS => ?_)
        have hP : va_P (dC, dI) vwCl [(a0, .inl (cJ, n0, .inr (.inl (vp_updL f0 v3.toNatClampNeg v1))))] H := hP
        have hD : va_D A [(a0, .inl (cJ, n0, .inr (.inl (vp_updL f0 v3.toNatClampNeg v1))))] := hD
        refine lv_iinc (v := (v3 + (1 : Int32))) (lv' := [(3, .int (v3 + (1 : Int32))), (0, .ref a0), (1, .long v1), (4, .int v4)]) hx hb zd_Ja_fill_16 hl (k := 2) rfl rfl (by decide) rfl (fun ls hl => ?_)
        refine lv_goto (tgt := 6) hx hb zd_Ja_fill_19 (by decide) ?_
        exact ih (v3 + (1 : Int32)) (vp_updL f0 v3.toNatClampNeg v1) _ _ _ hf hP hD hS (lv_sub hl [1, 2, 0, 3] rfl)
  have hl := lv_entry ([.ref a0, .long u1]) (n := 5) (Nat.le_of_ble_eq_true rfl)
  rw [lg_entry_eq]
  generalize (lg_sl ([.ref a0, .long u1]) ++ List.replicate (5 - (lg_sl ([.ref a0, .long u1])).length) Slot.unset).toArray = ls at hl ⊢
  have hl : lv_has ls 5 [(0, .ref a0), (1, .long u1)] := hl
  unfold zf_Ja_fill at hf
  refine lv_iconst (v := 0) hx hb zd_Ja_fill_0 (by decide) ?_
  refine lv_istore_n (lv' := [(3, .int (0 : Int32)), (0, .ref a0), (1, .long u1)]) hx hb zd_Ja_fill_1 rfl hl (by decide) rfl (fun ls hl => ?_)
  refine lv_aload_n hx hb zd_Ja_fill_2 rfl (lv_at hl 1 rfl) ?_
  refine va_alen (v := (Int32.ofNat n0)) hx hb hK hP 0 1 rfl rfl rfl zd_Ja_fill_3 ?_
  refine lv_istore (lv' := [(4, .int (Int32.ofNat n0)), (3, .int (0 : Int32)), (0, .ref a0), (1, .long u1)]) hx hb zd_Ja_fill_4 hl (by decide) rfl (fun ls hl => ?_)
  exact loop6 u1 (Int32.ofNat n0) 2000 (0 : Int32) f0 _ _ _ hf hP hD hS (lv_sub hl [2, 3, 1, 0] rfl)
set_option maxHeartbeats 4000000 in
set_option maxRecDepth 100000 in
theorem zc_Ne_goDeeper (l : Launch) (dC : Nat → ClassId) (dI : Nat → Nat → Nat) (cI cJ cZ : ClassId) (ad : Nat → Nat) (sz : Nat) (xpn : Int32) (xpo : Nat → Int32) (xpi : Nat → Int32) (xnt : Nat → Int64) (xnl : Nat → Int64) (xnd : Nat → Int64) (res : (Nat → Int64) × (Nat → Int64) × (Nat → Int64)) (hf : zf_Ne_goDeeper xpn xpo xpi xnt xnl xnd = some res) : Met l zy_Ne_goDeeper zw_Ne_goDeeper ({ frames := 1, cells := 0, slots := 0, locals := 24 } : Room) (mp_PM (dC, dI) vwCl (mp_tys cI cJ cZ) [(ad 3, .inr (3, [.ref (ad 7), .ref (ad 8), .ref (ad 9), .ref (ad 10), .ref (ad 11), .ref (ad 12), .int xpn])), (ad 4, .inr (2, [.ref (ad 17), .ref (ad 18), .ref (ad 19)])), (ad 7, .inl (cI, 24, .inl xpo)), (ad 11, .inl (cI, 24, .inl xpi)), (ad 17, .inl (cJ, 8, .inr (.inl xnt))), (ad 18, .inl (cJ, 8, .inr (.inl xnl))), (ad 19, .inl (cJ, 8, .inr (.inl xnd)))] sz [.ref (ad 4), .ref (ad 3)]) (va_Qv (fun (_ : Unit) => True) (mp_BM (dC, dI) vwCl [(ad 3, .inr (3, [.ref (ad 7), .ref (ad 8), .ref (ad 9), .ref (ad 10), .ref (ad 11), .ref (ad 12), .int xpn])), (ad 4, .inr (2, [.ref (ad 17), .ref (ad 18), .ref (ad 19)])), (ad 7, .inl (cI, 24, .inl xpo)), (ad 11, .inl (cI, 24, .inl xpi)), (ad 17, .inl (cJ, 8, .inr (.inl res.1))), (ad 18, .inl (cJ, 8, .inr (.inl res.2.1))), (ad 19, .inl (cJ, 8, .inr (.inl res.2.2)))] (va_A [(ad 3, .inr (3, [.ref (ad 7), .ref (ad 8), .ref (ad 9), .ref (ad 10), .ref (ad 11), .ref (ad 12), .int xpn])), (ad 4, .inr (2, [.ref (ad 17), .ref (ad 18), .ref (ad 19)])), (ad 7, .inl (cI, 24, .inl xpo)), (ad 11, .inl (cI, 24, .inl xpi)), (ad 17, .inl (cJ, 8, .inr (.inl xnt))), (ad 18, .inl (cJ, 8, .inr (.inl xnl))), (ad 19, .inl (cJ, 8, .inr (.inl xnd)))] sz)) (va_A [(ad 3, .inr (3, [.ref (ad 7), .ref (ad 8), .ref (ad 9), .ref (ad 10), .ref (ad 11), .ref (ad 12), .int xpn])), (ad 4, .inr (2, [.ref (ad 17), .ref (ad 18), .ref (ad 19)])), (ad 7, .inl (cI, 24, .inl xpo)), (ad 11, .inl (cI, 24, .inl xpi)), (ad 17, .inl (cJ, 8, .inr (.inl xnt))), (ad 18, .inl (cJ, 8, .inr (.inl xnl))), (ad 19, .inl (cJ, 8, .inr (.inl xnd)))] sz)) 0 0 ((va_A [(ad 3, .inr (3, [.ref (ad 7), .ref (ad 8), .ref (ad 9), .ref (ad 10), .ref (ad 11), .ref (ad 12), .int xpn])), (ad 4, .inr (2, [.ref (ad 17), .ref (ad 18), .ref (ad 19)])), (ad 7, .inl (cI, 24, .inl xpo)), (ad 11, .inl (cI, 24, .inl xpi)), (ad 17, .inl (cJ, 8, .inr (.inl xnt))), (ad 18, .inl (cJ, 8, .inr (.inl xnl))), (ad 19, .inl (cJ, 8, .inr (.inl xnd)))] sz)) := by
  refine Met.ofW (cc := zb_Ne_goDeeper) (maxL := 4) (ret := none) (by decide) rfl ?_
  intro p e s m args below meth c s₁ B hml hv
  obtain ⟨rfl, hsz, hP, hK, hD0, hN⟩ := hv
  have hx := B.exec
  have hb := B.bytes
  have hr := B.returns
  have hts := atoms_spec (ws := zw_Ne_goDeeper) B.pre
  have hsub : ∀ w ∈ mp_tbl, w ∈ zw_Ne_goDeeper := fun w h => List.mem_cons_of_mem _ h
  have hw : ∀ w ∈ mp_tbl, w.before _ s = true := fun w h => hts w (hsub w h)
  have hown : s.vm.findClass zR_Ne = some m.cls := findClass_of_methodNamed B.named
  have hlocks := B.notSynchronized
  subst hsz
  have hD := hD0.self (sz := s.heap.size)
  generalize hAe : va_A [(ad 3, .inr (3, [.ref (ad 7), .ref (ad 8), .ref (ad 9), .ref (ad 10), .ref (ad 11), .ref (ad 12), .int xpn])), (ad 4, .inr (2, [.ref (ad 17), .ref (ad 18), .ref (ad 19)])), (ad 7, .inl (cI, 24, .inl xpo)), (ad 11, .inl (cI, 24, .inl xpi)), (ad 17, .inl (cJ, 8, .inr (.inl xnt))), (ad 18, .inl (cJ, 8, .inr (.inl xnl))), (ad 19, .inl (cJ, 8, .inr (.inl xnd)))] s.heap.size = A at hD ⊢
  have hA : ∀ q : Nat, s.heap.size ≤ q → A q := fun q h => by rw [← hAe]; exact Or.inr h
  have hS : va_S A s.heap s.heap [] := va_S.rf
  have hP : va_P (dC, dI) vwCl [(ad 3, .inr (3, [.ref (ad 7), .ref (ad 8), .ref (ad 9), .ref (ad 10), .ref (ad 11), .ref (ad 12), .int xpn])), (ad 4, .inr (2, [.ref (ad 17), .ref (ad 18), .ref (ad 19)])), (ad 7, .inl (cI, 24, .inl xpo)), (ad 11, .inl (cI, 24, .inl xpi)), (ad 17, .inl (cJ, 8, .inr (.inl xnt))), (ad 18, .inl (cJ, 8, .inr (.inl xnl))), (ad 19, .inl (cJ, 8, .inr (.inl xnd)))] s.heap := hP
  clear hAe hD0
  have loop58 : ∀ (xnd : Nat → Int64) (n : Nat) (v2 : Int32) (xnt : Nat → Int64) (xnl : Nat → Int64) (H : Heap) (locs : List Loc) (ls : Array Slot), zf_Ne_goDeeper_L58 xnd xpn xpo xpi n v2 xnt xnl = some res → va_P (dC, dI) vwCl [(ad 3, .inr (3, [.ref (ad 7), .ref (ad 8), .ref (ad 9), .ref (ad 10), .ref (ad 11), .ref (ad 12), .int xpn])), (ad 4, .inr (2, [.ref (ad 17), .ref (ad 18), .ref (ad 19)])), (ad 7, .inl (cI, 24, .inl xpo)), (ad 11, .inl (cI, 24, .inl xpi)), (ad 17, .inl (cJ, 8, .inr (.inl xnt))), (ad 18, .inl (cJ, 8, .inr (.inl xnl))), (ad 19, .inl (cJ, 8, .inr (.inl xnd)))] H → va_D A [(ad 3, .inr (3, [.ref (ad 7), .ref (ad 8), .ref (ad 9), .ref (ad 10), .ref (ad 11), .ref (ad 12), .int xpn])), (ad 4, .inr (2, [.ref (ad 17), .ref (ad 18), .ref (ad 19)])), (ad 7, .inl (cI, 24, .inl xpo)), (ad 11, .inl (cI, 24, .inl xpi)), (ad 17, .inl (cJ, 8, .inr (.inl xnt))), (ad 18, .inl (cJ, 8, .inr (.inl xnl))), (ad 19, .inl (cJ, 8, .inr (.inl xnd)))] → va_S A s.heap H locs → lv_has ls 4 [(0, .ref (ad 4)), (1, .ref (ad 3)), (2, .int v2)] → W p l e (headSpec zw_Ne_goDeeper ({ frames := 1, cells := 0, slots := 0, locals := 24 } : Room)).room s m ([.ref (ad 4), .ref (ad 3)] : List Value).toArray below meth c H locs 0 0 (MQ below (va_Qv (fun (_ : Unit) => True) (mp_BM (dC, dI) vwCl [(ad 3, .inr (3, [.ref (ad 7), .ref (ad 8), .ref (ad 9), .ref (ad 10), .ref (ad 11), .ref (ad 12), .int xpn])), (ad 4, .inr (2, [.ref (ad 17), .ref (ad 18), .ref (ad 19)])), (ad 7, .inl (cI, 24, .inl xpo)), (ad 11, .inl (cI, 24, .inl xpi)), (ad 17, .inl (cJ, 8, .inr (.inl res.1))), (ad 18, .inl (cJ, 8, .inr (.inl res.2.1))), (ad 19, .inl (cJ, 8, .inr (.inl res.2.2)))] A) A) ([.ref (ad 4), .ref (ad 3)] : List Value).toArray s 0 0 (A)) (F0 m 58 ls []) := by
    intro xnd n
    induction n with
    | zero => intro v2 xnt xnl H locs ls hf; simp [zf_Ne_goDeeper_L58] at hf
    | succ n ih =>
      intro v2 xnt xnl H locs ls hf hP hD hS hl
      rw [zf_Ne_goDeeper_L58] at hf
      refine lv_iload_n hx hb zd_Ne_goDeeper_58 rfl (lv_at hl 2 rfl) ?_
      refine lv_bipush (v := 8) hx hb zd_Ne_goDeeper_59 (by decide) ?_
      refine lv_icmp_ge (tgt := 97) hx hb zd_Ne_goDeeper_61 (by decide) (fun c_3 => ?_) (fun c_3 => ?_)
      · have hf := mp_t c_3 hf
        have hf := Option.some.inj hf
        subst hf
        exact W.vret hx hb hr (fun t ht hW => ⟨⟨(), rfl, trivial, by rw [ht]; exact hP, hD⟩, hS.F ht⟩) hS.2.2 zd_Ne_goDeeper_97
      · have hf := mp_f c_3 hf
        refine lv_aload_n hx hb zd_Ne_goDeeper_64 rfl (lv_at hl 0 rfl) ?_
        refine va_get (D := (dC, dI)) (ci := 2) (v := .ref (ad 18)) (C := zR_Ne) (T := zT_Ne) (N := 3) hx hb hts (fun w h => hsub w (zi_Ne w h)) hown hK hP 1 rfl rfl 1 (by decide) (hw _ zq_112) (fun _ h9 => h9) rfl zd_Ne_goDeeper_65 ?_
        refine lv_iload_n hx hb zd_Ne_goDeeper_68 rfl (lv_at hl 2 rfl) ?_
        refine lv_aload_n hx hb zd_Ne_goDeeper_69 rfl (lv_at hl 0 rfl) ?_
        refine va_get (D := (dC, dI)) (ci := 2) (v := .ref (ad 19)) (C := zR_Ne) (T := zT_Ne) (N := 3) hx hb hts (fun w h => hsub w (zi_Ne w h)) hown hK hP 1 rfl rfl 2 (by decide) (hw _ zq_113) (fun _ h9 => h9) rfl zd_Ne_goDeeper_70 ?_
        refine lv_iload_n hx hb zd_Ne_goDeeper_73 rfl (lv_at hl 2 rfl) ?_
        obtain ⟨h_4, hf⟩ := mp_in hf
        refine va_lald hx hb hK hP 6 1 rfl rfl (i := v2) h_4 zd_Ne_goDeeper_74 ?_
        obtain ⟨h_5, hf⟩ := mp_in hf
        refine va_last hx hb hK hP hD hS 5 1 rfl rfl (i := v2) (x := (xnd v2.toNatClampNeg)) h_5 zd_Ne_goDeeper_75 (fun H locs hP hD hS => ?_)
        have hP : va_P (dC, dI) vwCl [(ad 3, .inr (3, [.ref (ad 7), .ref (ad 8), .ref (ad 9), .ref (ad 10), .ref (ad 11), .ref (ad 12), .int xpn])), (ad 4, .inr (2, [.ref (ad 17), .ref (ad 18), .ref (ad 19)])), (ad 7, .inl (cI, 24, .inl xpo)), (ad 11, .inl (cI, 24, .inl xpi)), (ad 17, .inl (cJ, 8, .inr (.inl xnt))), (ad 18, .inl (cJ, 8, .inr (.inl (vp_updL xnl v2.toNatClampNeg (xnd v2.toNatClampNeg))))), (ad 19, .inl (cJ, 8, .inr (.inl xnd)))] H := hP
        have hD : va_D A [(ad 3, .inr (3, [.ref (ad 7), .ref (ad 8), .ref (ad 9), .ref (ad 10), .ref (ad 11), .ref (ad 12), .int xpn])), (ad 4, .inr (2, [.ref (ad 17), .ref (ad 18), .ref (ad 19)])), (ad 7, .inl (cI, 24, .inl xpo)), (ad 11, .inl (cI, 24, .inl xpi)), (ad 17, .inl (cJ, 8, .inr (.inl xnt))), (ad 18, .inl (cJ, 8, .inr (.inl (vp_updL xnl v2.toNatClampNeg (xnd v2.toNatClampNeg))))), (ad 19, .inl (cJ, 8, .inr (.inl xnd)))] := hD
        refine lv_aload_n hx hb zd_Ne_goDeeper_76 rfl (lv_at hl 0 rfl) ?_
        refine va_get (D := (dC, dI)) (ci := 2) (v := .ref (ad 17)) (C := zR_Ne) (T := zT_Ne) (N := 3) hx hb hts (fun w h => hsub w (zi_Ne w h)) hown hK hP 1 rfl rfl 0 (by decide) (hw _ zq_111) (fun _ h9 => h9) rfl zd_Ne_goDeeper_77 ?_
        refine lv_iload_n hx hb zd_Ne_goDeeper_80 rfl (lv_at hl 2 rfl) ?_
        refine lv_dup2_11 hx hb zd_Ne_goDeeper_81 rfl rfl ?_
        obtain ⟨h_6, hf⟩ := mp_in hf
        refine va_lald hx hb hK hP 4 1 rfl rfl (i := v2) h_6 zd_Ne_goDeeper_82 ?_
        refine lv_aload_n hx hb zd_Ne_goDeeper_83 rfl (lv_at hl 0 rfl) ?_
        refine va_get (D := (dC, dI)) (ci := 2) (v := .ref (ad 19)) (C := zR_Ne) (T := zT_Ne) (N := 3) hx hb hts (fun w h => hsub w (zi_Ne w h)) hown hK hP 1 rfl rfl 2 (by decide) (hw _ zq_113) (fun _ h9 => h9) rfl zd_Ne_goDeeper_84 ?_
        refine lv_iload_n hx hb zd_Ne_goDeeper_87 rfl (lv_at hl 2 rfl) ?_
        obtain ⟨h_7, hf⟩ := mp_in hf
        refine va_lald hx hb hK hP 6 1 rfl rfl (i := v2) h_7 zd_Ne_goDeeper_88 ?_
        refine lv_ladd hx hb zd_Ne_goDeeper_89 ?_
        obtain ⟨h_8, hf⟩ := mp_in hf
        refine va_last hx hb hK hP hD hS 4 1 rfl rfl (i := v2) (x := ((xnt v2.toNatClampNeg) + (xnd v2.toNatClampNeg))) h_8 zd_Ne_goDeeper_90 (fun H locs hP hD hS => ?_)
        have hP : va_P (dC, dI) vwCl [(ad 3, .inr (3, [.ref (ad 7), .ref (ad 8), .ref (ad 9), .ref (ad 10), .ref (ad 11), .ref (ad 12), .int xpn])), (ad 4, .inr (2, [.ref (ad 17), .ref (ad 18), .ref (ad 19)])), (ad 7, .inl (cI, 24, .inl xpo)), (ad 11, .inl (cI, 24, .inl xpi)), (ad 17, .inl (cJ, 8, .inr (.inl (vp_updL xnt v2.toNatClampNeg ((xnt v2.toNatClampNeg) + (xnd v2.toNatClampNeg)))))), (ad 18, .inl (cJ, 8, .inr (.inl (vp_updL xnl v2.toNatClampNeg (xnd v2.toNatClampNeg))))), (ad 19, .inl (cJ, 8, .inr (.inl xnd)))] H := hP
        have hD : va_D A [(ad 3, .inr (3, [.ref (ad 7), .ref (ad 8), .ref (ad 9), .ref (ad 10), .ref (ad 11), .ref (ad 12), .int xpn])), (ad 4, .inr (2, [.ref (ad 17), .ref (ad 18), .ref (ad 19)])), (ad 7, .inl (cI, 24, .inl xpo)), (ad 11, .inl (cI, 24, .inl xpi)), (ad 17, .inl (cJ, 8, .inr (.inl (vp_updL xnt v2.toNatClampNeg ((xnt v2.toNatClampNeg) + (xnd v2.toNatClampNeg)))))), (ad 18, .inl (cJ, 8, .inr (.inl (vp_updL xnl v2.toNatClampNeg (xnd v2.toNatClampNeg))))), (ad 19, .inl (cJ, 8, .inr (.inl xnd)))] := hD
        refine lv_iinc (v := (v2 + (1 : Int32))) (lv' := [(2, .int (v2 + (1 : Int32))), (0, .ref (ad 4)), (1, .ref (ad 3))]) hx hb zd_Ne_goDeeper_91 hl (k := 2) rfl rfl (by decide) rfl (fun ls hl => ?_)
        refine lv_goto (tgt := 58) hx hb zd_Ne_goDeeper_94 (by decide) ?_
        exact ih (v2 + (1 : Int32)) (vp_updL xnt v2.toNatClampNeg ((xnt v2.toNatClampNeg) + (xnd v2.toNatClampNeg))) (vp_updL xnl v2.toNatClampNeg (xnd v2.toNatClampNeg)) _ _ _ hf hP hD hS (lv_sub hl [1, 2, 0] rfl)
  have loop10 : ∀ (xnt : Nat → Int64) (xnl : Nat → Int64) (n : Nat) (v2 : Int32) (xnd : Nat → Int64) (H : Heap) (locs : List Loc) (ls : Array Slot), zf_Ne_goDeeper_L10 xnt xnl xpn xpo xpi n v2 xnd = some res → va_P (dC, dI) vwCl [(ad 3, .inr (3, [.ref (ad 7), .ref (ad 8), .ref (ad 9), .ref (ad 10), .ref (ad 11), .ref (ad 12), .int xpn])), (ad 4, .inr (2, [.ref (ad 17), .ref (ad 18), .ref (ad 19)])), (ad 7, .inl (cI, 24, .inl xpo)), (ad 11, .inl (cI, 24, .inl xpi)), (ad 17, .inl (cJ, 8, .inr (.inl xnt))), (ad 18, .inl (cJ, 8, .inr (.inl xnl))), (ad 19, .inl (cJ, 8, .inr (.inl xnd)))] H → va_D A [(ad 3, .inr (3, [.ref (ad 7), .ref (ad 8), .ref (ad 9), .ref (ad 10), .ref (ad 11), .ref (ad 12), .int xpn])), (ad 4, .inr (2, [.ref (ad 17), .ref (ad 18), .ref (ad 19)])), (ad 7, .inl (cI, 24, .inl xpo)), (ad 11, .inl (cI, 24, .inl xpi)), (ad 17, .inl (cJ, 8, .inr (.inl xnt))), (ad 18, .inl (cJ, 8, .inr (.inl xnl))), (ad 19, .inl (cJ, 8, .inr (.inl xnd)))] → va_S A s.heap H locs → lv_has ls 4 [(0, .ref (ad 4)), (1, .ref (ad 3)), (2, .int v2)] → W p l e (headSpec zw_Ne_goDeeper ({ frames := 1, cells := 0, slots := 0, locals := 24 } : Room)).room s m ([.ref (ad 4), .ref (ad 3)] : List Value).toArray below meth c H locs 0 0 (MQ below (va_Qv (fun (_ : Unit) => True) (mp_BM (dC, dI) vwCl [(ad 3, .inr (3, [.ref (ad 7), .ref (ad 8), .ref (ad 9), .ref (ad 10), .ref (ad 11), .ref (ad 12), .int xpn])), (ad 4, .inr (2, [.ref (ad 17), .ref (ad 18), .ref (ad 19)])), (ad 7, .inl (cI, 24, .inl xpo)), (ad 11, .inl (cI, 24, .inl xpi)), (ad 17, .inl (cJ, 8, .inr (.inl res.1))), (ad 18, .inl (cJ, 8, .inr (.inl res.2.1))), (ad 19, .inl (cJ, 8, .inr (.inl res.2.2)))] A) A) ([.ref (ad 4), .ref (ad 3)] : List Value).toArray s 0 0 (A)) (F0 m 10 ls []) := by
    intro xnt xnl n
    induction n with
    | zero => intro v2 xnd H locs ls hf; simp [zf_Ne_goDeeper_L10] at hf
    | succ n ih =>
      intro v2 xnd H locs ls hf hP hD hS hl
      rw [zf_Ne_goDeeper_L10] at hf
      refine lv_iload_n hx hb zd_Ne_goDeeper_10 rfl (lv_at hl 2 rfl) ?_
      refine lv_aload_n hx hb zd_Ne_goDeeper_11 rfl (lv_at hl 1 rfl) ?_
      refine va_get (D := (dC, dI)) (ci := 3) (v := .int xpn) (C := zR_Pa) (T := zT_Pa) (N := 7) hx hb hts (fun w h => hsub w (zi_Pa w h)) hown hK hP 0 rfl rfl 6 (by decide) (hw _ zq_88) (fun _ h9 => h9) rfl zd_Ne_goDeeper_12 ?_
      refine lv_icmp_ge (tgt := 56) hx hb zd_Ne_goDeeper_15 (by decide) (fun c_2 => ?_) (fun c_2 => ?_)
      · have hf := mp_t c_2 hf
        refine lv_iconst (v := 0) hx hb zd_Ne_goDeeper_56 (by decide) ?_
        refine lv_istore_n (lv' := [(2, .int (0 : Int32)), (0, .ref (ad 4)), (1, .ref (ad 3))]) hx hb zd_Ne_goDeeper_57 rfl hl (by decide) rfl (fun ls hl => ?_)
        exact loop58 xnd 2000 (0 : Int32) xnt xnl _ _ _ hf hP hD hS (lv_sub hl [1, 2, 0] rfl)
      · have hf := mp_f c_2 hf
        refine lv_aload_n hx hb zd_Ne_goDeeper_18 rfl (lv_at hl 1 rfl) ?_
        refine va_get (D := (dC, dI)) (ci := 3) (v := .ref (ad 11)) (C := zR_Pa) (T := zT_Pa) (N := 7) hx hb hts (fun w h => hsub w (zi_Pa w h)) hown hK hP 0 rfl rfl 4 (by decide) (hw _ zq_84) (fun _ h9 => h9) rfl zd_Ne_goDeeper_19 ?_
        refine lv_iload_n hx hb zd_Ne_goDeeper_22 rfl (lv_at hl 2 rfl) ?_
        obtain ⟨h_9, hf⟩ := mp_in hf
        refine va_iald hx hb hK hP 3 0 rfl rfl (i := v2) h_9 zd_Ne_goDeeper_23 ?_
        refine lv_istore_n (lv' := [(3, .int (xpi v2.toNatClampNeg)), (0, .ref (ad 4)), (1, .ref (ad 3)), (2, .int v2)]) hx hb zd_Ne_goDeeper_24 rfl hl (by decide) rfl (fun ls hl => ?_)
        refine lv_iload_n hx hb zd_Ne_goDeeper_25 rfl (lv_at hl 0 rfl) ?_
        refine lv_iconst (v := -1) hx hb zd_Ne_goDeeper_26 (by decide) ?_
        refine lv_icmp_eq (tgt := 50) hx hb zd_Ne_goDeeper_27 (by decide) (fun c_10 => ?_) (fun c_10 => ?_)
        · have hf := mp_t c_10 hf
          refine lv_iinc (v := (v2 + (1 : Int32))) (lv' := [(2, .int (v2 + (1 : Int32))), (3, .int (xpi v2.toNatClampNeg)), (0, .ref (ad 4)), (1, .ref (ad 3))]) hx hb zd_Ne_goDeeper_50 hl (k := 3) rfl rfl (by decide) rfl (fun ls hl => ?_)
          refine lv_goto (tgt := 10) hx hb zd_Ne_goDeeper_53 (by decide) ?_
          exact ih (v2 + (1 : Int32)) xnd _ _ _ hf hP hD hS (lv_sub hl [2, 3, 0] rfl)
        · have hf := mp_f c_10 hf
          refine lv_aload_n hx hb zd_Ne_goDeeper_30 rfl (lv_at hl 1 rfl) ?_
          refine va_get (D := (dC, dI)) (ci := 2) (v := .ref (ad 19)) (C := zR_Ne) (T := zT_Ne) (N := 3) hx hb hts (fun w h => hsub w (zi_Ne w h)) hown hK hP 1 rfl rfl 2 (by decide) (hw _ zq_113) (fun _ h9 => h9) rfl zd_Ne_goDeeper_31 ?_
          refine lv_iload_n hx hb zd_Ne_goDeeper_34 rfl (lv_at hl 0 rfl) ?_
          refine lv_dup2_11 hx hb zd_Ne_goDeeper_35 rfl rfl ?_
          obtain ⟨h_11, hf⟩ := mp_in hf
          refine va_lald hx hb hK hP 6 1 rfl rfl (i := (xpi v2.toNatClampNeg)) h_11 zd_Ne_goDeeper_36 ?_
          refine lv_aload_n hx hb zd_Ne_goDeeper_37 rfl (lv_at hl 1 rfl) ?_
          refine va_get (D := (dC, dI)) (ci := 2) (v := .ref (ad 18)) (C := zR_Ne) (T := zT_Ne) (N := 3) hx hb hts (fun w h => hsub w (zi_Ne w h)) hown hK hP 1 rfl rfl 1 (by decide) (hw _ zq_112) (fun _ h9 => h9) rfl zd_Ne_goDeeper_38 ?_
          refine lv_aload_n hx hb zd_Ne_goDeeper_41 rfl (lv_at hl 2 rfl) ?_
          refine va_get (D := (dC, dI)) (ci := 3) (v := .ref (ad 7)) (C := zR_Pa) (T := zT_Pa) (N := 7) hx hb hts (fun w h => hsub w (zi_Pa w h)) hown hK hP 0 rfl rfl 0 (by decide) (hw _ zq_77) (fun _ h9 => h9) rfl zd_Ne_goDeeper_42 ?_
          refine lv_iload_n hx hb zd_Ne_goDeeper_45 rfl (lv_at hl 3 rfl) ?_
          obtain ⟨h_12, hf⟩ := mp_in hf
          refine va_iald hx hb hK hP 2 0 rfl rfl (i := v2) h_12 zd_Ne_goDeeper_46 ?_
          obtain ⟨h_13, hf⟩ := mp_in hf
          refine va_lald hx hb hK hP 5 1 rfl rfl (i := (xpo v2.toNatClampNeg)) h_13 zd_Ne_goDeeper_47 ?_
          refine lv_ladd hx hb zd_Ne_goDeeper_48 ?_
          obtain ⟨h_14, hf⟩ := mp_in hf
          refine va_last hx hb hK hP hD hS 6 1 rfl rfl (i := (xpi v2.toNatClampNeg)) (x := ((xnd (xpi v2.toNatClampNeg).toNatClampNeg) + (xnl (xpo v2.toNatClampNeg).toNatClampNeg))) h_14 zd_Ne_goDeeper_49 (fun H locs hP hD hS => ?_)
          have hP : va_P (dC, dI) vwCl [(ad 3, .inr (3, [.ref (ad 7), .ref (ad 8), .ref (ad 9), .ref (ad 10), .ref (ad 11), .ref (ad 12), .int xpn])), (ad 4, .inr (2, [.ref (ad 17), .ref (ad 18), .ref (ad 19)])), (ad 7, .inl (cI, 24, .inl xpo)), (ad 11, .inl (cI, 24, .inl xpi)), (ad 17, .inl (cJ, 8, .inr (.inl xnt))), (ad 18, .inl (cJ, 8, .inr (.inl xnl))), (ad 19, .inl (cJ, 8, .inr (.inl (vp_updL xnd (xpi v2.toNatClampNeg).toNatClampNeg ((xnd (xpi v2.toNatClampNeg).toNatClampNeg) + (xnl (xpo v2.toNatClampNeg).toNatClampNeg))))))] H := hP
          have hD : va_D A [(ad 3, .inr (3, [.ref (ad 7), .ref (ad 8), .ref (ad 9), .ref (ad 10), .ref (ad 11), .ref (ad 12), .int xpn])), (ad 4, .inr (2, [.ref (ad 17), .ref (ad 18), .ref (ad 19)])), (ad 7, .inl (cI, 24, .inl xpo)), (ad 11, .inl (cI, 24, .inl xpi)), (ad 17, .inl (cJ, 8, .inr (.inl xnt))), (ad 18, .inl (cJ, 8, .inr (.inl xnl))), (ad 19, .inl (cJ, 8, .inr (.inl (vp_updL xnd (xpi v2.toNatClampNeg).toNatClampNeg ((xnd (xpi v2.toNatClampNeg).toNatClampNeg) + (xnl (xpo v2.toNatClampNeg).toNatClampNeg))))))] := hD
          refine lv_iinc (v := (v2 + (1 : Int32))) (lv' := [(2, .int (v2 + (1 : Int32))), (3, .int (xpi v2.toNatClampNeg)), (0, .ref (ad 4)), (1, .ref (ad 3))]) hx hb zd_Ne_goDeeper_50 hl (k := 3) rfl rfl (by decide) rfl (fun ls hl => ?_)
          refine lv_goto (tgt := 10) hx hb zd_Ne_goDeeper_53 (by decide) ?_
          exact ih (v2 + (1 : Int32)) (vp_updL xnd (xpi v2.toNatClampNeg).toNatClampNeg ((xnd (xpi v2.toNatClampNeg).toNatClampNeg) + (xnl (xpo v2.toNatClampNeg).toNatClampNeg))) _ _ _ hf hP hD hS (lv_sub hl [2, 3, 0] rfl)
  have hl := lv_entry ([.ref (ad 4), .ref (ad 3)]) (n := 4) (Nat.le_of_ble_eq_true rfl)
  rw [lg_entry_eq]
  generalize (lg_sl ([.ref (ad 4), .ref (ad 3)]) ++ List.replicate (4 - (lg_sl ([.ref (ad 4), .ref (ad 3)])).length) Slot.unset).toArray = ls at hl ⊢
  have hl : lv_has ls 4 [(0, .ref (ad 4)), (1, .ref (ad 3))] := hl
  unfold zf_Ne_goDeeper at hf
  refine lv_aload_n hx hb zd_Ne_goDeeper_0 rfl (lv_at hl 0 rfl) ?_
  refine va_get (D := (dC, dI)) (ci := 2) (v := .ref (ad 19)) (C := zR_Ne) (T := zT_Ne) (N := 3) hx hb hts (fun w h => hsub w (zi_Ne w h)) hown hK hP 1 rfl rfl 2 (by decide) (hw _ zq_113) (fun _ h9 => h9) rfl zd_Ne_goDeeper_1 ?_
  refine lv_lconst (v := 0) hx hb zd_Ne_goDeeper_4 (by decide) ?_
  obtain ⟨y1, hg1, hf⟩ := mp_bd hf
  refine mp_Mv (wr := [(ad 3, .inr (3, [.ref (ad 7), .ref (ad 8), .ref (ad 9), .ref (ad 10), .ref (ad 11), .ref (ad 12), .int xpn])), (ad 4, .inr (2, [.ref (ad 17), .ref (ad 18), .ref (ad 19)])), (ad 7, .inl (cI, 24, .inl xpo)), (ad 11, .inl (cI, 24, .inl xpi)), (ad 17, .inl (cJ, 8, .inr (.inl xnt))), (ad 18, .inl (cJ, 8, .inr (.inl xnl)))]) (va_runS (As := [.ref (ad 19), .long (0 : Int64)]) (rest := []) ⟨hx, hb, hml, hown, hts⟩ (zc_Ja_fill l dC dI cI cJ cZ (ad 19) 8 _ xnd (0 : Int64) y1 hg1) (va_cwS 2 hts (mp_gS hsub zq_221 zq_222 zq_31 zq_223) rfl rfl rfl (by decide +kernel) ⟨Nat.le_of_ble_eq_true rfl, Nat.le_of_ble_eq_true rfl⟩) ⟨mp_blM, mp_preM hN hK (hP.sub [6] rfl) (hD.sub [6] (by decide) rfl)⟩ rfl rfl hl.1 rfl (lv_room (Nat.le_of_ble_eq_true rfl)) zd_Ne_goDeeper_5 ⟨Nat.zero_le _, Nat.zero_le _⟩) hP hD hS hA [6] [0, 1, 2, 3, 4, 5] rfl rfl (by decide) (by decide) (fun H locs hP hD hS => ?_)
  have hP : va_P (dC, dI) vwCl [(ad 3, .inr (3, [.ref (ad 7), .ref (ad 8), .ref (ad 9), .ref (ad 10), .ref (ad 11), .ref (ad 12), .int xpn])), (ad 4, .inr (2, [.ref (ad 17), .ref (ad 18), .ref (ad 19)])), (ad 7, .inl (cI, 24, .inl xpo)), (ad 11, .inl (cI, 24, .inl xpi)), (ad 17, .inl (cJ, 8, .inr (.inl xnt))), (ad 18, .inl (cJ, 8, .inr (.inl xnl))), (ad 19, .inl (cJ, 8, .inr (.inl y1)))] H := hP
  have hD : va_D A [(ad 3, .inr (3, [.ref (ad 7), .ref (ad 8), .ref (ad 9), .ref (ad 10), .ref (ad 11), .ref (ad 12), .int xpn])), (ad 4, .inr (2, [.ref (ad 17), .ref (ad 18), .ref (ad 19)])), (ad 7, .inl (cI, 24, .inl xpo)), (ad 11, .inl (cI, 24, .inl xpi)), (ad 17, .inl (cJ, 8, .inr (.inl xnt))), (ad 18, .inl (cJ, 8, .inr (.inl xnl))), (ad 19, .inl (cJ, 8, .inr (.inl y1)))] := hD
  refine lv_iconst (v := 0) hx hb zd_Ne_goDeeper_8 (by decide) ?_
  refine lv_istore_n (lv' := [(2, .int (0 : Int32)), (0, .ref (ad 4)), (1, .ref (ad 3))]) hx hb zd_Ne_goDeeper_9 rfl hl (by decide) rfl (fun ls hl => ?_)
  exact loop10 xnt xnl 2000 (0 : Int32) y1 _ _ _ hf hP hD hS (lv_sub hl [1, 2, 0] rfl)
set_option maxHeartbeats 4000000 in
set_option maxRecDepth 100000 in
theorem zc_Ne_countWithin (l : Launch) (dC : Nat → ClassId) (dI : Nat → Nat → Nat) (cI cJ cZ : ClassId) (ad : Nat → Nat) (sz : Nat) (xpn : Int32) (xpo : Nat → Int32) (xpi : Nat → Int32) (xnt : Nat → Int64) (xnl : Nat → Int64) (xnd : Nat → Int64) (u2 : Int32) (res : (Nat → Int64) × (Nat → Int64) × (Nat → Int64)) (hf : zf_Ne_countWithin u2 xpn xpo xpi xnt xnl xnd = some res) : Met l zy_Ne_countWithin zw_Ne_countWithin ({ frames := 2, cells := 0, slots := 0, locals := 47 } : Room) (mp_PM (dC, dI) vwCl (mp_tys cI cJ cZ) [(ad 3, .inr (3, [.ref (ad 7), .ref (ad 8), .ref (ad 9), .ref (ad 10), .ref (ad 11), .ref (ad 12), .int xpn])), (ad 4, .inr (2, [.ref (ad 17), .ref (ad 18), .ref (ad 19)])), (ad 7, .inl (cI, 24, .inl xpo)), (ad 11, .inl (cI, 24, .inl xpi)), (ad 17, .inl (cJ, 8, .inr (.inl xnt))), (ad 18, .inl (cJ, 8, .inr (.inl xnl))), (ad 19, .inl (cJ, 8, .inr (.inl xnd)))] sz [.ref (ad 4), .ref (ad 3), .int u2]) (va_Qv (fun (_ : Unit) => True) (mp_BM (dC, dI) vwCl [(ad 3, .inr (3, [.ref (ad 7), .ref (ad 8), .ref (ad 9), .ref (ad 10), .ref (ad 11), .ref (ad 12), .int xpn])), (ad 4, .inr (2, [.ref (ad 17), .ref (ad 18), .ref (ad 19)])), (ad 7, .inl (cI, 24, .inl xpo)), (ad 11, .inl (cI, 24, .inl xpi)), (ad 17, .inl (cJ, 8, .inr (.inl res.1))), (ad 18, .inl (cJ, 8, .inr (.inl res.2.1))), (ad 19, .inl (cJ, 8, .inr (.inl res.2.2)))] (va_A [(ad 3, .inr (3, [.ref (ad 7), .ref (ad 8), .ref (ad 9), .ref (ad 10), .ref (ad 11), .ref (ad 12), .int xpn])), (ad 4, .inr (2, [.ref (ad 17), .ref (ad 18), .ref (ad 19)])), (ad 7, .inl (cI, 24, .inl xpo)), (ad 11, .inl (cI, 24, .inl xpi)), (ad 17, .inl (cJ, 8, .inr (.inl xnt))), (ad 18, .inl (cJ, 8, .inr (.inl xnl))), (ad 19, .inl (cJ, 8, .inr (.inl xnd)))] sz)) (va_A [(ad 3, .inr (3, [.ref (ad 7), .ref (ad 8), .ref (ad 9), .ref (ad 10), .ref (ad 11), .ref (ad 12), .int xpn])), (ad 4, .inr (2, [.ref (ad 17), .ref (ad 18), .ref (ad 19)])), (ad 7, .inl (cI, 24, .inl xpo)), (ad 11, .inl (cI, 24, .inl xpi)), (ad 17, .inl (cJ, 8, .inr (.inl xnt))), (ad 18, .inl (cJ, 8, .inr (.inl xnl))), (ad 19, .inl (cJ, 8, .inr (.inl xnd)))] sz)) 0 0 ((va_A [(ad 3, .inr (3, [.ref (ad 7), .ref (ad 8), .ref (ad 9), .ref (ad 10), .ref (ad 11), .ref (ad 12), .int xpn])), (ad 4, .inr (2, [.ref (ad 17), .ref (ad 18), .ref (ad 19)])), (ad 7, .inl (cI, 24, .inl xpo)), (ad 11, .inl (cI, 24, .inl xpi)), (ad 17, .inl (cJ, 8, .inr (.inl xnt))), (ad 18, .inl (cJ, 8, .inr (.inl xnl))), (ad 19, .inl (cJ, 8, .inr (.inl xnd)))] sz)) := by
  refine Met.ofW (cc := zb_Ne_countWithin) (maxL := 4) (ret := none) (by decide) rfl ?_
  intro p e s m args below meth c s₁ B hml hv
  obtain ⟨rfl, hsz, hP, hK, hD0, hN⟩ := hv
  have hx := B.exec
  have hb := B.bytes
  have hr := B.returns
  have hts := atoms_spec (ws := zw_Ne_countWithin) B.pre
  have hsub : ∀ w ∈ mp_tbl, w ∈ zw_Ne_countWithin := fun w h => List.mem_cons_of_mem _ h
  have hw : ∀ w ∈ mp_tbl, w.before _ s = true := fun w h => hts w (hsub w h)
  have hown : s.vm.findClass zR_Ne = some m.cls := findClass_of_methodNamed B.named
  have hlocks := B.notSynchronized
  subst hsz
  have hD := hD0.self (sz := s.heap.size)
  generalize hAe : va_A [(ad 3, .inr (3, [.ref (ad 7), .ref (ad 8), .ref (ad 9), .ref (ad 10), .ref (ad 11), .ref (ad 12), .int xpn])), (ad 4, .inr (2, [.ref (ad 17), .ref (ad 18), .ref (ad 19)])), (ad 7, .inl (cI, 24, .inl xpo)), (ad 11, .inl (cI, 24, .inl xpi)), (ad 17, .inl (cJ, 8, .inr (.inl xnt))), (ad 18, .inl (cJ, 8, .inr (.inl xnl))), (ad 19, .inl (cJ, 8, .inr (.inl xnd)))] s.heap.size = A at hD ⊢
  have hA : ∀ q : Nat, s.heap.size ≤ q → A q := fun q h => by rw [← hAe]; exact Or.inr h
  have hS : va_S A s.heap s.heap [] := va_S.rf
  have hP : va_P (dC, dI) vwCl [(ad 3, .inr (3, [.ref (ad 7), .ref (ad 8), .ref (ad 9), .ref (ad 10), .ref (ad 11), .ref (ad 12), .int xpn])), (ad 4, .inr (2, [.ref (ad 17), .ref (ad 18), .ref (ad 19)])), (ad 7, .inl (cI, 24, .inl xpo)), (ad 11, .inl (cI, 24, .inl xpi)), (ad 17, .inl (cJ, 8, .inr (.inl xnt))), (ad 18, .inl (cJ, 8, .inr (.inl xnl))), (ad 19, .inl (cJ, 8, .inr (.inl xnd)))] s.heap := hP
  clear hAe hD0
  have loop32 : ∀ (v2 : Int32) (n : Nat) (v3 : Int32) (xnt : Nat → Int64) (xnl : Nat → Int64) (xnd : Nat → Int64) (H : Heap) (locs : List Loc) (ls : Array Slot), zf_Ne_countWithin_L32 v2 xpn xpo xpi n v3 xnt xnl xnd = some res → va_P (dC, dI) vwCl [(ad 3, .inr (3, [.ref (ad 7), .ref (ad 8), .ref (ad 9), .ref (ad 10), .ref (ad 11), .ref (ad 12), .int xpn])), (ad 4, .inr (2, [.ref (ad 17), .ref (ad 18), .ref (ad 19)])), (ad 7, .inl (cI, 24, .inl xpo)), (ad 11, .inl (cI, 24, .inl xpi)), (ad 17, .inl (cJ, 8, .inr (.inl xnt))), (ad 18, .inl (cJ, 8, .inr (.inl xnl))), (ad 19, .inl (cJ, 8, .inr (.inl xnd)))] H → va_D A [(ad 3, .inr (3, [.ref (ad 7), .ref (ad 8), .ref (ad 9), .ref (ad 10), .ref (ad 11), .ref (ad 12), .int xpn])), (ad 4, .inr (2, [.ref (ad 17), .ref (ad 18), .ref (ad 19)])), (ad 7, .inl (cI, 24, .inl xpo)), (ad 11, .inl (cI, 24, .inl xpi)), (ad 17, .inl (cJ, 8, .inr (.inl xnt))), (ad 18, .inl (cJ, 8, .inr (.inl xnl))), (ad 19, .inl (cJ, 8, .inr (.inl xnd)))] → va_S A s.heap H locs → lv_has ls 4 [(0, .ref (ad 4)), (1, .ref (ad 3)), (2, .int v2), (3, .int v3)] → W p l e (headSpec zw_Ne_countWithin ({ frames := 2, cells := 0, slots := 0, locals := 47 } : Room)).room s m ([.ref (ad 4), .ref (ad 3), .int u2] : List Value).toArray below meth c H locs 0 0 (MQ below (va_Qv (fun (_ : Unit) => True) (mp_BM (dC, dI) vwCl [(ad 3, .inr (3, [.ref (ad 7), .ref (ad 8), .ref (ad 9), .ref (ad 10), .ref (ad 11), .ref (ad 12), .int xpn])), (ad 4, .inr (2, [.ref (ad 17), .ref (ad 18), .ref (ad 19)])), (ad 7, .inl (cI, 24, .inl xpo)), (ad 11, .inl (cI, 24, .inl xpi)), (ad 17, .inl (cJ, 8, .inr (.inl res.1))), (ad 18, .inl (cJ, 8, .inr (.inl res.2.1))), (ad 19, .inl (cJ, 8, .inr (.inl res.2.2)))] A) A) ([.ref (ad 4), .ref (ad 3), .int u2] : List Value).toArray s 0 0 (A)) (F0 m 32 ls []) := by
    intro v2 n
    induction n with
    | zero => intro v3 xnt xnl xnd H locs ls hf; simp [zf_Ne_countWithin_L32] at hf
    | succ n ih =>
      intro v3 xnt xnl xnd H locs ls hf hP hD hS hl
      rw [zf_Ne_countWithin_L32] at hf
      refine lv_iload_n hx hb zd_Ne_countWithin_32 rfl (lv_at hl 3 rfl) ?_
      refine lv_bipush (v := 8) hx hb zd_Ne_countWithin_33 (by decide) ?_
      refine lv_icmp_ge (tgt := 49) hx hb zd_Ne_countWithin_35 (by decide) (fun c_5 => ?_) (fun c_5 => ?_)
      · have hf := mp_t c_5 hf
        have hf := Option.some.inj hf
        subst hf
        exact W.vret hx hb hr (fun t ht hW => ⟨⟨(), rfl, trivial, by rw [ht]; exact hP, hD⟩, hS.F ht⟩) hS.2.2 zd_Ne_countWithin_49
      · have hf := mp_f c_5 hf
        refine lv_aload_n hx hb zd_Ne_countWithin_38 rfl (lv_at hl 0 rfl) ?_
        refine lv_aload_n hx hb zd_Ne_countWithin_39 rfl (lv_at hl 1 rfl) ?_
        obtain ⟨y6, hg6, hf⟩ := mp_bd hf
        refine mp_Mv (wr := []) (va_runV (As := [.ref (ad 3)]) (rest := []) ⟨hx, hb, hml, hown, hts⟩ (zc_Ne_goDeeper l dC dI cI cJ cZ ad _ xpn xpo xpi xnt xnl xnd y6 hg6) (cwV 1 hts (mp_gV hsub zq_224 zq_226 zq_2 zq_28 zq_227) rfl rfl rfl (by decide +kernel) ⟨Nat.le_of_ble_eq_true rfl, Nat.le_of_ble_eq_true rfl⟩) ⟨mp_blM, va_recv hK hP (ci := 2) (q0 := 1) rfl rfl, mp_preM hN hK (hP.sub [0, 1, 2, 3, 4, 5, 6] rfl) (hD.sub [0, 1, 2, 3, 4, 5, 6] (by decide) rfl)⟩ rfl rfl hl.1 rfl (lv_room (Nat.le_of_ble_eq_true rfl)) zd_Ne_countWithin_40 ⟨Nat.zero_le _, Nat.zero_le _⟩) hP hD hS hA [0, 1, 2, 3, 4, 5, 6] [] rfl rfl (by decide) (by decide) (fun H locs hP hD hS => ?_)
        have hP : va_P (dC, dI) vwCl [(ad 3, .inr (3, [.ref (ad 7), .ref (ad 8), .ref (ad 9), .ref (ad 10), .ref (ad 11), .ref (ad 12), .int xpn])), (ad 4, .inr (2, [.ref (ad 17), .ref (ad 18), .ref (ad 19)])), (ad 7, .inl (cI, 24, .inl xpo)), (ad 11, .inl (cI, 24, .inl xpi)), (ad 17, .inl (cJ, 8, .inr (.inl y6.1))), (ad 18, .inl (cJ, 8, .inr (.inl y6.2.1))), (ad 19, .inl (cJ, 8, .inr (.inl y6.2.2)))] H := hP
        have hD : va_D A [(ad 3, .inr (3, [.ref (ad 7), .ref (ad 8), .ref (ad 9), .ref (ad 10), .ref (ad 11), .ref (ad 12), .int xpn])), (ad 4, .inr (2, [.ref (ad 17), .ref (ad 18), .ref (ad 19)])), (ad 7, .inl (cI, 24, .inl xpo)), (ad 11, .inl (cI, 24, .inl xpi)), (ad 17, .inl (cJ, 8, .inr (.inl y6.1))), (ad 18, .inl (cJ, 8, .inr (.inl y6.2.1))), (ad 19, .inl (cJ, 8, .inr (.inl y6.2.2)))] := hD
        refine lv_iinc (v := (v3 + (1 : Int32))) (lv' := [(3, .int (v3 + (1 : Int32))), (0, .ref (ad 4)), (1, .ref (ad 3)), (2, .int v2)]) hx hb zd_Ne_countWithin_43 hl (k := 3) rfl rfl (by decide) rfl (fun ls hl => ?_)
        refine lv_goto (tgt := 32) hx hb zd_Ne_countWithin_46 (by decide) ?_
        exact ih (v3 + (1 : Int32)) y6.1 y6.2.1 y6.2.2 _ _ _ hf hP hD hS (lv_sub hl [1, 2, 3, 0] rfl)
  have hl := lv_entry ([.ref (ad 4), .ref (ad 3), .int u2]) (n := 4) (Nat.le_of_ble_eq_true rfl)
  rw [lg_entry_eq]
  generalize (lg_sl ([.ref (ad 4), .ref (ad 3), .int u2]) ++ List.replicate (4 - (lg_sl ([.ref (ad 4), .ref (ad 3), .int u2])).length) Slot.unset).toArray = ls at hl ⊢
  have hl : lv_has ls 4 [(0, .ref (ad 4)), (1, .ref (ad 3)), (2, .int u2)] := hl
  unfold zf_Ne_countWithin at hf
  refine lv_aload_n hx hb zd_Ne_countWithin_0 rfl (lv_at hl 0 rfl) ?_
  refine va_get (D := (dC, dI)) (ci := 2) (v := .ref (ad 17)) (C := zR_Ne) (T := zT_Ne) (N := 3) hx hb hts (fun w h => hsub w (zi_Ne w h)) hown hK hP 1 rfl rfl 0 (by decide) (hw _ zq_111) (fun _ h9 => h9) rfl zd_Ne_countWithin_1 ?_
  refine lv_lconst (v := 0) hx hb zd_Ne_countWithin_4 (by decide) ?_
  obtain ⟨y1, hg1, hf⟩ := mp_bd hf
  refine mp_Mv (wr := [(ad 3, .inr (3, [.ref (ad 7), .ref (ad 8), .ref (ad 9), .ref (ad 10), .ref (ad 11), .ref (ad 12), .int xpn])), (ad 4, .inr (2, [.ref (ad 17), .ref (ad 18), .ref (ad 19)])), (ad 7, .inl (cI, 24, .inl xpo)), (ad 11, .inl (cI, 24, .inl xpi)), (ad 18, .inl (cJ, 8, .inr (.inl xnl))), (ad 19, .inl (cJ, 8, .inr (.inl xnd)))]) (va_runS (As := [.ref (ad 17), .long (0 : Int64)]) (rest := []) ⟨hx, hb, hml, hown, hts⟩ (zc_Ja_fill l dC dI cI cJ cZ (ad 17) 8 _ xnt (0 : Int64) y1 hg1) (va_cwS 2 hts (mp_gS hsub zq_221 zq_222 zq_31 zq_223) rfl rfl rfl (by decide +kernel) ⟨Nat.le_of_ble_eq_true rfl, Nat.le_of_ble_eq_true rfl⟩) ⟨mp_blM, mp_preM hN hK (hP.sub [4] rfl) (hD.sub [4] (by decide) rfl)⟩ rfl rfl hl.1 rfl (lv_room (Nat.le_of_ble_eq_true rfl)) zd_Ne_countWithin_5 ⟨Nat.zero_le _, Nat.zero_le _⟩) hP hD hS hA [4] [0, 1, 2, 3, 5, 6] rfl rfl (by decide) (by decide) (fun H locs hP hD hS => ?_)
  have hP : va_P (dC, dI) vwCl [(ad 3, .inr (3, [.ref (ad 7), .ref (ad 8), .ref (ad 9), .ref (ad 10), .ref (ad 11), .ref (ad 12), .int xpn])), (ad 4, .inr (2, [.ref (ad 17), .ref (ad 18), .ref (ad 19)])), (ad 7, .inl (cI, 24, .inl xpo)), (ad 11, .inl (cI, 24, .inl xpi)), (ad 18, .inl (cJ, 8, .inr (.inl xnl))), (ad 19, .inl (cJ, 8, .inr (.inl xnd))), (ad 17, .inl (cJ, 8, .inr (.inl y1)))] H := hP
  have hD : va_D A [(ad 3, .inr (3, [.ref (ad 7), .ref (ad 8), .ref (ad 9), .ref (ad 10), .ref (ad 11), .ref (ad 12), .int xpn])), (ad 4, .inr (2, [.ref (ad 17), .ref (ad 18), .ref (ad 19)])), (ad 7, .inl (cI, 24, .inl xpo)), (ad 11, .inl (cI, 24, .inl xpi)), (ad 18, .inl (cJ, 8, .inr (.inl xnl))), (ad 19, .inl (cJ, 8, .inr (.inl xnd))), (ad 17, .inl (cJ, 8, .inr (.inl y1)))] := hD
  refine lv_aload_n hx hb zd_Ne_countWithin_8 rfl (lv_at hl 0 rfl) ?_
  refine va_get (D := (dC, dI)) (ci := 2) (v := .ref (ad 18)) (C := zR_Ne) (T := zT_Ne) (N := 3) hx hb hts (fun w h => hsub w (zi_Ne w h)) hown hK hP 1 rfl rfl 1 (by decide) (hw _ zq_112) (fun _ h9 => h9) rfl zd_Ne_countWithin_9 ?_
  refine lv_lconst (v := 0) hx hb zd_Ne_countWithin_12 (by decide) ?_
  obtain ⟨y2, hg2, hf⟩ := mp_bd hf
  refine mp_Mv (wr := [(ad 3, .inr (3, [.ref (ad 7), .ref (ad 8), .ref (ad 9), .ref (ad 10), .ref (ad 11), .ref (ad 12), .int xpn])), (ad 4, .inr (2, [.ref (ad 17), .ref (ad 18), .ref (ad 19)])), (ad 7, .inl (cI, 24, .inl xpo)), (ad 11, .inl (cI, 24, .inl xpi)), (ad 19, .inl (cJ, 8, .inr (.inl xnd))), (ad 17, .inl (cJ, 8, .inr (.inl y1)))]) (va_runS (As := [.ref (ad 18), .long (0 : Int64)]) (rest := []) ⟨hx, hb, hml, hown, hts⟩ (zc_Ja_fill l dC dI cI cJ cZ (ad 18) 8 _ xnl (0 : Int64) y2 hg2) (va_cwS 2 hts (mp_gS hsub zq_221 zq_222 zq_31 zq_223) rfl rfl rfl (by decide +kernel) ⟨Nat.le_of_ble_eq_true rfl, Nat.le_of_ble_eq_true rfl⟩) ⟨mp_blM, mp_preM hN hK (hP.sub [4] rfl) (hD.sub [4] (by decide) rfl)⟩ rfl rfl hl.1 rfl (lv_room (Nat.le_of_ble_eq_true rfl)) zd_Ne_countWithin_13 ⟨Nat.zero_le _, Nat.zero_le _⟩) hP hD hS hA [4] [0, 1, 2, 3, 5, 6] rfl rfl (by decide) (by decide) (fun H locs hP hD hS => ?_)
  have hP : va_P (dC, dI) vwCl [(ad 3, .inr (3, [.ref (ad 7), .ref (ad 8), .ref (ad 9), .ref (ad 10), .ref (ad 11), .ref (ad 12), .int xpn])), (ad 4, .inr (2, [.ref (ad 17), .ref (ad 18), .ref (ad 19)])), (ad 7, .inl (cI, 24, .inl xpo)), (ad 11, .inl (cI, 24, .inl xpi)), (ad 19, .inl (cJ, 8, .inr (.inl xnd))), (ad 17, .inl (cJ, 8, .inr (.inl y1))), (ad 18, .inl (cJ, 8, .inr (.inl y2)))] H := hP
  have hD : va_D A [(ad 3, .inr (3, [.ref (ad 7), .ref (ad 8), .ref (ad 9), .ref (ad 10), .ref (ad 11), .ref (ad 12), .int xpn])), (ad 4, .inr (2, [.ref (ad 17), .ref (ad 18), .ref (ad 19)])), (ad 7, .inl (cI, 24, .inl xpo)), (ad 11, .inl (cI, 24, .inl xpi)), (ad 19, .inl (cJ, 8, .inr (.inl xnd))), (ad 17, .inl (cJ, 8, .inr (.inl y1))), (ad 18, .inl (cJ, 8, .inr (.inl y2)))] := hD
  refine lv_aload_n hx hb zd_Ne_countWithin_16 rfl (lv_at hl 0 rfl) ?_
  refine va_get (D := (dC, dI)) (ci := 2) (v := .ref (ad 17)) (C := zR_Ne) (T := zT_Ne) (N := 3) hx hb hts (fun w h => hsub w (zi_Ne w h)) hown hK hP 1 rfl rfl 0 (by decide) (hw _ zq_111) (fun _ h9 => h9) rfl zd_Ne_countWithin_17 ?_
  refine lv_iload_n hx hb zd_Ne_countWithin_20 rfl (lv_at hl 2 rfl) ?_
  refine lv_lconst (v := 1) hx hb zd_Ne_countWithin_21 (by decide) ?_
  obtain ⟨h_3, hf⟩ := mp_in hf
  refine va_last hx hb hK hP hD hS 5 1 rfl rfl (i := u2) (x := (1 : Int64)) h_3 zd_Ne_countWithin_22 (fun H locs hP hD hS => ?_)
  have hP : va_P (dC, dI) vwCl [(ad 3, .inr (3, [.ref (ad 7), .ref (ad 8), .ref (ad 9), .ref (ad 10), .ref (ad 11), .ref (ad 12), .int xpn])), (ad 4, .inr (2, [.ref (ad 17), .ref (ad 18), .ref (ad 19)])), (ad 7, .inl (cI, 24, .inl xpo)), (ad 11, .inl (cI, 24, .inl xpi)), (ad 19, .inl (cJ, 8, .inr (.inl xnd))), (ad 17, .inl (cJ, 8, .inr (.inl (vp_updL y1 u2.toNatClampNeg (1 : Int64))))), (ad 18, .inl (cJ, 8, .inr (.inl y2)))] H := hP
  have hD : va_D A [(ad 3, .inr (3, [.ref (ad 7), .ref (ad 8), .ref (ad 9), .ref (ad 10), .ref (ad 11), .ref (ad 12), .int xpn])), (ad 4, .inr (2, [.ref (ad 17), .ref (ad 18), .ref (ad 19)])), (ad 7, .inl (cI, 24, .inl xpo)), (ad 11, .inl (cI, 24, .inl xpi)), (ad 19, .inl (cJ, 8, .inr (.inl xnd))), (ad 17, .inl (cJ, 8, .inr (.inl (vp_updL y1 u2.toNatClampNeg (1 : Int64))))), (ad 18, .inl (cJ, 8, .inr (.inl y2)))] := hD
  refine lv_aload_n hx hb zd_Ne_countWithin_23 rfl (lv_at hl 0 rfl) ?_
  refine va_get (D := (dC, dI)) (ci := 2) (v := .ref (ad 18)) (C := zR_Ne) (T := zT_Ne) (N := 3) hx hb hts (fun w h => hsub w (zi_Ne w h)) hown hK hP 1 rfl rfl 1 (by decide) (hw _ zq_112) (fun _ h9 => h9) rfl zd_Ne_countWithin_24 ?_
  refine lv_iload_n hx hb zd_Ne_countWithin_27 rfl (lv_at hl 2 rfl) ?_
  refine lv_lconst (v := 1) hx hb zd_Ne_countWithin_28 (by decide) ?_
  obtain ⟨h_4, hf⟩ := mp_in hf
  refine va_last hx hb hK hP hD hS 6 1 rfl rfl (i := u2) (x := (1 : Int64)) h_4 zd_Ne_countWithin_29 (fun H locs hP hD hS => ?_)
  have hP : va_P (dC, dI) vwCl [(ad 3, .inr (3, [.ref (ad 7), .ref (ad 8), .ref (ad 9), .ref (ad 10), .ref (ad 11), .ref (ad 12), .int xpn])), (ad 4, .inr (2, [.ref (ad 17), .ref (ad 18), .ref (ad 19)])), (ad 7, .inl (cI, 24, .inl xpo)), (ad 11, .inl (cI, 24, .inl xpi)), (ad 19, .inl (cJ, 8, .inr (.inl xnd))), (ad 17, .inl (cJ, 8, .inr (.inl (vp_updL y1 u2.toNatClampNeg (1 : Int64))))), (ad 18, .inl (cJ, 8, .inr (.inl (vp_updL y2 u2.toNatClampNeg (1 : Int64)))))] H := hP
  have hD : va_D A [(ad 3, .inr (3, [.ref (ad 7), .ref (ad 8), .ref (ad 9), .ref (ad 10), .ref (ad 11), .ref (ad 12), .int xpn])), (ad 4, .inr (2, [.ref (ad 17), .ref (ad 18), .ref (ad 19)])), (ad 7, .inl (cI, 24, .inl xpo)), (ad 11, .inl (cI, 24, .inl xpi)), (ad 19, .inl (cJ, 8, .inr (.inl xnd))), (ad 17, .inl (cJ, 8, .inr (.inl (vp_updL y1 u2.toNatClampNeg (1 : Int64))))), (ad 18, .inl (cJ, 8, .inr (.inl (vp_updL y2 u2.toNatClampNeg (1 : Int64)))))] := hD
  refine lv_iconst (v := 1) hx hb zd_Ne_countWithin_30 (by decide) ?_
  refine lv_istore_n (lv' := [(3, .int (1 : Int32)), (0, .ref (ad 4)), (1, .ref (ad 3)), (2, .int u2)]) hx hb zd_Ne_countWithin_31 rfl hl (by decide) rfl (fun ls hl => ?_)
  exact loop32 u2 2000 (1 : Int32) (vp_updL y1 u2.toNatClampNeg (1 : Int64)) (vp_updL y2 u2.toNatClampNeg (1 : Int64)) xnd _ _ _ hf (hP.sub [0, 1, 2, 3, 5, 6, 4] rfl) (hD.sub [0, 1, 2, 3, 5, 6, 4] (by decide) rfl) hS (lv_sub hl [1, 2, 3, 0] rfl)
set_option maxHeartbeats 4000000 in
set_option maxRecDepth 100000 in
theorem zc_Ne_holds (l : Launch) (dC : Nat → ClassId) (dI : Nat → Nat → Nat) (cI cJ cZ : ClassId) (ad : Nat → Nat) (sz : Nat) (xpn : Int32) (xpo : Nat → Int32) (xpi : Nat → Int32) (xnt : Nat → Int64) (xnl : Nat → Int64) (xnd : Nat → Int64) (u2 : Int32) (u3 : Int32) (res : Int32 × (Nat → Int64) × (Nat → Int64) × (Nat → Int64)) (hf : zf_Ne_holds u2 u3 xpn xpo xpi xnt xnl xnd = some res) : Met l zy_Ne_holds zw_Ne_holds ({ frames := 3, cells := 0, slots := 0, locals := 70 } : Room) (mp_PM (dC, dI) vwCl (mp_tys cI cJ cZ) [(ad 3, .inr (3, [.ref (ad 7), .ref (ad 8), .ref (ad 9), .ref (ad 10), .ref (ad 11), .ref (ad 12), .int xpn])), (ad 4, .inr (2, [.ref (ad 17), .ref (ad 18), .ref (ad 19)])), (ad 7, .inl (cI, 24, .inl xpo)), (ad 11, .inl (cI, 24, .inl xpi)), (ad 17, .inl (cJ, 8, .inr (.inl xnt))), (ad 18, .inl (cJ, 8, .inr (.inl xnl))), (ad 19, .inl (cJ, 8, .inr (.inl xnd)))] sz [.ref (ad 4), .ref (ad 3), .int u2, .int u3]) (va_Qi (fun r (_ : Unit) => r = res.1 ∧ mp_b res.1) (mp_BM (dC, dI) vwCl [(ad 3, .inr (3, [.ref (ad 7), .ref (ad 8), .ref (ad 9), .ref (ad 10), .ref (ad 11), .ref (ad 12), .int xpn])), (ad 4, .inr (2, [.ref (ad 17), .ref (ad 18), .ref (ad 19)])), (ad 7, .inl (cI, 24, .inl xpo)), (ad 11, .inl (cI, 24, .inl xpi)), (ad 17, .inl (cJ, 8, .inr (.inl res.2.1))), (ad 18, .inl (cJ, 8, .inr (.inl res.2.2.1))), (ad 19, .inl (cJ, 8, .inr (.inl res.2.2.2)))] (va_A [(ad 3, .inr (3, [.ref (ad 7), .ref (ad 8), .ref (ad 9), .ref (ad 10), .ref (ad 11), .ref (ad 12), .int xpn])), (ad 4, .inr (2, [.ref (ad 17), .ref (ad 18), .ref (ad 19)])), (ad 7, .inl (cI, 24, .inl xpo)), (ad 11, .inl (cI, 24, .inl xpi)), (ad 17, .inl (cJ, 8, .inr (.inl xnt))), (ad 18, .inl (cJ, 8, .inr (.inl xnl))), (ad 19, .inl (cJ, 8, .inr (.inl xnd)))] sz)) (va_A [(ad 3, .inr (3, [.ref (ad 7), .ref (ad 8), .ref (ad 9), .ref (ad 10), .ref (ad 11), .ref (ad 12), .int xpn])), (ad 4, .inr (2, [.ref (ad 17), .ref (ad 18), .ref (ad 19)])), (ad 7, .inl (cI, 24, .inl xpo)), (ad 11, .inl (cI, 24, .inl xpi)), (ad 17, .inl (cJ, 8, .inr (.inl xnt))), (ad 18, .inl (cJ, 8, .inr (.inl xnl))), (ad 19, .inl (cJ, 8, .inr (.inl xnd)))] sz)) 0 0 ((va_A [(ad 3, .inr (3, [.ref (ad 7), .ref (ad 8), .ref (ad 9), .ref (ad 10), .ref (ad 11), .ref (ad 12), .int xpn])), (ad 4, .inr (2, [.ref (ad 17), .ref (ad 18), .ref (ad 19)])), (ad 7, .inl (cI, 24, .inl xpo)), (ad 11, .inl (cI, 24, .inl xpi)), (ad 17, .inl (cJ, 8, .inr (.inl xnt))), (ad 18, .inl (cJ, 8, .inr (.inl xnl))), (ad 19, .inl (cJ, 8, .inr (.inl xnd)))] sz)) := by
  refine Met.ofW (cc := zb_Ne_holds) (maxL := 4) (ret := (some .boolean)) (by decide) rfl ?_
  intro p e s m args below meth c s₁ B hml hv
  obtain ⟨rfl, hsz, hP, hK, hD0, hN⟩ := hv
  have hx := B.exec
  have hb := B.bytes
  have hr := B.returns
  have hts := atoms_spec (ws := zw_Ne_holds) B.pre
  have hsub : ∀ w ∈ mp_tbl, w ∈ zw_Ne_holds := fun w h => List.mem_cons_of_mem _ h
  have hw : ∀ w ∈ mp_tbl, w.before _ s = true := fun w h => hts w (hsub w h)
  have hown : s.vm.findClass zR_Ne = some m.cls := findClass_of_methodNamed B.named
  have hlocks := B.notSynchronized
  subst hsz
  have hD := hD0.self (sz := s.heap.size)
  generalize hAe : va_A [(ad 3, .inr (3, [.ref (ad 7), .ref (ad 8), .ref (ad 9), .ref (ad 10), .ref (ad 11), .ref (ad 12), .int xpn])), (ad 4, .inr (2, [.ref (ad 17), .ref (ad 18), .ref (ad 19)])), (ad 7, .inl (cI, 24, .inl xpo)), (ad 11, .inl (cI, 24, .inl xpi)), (ad 17, .inl (cJ, 8, .inr (.inl xnt))), (ad 18, .inl (cJ, 8, .inr (.inl xnl))), (ad 19, .inl (cJ, 8, .inr (.inl xnd)))] s.heap.size = A at hD ⊢
  have hA : ∀ q : Nat, s.heap.size ≤ q → A q := fun q h => by rw [← hAe]; exact Or.inr h
  have hS : va_S A s.heap s.heap [] := va_S.rf
  have hP : va_P (dC, dI) vwCl [(ad 3, .inr (3, [.ref (ad 7), .ref (ad 8), .ref (ad 9), .ref (ad 10), .ref (ad 11), .ref (ad 12), .int xpn])), (ad 4, .inr (2, [.ref (ad 17), .ref (ad 18), .ref (ad 19)])), (ad 7, .inl (cI, 24, .inl xpo)), (ad 11, .inl (cI, 24, .inl xpi)), (ad 17, .inl (cJ, 8, .inr (.inl xnt))), (ad 18, .inl (cJ, 8, .inr (.inl xnl))), (ad 19, .inl (cJ, 8, .inr (.inl xnd)))] s.heap := hP
  clear hAe hD0
  have hl := lv_entry ([.ref (ad 4), .ref (ad 3), .int u2, .int u3]) (n := 4) (Nat.le_of_ble_eq_true rfl)
  rw [lg_entry_eq]
  generalize (lg_sl ([.ref (ad 4), .ref (ad 3), .int u2, .int u3]) ++ List.replicate (4 - (lg_sl ([.ref (ad 4), .ref (ad 3), .int u2, .int u3])).length) Slot.unset).toArray = ls at hl ⊢
  have hl : lv_has ls 4 [(0, .ref (ad 4)), (1, .ref (ad 3)), (2, .int u2), (3, .int u3)] := hl
  unfold zf_Ne_holds at hf
  refine lv_aload_n hx hb zd_Ne_holds_0 rfl (lv_at hl 0 rfl) ?_
  refine lv_aload_n hx hb zd_Ne_holds_1 rfl (lv_at hl 1 rfl) ?_
  refine lv_iload_n hx hb zd_Ne_holds_2 rfl (lv_at hl 2 rfl) ?_
  obtain ⟨y1, hg1, hf⟩ := mp_bd hf
  refine mp_Mv (wr := []) (va_runV (As := [.ref (ad 3), .int u2]) (rest := []) ⟨hx, hb, hml, hown, hts⟩ (zc_Ne_countWithin l dC dI cI cJ cZ ad _ xpn xpo xpi xnt xnl xnd u2 y1 hg1) (cwV 2 hts (mp_gV hsub zq_217 zq_219 zq_1 zq_28 zq_220) rfl rfl rfl (by decide +kernel) ⟨Nat.le_of_ble_eq_true rfl, Nat.le_of_ble_eq_true rfl⟩) ⟨mp_blM, va_recv hK hP (ci := 2) (q0 := 1) rfl rfl, mp_preM hN hK (hP.sub [0, 1, 2, 3, 4, 5, 6] rfl) (hD.sub [0, 1, 2, 3, 4, 5, 6] (by decide) rfl)⟩ rfl rfl hl.1 rfl (lv_room (Nat.le_of_ble_eq_true rfl)) zd_Ne_holds_3 ⟨Nat.zero_le _, Nat.zero_le _⟩) hP hD hS hA [0, 1, 2, 3, 4, 5, 6] [] rfl rfl (by decide) (by decide) (fun H locs hP hD hS => ?_)
  have hP : va_P (dC, dI) vwCl [(ad 3, .inr (3, [.ref (ad 7), .ref (ad 8), .ref (ad 9), .ref (ad 10), .ref (ad 11), .ref (ad 12), .int xpn])), (ad 4, .inr (2, [.ref (ad 17), .ref (ad 18), .ref (ad 19)])), (ad 7, .inl (cI, 24, .inl xpo)), (ad 11, .inl (cI, 24, .inl xpi)), (ad 17, .inl (cJ, 8, .inr (.inl y1.1))), (ad 18, .inl (cJ, 8, .inr (.inl y1.2.1))), (ad 19, .inl (cJ, 8, .inr (.inl y1.2.2)))] H := hP
  have hD : va_D A [(ad 3, .inr (3, [.ref (ad 7), .ref (ad 8), .ref (ad 9), .ref (ad 10), .ref (ad 11), .ref (ad 12), .int xpn])), (ad 4, .inr (2, [.ref (ad 17), .ref (ad 18), .ref (ad 19)])), (ad 7, .inl (cI, 24, .inl xpo)), (ad 11, .inl (cI, 24, .inl xpi)), (ad 17, .inl (cJ, 8, .inr (.inl y1.1))), (ad 18, .inl (cJ, 8, .inr (.inl y1.2.1))), (ad 19, .inl (cJ, 8, .inr (.inl y1.2.2)))] := hD
  refine lv_aload_n hx hb zd_Ne_holds_6 rfl (lv_at hl 0 rfl) ?_
  refine va_get (D := (dC, dI)) (ci := 2) (v := .ref (ad 17)) (C := zR_Ne) (T := zT_Ne) (N := 3) hx hb hts (fun w h => hsub w (zi_Ne w h)) hown hK hP 1 rfl rfl 0 (by decide) (hw _ zq_111) (fun _ h9 => h9) rfl zd_Ne_holds_7 ?_
  refine lv_iload_n hx hb zd_Ne_holds_10 rfl (lv_at hl 3 rfl) ?_
  obtain ⟨h_2, hf⟩ := mp_in hf
  refine va_lald hx hb hK hP 4 1 rfl rfl (i := u3) h_2 zd_Ne_holds_11 ?_
  refine lv_lconst (v := 0) hx hb zd_Ne_holds_12 (by decide) ?_
  refine W.lcmp hx hb zd_Ne_holds_13 ?_
  refine lv_if_le (tgt := 21) hx hb zd_Ne_holds_14 (by decide) (fun c_3 => ?_) (fun c_3 => ?_)
  · have c_3 := (lg_cmp_le _ _).mp c_3
    have hf := mp_t c_3 hf
    refine lv_iconst (v := 0) hx hb zd_Ne_holds_21 (by decide) ?_
    have hf := Option.some.inj hf
    subst hf
    exact W.zret (v := (0 : Int32)) hx hb hr (mp_nz (Or.inl rfl)) (fun t ht hW => ⟨⟨(0 : Int32), (), rfl, ⟨rfl, (Or.inl rfl)⟩, by rw [ht]; exact hP, hD⟩, hS.F ht⟩) hS.2.2 zd_Ne_holds_22
  · have c_3 := fun h9 => c_3 ((lg_cmp_le _ _).mpr h9)
    have hf := mp_f c_3 hf
    refine lv_iconst (v := 1) hx hb zd_Ne_holds_17 (by decide) ?_
    refine lv_goto (tgt := 22) hx hb zd_Ne_holds_18 (by decide) ?_
    have hf := Option.some.inj hf
    subst hf
    exact W.zret (v := (1 : Int32)) hx hb hr (mp_nz (Or.inr rfl)) (fun t ht hW => ⟨⟨(1 : Int32), (), rfl, ⟨rfl, (Or.inr rfl)⟩, by rw [ht]; exact hP, hD⟩, hS.F ht⟩) hS.2.2 zd_Ne_holds_22
set_option maxHeartbeats 4000000 in
set_option maxRecDepth 100000 in
theorem zc_MP_into (l : Launch) (dC : Nat → ClassId) (dI : Nat → Nat → Nat) (cI cJ cZ : ClassId) (ad : Nat → Nat) (sz : Nat) (xgc : Int32) (xver : Nat → Int32) (xpn : Int32) (xpo : Nat → Int32) (xpi : Nat → Int32) (xnt : Nat → Int64) (xnl : Nat → Int64) (xnd : Nat → Int64) (u1 : Int32) (u2 : Int32) (res : Int32 × (Nat → Int32) × (Nat → Int32) × (Nat → Int64) × (Nat → Int64) × (Nat → Int64)) (hf : zf_MP_into u1 u2 xgc xver xpn xpo xpi xnt xnl xnd = some res) : Met l zy_MP_into zw_MP_into ({ frames := 4, cells := 0, slots := 0, locals := 93 } : Room) (mp_PM (dC, dI) vwCl (mp_tys cI cJ cZ) [(ad 0, .inr (4, [.ref (ad 1), .ref (ad 2), .ref (ad 3), .ref (ad 4), .ref (ad 5), .ref (ad 6), .int xgc])), (ad 1, .inl (cI, 8, .inl xver)), (ad 3, .inr (3, [.ref (ad 7), .ref (ad 8), .ref (ad 9), .ref (ad 10), .ref (ad 11), .ref (ad 12), .int xpn])), (ad 4, .inr (2, [.ref (ad 17), .ref (ad 18), .ref (ad 19)])), (ad 7, .inl (cI, 24, .inl xpo)), (ad 11, .inl (cI, 24, .inl xpi)), (ad 17, .inl (cJ, 8, .inr (.inl xnt))), (ad 18, .inl (cJ, 8, .inr (.inl xnl))), (ad 19, .inl (cJ, 8, .inr (.inl xnd)))] sz [.ref (ad 0), .int u1, .int u2]) (va_Qi (fun r (_ : Unit) => r = res.1 ∧ mp_b res.1) (mp_BM (dC, dI) vwCl [(ad 0, .inr (4, [.ref (ad 1), .ref (ad 2), .ref (ad 3), .ref (ad 4), .ref (ad 5), .ref (ad 6), .int xgc])), (ad 1, .inl (cI, 8, .inl res.2.1)), (ad 3, .inr (3, [.ref (ad 7), .ref (ad 8), .ref (ad 9), .ref (ad 10), .ref (ad 11), .ref (ad 12), .int xpn])), (ad 4, .inr (2, [.ref (ad 17), .ref (ad 18), .ref (ad 19)])), (ad 7, .inl (cI, 24, .inl xpo)), (ad 11, .inl (cI, 24, .inl res.2.2.1)), (ad 17, .inl (cJ, 8, .inr (.inl res.2.2.2.1))), (ad 18, .inl (cJ, 8, .inr (.inl res.2.2.2.2.1))), (ad 19, .inl (cJ, 8, .inr (.inl res.2.2.2.2.2)))] (va_A [(ad 0, .inr (4, [.ref (ad 1), .ref (ad 2), .ref (ad 3), .ref (ad 4), .ref (ad 5), .ref (ad 6), .int xgc])), (ad 1, .inl (cI, 8, .inl xver)), (ad 3, .inr (3, [.ref (ad 7), .ref (ad 8), .ref (ad 9), .ref (ad 10), .ref (ad 11), .ref (ad 12), .int xpn])), (ad 4, .inr (2, [.ref (ad 17), .ref (ad 18), .ref (ad 19)])), (ad 7, .inl (cI, 24, .inl xpo)), (ad 11, .inl (cI, 24, .inl xpi)), (ad 17, .inl (cJ, 8, .inr (.inl xnt))), (ad 18, .inl (cJ, 8, .inr (.inl xnl))), (ad 19, .inl (cJ, 8, .inr (.inl xnd)))] sz)) (va_A [(ad 0, .inr (4, [.ref (ad 1), .ref (ad 2), .ref (ad 3), .ref (ad 4), .ref (ad 5), .ref (ad 6), .int xgc])), (ad 1, .inl (cI, 8, .inl xver)), (ad 3, .inr (3, [.ref (ad 7), .ref (ad 8), .ref (ad 9), .ref (ad 10), .ref (ad 11), .ref (ad 12), .int xpn])), (ad 4, .inr (2, [.ref (ad 17), .ref (ad 18), .ref (ad 19)])), (ad 7, .inl (cI, 24, .inl xpo)), (ad 11, .inl (cI, 24, .inl xpi)), (ad 17, .inl (cJ, 8, .inr (.inl xnt))), (ad 18, .inl (cJ, 8, .inr (.inl xnl))), (ad 19, .inl (cJ, 8, .inr (.inl xnd)))] sz)) 0 0 ((va_A [(ad 0, .inr (4, [.ref (ad 1), .ref (ad 2), .ref (ad 3), .ref (ad 4), .ref (ad 5), .ref (ad 6), .int xgc])), (ad 1, .inl (cI, 8, .inl xver)), (ad 3, .inr (3, [.ref (ad 7), .ref (ad 8), .ref (ad 9), .ref (ad 10), .ref (ad 11), .ref (ad 12), .int xpn])), (ad 4, .inr (2, [.ref (ad 17), .ref (ad 18), .ref (ad 19)])), (ad 7, .inl (cI, 24, .inl xpo)), (ad 11, .inl (cI, 24, .inl xpi)), (ad 17, .inl (cJ, 8, .inr (.inl xnt))), (ad 18, .inl (cJ, 8, .inr (.inl xnl))), (ad 19, .inl (cJ, 8, .inr (.inl xnd)))] sz)) := by
  refine Met.ofW (cc := zb_MP_into) (maxL := 4) (ret := (some .boolean)) (by decide) rfl ?_
  intro p e s m args below meth c s₁ B hml hv
  obtain ⟨rfl, hsz, hP, hK, hD0, hN⟩ := hv
  have hx := B.exec
  have hb := B.bytes
  have hr := B.returns
  have hts := atoms_spec (ws := zw_MP_into) B.pre
  have hsub : ∀ w ∈ mp_tbl, w ∈ zw_MP_into := fun w h => List.mem_cons_of_mem _ h
  have hw : ∀ w ∈ mp_tbl, w.before _ s = true := fun w h => hts w (hsub w h)
  have hown : s.vm.findClass zR_MP = some m.cls := findClass_of_methodNamed B.named
  have hlocks := B.notSynchronized
  subst hsz
  have hD := hD0.self (sz := s.heap.size)
  generalize hAe : va_A [(ad 0, .inr (4, [.ref (ad 1), .ref (ad 2), .ref (ad 3), .ref (ad 4), .ref (ad 5), .ref (ad 6), .int xgc])), (ad 1, .inl (cI, 8, .inl xver)), (ad 3, .inr (3, [.ref (ad 7), .ref (ad 8), .ref (ad 9), .ref (ad 10), .ref (ad 11), .ref (ad 12), .int xpn])), (ad 4, .inr (2, [.ref (ad 17), .ref (ad 18), .ref (ad 19)])), (ad 7, .inl (cI, 24, .inl xpo)), (ad 11, .inl (cI, 24, .inl xpi)), (ad 17, .inl (cJ, 8, .inr (.inl xnt))), (ad 18, .inl (cJ, 8, .inr (.inl xnl))), (ad 19, .inl (cJ, 8, .inr (.inl xnd)))] s.heap.size = A at hD ⊢
  have hA : ∀ q : Nat, s.heap.size ≤ q → A q := fun q h => by rw [← hAe]; exact Or.inr h
  have hS : va_S A s.heap s.heap [] := va_S.rf
  have hP : va_P (dC, dI) vwCl [(ad 0, .inr (4, [.ref (ad 1), .ref (ad 2), .ref (ad 3), .ref (ad 4), .ref (ad 5), .ref (ad 6), .int xgc])), (ad 1, .inl (cI, 8, .inl xver)), (ad 3, .inr (3, [.ref (ad 7), .ref (ad 8), .ref (ad 9), .ref (ad 10), .ref (ad 11), .ref (ad 12), .int xpn])), (ad 4, .inr (2, [.ref (ad 17), .ref (ad 18), .ref (ad 19)])), (ad 7, .inl (cI, 24, .inl xpo)), (ad 11, .inl (cI, 24, .inl xpi)), (ad 17, .inl (cJ, 8, .inr (.inl xnt))), (ad 18, .inl (cJ, 8, .inr (.inl xnl))), (ad 19, .inl (cJ, 8, .inr (.inl xnd)))] s.heap := hP
  clear hAe hD0
  have hl := lv_entry ([.ref (ad 0), .int u1, .int u2]) (n := 4) (Nat.le_of_ble_eq_true rfl)
  rw [lg_entry_eq]
  generalize (lg_sl ([.ref (ad 0), .int u1, .int u2]) ++ List.replicate (4 - (lg_sl ([.ref (ad 0), .int u1, .int u2])).length) Slot.unset).toArray = ls at hl ⊢
  have hl : lv_has ls 4 [(0, .ref (ad 0)), (1, .int u1), (2, .int u2)] := hl
  unfold zf_MP_into at hf
  refine lv_aload_n hx hb zd_MP_into_0 rfl (lv_at hl 0 rfl) ?_
  refine va_get (D := (dC, dI)) (ci := 4) (v := .ref (ad 3)) (C := zR_MP) (T := zT_MP) (N := 7) hx hb hts (fun w h => hsub w (zi_MP w h)) hown hK hP 0 rfl rfl 2 (by decide) (hw _ zq_154) (fun _ h9 => h9) rfl zd_MP_into_1 ?_
  refine lv_iload_n hx hb zd_MP_into_4 rfl (lv_at hl 1 rfl) ?_
  obtain ⟨y1, hg1, hf⟩ := mp_bd hf
  refine mp_Rz (va_runV (As := [.int u1]) (rest := []) ⟨hx, hb, hml, hown, hts⟩ (zc_Pa_has l dC dI cI cJ cZ ad xpn u1 y1 hg1) (cwV 1 hts (mp_gV hsub zq_209 zq_210 zq_211 zq_26 zq_212) rfl rfl rfl (by decide +kernel) ⟨Nat.le_of_ble_eq_true rfl, Nat.le_of_ble_eq_true rfl⟩) ⟨mp_blR, va_recv hK hP (ci := 3) (q0 := 2) rfl rfl, mp_preR hN hK (hP.sub [2] rfl)⟩ rfl rfl hl.1 rfl (lv_room (Nat.le_of_ble_eq_true rfl)) zd_MP_into_5 ⟨Nat.zero_le _, Nat.zero_le _⟩) (fun hz1 => ?_)
  refine lv_if_eq (tgt := 32) hx hb zd_MP_into_8 (by decide) (fun c_2 => ?_) (fun c_2 => ?_)
  · have hf := mp_t c_2 hf
    refine lv_iconst (v := 0) hx hb zd_MP_into_32 (by decide) ?_
    have hf := Option.some.inj hf
    subst hf
    exact W.zret (v := (0 : Int32)) hx hb hr (mp_nz (Or.inl rfl)) (fun t ht hW => ⟨⟨(0 : Int32), (), rfl, ⟨rfl, (Or.inl rfl)⟩, by rw [ht]; exact hP, hD⟩, hS.F ht⟩) hS.2.2 zd_MP_into_33
  · have hf := mp_f c_2 hf
    refine lv_aload_n hx hb zd_MP_into_11 rfl (lv_at hl 0 rfl) ?_
    refine lv_iload_n hx hb zd_MP_into_12 rfl (lv_at hl 2 rfl) ?_
    obtain ⟨y3, hg3, hf⟩ := mp_bd hf
    refine mp_Rz (va_runV (As := [.int u2]) (rest := []) ⟨hx, hb, hml, hown, hts⟩ (zc_MP_isGood l dC dI cI cJ cZ ad xgc u2 y3 hg3) (cwV 1 hts (mp_gV hsub zq_186 zq_188 zq_0 zq_25 zq_189) rfl rfl rfl (by decide +kernel) ⟨Nat.le_of_ble_eq_true rfl, Nat.le_of_ble_eq_true rfl⟩) ⟨mp_blR, va_recv hK hP (ci := 4) (q0 := 0) rfl rfl, mp_preR hN hK (hP.sub [0] rfl)⟩ rfl rfl hl.1 rfl (lv_room (Nat.le_of_ble_eq_true rfl)) zd_MP_into_13 ⟨Nat.zero_le _, Nat.zero_le _⟩) (fun hz3 => ?_)
    refine lv_if_eq (tgt := 32) hx hb zd_MP_into_16 (by decide) (fun c_4 => ?_) (fun c_4 => ?_)
    · have hf := mp_t c_4 hf
      refine lv_iconst (v := 0) hx hb zd_MP_into_32 (by decide) ?_
      have hf := Option.some.inj hf
      subst hf
      exact W.zret (v := (0 : Int32)) hx hb hr (mp_nz (Or.inl rfl)) (fun t ht hW => ⟨⟨(0 : Int32), (), rfl, ⟨rfl, (Or.inl rfl)⟩, by rw [ht]; exact hP, hD⟩, hS.F ht⟩) hS.2.2 zd_MP_into_33
    · have hf := mp_f c_4 hf
      refine lv_aload_n hx hb zd_MP_into_19 rfl (lv_at hl 0 rfl) ?_
      refine va_get (D := (dC, dI)) (ci := 4) (v := .ref (ad 3)) (C := zR_MP) (T := zT_MP) (N := 7) hx hb hts (fun w h => hsub w (zi_MP w h)) hown hK hP 0 rfl rfl 2 (by decide) (hw _ zq_154) (fun _ h9 => h9) rfl zd_MP_into_20 ?_
      refine va_get (D := (dC, dI)) (ci := 3) (v := .ref (ad 11)) (C := zR_Pa) (T := zT_Pa) (N := 7) hx hb hts (fun w h => hsub w (zi_Pa w h)) hown hK hP 2 rfl rfl 4 (by decide) (hw _ zq_83) (fun _ h9 => h9) rfl zd_MP_into_23 ?_
      refine lv_iload_n hx hb zd_MP_into_26 rfl (lv_at hl 1 rfl) ?_
      obtain ⟨h_5, hf⟩ := mp_in hf
      refine va_iald hx hb hK hP 5 0 rfl rfl (i := u1) h_5 zd_MP_into_27 ?_
      refine lv_iconst (v := -1) hx hb zd_MP_into_28 (by decide) ?_
      refine lv_icmp_eq (tgt := 34) hx hb zd_MP_into_29 (by decide) (fun c_6 => ?_) (fun c_6 => ?_)
      · have hf := mp_t c_6 hf
        refine lv_aload_n hx hb zd_MP_into_34 rfl (lv_at hl 0 rfl) ?_
        refine va_get (D := (dC, dI)) (ci := 4) (v := .ref (ad 3)) (C := zR_MP) (T := zT_MP) (N := 7) hx hb hts (fun w h => hsub w (zi_MP w h)) hown hK hP 0 rfl rfl 2 (by decide) (hw _ zq_154) (fun _ h9 => h9) rfl zd_MP_into_35 ?_
        refine va_get (D := (dC, dI)) (ci := 3) (v := .ref (ad 7)) (C := zR_Pa) (T := zT_Pa) (N := 7) hx hb hts (fun w h => hsub w (zi_Pa w h)) hown hK hP 2 rfl rfl 0 (by decide) (hw _ zq_76) (fun _ h9 => h9) rfl zd_MP_into_38 ?_
        refine lv_iload_n hx hb zd_MP_into_41 rfl (lv_at hl 1 rfl) ?_
        obtain ⟨h_7, hf⟩ := mp_in hf
        refine va_iald hx hb hK hP 4 0 rfl rfl (i := u1) h_7 zd_MP_into_42 ?_
        refine lv_istore_n (lv' := [(3, .int (xpo u1.toNatClampNeg)), (0, .ref (ad 0)), (1, .int u1), (2, .int u2)]) hx hb zd_MP_into_43 rfl hl (by decide) rfl (fun ls hl => ?_)
        refine lv_aload_n hx hb zd_MP_into_44 rfl (lv_at hl 1 rfl) ?_
        refine va_get (D := (dC, dI)) (ci := 4) (v := .ref (ad 4)) (C := zR_MP) (T := zT_MP) (N := 7) hx hb hts (fun w h => hsub w (zi_MP w h)) hown hK hP 0 rfl rfl 3 (by decide) (hw _ zq_155) (fun _ h9 => h9) rfl zd_MP_into_45 ?_
        refine lv_aload_n hx hb zd_MP_into_48 rfl (lv_at hl 1 rfl) ?_
        refine va_get (D := (dC, dI)) (ci := 4) (v := .ref (ad 3)) (C := zR_MP) (T := zT_MP) (N := 7) hx hb hts (fun w h => hsub w (zi_MP w h)) hown hK hP 0 rfl rfl 2 (by decide) (hw _ zq_154) (fun _ h9 => h9) rfl zd_MP_into_49 ?_
        refine lv_iload_n hx hb zd_MP_into_52 rfl (lv_at hl 3 rfl) ?_
        refine lv_iload_n hx hb zd_MP_into_53 rfl (lv_at hl 0 rfl) ?_
        obtain ⟨y8, hg8, hf⟩ := mp_bd hf
        refine mp_Mz (wr := [(ad 0, .inr (4, [.ref (ad 1), .ref (ad 2), .ref (ad 3), .ref (ad 4), .ref (ad 5), .ref (ad 6), .int xgc])), (ad 1, .inl (cI, 8, .inl xver))]) (va_runV (As := [.ref (ad 3), .int u2, .int (xpo u1.toNatClampNeg)]) (rest := []) ⟨hx, hb, hml, hown, hts⟩ (zc_Ne_holds l dC dI cI cJ cZ ad _ xpn xpo xpi xnt xnl xnd u2 (xpo u1.toNatClampNeg) y8 hg8) (cwV 3 hts (mp_gV hsub zq_213 zq_214 zq_215 zq_28 zq_216) rfl rfl rfl (by decide +kernel) ⟨Nat.le_of_ble_eq_true rfl, Nat.le_of_ble_eq_true rfl⟩) ⟨mp_blM, va_recv hK hP (ci := 2) (q0 := 3) rfl rfl, mp_preM hN hK (hP.sub [2, 3, 4, 5, 6, 7, 8] rfl) (hD.sub [2, 3, 4, 5, 6, 7, 8] (by decide) rfl)⟩ rfl rfl hl.1 rfl (lv_room (Nat.le_of_ble_eq_true rfl)) zd_MP_into_54 ⟨Nat.zero_le _, Nat.zero_le _⟩) hP hD hS hA [2, 3, 4, 5, 6, 7, 8] [0, 1] rfl rfl (by decide) (by decide) (fun H locs hP hD hS hz8 => ?_)
        have hP : va_P (dC, dI) vwCl [(ad 0, .inr (4, [.ref (ad 1), .ref (ad 2), .ref (ad 3), .ref (ad 4), .ref (ad 5), .ref (ad 6), .int xgc])), (ad 1, .inl (cI, 8, .inl xver)), (ad 3, .inr (3, [.ref (ad 7), .ref (ad 8), .ref (ad 9), .ref (ad 10), .ref (ad 11), .ref (ad 12), .int xpn])), (ad 4, .inr (2, [.ref (ad 17), .ref (ad 18), .ref (ad 19)])), (ad 7, .inl (cI, 24, .inl xpo)), (ad 11, .inl (cI, 24, .inl xpi)), (ad 17, .inl (cJ, 8, .inr (.inl y8.2.1))), (ad 18, .inl (cJ, 8, .inr (.inl y8.2.2.1))), (ad 19, .inl (cJ, 8, .inr (.inl y8.2.2.2)))] H := hP
        have hD : va_D A [(ad 0, .inr (4, [.ref (ad 1), .ref (ad 2), .ref (ad 3), .ref (ad 4), .ref (ad 5), .ref (ad 6), .int xgc])), (ad 1, .inl (cI, 8, .inl xver)), (ad 3, .inr (3, [.ref (ad 7), .ref (ad 8), .ref (ad 9), .ref (ad 10), .ref (ad 11), .ref (ad 12), .int xpn])), (ad 4, .inr (2, [.ref (ad 17), .ref (ad 18), .ref (ad 19)])), (ad 7, .inl (cI, 24, .inl xpo)), (ad 11, .inl (cI, 24, .inl xpi)), (ad 17, .inl (cJ, 8, .inr (.inl y8.2.1))), (ad 18, .inl (cJ, 8, .inr (.inl y8.2.2.1))), (ad 19, .inl (cJ, 8, .inr (.inl y8.2.2.2)))] := hD
        refine lv_if_eq (tgt := 62) hx hb zd_MP_into_57 (by decide) (fun c_9 => ?_) (fun c_9 => ?_)
        · have hf := mp_t c_9 hf
          refine lv_aload_n hx hb zd_MP_into_62 rfl (lv_at hl 1 rfl) ?_
          refine va_get (D := (dC, dI)) (ci := 4) (v := .ref (ad 3)) (C := zR_MP) (T := zT_MP) (N := 7) hx hb hts (fun w h => hsub w (zi_MP w h)) hown hK hP 0 rfl rfl 2 (by decide) (hw _ zq_154) (fun _ h9 => h9) rfl zd_MP_into_63 ?_
          refine va_get (D := (dC, dI)) (ci := 3) (v := .ref (ad 11)) (C := zR_Pa) (T := zT_Pa) (N := 7) hx hb hts (fun w h => hsub w (zi_Pa w h)) hown hK hP 2 rfl rfl 4 (by decide) (hw _ zq_83) (fun _ h9 => h9) rfl zd_MP_into_66 ?_
          refine lv_iload_n hx hb zd_MP_into_69 rfl (lv_at hl 2 rfl) ?_
          refine lv_iload_n hx hb zd_MP_into_70 rfl (lv_at hl 3 rfl) ?_
          obtain ⟨h_10, hf⟩ := mp_in hf
          refine va_iast hx hb hK hP hD hS 5 0 rfl rfl (i := u1) (x := u2) h_10 zd_MP_into_71 (fun H locs hP hD hS => ?_)
          have hP : va_P (dC, dI) vwCl [(ad 0, .inr (4, [.ref (ad 1), .ref (ad 2), .ref (ad 3), .ref (ad 4), .ref (ad 5), .ref (ad 6), .int xgc])), (ad 1, .inl (cI, 8, .inl xver)), (ad 3, .inr (3, [.ref (ad 7), .ref (ad 8), .ref (ad 9), .ref (ad 10), .ref (ad 11), .ref (ad 12), .int xpn])), (ad 4, .inr (2, [.ref (ad 17), .ref (ad 18), .ref (ad 19)])), (ad 7, .inl (cI, 24, .inl xpo)), (ad 11, .inl (cI, 24, .inl (upd xpi u1.toNatClampNeg u2))), (ad 17, .inl (cJ, 8, .inr (.inl y8.2.1))), (ad 18, .inl (cJ, 8, .inr (.inl y8.2.2.1))), (ad 19, .inl (cJ, 8, .inr (.inl y8.2.2.2)))] H := hP
          have hD : va_D A [(ad 0, .inr (4, [.ref (ad 1), .ref (ad 2), .ref (ad 3), .ref (ad 4), .ref (ad 5), .ref (ad 6), .int xgc])), (ad 1, .inl (cI, 8, .inl xver)), (ad 3, .inr (3, [.ref (ad 7), .ref (ad 8), .ref (ad 9), .ref (ad 10), .ref (ad 11), .ref (ad 12), .int xpn])), (ad 4, .inr (2, [.ref (ad 17), .ref (ad 18), .ref (ad 19)])), (ad 7, .inl (cI, 24, .inl xpo)), (ad 11, .inl (cI, 24, .inl (upd xpi u1.toNatClampNeg u2))), (ad 17, .inl (cJ, 8, .inr (.inl y8.2.1))), (ad 18, .inl (cJ, 8, .inr (.inl y8.2.2.1))), (ad 19, .inl (cJ, 8, .inr (.inl y8.2.2.2)))] := hD
          refine lv_aload_n hx hb zd_MP_into_72 rfl (lv_at hl 1 rfl) ?_
          refine va_get (D := (dC, dI)) (ci := 4) (v := .ref (ad 1)) (C := zR_MP) (T := zT_MP) (N := 7) hx hb hts (fun w h => hsub w (zi_MP w h)) hown hK hP 0 rfl rfl 0 (by decide) (hw _ zq_152) (fun _ h9 => h9) rfl zd_MP_into_73 ?_
          refine lv_iload_n hx hb zd_MP_into_76 rfl (lv_at hl 0 rfl) ?_
          refine lv_dup2_11 hx hb zd_MP_into_77 rfl rfl ?_
          obtain ⟨h_11, hf⟩ := mp_in hf
          refine va_iald hx hb hK hP 1 0 rfl rfl (i := (xpo u1.toNatClampNeg)) h_11 zd_MP_into_78 ?_
          refine lv_iconst (v := 1) hx hb zd_MP_into_79 (by decide) ?_
          refine lv_iadd hx hb zd_MP_into_80 ?_
          obtain ⟨h_12, hf⟩ := mp_in hf
          refine va_iast hx hb hK hP hD hS 1 0 rfl rfl (i := (xpo u1.toNatClampNeg)) (x := ((xver (xpo u1.toNatClampNeg).toNatClampNeg) + (1 : Int32))) h_12 zd_MP_into_81 (fun H locs hP hD hS => ?_)
          have hP : va_P (dC, dI) vwCl [(ad 0, .inr (4, [.ref (ad 1), .ref (ad 2), .ref (ad 3), .ref (ad 4), .ref (ad 5), .ref (ad 6), .int xgc])), (ad 1, .inl (cI, 8, .inl (upd xver (xpo u1.toNatClampNeg).toNatClampNeg ((xver (xpo u1.toNatClampNeg).toNatClampNeg) + (1 : Int32))))), (ad 3, .inr (3, [.ref (ad 7), .ref (ad 8), .ref (ad 9), .ref (ad 10), .ref (ad 11), .ref (ad 12), .int xpn])), (ad 4, .inr (2, [.ref (ad 17), .ref (ad 18), .ref (ad 19)])), (ad 7, .inl (cI, 24, .inl xpo)), (ad 11, .inl (cI, 24, .inl (upd xpi u1.toNatClampNeg u2))), (ad 17, .inl (cJ, 8, .inr (.inl y8.2.1))), (ad 18, .inl (cJ, 8, .inr (.inl y8.2.2.1))), (ad 19, .inl (cJ, 8, .inr (.inl y8.2.2.2)))] H := hP
          have hD : va_D A [(ad 0, .inr (4, [.ref (ad 1), .ref (ad 2), .ref (ad 3), .ref (ad 4), .ref (ad 5), .ref (ad 6), .int xgc])), (ad 1, .inl (cI, 8, .inl (upd xver (xpo u1.toNatClampNeg).toNatClampNeg ((xver (xpo u1.toNatClampNeg).toNatClampNeg) + (1 : Int32))))), (ad 3, .inr (3, [.ref (ad 7), .ref (ad 8), .ref (ad 9), .ref (ad 10), .ref (ad 11), .ref (ad 12), .int xpn])), (ad 4, .inr (2, [.ref (ad 17), .ref (ad 18), .ref (ad 19)])), (ad 7, .inl (cI, 24, .inl xpo)), (ad 11, .inl (cI, 24, .inl (upd xpi u1.toNatClampNeg u2))), (ad 17, .inl (cJ, 8, .inr (.inl y8.2.1))), (ad 18, .inl (cJ, 8, .inr (.inl y8.2.2.1))), (ad 19, .inl (cJ, 8, .inr (.inl y8.2.2.2)))] := hD
          refine lv_iconst (v := 1) hx hb zd_MP_into_82 (by decide) ?_
          have hf := Option.some.inj hf
          subst hf
          exact W.zret (v := (1 : Int32)) hx hb hr (mp_nz (Or.inr rfl)) (fun t ht hW => ⟨⟨(1 : Int32), (), rfl, ⟨rfl, (Or.inr rfl)⟩, by rw [ht]; exact hP, hD⟩, hS.F ht⟩) hS.2.2 zd_MP_into_83
        · have hf := mp_f c_9 hf
          refine lv_iconst (v := 0) hx hb zd_MP_into_60 (by decide) ?_
          have hf := Option.some.inj hf
          subst hf
          exact W.zret (v := (0 : Int32)) hx hb hr (mp_nz (Or.inl rfl)) (fun t ht hW => ⟨⟨(0 : Int32), (), rfl, ⟨rfl, (Or.inl rfl)⟩, by rw [ht]; exact hP, hD⟩, hS.F ht⟩) hS.2.2 zd_MP_into_61
      · have hf := mp_f c_6 hf
        refine lv_iconst (v := 0) hx hb zd_MP_into_32 (by decide) ?_
        have hf := Option.some.inj hf
        subst hf
        exact W.zret (v := (0 : Int32)) hx hb hr (mp_nz (Or.inl rfl)) (fun t ht hW => ⟨⟨(0 : Int32), (), rfl, ⟨rfl, (Or.inl rfl)⟩, by rw [ht]; exact hP, hD⟩, hS.F ht⟩) hS.2.2 zd_MP_into_33
set_option maxHeartbeats 4000000 in
set_option maxRecDepth 100000 in
theorem zc_MP_life (l : Launch) (dC : Nat → ClassId) (dI : Nat → Nat → Nat) (cI cJ cZ : ClassId) (ad : Nat → Nat) (sz : Nat) (xgc : Int32) (xver : Nat → Int32) (xpn : Int32) (xpo : Nat → Int32) (xpl : Nat → Int32) (u1 : Int32) (u2 : Int32) (res : Int32 × (Nat → Int32) × (Nat → Int32)) (hf : zf_MP_life u1 u2 xver xpn xpo xpl = some res) : Met l zy_MP_life zw_MP_life ({ frames := 1, cells := 0, slots := 0, locals := 21 } : Room) (mp_PM (dC, dI) vwCl (mp_tys cI cJ cZ) [(ad 0, .inr (4, [.ref (ad 1), .ref (ad 2), .ref (ad 3), .ref (ad 4), .ref (ad 5), .ref (ad 6), .int xgc])), (ad 1, .inl (cI, 8, .inl xver)), (ad 3, .inr (3, [.ref (ad 7), .ref (ad 8), .ref (ad 9), .ref (ad 10), .ref (ad 11), .ref (ad 12), .int xpn])), (ad 7, .inl (cI, 24, .inl xpo)), (ad 10, .inl (cI, 24, .inl xpl))] sz [.ref (ad 0), .int u1, .int u2]) (va_Qi (fun r (_ : Unit) => r = res.1 ∧ mp_b res.1) (mp_BM (dC, dI) vwCl [(ad 0, .inr (4, [.ref (ad 1), .ref (ad 2), .ref (ad 3), .ref (ad 4), .ref (ad 5), .ref (ad 6), .int xgc])), (ad 1, .inl (cI, 8, .inl res.2.1)), (ad 3, .inr (3, [.ref (ad 7), .ref (ad 8), .ref (ad 9), .ref (ad 10), .ref (ad 11), .ref (ad 12), .int xpn])), (ad 7, .inl (cI, 24, .inl xpo)), (ad 10, .inl (cI, 24, .inl res.2.2))] (va_A [(ad 0, .inr (4, [.ref (ad 1), .ref (ad 2), .ref (ad 3), .ref (ad 4), .ref (ad 5), .ref (ad 6), .int xgc])), (ad 1, .inl (cI, 8, .inl xver)), (ad 3, .inr (3, [.ref (ad 7), .ref (ad 8), .ref (ad 9), .ref (ad 10), .ref (ad 11), .ref (ad 12), .int xpn])), (ad 7, .inl (cI, 24, .inl xpo)), (ad 10, .inl (cI, 24, .inl xpl))] sz)) (va_A [(ad 0, .inr (4, [.ref (ad 1), .ref (ad 2), .ref (ad 3), .ref (ad 4), .ref (ad 5), .ref (ad 6), .int xgc])), (ad 1, .inl (cI, 8, .inl xver)), (ad 3, .inr (3, [.ref (ad 7), .ref (ad 8), .ref (ad 9), .ref (ad 10), .ref (ad 11), .ref (ad 12), .int xpn])), (ad 7, .inl (cI, 24, .inl xpo)), (ad 10, .inl (cI, 24, .inl xpl))] sz)) 0 0 ((va_A [(ad 0, .inr (4, [.ref (ad 1), .ref (ad 2), .ref (ad 3), .ref (ad 4), .ref (ad 5), .ref (ad 6), .int xgc])), (ad 1, .inl (cI, 8, .inl xver)), (ad 3, .inr (3, [.ref (ad 7), .ref (ad 8), .ref (ad 9), .ref (ad 10), .ref (ad 11), .ref (ad 12), .int xpn])), (ad 7, .inl (cI, 24, .inl xpo)), (ad 10, .inl (cI, 24, .inl xpl))] sz)) := by
  refine Met.ofW (cc := zb_MP_life) (maxL := 3) (ret := (some .boolean)) (by decide) rfl ?_
  intro p e s m args below meth c s₁ B hml hv
  obtain ⟨rfl, hsz, hP, hK, hD0, hN⟩ := hv
  have hx := B.exec
  have hb := B.bytes
  have hr := B.returns
  have hts := atoms_spec (ws := zw_MP_life) B.pre
  have hsub : ∀ w ∈ mp_tbl, w ∈ zw_MP_life := fun w h => List.mem_cons_of_mem _ h
  have hw : ∀ w ∈ mp_tbl, w.before _ s = true := fun w h => hts w (hsub w h)
  have hown : s.vm.findClass zR_MP = some m.cls := findClass_of_methodNamed B.named
  have hlocks := B.notSynchronized
  subst hsz
  have hD := hD0.self (sz := s.heap.size)
  generalize hAe : va_A [(ad 0, .inr (4, [.ref (ad 1), .ref (ad 2), .ref (ad 3), .ref (ad 4), .ref (ad 5), .ref (ad 6), .int xgc])), (ad 1, .inl (cI, 8, .inl xver)), (ad 3, .inr (3, [.ref (ad 7), .ref (ad 8), .ref (ad 9), .ref (ad 10), .ref (ad 11), .ref (ad 12), .int xpn])), (ad 7, .inl (cI, 24, .inl xpo)), (ad 10, .inl (cI, 24, .inl xpl))] s.heap.size = A at hD ⊢
  have hA : ∀ q : Nat, s.heap.size ≤ q → A q := fun q h => by rw [← hAe]; exact Or.inr h
  have hS : va_S A s.heap s.heap [] := va_S.rf
  have hP : va_P (dC, dI) vwCl [(ad 0, .inr (4, [.ref (ad 1), .ref (ad 2), .ref (ad 3), .ref (ad 4), .ref (ad 5), .ref (ad 6), .int xgc])), (ad 1, .inl (cI, 8, .inl xver)), (ad 3, .inr (3, [.ref (ad 7), .ref (ad 8), .ref (ad 9), .ref (ad 10), .ref (ad 11), .ref (ad 12), .int xpn])), (ad 7, .inl (cI, 24, .inl xpo)), (ad 10, .inl (cI, 24, .inl xpl))] s.heap := hP
  clear hAe hD0
  have hl := lv_entry ([.ref (ad 0), .int u1, .int u2]) (n := 3) (Nat.le_of_ble_eq_true rfl)
  rw [lg_entry_eq]
  generalize (lg_sl ([.ref (ad 0), .int u1, .int u2]) ++ List.replicate (3 - (lg_sl ([.ref (ad 0), .int u1, .int u2])).length) Slot.unset).toArray = ls at hl ⊢
  have hl : lv_has ls 3 [(0, .ref (ad 0)), (1, .int u1), (2, .int u2)] := hl
  unfold zf_MP_life at hf
  refine lv_aload_n hx hb zd_MP_life_0 rfl (lv_at hl 0 rfl) ?_
  refine va_get (D := (dC, dI)) (ci := 4) (v := .ref (ad 3)) (C := zR_MP) (T := zT_MP) (N := 7) hx hb hts (fun w h => hsub w (zi_MP w h)) hown hK hP 0 rfl rfl 2 (by decide) (hw _ zq_154) (fun _ h9 => h9) rfl zd_MP_life_1 ?_
  refine lv_iload_n hx hb zd_MP_life_4 rfl (lv_at hl 1 rfl) ?_
  obtain ⟨y1, hg1, hf⟩ := mp_bd hf
  refine mp_Rz (va_runV (As := [.int u1]) (rest := []) ⟨hx, hb, hml, hown, hts⟩ (zc_Pa_has l dC dI cI cJ cZ ad xpn u1 y1 hg1) (cwV 1 hts (mp_gV hsub zq_209 zq_210 zq_211 zq_26 zq_212) rfl rfl rfl (by decide +kernel) ⟨Nat.le_of_ble_eq_true rfl, Nat.le_of_ble_eq_true rfl⟩) ⟨mp_blR, va_recv hK hP (ci := 3) (q0 := 2) rfl rfl, mp_preR hN hK (hP.sub [2] rfl)⟩ rfl rfl hl.1 rfl (lv_room (Nat.le_of_ble_eq_true rfl)) zd_MP_life_5 ⟨Nat.zero_le _, Nat.zero_le _⟩) (fun hz1 => ?_)
  refine lv_if_eq (tgt := 18) hx hb zd_MP_life_8 (by decide) (fun c_2 => ?_) (fun c_2 => ?_)
  · have hf := mp_t c_2 hf
    refine lv_iconst (v := 0) hx hb zd_MP_life_18 (by decide) ?_
    have hf := Option.some.inj hf
    subst hf
    exact W.zret (v := (0 : Int32)) hx hb hr (mp_nz (Or.inl rfl)) (fun t ht hW => ⟨⟨(0 : Int32), (), rfl, ⟨rfl, (Or.inl rfl)⟩, by rw [ht]; exact hP, hD⟩, hS.F ht⟩) hS.2.2 zd_MP_life_19
  · have hf := mp_f c_2 hf
    refine lv_iload_n hx hb zd_MP_life_11 rfl (lv_at hl 2 rfl) ?_
    obtain ⟨y3, hg3, hf⟩ := mp_bd hf
    refine mp_Rz (va_runS (As := [.int u2]) (rest := []) ⟨hx, hb, hml, hown, hts⟩ (zc_MP_isLife l dC dI cI cJ cZ ad u2 y3 hg3) (va_cwS 1 hts (mp_gS hsub zq_197 zq_198 zq_25 zq_199) rfl rfl rfl (by decide +kernel) ⟨Nat.le_of_ble_eq_true rfl, Nat.le_of_ble_eq_true rfl⟩) ⟨mp_blR, mp_preR hN hK (hP.sub [] rfl)⟩ rfl rfl hl.1 rfl (lv_room (Nat.le_of_ble_eq_true rfl)) zd_MP_life_12 ⟨Nat.zero_le _, Nat.zero_le _⟩) (fun hz3 => ?_)
    refine lv_if_ne (tgt := 20) hx hb zd_MP_life_15 (by decide) (fun c_4 => ?_) (fun c_4 => ?_)
    · have hf := mp_f c_4 hf
      refine lv_aload_n hx hb zd_MP_life_20 rfl (lv_at hl 0 rfl) ?_
      refine va_get (D := (dC, dI)) (ci := 4) (v := .ref (ad 3)) (C := zR_MP) (T := zT_MP) (N := 7) hx hb hts (fun w h => hsub w (zi_MP w h)) hown hK hP 0 rfl rfl 2 (by decide) (hw _ zq_154) (fun _ h9 => h9) rfl zd_MP_life_21 ?_
      refine va_get (D := (dC, dI)) (ci := 3) (v := .ref (ad 10)) (C := zR_Pa) (T := zT_Pa) (N := 7) hx hb hts (fun w h => hsub w (zi_Pa w h)) hown hK hP 2 rfl rfl 3 (by decide) (hw _ zq_81) (fun _ h9 => h9) rfl zd_MP_life_24 ?_
      refine lv_iload_n hx hb zd_MP_life_27 rfl (lv_at hl 1 rfl) ?_
      refine lv_iload_n hx hb zd_MP_life_28 rfl (lv_at hl 2 rfl) ?_
      obtain ⟨h_5, hf⟩ := mp_in hf
      refine va_iast hx hb hK hP hD hS 4 0 rfl rfl (i := u1) (x := u2) h_5 zd_MP_life_29 (fun H locs hP hD hS => ?_)
      have hP : va_P (dC, dI) vwCl [(ad 0, .inr (4, [.ref (ad 1), .ref (ad 2), .ref (ad 3), .ref (ad 4), .ref (ad 5), .ref (ad 6), .int xgc])), (ad 1, .inl (cI, 8, .inl xver)), (ad 3, .inr (3, [.ref (ad 7), .ref (ad 8), .ref (ad 9), .ref (ad 10), .ref (ad 11), .ref (ad 12), .int xpn])), (ad 7, .inl (cI, 24, .inl xpo)), (ad 10, .inl (cI, 24, .inl (upd xpl u1.toNatClampNeg u2)))] H := hP
      have hD : va_D A [(ad 0, .inr (4, [.ref (ad 1), .ref (ad 2), .ref (ad 3), .ref (ad 4), .ref (ad 5), .ref (ad 6), .int xgc])), (ad 1, .inl (cI, 8, .inl xver)), (ad 3, .inr (3, [.ref (ad 7), .ref (ad 8), .ref (ad 9), .ref (ad 10), .ref (ad 11), .ref (ad 12), .int xpn])), (ad 7, .inl (cI, 24, .inl xpo)), (ad 10, .inl (cI, 24, .inl (upd xpl u1.toNatClampNeg u2)))] := hD
      refine lv_aload_n hx hb zd_MP_life_30 rfl (lv_at hl 0 rfl) ?_
      refine va_get (D := (dC, dI)) (ci := 4) (v := .ref (ad 1)) (C := zR_MP) (T := zT_MP) (N := 7) hx hb hts (fun w h => hsub w (zi_MP w h)) hown hK hP 0 rfl rfl 0 (by decide) (hw _ zq_152) (fun _ h9 => h9) rfl zd_MP_life_31 ?_
      refine lv_aload_n hx hb zd_MP_life_34 rfl (lv_at hl 0 rfl) ?_
      refine va_get (D := (dC, dI)) (ci := 4) (v := .ref (ad 3)) (C := zR_MP) (T := zT_MP) (N := 7) hx hb hts (fun w h => hsub w (zi_MP w h)) hown hK hP 0 rfl rfl 2 (by decide) (hw _ zq_154) (fun _ h9 => h9) rfl zd_MP_life_35 ?_
      refine va_get (D := (dC, dI)) (ci := 3) (v := .ref (ad 7)) (C := zR_Pa) (T := zT_Pa) (N := 7) hx hb hts (fun w h => hsub w (zi_Pa w h)) hown hK hP 2 rfl rfl 0 (by decide) (hw _ zq_76) (fun _ h9 => h9) rfl zd_MP_life_38 ?_
      refine lv_iload_n hx hb zd_MP_life_41 rfl (lv_at hl 1 rfl) ?_
      obtain ⟨h_6, hf⟩ := mp_in hf
      refine va_iald hx hb hK hP 3 0 rfl rfl (i := u1) h_6 zd_MP_life_42 ?_
      refine lv_dup2_11 hx hb zd_MP_life_43 rfl rfl ?_
      obtain ⟨h_7, hf⟩ := mp_in hf
      refine va_iald hx hb hK hP 1 0 rfl rfl (i := (xpo u1.toNatClampNeg)) h_7 zd_MP_life_44 ?_
      refine lv_iconst (v := 1) hx hb zd_MP_life_45 (by decide) ?_
      refine lv_iadd hx hb zd_MP_life_46 ?_
      obtain ⟨h_8, hf⟩ := mp_in hf
      refine va_iast hx hb hK hP hD hS 1 0 rfl rfl (i := (xpo u1.toNatClampNeg)) (x := ((xver (xpo u1.toNatClampNeg).toNatClampNeg) + (1 : Int32))) h_8 zd_MP_life_47 (fun H locs hP hD hS => ?_)
      have hP : va_P (dC, dI) vwCl [(ad 0, .inr (4, [.ref (ad 1), .ref (ad 2), .ref (ad 3), .ref (ad 4), .ref (ad 5), .ref (ad 6), .int xgc])), (ad 1, .inl (cI, 8, .inl (upd xver (xpo u1.toNatClampNeg).toNatClampNeg ((xver (xpo u1.toNatClampNeg).toNatClampNeg) + (1 : Int32))))), (ad 3, .inr (3, [.ref (ad 7), .ref (ad 8), .ref (ad 9), .ref (ad 10), .ref (ad 11), .ref (ad 12), .int xpn])), (ad 7, .inl (cI, 24, .inl xpo)), (ad 10, .inl (cI, 24, .inl (upd xpl u1.toNatClampNeg u2)))] H := hP
      have hD : va_D A [(ad 0, .inr (4, [.ref (ad 1), .ref (ad 2), .ref (ad 3), .ref (ad 4), .ref (ad 5), .ref (ad 6), .int xgc])), (ad 1, .inl (cI, 8, .inl (upd xver (xpo u1.toNatClampNeg).toNatClampNeg ((xver (xpo u1.toNatClampNeg).toNatClampNeg) + (1 : Int32))))), (ad 3, .inr (3, [.ref (ad 7), .ref (ad 8), .ref (ad 9), .ref (ad 10), .ref (ad 11), .ref (ad 12), .int xpn])), (ad 7, .inl (cI, 24, .inl xpo)), (ad 10, .inl (cI, 24, .inl (upd xpl u1.toNatClampNeg u2)))] := hD
      refine lv_iconst (v := 1) hx hb zd_MP_life_48 (by decide) ?_
      have hf := Option.some.inj hf
      subst hf
      exact W.zret (v := (1 : Int32)) hx hb hr (mp_nz (Or.inr rfl)) (fun t ht hW => ⟨⟨(1 : Int32), (), rfl, ⟨rfl, (Or.inr rfl)⟩, by rw [ht]; exact hP, hD⟩, hS.F ht⟩) hS.2.2 zd_MP_life_49
    · have hf := mp_t c_4 hf
      refine lv_iconst (v := 0) hx hb zd_MP_life_18 (by decide) ?_
      have hf := Option.some.inj hf
      subst hf
      exact W.zret (v := (0 : Int32)) hx hb hr (mp_nz (Or.inl rfl)) (fun t ht hW => ⟨⟨(0 : Int32), (), rfl, ⟨rfl, (Or.inl rfl)⟩, by rw [ht]; exact hP, hD⟩, hS.F ht⟩) hS.2.2 zd_MP_life_19
set_option maxHeartbeats 4000000 in
set_option maxRecDepth 100000 in
theorem zc_Ch_isFull (l : Launch) (dC : Nat → ClassId) (dI : Nat → Nat → Nat) (cI cJ cZ : ClassId) (ad : Nat → Nat) (xcn : Int32) (res : Int32) (hf : zf_Ch_isFull xcn = some res) : Met l zy_Ch_isFull zw_Ch_isFull ({ frames := 0, cells := 0, slots := 0, locals := 0 } : Room) (mp_PR (dC, dI) vwCl (mp_tys cI cJ cZ) [(ad 12, .inr (0, [.ref (ad 13), .ref (ad 14), .ref (ad 15), .ref (ad 16), .int xcn]))] [.ref (ad 12)]) (vp_Si (fun r => r = res ∧ mp_b res)) 0 0 (fun _ => False) := by
  refine Met.ofW (cc := zb_Ch_isFull) (maxL := 1) (ret := (some .boolean)) (by decide) rfl ?_
  intro p e s m args below meth c s₁ B hml hv
  obtain ⟨rfl, hP, hK, hN⟩ := hv
  have hx := B.exec
  have hb := B.bytes
  have hr := B.returns
  have hts := atoms_spec (ws := zw_Ch_isFull) B.pre
  have hsub : ∀ w ∈ mp_tbl, w ∈ zw_Ch_isFull := fun w h => List.mem_cons_of_mem _ h
  have hw : ∀ w ∈ mp_tbl, w.before _ s = true := fun w h => hts w (hsub w h)
  have hown : s.vm.findClass zR_Ch = some m.cls := findClass_of_methodNamed B.named
  have hlocks := B.notSynchronized
  have hl := lv_entry ([.ref (ad 12)]) (n := 1) (Nat.le_of_ble_eq_true rfl)
  rw [lg_entry_eq]
  generalize (lg_sl ([.ref (ad 12)]) ++ List.replicate (1 - (lg_sl ([.ref (ad 12)])).length) Slot.unset).toArray = ls at hl ⊢
  have hl : lv_has ls 1 [(0, .ref (ad 12))] := hl
  unfold zf_Ch_isFull at hf
  refine lv_aload_n hx hb zd_Ch_isFull_0 rfl (lv_at hl 0 rfl) ?_
  refine va_get (D := (dC, dI)) (ci := 0) (v := .int xcn) (C := zR_Ch) (T := zT_Ch) (N := 5) hx hb hts (fun w h => hsub w (zi_Ch w h)) hown hK hP 0 rfl rfl 4 (by decide) (hw _ zq_60) (fun _ h9 => h9) rfl zd_Ch_isFull_1 ?_
  refine lv_bipush (v := 20) hx hb zd_Ch_isFull_4 (by decide) ?_
  refine lv_icmp_lt (tgt := 13) hx hb zd_Ch_isFull_6 (by decide) (fun c_1 => ?_) (fun c_1 => ?_)
  · have hf := mp_t c_1 hf
    refine lv_iconst (v := 0) hx hb zd_Ch_isFull_13 (by decide) ?_
    have hf := Option.some.inj hf
    subst hf
    exact W.zret (v := (0 : Int32)) hx hb hr (mp_nz (Or.inl rfl)) (fun t ht hW => ⟨(0 : Int32), rfl, ⟨rfl, (Or.inl rfl)⟩, ht⟩) (fun q h => by cases h) zd_Ch_isFull_14
  · have hf := mp_f c_1 hf
    refine lv_iconst (v := 1) hx hb zd_Ch_isFull_9 (by decide) ?_
    refine lv_goto (tgt := 14) hx hb zd_Ch_isFull_10 (by decide) ?_
    have hf := Option.some.inj hf
    subst hf
    exact W.zret (v := (1 : Int32)) hx hb hr (mp_nz (Or.inr rfl)) (fun t ht hW => ⟨(1 : Int32), rfl, ⟨rfl, (Or.inr rfl)⟩, ht⟩) (fun q h => by cases h) zd_Ch_isFull_14
set_option maxHeartbeats 4000000 in
set_option maxRecDepth 100000 in
theorem zc_MP_isDay (l : Launch) (dC : Nat → ClassId) (dI : Nat → Nat → Nat) (cI cJ cZ : ClassId) (ad : Nat → Nat) (u0 : Int64) (res : Int32) (hf : zf_MP_isDay u0 = some res) : Met l zy_MP_isDay zw_MP_isDay ({ frames := 0, cells := 0, slots := 0, locals := 0 } : Room) (mp_PR (dC, dI) vwCl (mp_tys cI cJ cZ) [] [.long u0]) (vp_Si (fun r => r = res ∧ mp_b res)) 0 0 (fun _ => False) := by
  refine Met.ofW (cc := zb_MP_isDay) (maxL := 2) (ret := (some .boolean)) (by decide) rfl ?_
  intro p e s m args below meth c s₁ B hml hv
  obtain ⟨rfl, hP, hK, hN⟩ := hv
  have hx := B.exec
  have hb := B.bytes
  have hr := B.returns
  have hts := atoms_spec (ws := zw_MP_isDay) B.pre
  have hsub : ∀ w ∈ mp_tbl, w ∈ zw_MP_isDay := fun w h => List.mem_cons_of_mem _ h
  have hw : ∀ w ∈ mp_tbl, w.before _ s = true := fun w h => hts w (hsub w h)
  have hown : s.vm.findClass zR_MP = some m.cls := findClass_of_methodNamed B.named
  have hlocks := B.notSynchronized
  have hl := lv_entry ([.long u0]) (n := 2) (Nat.le_of_ble_eq_true rfl)
  rw [lg_entry_eq]
  generalize (lg_sl ([.long u0]) ++ List.replicate (2 - (lg_sl ([.long u0])).length) Slot.unset).toArray = ls at hl ⊢
  have hl : lv_has ls 2 [(0, .long u0)] := hl
  unfold zf_MP_isDay at hf
  refine lv_lload_n hx hb zd_MP_isDay_0 rfl (lv_at hl 0 rfl) ?_
  refine lv_lconst (v := 0) hx hb zd_MP_isDay_1 (by decide) ?_
  refine W.lcmp hx hb zd_MP_isDay_2 ?_
  refine lv_if_lt (tgt := 18) hx hb zd_MP_isDay_3 (by decide) (fun c_1 => ?_) (fun c_1 => ?_)
  · have c_1 := (lg_cmp_lt _ _).mp c_1
    have hf := mp_t c_1 hf
    refine lv_iconst (v := 0) hx hb zd_MP_isDay_18 (by decide) ?_
    have hf := Option.some.inj hf
    subst hf
    exact W.zret (v := (0 : Int32)) hx hb hr (mp_nz (Or.inl rfl)) (fun t ht hW => ⟨(0 : Int32), rfl, ⟨rfl, (Or.inl rfl)⟩, ht⟩) (fun q h => by cases h) zd_MP_isDay_19
  · have c_1 := fun h9 => c_1 ((lg_cmp_lt _ _).mpr h9)
    have hf := mp_f c_1 hf
    refine lv_lload_n hx hb zd_MP_isDay_6 rfl (lv_at hl 0 rfl) ?_
    refine lv_ldc2 (v := 100000) hx hb hown (hw _ zq_243) zd_MP_isDay_7 ?_
    refine W.lcmp hx hb zd_MP_isDay_10 ?_
    refine lv_if_gt (tgt := 18) hx hb zd_MP_isDay_11 (by decide) (fun c_2 => ?_) (fun c_2 => ?_)
    · have c_2 := (lg_cmp_gt _ _).mp c_2
      have hf := mp_t c_2 hf
      refine lv_iconst (v := 0) hx hb zd_MP_isDay_18 (by decide) ?_
      have hf := Option.some.inj hf
      subst hf
      exact W.zret (v := (0 : Int32)) hx hb hr (mp_nz (Or.inl rfl)) (fun t ht hW => ⟨(0 : Int32), rfl, ⟨rfl, (Or.inl rfl)⟩, ht⟩) (fun q h => by cases h) zd_MP_isDay_19
    · have c_2 := fun h9 => c_2 ((lg_cmp_gt _ _).mpr h9)
      have hf := mp_f c_2 hf
      refine lv_iconst (v := 1) hx hb zd_MP_isDay_14 (by decide) ?_
      refine lv_goto (tgt := 19) hx hb zd_MP_isDay_15 (by decide) ?_
      have hf := Option.some.inj hf
      subst hf
      exact W.zret (v := (1 : Int32)) hx hb hr (mp_nz (Or.inr rfl)) (fun t ht hW => ⟨(1 : Int32), rfl, ⟨rfl, (Or.inr rfl)⟩, ht⟩) (fun q h => by cases h) zd_MP_isDay_19
set_option maxHeartbeats 4000000 in
set_option maxRecDepth 100000 in
theorem zc_Ch_add (l : Launch) (dC : Nat → ClassId) (dI : Nat → Nat → Nat) (cI cJ cZ : ClassId) (ad : Nat → Nat) (sz : Nat) (xcn : Int32) (xcp : Nat → Int32) (xcd : Nat → Int64) (xck : Nat → Int32) (xcg : Nat → Int64) (u1 : Int32) (u2 : Int64) (u4 : Int32) (u5 : Int64) (res : Int32 × (Nat → Int32) × (Nat → Int64) × (Nat → Int32) × (Nat → Int64)) (hf : zf_Ch_add u1 u2 u4 u5 xcn xcp xcd xck xcg = some res) : Met l zy_Ch_add zw_Ch_add ({ frames := 1, cells := 0, slots := 0, locals := 20 } : Room) (mp_PM (dC, dI) vwCl (mp_tys cI cJ cZ) [(ad 12, .inr (0, [.ref (ad 13), .ref (ad 14), .ref (ad 15), .ref (ad 16), .int xcn])), (ad 13, .inl (cI, 20, .inl xcp)), (ad 14, .inl (cJ, 20, .inr (.inl xcd))), (ad 15, .inl (cI, 20, .inl xck)), (ad 16, .inl (cJ, 20, .inr (.inl xcg)))] sz [.ref (ad 12), .int u1, .long u2, .int u4, .long u5]) (va_Qv (fun (_ : Unit) => True) (mp_BM (dC, dI) vwCl [(ad 12, .inr (0, [.ref (ad 13), .ref (ad 14), .ref (ad 15), .ref (ad 16), .int res.1])), (ad 13, .inl (cI, 20, .inl res.2.1)), (ad 14, .inl (cJ, 20, .inr (.inl res.2.2.1))), (ad 15, .inl (cI, 20, .inl res.2.2.2.1)), (ad 16, .inl (cJ, 20, .inr (.inl res.2.2.2.2)))] (va_A [(ad 12, .inr (0, [.ref (ad 13), .ref (ad 14), .ref (ad 15), .ref (ad 16), .int xcn])), (ad 13, .inl (cI, 20, .inl xcp)), (ad 14, .inl (cJ, 20, .inr (.inl xcd))), (ad 15, .inl (cI, 20, .inl xck)), (ad 16, .inl (cJ, 20, .inr (.inl xcg)))] sz)) (va_A [(ad 12, .inr (0, [.ref (ad 13), .ref (ad 14), .ref (ad 15), .ref (ad 16), .int xcn])), (ad 13, .inl (cI, 20, .inl xcp)), (ad 14, .inl (cJ, 20, .inr (.inl xcd))), (ad 15, .inl (cI, 20, .inl xck)), (ad 16, .inl (cJ, 20, .inr (.inl xcg)))] sz)) 0 0 ((va_A [(ad 12, .inr (0, [.ref (ad 13), .ref (ad 14), .ref (ad 15), .ref (ad 16), .int xcn])), (ad 13, .inl (cI, 20, .inl xcp)), (ad 14, .inl (cJ, 20, .inr (.inl xcd))), (ad 15, .inl (cI, 20, .inl xck)), (ad 16, .inl (cJ, 20, .inr (.inl xcg)))] sz)) := by
  refine Met.ofW (cc := zb_Ch_add) (maxL := 7) (ret := none) (by decide) rfl ?_
  intro p e s m args below meth c s₁ B hml hv
  obtain ⟨rfl, hsz, hP, hK, hD0, hN⟩ := hv
  have hx := B.exec
  have hb := B.bytes
  have hr := B.returns
  have hts := atoms_spec (ws := zw_Ch_add) B.pre
  have hsub : ∀ w ∈ mp_tbl, w ∈ zw_Ch_add := fun w h => List.mem_cons_of_mem _ h
  have hw : ∀ w ∈ mp_tbl, w.before _ s = true := fun w h => hts w (hsub w h)
  have hown : s.vm.findClass zR_Ch = some m.cls := findClass_of_methodNamed B.named
  have hlocks := B.notSynchronized
  subst hsz
  have hD := hD0.self (sz := s.heap.size)
  generalize hAe : va_A [(ad 12, .inr (0, [.ref (ad 13), .ref (ad 14), .ref (ad 15), .ref (ad 16), .int xcn])), (ad 13, .inl (cI, 20, .inl xcp)), (ad 14, .inl (cJ, 20, .inr (.inl xcd))), (ad 15, .inl (cI, 20, .inl xck)), (ad 16, .inl (cJ, 20, .inr (.inl xcg)))] s.heap.size = A at hD ⊢
  have hA : ∀ q : Nat, s.heap.size ≤ q → A q := fun q h => by rw [← hAe]; exact Or.inr h
  have hS : va_S A s.heap s.heap [] := va_S.rf
  have hP : va_P (dC, dI) vwCl [(ad 12, .inr (0, [.ref (ad 13), .ref (ad 14), .ref (ad 15), .ref (ad 16), .int xcn])), (ad 13, .inl (cI, 20, .inl xcp)), (ad 14, .inl (cJ, 20, .inr (.inl xcd))), (ad 15, .inl (cI, 20, .inl xck)), (ad 16, .inl (cJ, 20, .inr (.inl xcg)))] s.heap := hP
  clear hAe hD0
  have hl := lv_entry ([.ref (ad 12), .int u1, .long u2, .int u4, .long u5]) (n := 7) (Nat.le_of_ble_eq_true rfl)
  rw [lg_entry_eq]
  generalize (lg_sl ([.ref (ad 12), .int u1, .long u2, .int u4, .long u5]) ++ List.replicate (7 - (lg_sl ([.ref (ad 12), .int u1, .long u2, .int u4, .long u5])).length) Slot.unset).toArray = ls at hl ⊢
  have hl : lv_has ls 7 [(0, .ref (ad 12)), (1, .int u1), (2, .long u2), (4, .int u4), (5, .long u5)] := hl
  unfold zf_Ch_add at hf
  refine lv_aload_n hx hb zd_Ch_add_0 rfl (lv_at hl 0 rfl) ?_
  obtain ⟨y1, hg1, hf⟩ := mp_bd hf
  refine mp_Rz (va_runV (As := []) (rest := []) ⟨hx, hb, hml, hown, hts⟩ (zc_Ch_isFull l dC dI cI cJ cZ ad xcn y1 hg1) (cwV 0 hts (mp_gV hsub zq_248 zq_237 zq_238 zq_27 zq_239) rfl rfl rfl (by decide +kernel) ⟨Nat.le_of_ble_eq_true rfl, Nat.le_of_ble_eq_true rfl⟩) ⟨mp_blR, va_recv hK hP (ci := 0) (q0 := 0) rfl rfl, mp_preR hN hK (hP.sub [0] rfl)⟩ rfl rfl hl.1 rfl (lv_room (Nat.le_of_ble_eq_true rfl)) zd_Ch_add_1 ⟨Nat.zero_le _, Nat.zero_le _⟩) (fun hz1 => ?_)
  refine lv_if_eq (tgt := 8) hx hb zd_Ch_add_4 (by decide) (fun c_2 => ?_) (fun c_2 => ?_)
  · have hf := mp_t c_2 hf
    refine lv_aload_n hx hb zd_Ch_add_8 rfl (lv_at hl 0 rfl) ?_
    refine va_get (D := (dC, dI)) (ci := 0) (v := .ref (ad 13)) (C := zR_Ch) (T := zT_Ch) (N := 5) hx hb hts (fun w h => hsub w (zi_Ch w h)) hown hK hP 0 rfl rfl 0 (by decide) (hw _ zq_54) (fun _ h9 => h9) rfl zd_Ch_add_9 ?_
    refine lv_aload_n hx hb zd_Ch_add_12 rfl (lv_at hl 0 rfl) ?_
    refine va_get (D := (dC, dI)) (ci := 0) (v := .int xcn) (C := zR_Ch) (T := zT_Ch) (N := 5) hx hb hts (fun w h => hsub w (zi_Ch w h)) hown hK hP 0 rfl rfl 4 (by decide) (hw _ zq_60) (fun _ h9 => h9) rfl zd_Ch_add_13 ?_
    refine lv_iload_n hx hb zd_Ch_add_16 rfl (lv_at hl 1 rfl) ?_
    obtain ⟨h_3, hf⟩ := mp_in hf
    refine va_iast hx hb hK hP hD hS 1 0 rfl rfl (i := xcn) (x := u1) h_3 zd_Ch_add_17 (fun H locs hP hD hS => ?_)
    have hP : va_P (dC, dI) vwCl [(ad 12, .inr (0, [.ref (ad 13), .ref (ad 14), .ref (ad 15), .ref (ad 16), .int xcn])), (ad 13, .inl (cI, 20, .inl (upd xcp xcn.toNatClampNeg u1))), (ad 14, .inl (cJ, 20, .inr (.inl xcd))), (ad 15, .inl (cI, 20, .inl xck)), (ad 16, .inl (cJ, 20, .inr (.inl xcg)))] H := hP
    have hD : va_D A [(ad 12, .inr (0, [.ref (ad 13), .ref (ad 14), .ref (ad 15), .ref (ad 16), .int xcn])), (ad 13, .inl (cI, 20, .inl (upd xcp xcn.toNatClampNeg u1))), (ad 14, .inl (cJ, 20, .inr (.inl xcd))), (ad 15, .inl (cI, 20, .inl xck)), (ad 16, .inl (cJ, 20, .inr (.inl xcg)))] := hD
    refine lv_aload_n hx hb zd_Ch_add_18 rfl (lv_at hl 0 rfl) ?_
    refine va_get (D := (dC, dI)) (ci := 0) (v := .ref (ad 14)) (C := zR_Ch) (T := zT_Ch) (N := 5) hx hb hts (fun w h => hsub w (zi_Ch w h)) hown hK hP 0 rfl rfl 1 (by decide) (hw _ zq_55) (fun _ h9 => h9) rfl zd_Ch_add_19 ?_
    refine lv_aload_n hx hb zd_Ch_add_22 rfl (lv_at hl 0 rfl) ?_
    refine va_get (D := (dC, dI)) (ci := 0) (v := .int xcn) (C := zR_Ch) (T := zT_Ch) (N := 5) hx hb hts (fun w h => hsub w (zi_Ch w h)) hown hK hP 0 rfl rfl 4 (by decide) (hw _ zq_60) (fun _ h9 => h9) rfl zd_Ch_add_23 ?_
    refine lv_lload_n hx hb zd_Ch_add_26 rfl (lv_at hl 2 rfl) ?_
    obtain ⟨h_4, hf⟩ := mp_in hf
    refine va_last hx hb hK hP hD hS 2 1 rfl rfl (i := xcn) (x := u2) h_4 zd_Ch_add_27 (fun H locs hP hD hS => ?_)
    have hP : va_P (dC, dI) vwCl [(ad 12, .inr (0, [.ref (ad 13), .ref (ad 14), .ref (ad 15), .ref (ad 16), .int xcn])), (ad 13, .inl (cI, 20, .inl (upd xcp xcn.toNatClampNeg u1))), (ad 14, .inl (cJ, 20, .inr (.inl (vp_updL xcd xcn.toNatClampNeg u2)))), (ad 15, .inl (cI, 20, .inl xck)), (ad 16, .inl (cJ, 20, .inr (.inl xcg)))] H := hP
    have hD : va_D A [(ad 12, .inr (0, [.ref (ad 13), .ref (ad 14), .ref (ad 15), .ref (ad 16), .int xcn])), (ad 13, .inl (cI, 20, .inl (upd xcp xcn.toNatClampNeg u1))), (ad 14, .inl (cJ, 20, .inr (.inl (vp_updL xcd xcn.toNatClampNeg u2)))), (ad 15, .inl (cI, 20, .inl xck)), (ad 16, .inl (cJ, 20, .inr (.inl xcg)))] := hD
    refine lv_aload_n hx hb zd_Ch_add_28 rfl (lv_at hl 0 rfl) ?_
    refine va_get (D := (dC, dI)) (ci := 0) (v := .ref (ad 15)) (C := zR_Ch) (T := zT_Ch) (N := 5) hx hb hts (fun w h => hsub w (zi_Ch w h)) hown hK hP 0 rfl rfl 2 (by decide) (hw _ zq_56) (fun _ h9 => h9) rfl zd_Ch_add_29 ?_
    refine lv_aload_n hx hb zd_Ch_add_32 rfl (lv_at hl 0 rfl) ?_
    refine va_get (D := (dC, dI)) (ci := 0) (v := .int xcn) (C := zR_Ch) (T := zT_Ch) (N := 5) hx hb hts (fun w h => hsub w (zi_Ch w h)) hown hK hP 0 rfl rfl 4 (by decide) (hw _ zq_60) (fun _ h9 => h9) rfl zd_Ch_add_33 ?_
    refine lv_iload hx hb zd_Ch_add_36 (lv_at hl 3 rfl) ?_
    obtain ⟨h_5, hf⟩ := mp_in hf
    refine va_iast hx hb hK hP hD hS 3 0 rfl rfl (i := xcn) (x := u4) h_5 zd_Ch_add_38 (fun H locs hP hD hS => ?_)
    have hP : va_P (dC, dI) vwCl [(ad 12, .inr (0, [.ref (ad 13), .ref (ad 14), .ref (ad 15), .ref (ad 16), .int xcn])), (ad 13, .inl (cI, 20, .inl (upd xcp xcn.toNatClampNeg u1))), (ad 14, .inl (cJ, 20, .inr (.inl (vp_updL xcd xcn.toNatClampNeg u2)))), (ad 15, .inl (cI, 20, .inl (upd xck xcn.toNatClampNeg u4))), (ad 16, .inl (cJ, 20, .inr (.inl xcg)))] H := hP
    have hD : va_D A [(ad 12, .inr (0, [.ref (ad 13), .ref (ad 14), .ref (ad 15), .ref (ad 16), .int xcn])), (ad 13, .inl (cI, 20, .inl (upd xcp xcn.toNatClampNeg u1))), (ad 14, .inl (cJ, 20, .inr (.inl (vp_updL xcd xcn.toNatClampNeg u2)))), (ad 15, .inl (cI, 20, .inl (upd xck xcn.toNatClampNeg u4))), (ad 16, .inl (cJ, 20, .inr (.inl xcg)))] := hD
    refine lv_aload_n hx hb zd_Ch_add_39 rfl (lv_at hl 0 rfl) ?_
    refine va_get (D := (dC, dI)) (ci := 0) (v := .ref (ad 16)) (C := zR_Ch) (T := zT_Ch) (N := 5) hx hb hts (fun w h => hsub w (zi_Ch w h)) hown hK hP 0 rfl rfl 3 (by decide) (hw _ zq_58) (fun _ h9 => h9) rfl zd_Ch_add_40 ?_
    refine lv_aload_n hx hb zd_Ch_add_43 rfl (lv_at hl 0 rfl) ?_
    refine va_get (D := (dC, dI)) (ci := 0) (v := .int xcn) (C := zR_Ch) (T := zT_Ch) (N := 5) hx hb hts (fun w h => hsub w (zi_Ch w h)) hown hK hP 0 rfl rfl 4 (by decide) (hw _ zq_60) (fun _ h9 => h9) rfl zd_Ch_add_44 ?_
    refine lv_lload hx hb zd_Ch_add_47 (lv_at hl 4 rfl) ?_
    obtain ⟨h_6, hf⟩ := mp_in hf
    refine va_last hx hb hK hP hD hS 4 1 rfl rfl (i := xcn) (x := u5) h_6 zd_Ch_add_49 (fun H locs hP hD hS => ?_)
    have hP : va_P (dC, dI) vwCl [(ad 12, .inr (0, [.ref (ad 13), .ref (ad 14), .ref (ad 15), .ref (ad 16), .int xcn])), (ad 13, .inl (cI, 20, .inl (upd xcp xcn.toNatClampNeg u1))), (ad 14, .inl (cJ, 20, .inr (.inl (vp_updL xcd xcn.toNatClampNeg u2)))), (ad 15, .inl (cI, 20, .inl (upd xck xcn.toNatClampNeg u4))), (ad 16, .inl (cJ, 20, .inr (.inl (vp_updL xcg xcn.toNatClampNeg u5))))] H := hP
    have hD : va_D A [(ad 12, .inr (0, [.ref (ad 13), .ref (ad 14), .ref (ad 15), .ref (ad 16), .int xcn])), (ad 13, .inl (cI, 20, .inl (upd xcp xcn.toNatClampNeg u1))), (ad 14, .inl (cJ, 20, .inr (.inl (vp_updL xcd xcn.toNatClampNeg u2)))), (ad 15, .inl (cI, 20, .inl (upd xck xcn.toNatClampNeg u4))), (ad 16, .inl (cJ, 20, .inr (.inl (vp_updL xcg xcn.toNatClampNeg u5))))] := hD
    refine lv_aload_n hx hb zd_Ch_add_50 rfl (lv_at hl 0 rfl) ?_
    refine lv_dup hx hb zd_Ch_add_51 rfl ?_
    refine va_get (D := (dC, dI)) (ci := 0) (v := .int xcn) (C := zR_Ch) (T := zT_Ch) (N := 5) hx hb hts (fun w h => hsub w (zi_Ch w h)) hown hK hP 0 rfl rfl 4 (by decide) (hw _ zq_60) (fun _ h9 => h9) rfl zd_Ch_add_52 ?_
    refine lv_iconst (v := 1) hx hb zd_Ch_add_55 (by decide) ?_
    refine lv_iadd hx hb zd_Ch_add_56 ?_
    refine va_put (D := (dC, dI)) (ci := 0) (v := .int (xcn + (1 : Int32))) (ty := .int) (C := zR_Ch) (T := zT_Ch) (N := 5) hx hb hts (fun w h => hsub w (zi_Ch w h)) zt_Ch zt_Ch_ok zn_Ch hown hK hP hD hS 0 rfl rfl 4 (by decide) (hw _ zq_60) (fun _ h9 => h9) rfl (by decide +kernel) rfl rfl (Nat.le_of_ble_eq_true rfl) zd_Ch_add_57 (fun H locs hP hD hS => ?_)
    have hP : va_P (dC, dI) vwCl [(ad 12, .inr (0, [.ref (ad 13), .ref (ad 14), .ref (ad 15), .ref (ad 16), .int (xcn + (1 : Int32))])), (ad 13, .inl (cI, 20, .inl (upd xcp xcn.toNatClampNeg u1))), (ad 14, .inl (cJ, 20, .inr (.inl (vp_updL xcd xcn.toNatClampNeg u2)))), (ad 15, .inl (cI, 20, .inl (upd xck xcn.toNatClampNeg u4))), (ad 16, .inl (cJ, 20, .inr (.inl (vp_updL xcg xcn.toNatClampNeg u5))))] H := hP
    have hD : va_D A [(ad 12, .inr (0, [.ref (ad 13), .ref (ad 14), .ref (ad 15), .ref (ad 16), .int (xcn + (1 : Int32))])), (ad 13, .inl (cI, 20, .inl (upd xcp xcn.toNatClampNeg u1))), (ad 14, .inl (cJ, 20, .inr (.inl (vp_updL xcd xcn.toNatClampNeg u2)))), (ad 15, .inl (cI, 20, .inl (upd xck xcn.toNatClampNeg u4))), (ad 16, .inl (cJ, 20, .inr (.inl (vp_updL xcg xcn.toNatClampNeg u5))))] := hD
    have hf := Option.some.inj hf
    subst hf
    exact W.vret hx hb hr (fun t ht hW => ⟨⟨(), rfl, trivial, by rw [ht]; exact hP, hD⟩, hS.F ht⟩) hS.2.2 zd_Ch_add_60
  · have hf := mp_f c_2 hf
    have hf := Option.some.inj hf
    subst hf
    exact W.vret hx hb hr (fun t ht hW => ⟨⟨(), rfl, trivial, by rw [ht]; exact hP, hD⟩, hS.F ht⟩) hS.2.2 zd_Ch_add_7
