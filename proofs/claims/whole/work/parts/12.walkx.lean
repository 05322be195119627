set_option maxHeartbeats 4000000 in
set_option maxRecDepth 100000 in
theorem zc_MP_unit (l : Launch) (dC : Nat → ClassId) (dI : Nat → Nat → Nat) (cI cJ cZ : ClassId) (ad : Nat → Nat) (sz : Nat) (xgc : Int32) (xtl : Int32) (xrc : Int32) (xrd : Int32) (xwc : Int32) (xft : Nat → Int32) (u1 : Int32) (res : Int32 × Int32 × (Nat → Int32)) (hf : zf_MP_unit u1 xtl xft = some res) : Met l zy_MP_unit zw_MP_unit ({ frames := 1, cells := 0, slots := 0, locals := 21 } : Room) (mp_PM (dC, dI) vwCl (mp_tys cI cJ cZ) [(ad 0, .inr (4, [.ref (ad 1), .ref (ad 2), .ref (ad 3), .ref (ad 4), .ref (ad 5), .ref (ad 6), .int xgc])), (ad 5, .inr (1, [.ref (ad 20), .ref (ad 21), .ref (ad 22), .ref (ad 23), .int xtl, .int xrc, .int xrd, .int xwc])), (ad 20, .inl (cI, 300, .inl xft))] sz [.ref (ad 0), .int u1]) (va_Qi (fun r (_ : Unit) => r = res.1 ∧ mp_b res.1) (mp_BM (dC, dI) vwCl [(ad 0, .inr (4, [.ref (ad 1), .ref (ad 2), .ref (ad 3), .ref (ad 4), .ref (ad 5), .ref (ad 6), .int xgc])), (ad 5, .inr (1, [.ref (ad 20), .ref (ad 21), .ref (ad 22), .ref (ad 23), .int res.2.1, .int xrc, .int xrd, .int xwc])), (ad 20, .inl (cI, 300, .inl res.2.2))] (va_A [(ad 0, .inr (4, [.ref (ad 1), .ref (ad 2), .ref (ad 3), .ref (ad 4), .ref (ad 5), .ref (ad 6), .int xgc])), (ad 5, .inr (1, [.ref (ad 20), .ref (ad 21), .ref (ad 22), .ref (ad 23), .int xtl, .int xrc, .int xrd, .int xwc])), (ad 20, .inl (cI, 300, .inl xft))] sz)) (va_A [(ad 0, .inr (4, [.ref (ad 1), .ref (ad 2), .ref (ad 3), .ref (ad 4), .ref (ad 5), .ref (ad 6), .int xgc])), (ad 5, .inr (1, [.ref (ad 20), .ref (ad 21), .ref (ad 22), .ref (ad 23), .int xtl, .int xrc, .int xrd, .int xwc])), (ad 20, .inl (cI, 300, .inl xft))] sz)) 0 0 ((va_A [(ad 0, .inr (4, [.ref (ad 1), .ref (ad 2), .ref (ad 3), .ref (ad 4), .ref (ad 5), .ref (ad 6), .int xgc])), (ad 5, .inr (1, [.ref (ad 20), .ref (ad 21), .ref (ad 22), .ref (ad 23), .int xtl, .int xrc, .int xrd, .int xwc])), (ad 20, .inl (cI, 300, .inl xft))] sz)) := by
  refine Met.ofW (cc := zb_MP_unit) (maxL := 2) (ret := (some .boolean)) (by decide) rfl ?_
  intro p e s m args below meth c s₁ B hml hv
  obtain ⟨rfl, hsz, hP, hK, hD0, hN⟩ := hv
  have hx := B.exec
  have hb := B.bytes
  have hr := B.returns
  have hts := atoms_spec (ws := zw_MP_unit) B.pre
  have hsub : ∀ w ∈ mp_tbl, w ∈ zw_MP_unit := fun w h => List.mem_cons_of_mem _ h
  have hw : ∀ w ∈ mp_tbl, w.before _ s = true := fun w h => hts w (hsub w h)
  have hown : s.vm.findClass zR_MP = some m.cls := findClass_of_methodNamed B.named
  have hlocks := B.notSynchronized
  subst hsz
  have hD := hD0.self (sz := s.heap.size)
  generalize hAe : va_A [(ad 0, .inr (4, [.ref (ad 1), .ref (ad 2), .ref (ad 3), .ref (ad 4), .ref (ad 5), .ref (ad 6), .int xgc])), (ad 5, .inr (1, [.ref (ad 20), .ref (ad 21), .ref (ad 22), .ref (ad 23), .int xtl, .int xrc, .int xrd, .int xwc])), (ad 20, .inl (cI, 300, .inl xft))] s.heap.size = A at hD ⊢
  have hA : ∀ q : Nat, s.heap.size ≤ q → A q := fun q h => by rw [← hAe]; exact Or.inr h
  have hS : va_S A s.heap s.heap [] := va_S.rf
  have hP : va_P (dC, dI) vwCl [(ad 0, .inr (4, [.ref (ad 1), .ref (ad 2), .ref (ad 3), .ref (ad 4), .ref (ad 5), .ref (ad 6), .int xgc])), (ad 5, .inr (1, [.ref (ad 20), .ref (ad 21), .ref (ad 22), .ref (ad 23), .int xtl, .int xrc, .int xrd, .int xwc])), (ad 20, .inl (cI, 300, .inl xft))] s.heap := hP
  clear hAe hD0
  have hl := lv_entry ([.ref (ad 0), .int u1]) (n := 2) (Nat.le_of_ble_eq_true rfl)
  rw [lg_entry_eq]
  generalize (lg_sl ([.ref (ad 0), .int u1]) ++ List.replicate (2 - (lg_sl ([.ref (ad 0), .int u1])).length) Slot.unset).toArray = ls at hl ⊢
  have hl : lv_has ls 2 [(0, .ref (ad 0)), (1, .int u1)] := hl
  unfold zf_MP_unit at hf
  refine lv_aload_n hx hb zd_MP_unit_0 rfl (lv_at hl 0 rfl) ?_
  refine va_get (D := (dC, dI)) (ci := 4) (v := .ref (ad 5)) (C := zR_MP) (T := zT_MP) (N := 7) hx hb hts (fun w h => hsub w (zi_MP w h)) hown hK hP 0 rfl rfl 4 (by decide) (hw _ zq_156) (fun _ h9 => h9) rfl zd_MP_unit_1 ?_
  refine lv_iload_n hx hb zd_MP_unit_4 rfl (lv_at hl 1 rfl) ?_
  obtain ⟨y1, hg1, hf⟩ := mp_bd hf
  refine mp_Mz (wr := [(ad 0, .inr (4, [.ref (ad 1), .ref (ad 2), .ref (ad 3), .ref (ad 4), .ref (ad 5), .ref (ad 6), .int xgc]))]) (va_runV (As := [.int u1]) (rest := []) ⟨hx, hb, hml, hown, hts⟩ (zc_Fo_addByte l dC dI cI cJ cZ ad _ xtl xrc xrd xwc xft u1 y1 hg1) (cwV 1 hts (mp_gV hsub zq_318 zq_319 zq_320 zq_29 zq_321) rfl rfl rfl (by decide +kernel) ⟨Nat.le_of_ble_eq_true rfl, Nat.le_of_ble_eq_true rfl⟩) ⟨mp_blM, va_recv hK hP (ci := 1) (q0 := 1) rfl rfl, mp_preM hN hK (hP.sub [1, 2] rfl) (hD.sub [1, 2] (by decide) rfl)⟩ rfl rfl hl.1 rfl (lv_room (Nat.le_of_ble_eq_true rfl)) zd_MP_unit_5 ⟨Nat.zero_le _, Nat.zero_le _⟩) hP hD hS hA [1, 2] [0] rfl rfl (by decide) (by decide) (fun H locs hP hD hS hz1 => ?_)
  have hP : va_P (dC, dI) vwCl [(ad 0, .inr (4, [.ref (ad 1), .ref (ad 2), .ref (ad 3), .ref (ad 4), .ref (ad 5), .ref (ad 6), .int xgc])), (ad 5, .inr (1, [.ref (ad 20), .ref (ad 21), .ref (ad 22), .ref (ad 23), .int y1.2.1, .int xrc, .int xrd, .int xwc])), (ad 20, .inl (cI, 300, .inl y1.2.2))] H := hP
  have hD : va_D A [(ad 0, .inr (4, [.ref (ad 1), .ref (ad 2), .ref (ad 3), .ref (ad 4), .ref (ad 5), .ref (ad 6), .int xgc])), (ad 5, .inr (1, [.ref (ad 20), .ref (ad 21), .ref (ad 22), .ref (ad 23), .int y1.2.1, .int xrc, .int xrd, .int xwc])), (ad 20, .inl (cI, 300, .inl y1.2.2))] := hD
  have hf := Option.some.inj hf
  subst hf
  exact W.zret (v := y1.1) hx hb hr (mp_nz hz1) (fun t ht hW => ⟨⟨y1.1, (), rfl, ⟨rfl, hz1⟩, by rw [ht]; exact hP, hD⟩, hS.F ht⟩) hS.2.2 zd_MP_unit_8
set_option maxHeartbeats 4000000 in
set_option maxRecDepth 100000 in
theorem zc_Fo_isDigit (l : Launch) (dC : Nat → ClassId) (dI : Nat → Nat → Nat) (cI cJ cZ : ClassId) (ad : Nat → Nat) (u0 : Int32) (res : Int32) (hf : zf_Fo_isDigit u0 = some res) : Met l zy_Fo_isDigit zw_Fo_isDigit ({ frames := 0, cells := 0, slots := 0, locals := 0 } : Room) (mp_PR (dC, dI) vwCl (mp_tys cI cJ cZ) [] [.int u0]) (vp_Si (fun r => r = res ∧ mp_b res)) 0 0 (fun _ => False) := by
  refine Met.ofW (cc := zb_Fo_isDigit) (maxL := 1) (ret := (some .boolean)) (by decide) rfl ?_
  intro p e s m args below meth c s₁ B hml hv
  obtain ⟨rfl, hP, hK, hN⟩ := hv
  have hx := B.exec
  have hb := B.bytes
  have hr := B.returns
  have hts := atoms_spec (ws := zw_Fo_isDigit) B.pre
  have hsub : ∀ w ∈ mp_tbl, w ∈ zw_Fo_isDigit := fun w h => List.mem_cons_of_mem _ h
  have hw : ∀ w ∈ mp_tbl, w.before _ s = true := fun w h => hts w (hsub w h)
  have hown : s.vm.findClass zR_Fo = some m.cls := findClass_of_methodNamed B.named
  have hlocks := B.notSynchronized
  have hl := lv_entry ([.int u0]) (n := 1) (Nat.le_of_ble_eq_true rfl)
  rw [lg_entry_eq]
  generalize (lg_sl ([.int u0]) ++ List.replicate (1 - (lg_sl ([.int u0])).length) Slot.unset).toArray = ls at hl ⊢
  have hl : lv_has ls 1 [(0, .int u0)] := hl
  unfold zf_Fo_isDigit at hf
  refine lv_iload_n hx hb zd_Fo_isDigit_0 rfl (lv_at hl 0 rfl) ?_
  refine lv_bipush (v := 48) hx hb zd_Fo_isDigit_1 (by decide) ?_
  refine lv_icmp_lt (tgt := 16) hx hb zd_Fo_isDigit_3 (by decide) (fun c_1 => ?_) (fun c_1 => ?_)
  · have hf := mp_t c_1 hf
    refine lv_iconst (v := 0) hx hb zd_Fo_isDigit_16 (by decide) ?_
    have hf := Option.some.inj hf
    subst hf
    exact W.zret (v := (0 : Int32)) hx hb hr (mp_nz (Or.inl rfl)) (fun t ht hW => ⟨(0 : Int32), rfl, ⟨rfl, (Or.inl rfl)⟩, ht⟩) (fun q h => by cases h) zd_Fo_isDigit_17
  · have hf := mp_f c_1 hf
    refine lv_iload_n hx hb zd_Fo_isDigit_6 rfl (lv_at hl 0 rfl) ?_
    refine lv_bipush (v := 57) hx hb zd_Fo_isDigit_7 (by decide) ?_
    refine lv_icmp_gt (tgt := 16) hx hb zd_Fo_isDigit_9 (by decide) (fun c_2 => ?_) (fun c_2 => ?_)
    · have hf := mp_t c_2 hf
      refine lv_iconst (v := 0) hx hb zd_Fo_isDigit_16 (by decide) ?_
      have hf := Option.some.inj hf
      subst hf
      exact W.zret (v := (0 : Int32)) hx hb hr (mp_nz (Or.inl rfl)) (fun t ht hW => ⟨(0 : Int32), rfl, ⟨rfl, (Or.inl rfl)⟩, ht⟩) (fun q h => by cases h) zd_Fo_isDigit_17
    · have hf := mp_f c_2 hf
      refine lv_iconst (v := 1) hx hb zd_Fo_isDigit_12 (by decide) ?_
      refine lv_goto (tgt := 17) hx hb zd_Fo_isDigit_13 (by decide) ?_
      have hf := Option.some.inj hf
      subst hf
      exact W.zret (v := (1 : Int32)) hx hb hr (mp_nz (Or.inr rfl)) (fun t ht hW => ⟨(1 : Int32), rfl, ⟨rfl, (Or.inr rfl)⟩, ht⟩) (fun q h => by cases h) zd_Fo_isDigit_17
set_option maxHeartbeats 4000000 in
set_option maxRecDepth 100000 in
theorem zc_Fo_signOf (l : Launch) (dC : Nat → ClassId) (dI : Nat → Nat → Nat) (cI cJ cZ : ClassId) (ad : Nat → Nat) (u0 : Int32) (res : Int32) (hf : zf_Fo_signOf u0 = some res) : Met l zy_Fo_signOf zw_Fo_signOf ({ frames := 0, cells := 0, slots := 0, locals := 0 } : Room) (mp_PR (dC, dI) vwCl (mp_tys cI cJ cZ) [] [.int u0]) (vp_Si (fun r => r = res)) 0 0 (fun _ => False) := by
  refine Met.ofW (cc := zb_Fo_signOf) (maxL := 1) (ret := (some .int)) (by decide) rfl ?_
  intro p e s m args below meth c s₁ B hml hv
  obtain ⟨rfl, hP, hK, hN⟩ := hv
  have hx := B.exec
  have hb := B.bytes
  have hr := B.returns
  have hts := atoms_spec (ws := zw_Fo_signOf) B.pre
  have hsub : ∀ w ∈ mp_tbl, w ∈ zw_Fo_signOf := fun w h => List.mem_cons_of_mem _ h
  have hw : ∀ w ∈ mp_tbl, w.before _ s = true := fun w h => hts w (hsub w h)
  have hown : s.vm.findClass zR_Fo = some m.cls := findClass_of_methodNamed B.named
  have hlocks := B.notSynchronized
  have hl := lv_entry ([.int u0]) (n := 1) (Nat.le_of_ble_eq_true rfl)
  rw [lg_entry_eq]
  generalize (lg_sl ([.int u0]) ++ List.replicate (1 - (lg_sl ([.int u0])).length) Slot.unset).toArray = ls at hl ⊢
  have hl : lv_has ls 1 [(0, .int u0)] := hl
  unfold zf_Fo_signOf at hf
  refine lv_iload_n hx hb zd_Fo_signOf_0 rfl (lv_at hl 0 rfl) ?_
  by_cases c_1 : u0 = (42 : Int32)
  · have hf := mp_t c_1 hf
    refine lv_lookup (tgt := 53) (off := 52) hx hb zd_Fo_signOf_1 (by decide +kernel) (by rw [c_1]; rfl) (by decide) ?_
    refine lv_bipush (v := -9) hx hb zd_Fo_signOf_53 (by decide) ?_
    have hf := Option.some.inj hf
    subst hf
    exact W.iret (v := (-9 : Int32)) hx hb hr (fun t ht hW => ⟨(-9 : Int32), rfl, rfl, ht⟩) (fun q h => by cases h) zd_Fo_signOf_55
  have hf := mp_f c_1 hf
  by_cases c_2 : u0 = (43 : Int32)
  · have hf := mp_t c_2 hf
    refine lv_lookup (tgt := 47) (off := 46) hx hb zd_Fo_signOf_1 (by decide +kernel) (by rw [c_2]; rfl) (by decide) ?_
    refine lv_bipush (v := -7) hx hb zd_Fo_signOf_47 (by decide) ?_
    have hf := Option.some.inj hf
    subst hf
    exact W.iret (v := (-7 : Int32)) hx hb hr (fun t ht hW => ⟨(-7 : Int32), rfl, rfl, ht⟩) (fun q h => by cases h) zd_Fo_signOf_49
  have hf := mp_f c_2 hf
  by_cases c_3 : u0 = (45 : Int32)
  · have hf := mp_t c_3 hf
    refine lv_lookup (tgt := 50) (off := 49) hx hb zd_Fo_signOf_1 (by decide +kernel) (by rw [c_3]; rfl) (by decide) ?_
    refine lv_bipush (v := -8) hx hb zd_Fo_signOf_50 (by decide) ?_
    have hf := Option.some.inj hf
    subst hf
    exact W.iret (v := (-8 : Int32)) hx hb hr (fun t ht hW => ⟨(-8 : Int32), rfl, rfl, ht⟩) (fun q h => by cases h) zd_Fo_signOf_52
  have hf := mp_f c_3 hf
  by_cases c_4 : u0 = (110 : Int32)
  · have hf := mp_t c_4 hf
    refine lv_lookup (tgt := 44) (off := 43) hx hb zd_Fo_signOf_1 (by decide +kernel) (by rw [c_4]; rfl) (by decide) ?_
    refine lv_bipush (v := -6) hx hb zd_Fo_signOf_44 (by decide) ?_
    have hf := Option.some.inj hf
    subst hf
    exact W.iret (v := (-6 : Int32)) hx hb hr (fun t ht hW => ⟨(-6 : Int32), rfl, rfl, ht⟩) (fun q h => by cases h) zd_Fo_signOf_46
  have hf := mp_f c_4 hf
  refine lv_lookup (tgt := 56) (off := 55) hx hb zd_Fo_signOf_1 (by decide +kernel) ((lv_osw c_1 (by decide)).trans ((lv_osw c_2 (by decide)).trans ((lv_osw c_3 (by decide)).trans ((lv_osw c_4 (by decide)).trans rfl)))) (by decide) ?_
  refine lv_bipush (v := -12) hx hb zd_Fo_signOf_56 (by decide) ?_
  have hf := Option.some.inj hf
  subst hf
  exact W.iret (v := (-12 : Int32)) hx hb hr (fun t ht hW => ⟨(-12 : Int32), rfl, rfl, ht⟩) (fun q h => by cases h) zd_Fo_signOf_58
set_option maxHeartbeats 4000000 in
set_option maxRecDepth 100000 in
theorem zc_Fo_shareOf (l : Launch) (dC : Nat → ClassId) (dI : Nat → Nat → Nat) (cI cJ cZ : ClassId) (ad : Nat → Nat) (u0 : Int32) (res : Int32) (hf : zf_Fo_shareOf u0 = some res) : Met l zy_Fo_shareOf zw_Fo_shareOf ({ frames := 1, cells := 0, slots := 0, locals := 20 } : Room) (mp_PR (dC, dI) vwCl (mp_tys cI cJ cZ) [] [.int u0]) (vp_Si (fun r => r = res)) 0 0 (fun _ => False) := by
  refine Met.ofW (cc := zb_Fo_shareOf) (maxL := 2) (ret := (some .int)) (by decide) rfl ?_
  intro p e s m args below meth c s₁ B hml hv
  obtain ⟨rfl, hP, hK, hN⟩ := hv
  have hx := B.exec
  have hb := B.bytes
  have hr := B.returns
  have hts := atoms_spec (ws := zw_Fo_shareOf) B.pre
  have hsub : ∀ w ∈ mp_tbl, w ∈ zw_Fo_shareOf := fun w h => List.mem_cons_of_mem _ h
  have hw : ∀ w ∈ mp_tbl, w.before _ s = true := fun w h => hts w (hsub w h)
  have hown : s.vm.findClass zR_Fo = some m.cls := findClass_of_methodNamed B.named
  have hlocks := B.notSynchronized
  have hl := lv_entry ([.int u0]) (n := 2) (Nat.le_of_ble_eq_true rfl)
  rw [lg_entry_eq]
  generalize (lg_sl ([.int u0]) ++ List.replicate (2 - (lg_sl ([.int u0])).length) Slot.unset).toArray = ls at hl ⊢
  have hl : lv_has ls 2 [(0, .int u0)] := hl
  unfold zf_Fo_shareOf at hf
  refine lv_iload_n hx hb zd_Fo_shareOf_0 rfl (lv_at hl 0 rfl) ?_
  refine lv_bipush (v := 48) hx hb zd_Fo_shareOf_1 (by decide) ?_
  refine lv_isub hx hb zd_Fo_shareOf_3 ?_
  refine lv_istore_n (lv' := [(1, .int (u0 - (48 : Int32))), (0, .int u0)]) hx hb zd_Fo_shareOf_4 rfl hl (by decide) rfl (fun ls hl => ?_)
  refine lv_iload_n hx hb zd_Fo_shareOf_5 rfl (lv_at hl 0 rfl) ?_
  obtain ⟨y1, hg1, hf⟩ := mp_bd hf
  refine mp_Rz (va_runSN (As := [.int (u0 - (48 : Int32))]) (rest := []) ⟨hx, hb, hml, hown, hts⟩ (zc_MP_isKind l dC dI cI cJ cZ ad (u0 - (48 : Int32)) y1 hg1) ⟨va_cnB 1 hts (mp_gC hsub zq_195) rfl rfl rfl hN.2.2.2.2 (hw _ zq_25) (by decide +kernel) ⟨Nat.le_of_ble_eq_true rfl, Nat.le_of_ble_eq_true rfl⟩, hw _ zq_194, trivial⟩ ⟨mp_blR, mp_preR hN hK (hP.sub [] rfl)⟩ rfl rfl hl.1 rfl (lv_room (Nat.le_of_ble_eq_true rfl)) zd_Fo_shareOf_6 ⟨Nat.zero_le _, Nat.zero_le _⟩) (fun hz1 => ?_)
  refine lv_if_eq (tgt := 18) hx hb zd_Fo_shareOf_9 (by decide) (fun c_2 => ?_) (fun c_2 => ?_)
  · have hf := mp_t c_2 hf
    refine lv_bipush (v := -12) hx hb zd_Fo_shareOf_18 (by decide) ?_
    have hf := Option.some.inj hf
    subst hf
    exact W.iret (v := (-12 : Int32)) hx hb hr (fun t ht hW => ⟨(-12 : Int32), rfl, rfl, ht⟩) (fun q h => by cases h) zd_Fo_shareOf_20
  · have hf := mp_f c_2 hf
    refine lv_iconst (v := -1) hx hb zd_Fo_shareOf_12 (by decide) ?_
    refine lv_iload_n hx hb zd_Fo_shareOf_13 rfl (lv_at hl 0 rfl) ?_
    refine lv_isub hx hb zd_Fo_shareOf_14 ?_
    refine lv_goto (tgt := 20) hx hb zd_Fo_shareOf_15 (by decide) ?_
    have hf := Option.some.inj hf
    subst hf
    exact W.iret (v := ((-1 : Int32) - (u0 - (48 : Int32)))) hx hb hr (fun t ht hW => ⟨((-1 : Int32) - (u0 - (48 : Int32))), rfl, rfl, ht⟩) (fun q h => by cases h) zd_Fo_shareOf_20
set_option maxHeartbeats 4000000 in
set_option maxRecDepth 100000 in
theorem zc_Fo_boundOf (l : Launch) (dC : Nat → ClassId) (dI : Nat → Nat → Nat) (cI cJ cZ : ClassId) (ad : Nat → Nat) (u0 : Int32) (u1 : Int32) (res : Int32) (hf : zf_Fo_boundOf u0 u1 = some res) : Met l zy_Fo_boundOf zw_Fo_boundOf ({ frames := 0, cells := 0, slots := 0, locals := 0 } : Room) (mp_PR (dC, dI) vwCl (mp_tys cI cJ cZ) [] [.int u0, .int u1]) (vp_Si (fun r => r = res)) 0 0 (fun _ => False) := by
  refine Met.ofW (cc := zb_Fo_boundOf) (maxL := 2) (ret := (some .int)) (by decide) rfl ?_
  intro p e s m args below meth c s₁ B hml hv
  obtain ⟨rfl, hP, hK, hN⟩ := hv
  have hx := B.exec
  have hb := B.bytes
  have hr := B.returns
  have hts := atoms_spec (ws := zw_Fo_boundOf) B.pre
  have hsub : ∀ w ∈ mp_tbl, w ∈ zw_Fo_boundOf := fun w h => List.mem_cons_of_mem _ h
  have hw : ∀ w ∈ mp_tbl, w.before _ s = true := fun w h => hts w (hsub w h)
  have hown : s.vm.findClass zR_Fo = some m.cls := findClass_of_methodNamed B.named
  have hlocks := B.notSynchronized
  have hl := lv_entry ([.int u0, .int u1]) (n := 2) (Nat.le_of_ble_eq_true rfl)
  rw [lg_entry_eq]
  generalize (lg_sl ([.int u0, .int u1]) ++ List.replicate (2 - (lg_sl ([.int u0, .int u1])).length) Slot.unset).toArray = ls at hl ⊢
  have hl : lv_has ls 2 [(0, .int u0), (1, .int u1)] := hl
  unfold zf_Fo_boundOf at hf
  refine lv_iload_n hx hb zd_Fo_boundOf_0 rfl (lv_at hl 0 rfl) ?_
  refine lv_bipush (v := 105) hx hb zd_Fo_boundOf_1 (by decide) ?_
  refine lv_icmp_ne (tgt := 15) hx hb zd_Fo_boundOf_3 (by decide) (fun c_1 => ?_) (fun c_1 => ?_)
  · have hf := mp_f c_1 hf
    refine lv_iload_n hx hb zd_Fo_boundOf_15 rfl (lv_at hl 0 rfl) ?_
    refine lv_bipush (v := 97) hx hb zd_Fo_boundOf_16 (by decide) ?_
    refine lv_icmp_ne (tgt := 32) hx hb zd_Fo_boundOf_18 (by decide) (fun c_2 => ?_) (fun c_2 => ?_)
    · have hf := mp_f c_2 hf
      refine lv_bipush (v := -12) hx hb zd_Fo_boundOf_32 (by decide) ?_
      have hf := Option.some.inj hf
      subst hf
      exact W.iret (v := (-12 : Int32)) hx hb hr (fun t ht hW => ⟨(-12 : Int32), rfl, rfl, ht⟩) (fun q h => by cases h) zd_Fo_boundOf_34
    · have hf := mp_t c_2 hf
      refine lv_iload_n hx hb zd_Fo_boundOf_21 rfl (lv_at hl 1 rfl) ?_
      refine lv_bipush (v := 120) hx hb zd_Fo_boundOf_22 (by decide) ?_
      refine lv_icmp_ne (tgt := 32) hx hb zd_Fo_boundOf_24 (by decide) (fun c_3 => ?_) (fun c_3 => ?_)
      · have hf := mp_f c_3 hf
        refine lv_bipush (v := -12) hx hb zd_Fo_boundOf_32 (by decide) ?_
        have hf := Option.some.inj hf
        subst hf
        exact W.iret (v := (-12 : Int32)) hx hb hr (fun t ht hW => ⟨(-12 : Int32), rfl, rfl, ht⟩) (fun q h => by cases h) zd_Fo_boundOf_34
      · have hf := mp_t c_3 hf
        refine lv_bipush (v := -11) hx hb zd_Fo_boundOf_27 (by decide) ?_
        refine lv_goto (tgt := 34) hx hb zd_Fo_boundOf_29 (by decide) ?_
        have hf := Option.some.inj hf
        subst hf
        exact W.iret (v := (-11 : Int32)) hx hb hr (fun t ht hW => ⟨(-11 : Int32), rfl, rfl, ht⟩) (fun q h => by cases h) zd_Fo_boundOf_34
  · have hf := mp_t c_1 hf
    refine lv_iload_n hx hb zd_Fo_boundOf_6 rfl (lv_at hl 1 rfl) ?_
    refine lv_bipush (v := 110) hx hb zd_Fo_boundOf_7 (by decide) ?_
    refine lv_icmp_ne (tgt := 15) hx hb zd_Fo_boundOf_9 (by decide) (fun c_4 => ?_) (fun c_4 => ?_)
    · have hf := mp_f c_4 hf
      refine lv_iload_n hx hb zd_Fo_boundOf_15 rfl (lv_at hl 0 rfl) ?_
      refine lv_bipush (v := 97) hx hb zd_Fo_boundOf_16 (by decide) ?_
      refine lv_icmp_ne (tgt := 32) hx hb zd_Fo_boundOf_18 (by decide) (fun c_5 => ?_) (fun c_5 => ?_)
      · have hf := mp_f c_5 hf
        refine lv_bipush (v := -12) hx hb zd_Fo_boundOf_32 (by decide) ?_
        have hf := Option.some.inj hf
        subst hf
        exact W.iret (v := (-12 : Int32)) hx hb hr (fun t ht hW => ⟨(-12 : Int32), rfl, rfl, ht⟩) (fun q h => by cases h) zd_Fo_boundOf_34
      · have hf := mp_t c_5 hf
        refine lv_iload_n hx hb zd_Fo_boundOf_21 rfl (lv_at hl 1 rfl) ?_
        refine lv_bipush (v := 120) hx hb zd_Fo_boundOf_22 (by decide) ?_
        refine lv_icmp_ne (tgt := 32) hx hb zd_Fo_boundOf_24 (by decide) (fun c_6 => ?_) (fun c_6 => ?_)
        · have hf := mp_f c_6 hf
          refine lv_bipush (v := -12) hx hb zd_Fo_boundOf_32 (by decide) ?_
          have hf := Option.some.inj hf
          subst hf
          exact W.iret (v := (-12 : Int32)) hx hb hr (fun t ht hW => ⟨(-12 : Int32), rfl, rfl, ht⟩) (fun q h => by cases h) zd_Fo_boundOf_34
        · have hf := mp_t c_6 hf
          refine lv_bipush (v := -11) hx hb zd_Fo_boundOf_27 (by decide) ?_
          refine lv_goto (tgt := 34) hx hb zd_Fo_boundOf_29 (by decide) ?_
          have hf := Option.some.inj hf
          subst hf
          exact W.iret (v := (-11 : Int32)) hx hb hr (fun t ht hW => ⟨(-11 : Int32), rfl, rfl, ht⟩) (fun q h => by cases h) zd_Fo_boundOf_34
    · have hf := mp_t c_4 hf
      refine lv_bipush (v := -10) hx hb zd_Fo_boundOf_12 (by decide) ?_
      have hf := Option.some.inj hf
      subst hf
      exact W.iret (v := (-10 : Int32)) hx hb hr (fun t ht hW => ⟨(-10 : Int32), rfl, rfl, ht⟩) (fun q h => by cases h) zd_Fo_boundOf_14
set_option maxHeartbeats 4000000 in
set_option maxRecDepth 100000 in
theorem zc_Fo_numberAt (l : Launch) (dC : Nat → ClassId) (dI : Nat → Nat → Nat) (cI cJ cZ : ClassId) (ad : Nat → Nat) (xtl : Int32) (xrc : Int32) (xrd : Int32) (xwc : Int32) (xft : Nat → Int32) (u1 : Int32) (u2 : Int32) (res : Int32) (hf : zf_Fo_numberAt u1 u2 xft = some res) : Met l zy_Fo_numberAt zw_Fo_numberAt ({ frames := 1, cells := 0, slots := 0, locals := 20 } : Room) (mp_PR (dC, dI) vwCl (mp_tys cI cJ cZ) [(ad 5, .inr (1, [.ref (ad 20), .ref (ad 21), .ref (ad 22), .ref (ad 23), .int xtl, .int xrc, .int xrd, .int xwc])), (ad 20, .inl (cI, 300, .inl xft))] [.ref (ad 5), .int u1, .int u2]) (vp_Si (fun r => r = res)) 0 0 (fun _ => False) := by
  refine Met.ofW (cc := zb_Fo_numberAt) (maxL := 5) (ret := (some .int)) (by decide) rfl ?_
  intro p e s m args below meth c s₁ B hml hv
  obtain ⟨rfl, hP, hK, hN⟩ := hv
  have hx := B.exec
  have hb := B.bytes
  have hr := B.returns
  have hts := atoms_spec (ws := zw_Fo_numberAt) B.pre
  have hsub : ∀ w ∈ mp_tbl, w ∈ zw_Fo_numberAt := fun w h => List.mem_cons_of_mem _ h
  have hw : ∀ w ∈ mp_tbl, w.before _ s = true := fun w h => hts w (hsub w h)
  have hown : s.vm.findClass zR_Fo = some m.cls := findClass_of_methodNamed B.named
  have hlocks := B.notSynchronized
  have loop16 : ∀ (v1 : Int32) (v2 : Int32) (n : Nat) (v3 : Int32) (v4 : Int32) (ls : Array Slot), zf_Fo_numberAt_L16 v1 v2 xft n v3 v4 = some res → lv_has ls 5 [(0, .ref (ad 5)), (1, .int v1), (2, .int v2), (3, .int v3), (4, .int v4)] → W p l e (headSpec zw_Fo_numberAt ({ frames := 1, cells := 0, slots := 0, locals := 20 } : Room)).room s m ([.ref (ad 5), .int u1, .int u2] : List Value).toArray below meth c s.heap [] 0 0 (MQ below (vp_Si (fun r => r = res)) ([.ref (ad 5), .int u1, .int u2] : List Value).toArray s 0 0 (fun _ => False)) (F0 m 16 ls []) := by
    intro v1 v2 n
    induction n with
    | zero => intro v3 v4 ls hf; simp [zf_Fo_numberAt_L16] at hf
    | succ n ih =>
      intro v3 v4 ls hf hl
      rw [zf_Fo_numberAt_L16] at hf
      refine lv_iload hx hb zd_Fo_numberAt_16 (lv_at hl 4 rfl) ?_
      refine lv_iload_n hx hb zd_Fo_numberAt_18 rfl (lv_at hl 2 rfl) ?_
      refine lv_icmp_ge (tgt := 60) hx hb zd_Fo_numberAt_19 (by decide) (fun c_2 => ?_) (fun c_2 => ?_)
      · have hf := mp_t c_2 hf
        refine lv_iload_n hx hb zd_Fo_numberAt_60 rfl (lv_at hl 3 rfl) ?_
        have hf := Option.some.inj hf
        subst hf
        exact W.iret (v := v3) hx hb hr (fun t ht hW => ⟨v3, rfl, rfl, ht⟩) (fun q h => by cases h) zd_Fo_numberAt_61
      · have hf := mp_f c_2 hf
        refine lv_aload_n hx hb zd_Fo_numberAt_22 rfl (lv_at hl 0 rfl) ?_
        refine va_get (D := (dC, dI)) (ci := 1) (v := .ref (ad 20)) (C := zR_Fo) (T := zT_Fo) (N := 8) hx hb hts (fun w h => hsub w (zi_Fo w h)) hown hK hP 0 rfl rfl 0 (by decide) (hw _ zq_127) (fun _ h9 => h9) rfl zd_Fo_numberAt_23 ?_
        refine lv_iload hx hb zd_Fo_numberAt_26 (lv_at hl 4 rfl) ?_
        obtain ⟨h_3, hf⟩ := mp_in hf
        refine va_iald hx hb hK hP 1 0 rfl rfl (i := v4) h_3 zd_Fo_numberAt_28 ?_
        obtain ⟨y4, hg4, hf⟩ := mp_bd hf
        refine mp_Rz (va_runS (As := [.int (xft v4.toNatClampNeg)]) (rest := []) ⟨hx, hb, hml, hown, hts⟩ (zc_Fo_isDigit l dC dI cI cJ cZ ad (xft v4.toNatClampNeg) y4 hg4) (va_cwS 1 hts (mp_gS hsub zq_337 zq_338 zq_29 zq_339) rfl rfl rfl (by decide +kernel) ⟨Nat.le_of_ble_eq_true rfl, Nat.le_of_ble_eq_true rfl⟩) ⟨mp_blR, mp_preR hN hK (hP.sub [] rfl)⟩ rfl rfl hl.1 rfl (lv_room (Nat.le_of_ble_eq_true rfl)) zd_Fo_numberAt_29 ⟨Nat.zero_le _, Nat.zero_le _⟩) (fun hz4 => ?_)
        refine lv_if_ne (tgt := 38) hx hb zd_Fo_numberAt_32 (by decide) (fun c_5 => ?_) (fun c_5 => ?_)
        · have hf := mp_f c_5 hf
          refine lv_iload_n hx hb zd_Fo_numberAt_38 rfl (lv_at hl 3 rfl) ?_
          refine lv_bipush (v := 10) hx hb zd_Fo_numberAt_39 (by decide) ?_
          refine lv_imul hx hb zd_Fo_numberAt_41 ?_
          refine lv_aload_n hx hb zd_Fo_numberAt_42 rfl (lv_at hl 0 rfl) ?_
          refine va_get (D := (dC, dI)) (ci := 1) (v := .ref (ad 20)) (C := zR_Fo) (T := zT_Fo) (N := 8) hx hb hts (fun w h => hsub w (zi_Fo w h)) hown hK hP 0 rfl rfl 0 (by decide) (hw _ zq_127) (fun _ h9 => h9) rfl zd_Fo_numberAt_43 ?_
          refine lv_iload hx hb zd_Fo_numberAt_46 (lv_at hl 4 rfl) ?_
          obtain ⟨h_6, hf⟩ := mp_in hf
          refine va_iald hx hb hK hP 1 0 rfl rfl (i := v4) h_6 zd_Fo_numberAt_48 ?_
          refine lv_bipush (v := 48) hx hb zd_Fo_numberAt_49 (by decide) ?_
          refine lv_isub hx hb zd_Fo_numberAt_51 ?_
          refine lv_iadd hx hb zd_Fo_numberAt_52 ?_
          refine lv_istore_n (lv' := [(3, .int ((v3 * (10 : Int32)) + ((xft v4.toNatClampNeg) - (48 : Int32)))), (0, .ref (ad 5)), (1, .int v1), (2, .int v2), (4, .int v4)]) hx hb zd_Fo_numberAt_53 rfl hl (by decide) rfl (fun ls hl => ?_)
          refine lv_iinc (v := (v4 + (1 : Int32))) (lv' := [(4, .int (v4 + (1 : Int32))), (3, .int ((v3 * (10 : Int32)) + ((xft v4.toNatClampNeg) - (48 : Int32)))), (0, .ref (ad 5)), (1, .int v1), (2, .int v2)]) hx hb zd_Fo_numberAt_54 hl (k := 4) rfl rfl (by decide) rfl (fun ls hl => ?_)
          refine lv_goto (tgt := 16) hx hb zd_Fo_numberAt_57 (by decide) ?_
          exact ih ((v3 * (10 : Int32)) + ((xft v4.toNatClampNeg) - (48 : Int32))) (v4 + (1 : Int32)) _ hf (lv_sub hl [2, 3, 4, 1, 0] rfl)
        · have hf := mp_t c_5 hf
          refine lv_bipush (v := -12) hx hb zd_Fo_numberAt_35 (by decide) ?_
          have hf := Option.some.inj hf
          subst hf
          exact W.iret (v := (-12 : Int32)) hx hb hr (fun t ht hW => ⟨(-12 : Int32), rfl, rfl, ht⟩) (fun q h => by cases h) zd_Fo_numberAt_37
  have hl := lv_entry ([.ref (ad 5), .int u1, .int u2]) (n := 5) (Nat.le_of_ble_eq_true rfl)
  rw [lg_entry_eq]
  generalize (lg_sl ([.ref (ad 5), .int u1, .int u2]) ++ List.replicate (5 - (lg_sl ([.ref (ad 5), .int u1, .int u2])).length) Slot.unset).toArray = ls at hl ⊢
  have hl : lv_has ls 5 [(0, .ref (ad 5)), (1, .int u1), (2, .int u2)] := hl
  unfold zf_Fo_numberAt at hf
  refine lv_iload_n hx hb zd_Fo_numberAt_0 rfl (lv_at hl 2 rfl) ?_
  refine lv_iload_n hx hb zd_Fo_numberAt_1 rfl (lv_at hl 1 rfl) ?_
  refine lv_isub hx hb zd_Fo_numberAt_2 ?_
  refine lv_bipush (v := 6) hx hb zd_Fo_numberAt_3 (by decide) ?_
  refine lv_icmp_le (tgt := 11) hx hb zd_Fo_numberAt_5 (by decide) (fun c_1 => ?_) (fun c_1 => ?_)
  · have hf := mp_t c_1 hf
    refine lv_iconst (v := 0) hx hb zd_Fo_numberAt_11 (by decide) ?_
    refine lv_istore_n (lv' := [(3, .int (0 : Int32)), (0, .ref (ad 5)), (1, .int u1), (2, .int u2)]) hx hb zd_Fo_numberAt_12 rfl hl (by decide) rfl (fun ls hl => ?_)
    refine lv_iload_n hx hb zd_Fo_numberAt_13 rfl (lv_at hl 2 rfl) ?_
    refine lv_istore (lv' := [(4, .int u1), (3, .int (0 : Int32)), (0, .ref (ad 5)), (1, .int u1), (2, .int u2)]) hx hb zd_Fo_numberAt_14 hl (by decide) rfl (fun ls hl => ?_)
    exact loop16 u1 u2 2000 (0 : Int32) u1 _ hf (lv_sub hl [2, 3, 4, 1, 0] rfl)
  · have hf := mp_f c_1 hf
    refine lv_bipush (v := -12) hx hb zd_Fo_numberAt_8 (by decide) ?_
    have hf := Option.some.inj hf
    subst hf
    exact W.iret (v := (-12 : Int32)) hx hb hr (fun t ht hW => ⟨(-12 : Int32), rfl, rfl, ht⟩) (fun q h => by cases h) zd_Fo_numberAt_10
set_option maxHeartbeats 4000000 in
set_option maxRecDepth 100000 in
theorem zc_Fo_wordAt (l : Launch) (dC : Nat → ClassId) (dI : Nat → Nat → Nat) (cI cJ cZ : ClassId) (ad : Nat → Nat) (xtl : Int32) (xrc : Int32) (xrd : Int32) (xwc : Int32) (xft : Nat → Int32) (u1 : Int32) (u2 : Int32) (res : Int32) (hf : zf_Fo_wordAt u1 u2 xft = some res) : Met l zy_Fo_wordAt zw_Fo_wordAt ({ frames := 2, cells := 0, slots := 0, locals := 44 } : Room) (mp_PR (dC, dI) vwCl (mp_tys cI cJ cZ) [(ad 5, .inr (1, [.ref (ad 20), .ref (ad 21), .ref (ad 22), .ref (ad 23), .int xtl, .int xrc, .int xrd, .int xwc])), (ad 20, .inl (cI, 300, .inl xft))] [.ref (ad 5), .int u1, .int u2]) (vp_Si (fun r => r = res)) 0 0 (fun _ => False) := by
  refine Met.ofW (cc := zb_Fo_wordAt) (maxL := 4) (ret := (some .int)) (by decide) rfl ?_
  intro p e s m args below meth c s₁ B hml hv
  obtain ⟨rfl, hP, hK, hN⟩ := hv
  have hx := B.exec
  have hb := B.bytes
  have hr := B.returns
  have hts := atoms_spec (ws := zw_Fo_wordAt) B.pre
  have hsub : ∀ w ∈ mp_tbl, w ∈ zw_Fo_wordAt := fun w h => List.mem_cons_of_mem _ h
  have hw : ∀ w ∈ mp_tbl, w.before _ s = true := fun w h => hts w (hsub w h)
  have hown : s.vm.findClass zR_Fo = some m.cls := findClass_of_methodNamed B.named
  have hlocks := B.notSynchronized
  have hl := lv_entry ([.ref (ad 5), .int u1, .int u2]) (n := 4) (Nat.le_of_ble_eq_true rfl)
  rw [lg_entry_eq]
  generalize (lg_sl ([.ref (ad 5), .int u1, .int u2]) ++ List.replicate (4 - (lg_sl ([.ref (ad 5), .int u1, .int u2])).length) Slot.unset).toArray = ls at hl ⊢
  have hl : lv_has ls 4 [(0, .ref (ad 5)), (1, .int u1), (2, .int u2)] := hl
  unfold zf_Fo_wordAt at hf
  refine lv_aload_n hx hb zd_Fo_wordAt_0 rfl (lv_at hl 0 rfl) ?_
  refine va_get (D := (dC, dI)) (ci := 1) (v := .ref (ad 20)) (C := zR_Fo) (T := zT_Fo) (N := 8) hx hb hts (fun w h => hsub w (zi_Fo w h)) hown hK hP 0 rfl rfl 0 (by decide) (hw _ zq_127) (fun _ h9 => h9) rfl zd_Fo_wordAt_1 ?_
  refine lv_iload_n hx hb zd_Fo_wordAt_4 rfl (lv_at hl 1 rfl) ?_
  obtain ⟨h_1, hf⟩ := mp_in hf
  refine va_iald hx hb hK hP 1 0 rfl rfl (i := u1) h_1 zd_Fo_wordAt_5 ?_
  refine lv_istore_n (lv' := [(3, .int (xft u1.toNatClampNeg)), (0, .ref (ad 5)), (1, .int u1), (2, .int u2)]) hx hb zd_Fo_wordAt_6 rfl hl (by decide) rfl (fun ls hl => ?_)
  refine lv_iload_n hx hb zd_Fo_wordAt_7 rfl (lv_at hl 0 rfl) ?_
  obtain ⟨y2, hg2, hf⟩ := mp_bd hf
  refine mp_Rz (va_runS (As := [.int (xft u1.toNatClampNeg)]) (rest := []) ⟨hx, hb, hml, hown, hts⟩ (zc_Fo_isDigit l dC dI cI cJ cZ ad (xft u1.toNatClampNeg) y2 hg2) (va_cwS 1 hts (mp_gS hsub zq_337 zq_338 zq_29 zq_339) rfl rfl rfl (by decide +kernel) ⟨Nat.le_of_ble_eq_true rfl, Nat.le_of_ble_eq_true rfl⟩) ⟨mp_blR, mp_preR hN hK (hP.sub [] rfl)⟩ rfl rfl hl.1 rfl (lv_room (Nat.le_of_ble_eq_true rfl)) zd_Fo_wordAt_8 ⟨Nat.zero_le _, Nat.zero_le _⟩) (fun hz2 => ?_)
  refine lv_if_eq (tgt := 21) hx hb zd_Fo_wordAt_11 (by decide) (fun c_3 => ?_) (fun c_3 => ?_)
  · have hf := mp_t c_3 hf
    refine lv_iload_n hx hb zd_Fo_wordAt_21 rfl (lv_at hl 3 rfl) ?_
    refine lv_iload_n hx hb zd_Fo_wordAt_22 rfl (lv_at hl 2 rfl) ?_
    refine lv_isub hx hb zd_Fo_wordAt_23 ?_
    by_cases c_4 : (u2 - u1) = (1 : Int32)
    · have hf := mp_t c_4 hf
      refine lv_tableIn (tgt := 52) (off := 28) hx hb zd_Fo_wordAt_24 (by rw [c_4]; decide) (by rw [c_4]; decide) (by rw [c_4]; rfl) (by decide) ?_
      refine lv_iload_n hx hb zd_Fo_wordAt_52 rfl (lv_at hl 0 rfl) ?_
      obtain ⟨y5, hg5, hf⟩ := mp_bd hf
      refine mp_Ri (va_runS (As := [.int (xft u1.toNatClampNeg)]) (rest := []) ⟨hx, hb, hml, hown, hts⟩ (zc_Fo_signOf l dC dI cI cJ cZ ad (xft u1.toNatClampNeg) y5 hg5) (va_cwS 1 hts (mp_gS hsub zq_344 zq_345 zq_29 zq_346) rfl rfl rfl (by decide +kernel) ⟨Nat.le_of_ble_eq_true rfl, Nat.le_of_ble_eq_true rfl⟩) ⟨mp_blR, mp_preR hN hK (hP.sub [] rfl)⟩ rfl rfl hl.1 rfl (lv_room (Nat.le_of_ble_eq_true rfl)) zd_Fo_wordAt_53 ⟨Nat.zero_le _, Nat.zero_le _⟩) ?_
      have hf := Option.some.inj hf
      subst hf
      exact W.iret (v := y5) hx hb hr (fun t ht hW => ⟨y5, rfl, rfl, ht⟩) (fun q h => by cases h) zd_Fo_wordAt_56
    have hf := mp_f c_4 hf
    by_cases c_6 : (u2 - u1) = (2 : Int32)
    · have hf := mp_t c_6 hf
      refine lv_tableIn (tgt := 57) (off := 33) hx hb zd_Fo_wordAt_24 (by rw [c_6]; decide) (by rw [c_6]; decide) (by rw [c_6]; rfl) (by decide) ?_
      refine lv_iload_n hx hb zd_Fo_wordAt_57 rfl (lv_at hl 0 rfl) ?_
      refine lv_bipush (v := 107) hx hb zd_Fo_wordAt_58 (by decide) ?_
      refine lv_icmp_ne (tgt := 77) hx hb zd_Fo_wordAt_60 (by decide) (fun c_7 => ?_) (fun c_7 => ?_)
      · have hf := mp_f c_7 hf
        refine lv_bipush (v := -12) hx hb zd_Fo_wordAt_77 (by decide) ?_
        have hf := Option.some.inj hf
        subst hf
        exact W.iret (v := (-12 : Int32)) hx hb hr (fun t ht hW => ⟨(-12 : Int32), rfl, rfl, ht⟩) (fun q h => by cases h) zd_Fo_wordAt_79
      · have hf := mp_t c_7 hf
        refine lv_aload_n hx hb zd_Fo_wordAt_63 rfl (lv_at hl 1 rfl) ?_
        refine va_get (D := (dC, dI)) (ci := 1) (v := .ref (ad 20)) (C := zR_Fo) (T := zT_Fo) (N := 8) hx hb hts (fun w h => hsub w (zi_Fo w h)) hown hK hP 0 rfl rfl 0 (by decide) (hw _ zq_127) (fun _ h9 => h9) rfl zd_Fo_wordAt_64 ?_
        refine lv_iload_n hx hb zd_Fo_wordAt_67 rfl (lv_at hl 2 rfl) ?_
        refine lv_iconst (v := 1) hx hb zd_Fo_wordAt_68 (by decide) ?_
        refine lv_iadd hx hb zd_Fo_wordAt_69 ?_
        obtain ⟨h_8, hf⟩ := mp_in hf
        refine va_iald hx hb hK hP 1 0 rfl rfl (i := (u1 + (1 : Int32))) h_8 zd_Fo_wordAt_70 ?_
        obtain ⟨y9, hg9, hf⟩ := mp_bd hf
        refine mp_Ri (va_runS (As := [.int (xft (u1 + (1 : Int32)).toNatClampNeg)]) (rest := []) ⟨hx, hb, hml, hown, hts⟩ (zc_Fo_shareOf l dC dI cI cJ cZ ad (xft (u1 + (1 : Int32)).toNatClampNeg) y9 hg9) (va_cwS 1 hts (mp_gS hsub zq_347 zq_348 zq_29 zq_349) rfl rfl rfl (by decide +kernel) ⟨Nat.le_of_ble_eq_true rfl, Nat.le_of_ble_eq_true rfl⟩) ⟨mp_blR, mp_preR hN hK (hP.sub [] rfl)⟩ rfl rfl hl.1 rfl (lv_room (Nat.le_of_ble_eq_true rfl)) zd_Fo_wordAt_71 ⟨Nat.zero_le _, Nat.zero_le _⟩) ?_
        refine lv_goto (tgt := 79) hx hb zd_Fo_wordAt_74 (by decide) ?_
        have hf := Option.some.inj hf
        subst hf
        exact W.iret (v := y9) hx hb hr (fun t ht hW => ⟨y9, rfl, rfl, ht⟩) (fun q h => by cases h) zd_Fo_wordAt_79
    have hf := mp_f c_6 hf
    by_cases c_10 : (u2 - u1) = (3 : Int32)
    · have hf := mp_t c_10 hf
      refine lv_tableIn (tgt := 80) (off := 56) hx hb zd_Fo_wordAt_24 (by rw [c_10]; decide) (by rw [c_10]; decide) (by rw [c_10]; rfl) (by decide) ?_
      refine lv_iload_n hx hb zd_Fo_wordAt_80 rfl (lv_at hl 0 rfl) ?_
      refine lv_bipush (v := 109) hx hb zd_Fo_wordAt_81 (by decide) ?_
      refine lv_icmp_ne (tgt := 108) hx hb zd_Fo_wordAt_83 (by decide) (fun c_11 => ?_) (fun c_11 => ?_)
      · have hf := mp_f c_11 hf
        refine lv_bipush (v := -12) hx hb zd_Fo_wordAt_108 (by decide) ?_
        have hf := Option.some.inj hf
        subst hf
        exact W.iret (v := (-12 : Int32)) hx hb hr (fun t ht hW => ⟨(-12 : Int32), rfl, rfl, ht⟩) (fun q h => by cases h) zd_Fo_wordAt_110
      · have hf := mp_t c_11 hf
        refine lv_aload_n hx hb zd_Fo_wordAt_86 rfl (lv_at hl 1 rfl) ?_
        refine va_get (D := (dC, dI)) (ci := 1) (v := .ref (ad 20)) (C := zR_Fo) (T := zT_Fo) (N := 8) hx hb hts (fun w h => hsub w (zi_Fo w h)) hown hK hP 0 rfl rfl 0 (by decide) (hw _ zq_127) (fun _ h9 => h9) rfl zd_Fo_wordAt_87 ?_
        refine lv_iload_n hx hb zd_Fo_wordAt_90 rfl (lv_at hl 2 rfl) ?_
        refine lv_iconst (v := 1) hx hb zd_Fo_wordAt_91 (by decide) ?_
        refine lv_iadd hx hb zd_Fo_wordAt_92 ?_
        obtain ⟨h_12, hf⟩ := mp_in hf
        refine va_iald hx hb hK hP 1 0 rfl rfl (i := (u1 + (1 : Int32))) h_12 zd_Fo_wordAt_93 ?_
        refine lv_aload_n hx hb zd_Fo_wordAt_94 rfl (lv_at hl 1 rfl) ?_
        refine va_get (D := (dC, dI)) (ci := 1) (v := .ref (ad 20)) (C := zR_Fo) (T := zT_Fo) (N := 8) hx hb hts (fun w h => hsub w (zi_Fo w h)) hown hK hP 0 rfl rfl 0 (by decide) (hw _ zq_127) (fun _ h9 => h9) rfl zd_Fo_wordAt_95 ?_
        refine lv_iload_n hx hb zd_Fo_wordAt_98 rfl (lv_at hl 2 rfl) ?_
        refine lv_iconst (v := 2) hx hb zd_Fo_wordAt_99 (by decide) ?_
        refine lv_iadd hx hb zd_Fo_wordAt_100 ?_
        obtain ⟨h_13, hf⟩ := mp_in hf
        refine va_iald hx hb hK hP 1 0 rfl rfl (i := (u1 + (2 : Int32))) h_13 zd_Fo_wordAt_101 ?_
        obtain ⟨y14, hg14, hf⟩ := mp_bd hf
        refine mp_Ri (va_runS (As := [.int (xft (u1 + (1 : Int32)).toNatClampNeg), .int (xft (u1 + (2 : Int32)).toNatClampNeg)]) (rest := []) ⟨hx, hb, hml, hown, hts⟩ (zc_Fo_boundOf l dC dI cI cJ cZ ad (xft (u1 + (1 : Int32)).toNatClampNeg) (xft (u1 + (2 : Int32)).toNatClampNeg) y14 hg14) (va_cwS 2 hts (mp_gS hsub zq_351 zq_352 zq_29 zq_353) rfl rfl rfl (by decide +kernel) ⟨Nat.le_of_ble_eq_true rfl, Nat.le_of_ble_eq_true rfl⟩) ⟨mp_blR, mp_preR hN hK (hP.sub [] rfl)⟩ rfl rfl hl.1 rfl (lv_room (Nat.le_of_ble_eq_true rfl)) zd_Fo_wordAt_102 ⟨Nat.zero_le _, Nat.zero_le _⟩) ?_
        refine lv_goto (tgt := 110) hx hb zd_Fo_wordAt_105 (by decide) ?_
        have hf := Option.some.inj hf
        subst hf
        exact W.iret (v := y14) hx hb hr (fun t ht hW => ⟨y14, rfl, rfl, ht⟩) (fun q h => by cases h) zd_Fo_wordAt_110
    have hf := mp_f c_10 hf
    have c_15 : (u2 - u1).toInt < 1 ∨ 3 < (u2 - u1).toInt := by
      have n_4 := lv_neT (a := 1) c_4 (by decide)
      have n_6 := lv_neT (a := 2) c_6 (by decide)
      have n_10 := lv_neT (a := 3) c_10 (by decide)
      omega
    refine lv_tableOut (tgt := 111) hx hb zd_Fo_wordAt_24 c_15 (by decide) ?_
    refine lv_bipush (v := -12) hx hb zd_Fo_wordAt_111 (by decide) ?_
    have hf := Option.some.inj hf
    subst hf
    exact W.iret (v := (-12 : Int32)) hx hb hr (fun t ht hW => ⟨(-12 : Int32), rfl, rfl, ht⟩) (fun q h => by cases h) zd_Fo_wordAt_113
  · have hf := mp_f c_3 hf
    refine lv_aload_n hx hb zd_Fo_wordAt_14 rfl (lv_at hl 1 rfl) ?_
    refine lv_iload_n hx hb zd_Fo_wordAt_15 rfl (lv_at hl 2 rfl) ?_
    refine lv_iload_n hx hb zd_Fo_wordAt_16 rfl (lv_at hl 3 rfl) ?_
    obtain ⟨y16, hg16, hf⟩ := mp_bd hf
    refine mp_Ri (va_runV (As := [.int u1, .int u2]) (rest := []) ⟨hx, hb, hml, hown, hts⟩ (zc_Fo_numberAt l dC dI cI cJ cZ ad xtl xrc xrd xwc xft u1 u2 y16 hg16) (cwV 2 hts (mp_gV hsub zq_340 zq_342 zq_5 zq_29 zq_343) rfl rfl rfl (by decide +kernel) ⟨Nat.le_of_ble_eq_true rfl, Nat.le_of_ble_eq_true rfl⟩) ⟨mp_blR, va_recv hK hP (ci := 1) (q0 := 0) rfl rfl, mp_preR hN hK (hP.sub [0, 1] rfl)⟩ rfl rfl hl.1 rfl (lv_room (Nat.le_of_ble_eq_true rfl)) zd_Fo_wordAt_17 ⟨Nat.zero_le _, Nat.zero_le _⟩) ?_
    have hf := Option.some.inj hf
    subst hf
    exact W.iret (v := y16) hx hb hr (fun t ht hW => ⟨y16, rfl, rfl, ht⟩) (fun q h => by cases h) zd_Fo_wordAt_20
set_option maxHeartbeats 4000000 in
set_option maxRecDepth 100000 in
theorem zc_Fo_joinsTwo (l : Launch) (dC : Nat → ClassId) (dI : Nat → Nat → Nat) (cI cJ cZ : ClassId) (ad : Nat → Nat) (u0 : Int32) (res : Int32) (hf : zf_Fo_joinsTwo u0 = some res) : Met l zy_Fo_joinsTwo zw_Fo_joinsTwo ({ frames := 0, cells := 0, slots := 0, locals := 0 } : Room) (mp_PR (dC, dI) vwCl (mp_tys cI cJ cZ) [] [.int u0]) (vp_Si (fun r => r = res ∧ mp_b res)) 0 0 (fun _ => False) := by
  refine Met.ofW (cc := zb_Fo_joinsTwo) (maxL := 1) (ret := (some .boolean)) (by decide) rfl ?_
  intro p e s m args below meth c s₁ B hml hv
  obtain ⟨rfl, hP, hK, hN⟩ := hv
  have hx := B.exec
  have hb := B.bytes
  have hr := B.returns
  have hts := atoms_spec (ws := zw_Fo_joinsTwo) B.pre
  have hsub : ∀ w ∈ mp_tbl, w ∈ zw_Fo_joinsTwo := fun w h => List.mem_cons_of_mem _ h
  have hw : ∀ w ∈ mp_tbl, w.before _ s = true := fun w h => hts w (hsub w h)
  have hown : s.vm.findClass zR_Fo = some m.cls := findClass_of_methodNamed B.named
  have hlocks := B.notSynchronized
  have hl := lv_entry ([.int u0]) (n := 1) (Nat.le_of_ble_eq_true rfl)
  rw [lg_entry_eq]
  generalize (lg_sl ([.int u0]) ++ List.replicate (1 - (lg_sl ([.int u0])).length) Slot.unset).toArray = ls at hl ⊢
  have hl : lv_has ls 1 [(0, .int u0)] := hl
  unfold zf_Fo_joinsTwo at hf
  refine lv_iload_n hx hb zd_Fo_joinsTwo_0 rfl (lv_at hl 0 rfl) ?_
  refine lv_bipush (v := -7) hx hb zd_Fo_joinsTwo_1 (by decide) ?_
  refine lv_icmp_gt (tgt := 16) hx hb zd_Fo_joinsTwo_3 (by decide) (fun c_1 => ?_) (fun c_1 => ?_)
  · have hf := mp_t c_1 hf
    refine lv_iconst (v := 0) hx hb zd_Fo_joinsTwo_16 (by decide) ?_
    have hf := Option.some.inj hf
    subst hf
    exact W.zret (v := (0 : Int32)) hx hb hr (mp_nz (Or.inl rfl)) (fun t ht hW => ⟨(0 : Int32), rfl, ⟨rfl, (Or.inl rfl)⟩, ht⟩) (fun q h => by cases h) zd_Fo_joinsTwo_17
  · have hf := mp_f c_1 hf
    refine lv_iload_n hx hb zd_Fo_joinsTwo_6 rfl (lv_at hl 0 rfl) ?_
    refine lv_bipush (v := -11) hx hb zd_Fo_joinsTwo_7 (by decide) ?_
    refine lv_icmp_lt (tgt := 16) hx hb zd_Fo_joinsTwo_9 (by decide) (fun c_2 => ?_) (fun c_2 => ?_)
    · have hf := mp_t c_2 hf
      refine lv_iconst (v := 0) hx hb zd_Fo_joinsTwo_16 (by decide) ?_
      have hf := Option.some.inj hf
      subst hf
      exact W.zret (v := (0 : Int32)) hx hb hr (mp_nz (Or.inl rfl)) (fun t ht hW => ⟨(0 : Int32), rfl, ⟨rfl, (Or.inl rfl)⟩, ht⟩) (fun q h => by cases h) zd_Fo_joinsTwo_17
    · have hf := mp_f c_2 hf
      refine lv_iconst (v := 1) hx hb zd_Fo_joinsTwo_12 (by decide) ?_
      refine lv_goto (tgt := 17) hx hb zd_Fo_joinsTwo_13 (by decide) ?_
      have hf := Option.some.inj hf
      subst hf
      exact W.zret (v := (1 : Int32)) hx hb hr (mp_nz (Or.inr rfl)) (fun t ht hW => ⟨(1 : Int32), rfl, ⟨rfl, (Or.inr rfl)⟩, ht⟩) (fun q h => by cases h) zd_Fo_joinsTwo_17
set_option maxHeartbeats 4000000 in
set_option maxRecDepth 100000 in
theorem zc_Fo_takeWord (l : Launch) (dC : Nat → ClassId) (dI : Nat → Nat → Nat) (cI cJ cZ : ClassId) (ad : Nat → Nat) (sz : Nat) (xtl : Int32) (xrc : Int32) (xrd : Int32) (xwc : Int32) (xfr : Nat → Int32) (u1 : Int32) (res : Int32 × Int32 × Int32 × (Nat → Int32)) (hf : zf_Fo_takeWord u1 xrc xrd xfr = some res) : Met l zy_Fo_takeWord zw_Fo_takeWord ({ frames := 1, cells := 0, slots := 0, locals := 20 } : Room) (mp_PM (dC, dI) vwCl (mp_tys cI cJ cZ) [(ad 5, .inr (1, [.ref (ad 20), .ref (ad 21), .ref (ad 22), .ref (ad 23), .int xtl, .int xrc, .int xrd, .int xwc])), (ad 21, .inl (cI, 150, .inl xfr))] sz [.ref (ad 5), .int u1]) (va_Qi (fun r (_ : Unit) => r = res.1 ∧ mp_b res.1) (mp_BM (dC, dI) vwCl [(ad 5, .inr (1, [.ref (ad 20), .ref (ad 21), .ref (ad 22), .ref (ad 23), .int xtl, .int res.2.1, .int res.2.2.1, .int xwc])), (ad 21, .inl (cI, 150, .inl res.2.2.2))] (va_A [(ad 5, .inr (1, [.ref (ad 20), .ref (ad 21), .ref (ad 22), .ref (ad 23), .int xtl, .int xrc, .int xrd, .int xwc])), (ad 21, .inl (cI, 150, .inl xfr))] sz)) (va_A [(ad 5, .inr (1, [.ref (ad 20), .ref (ad 21), .ref (ad 22), .ref (ad 23), .int xtl, .int xrc, .int xrd, .int xwc])), (ad 21, .inl (cI, 150, .inl xfr))] sz)) 0 0 ((va_A [(ad 5, .inr (1, [.ref (ad 20), .ref (ad 21), .ref (ad 22), .ref (ad 23), .int xtl, .int xrc, .int xrd, .int xwc])), (ad 21, .inl (cI, 150, .inl xfr))] sz)) := by
  refine Met.ofW (cc := zb_Fo_takeWord) (maxL := 3) (ret := (some .boolean)) (by decide) rfl ?_
  intro p e s m args below meth c s₁ B hml hv
  obtain ⟨rfl, hsz, hP, hK, hD0, hN⟩ := hv
  have hx := B.exec
  have hb := B.bytes
  have hr := B.returns
  have hts := atoms_spec (ws := zw_Fo_takeWord) B.pre
  have hsub : ∀ w ∈ mp_tbl, w ∈ zw_Fo_takeWord := fun w h => List.mem_cons_of_mem _ h
  have hw : ∀ w ∈ mp_tbl, w.before _ s = true := fun w h => hts w (hsub w h)
  have hown : s.vm.findClass zR_Fo = some m.cls := findClass_of_methodNamed B.named
  have hlocks := B.notSynchronized
  subst hsz
  have hD := hD0.self (sz := s.heap.size)
  generalize hAe : va_A [(ad 5, .inr (1, [.ref (ad 20), .ref (ad 21), .ref (ad 22), .ref (ad 23), .int xtl, .int xrc, .int xrd, .int xwc])), (ad 21, .inl (cI, 150, .inl xfr))] s.heap.size = A at hD ⊢
  have hA : ∀ q : Nat, s.heap.size ≤ q → A q := fun q h => by rw [← hAe]; exact Or.inr h
  have hS : va_S A s.heap s.heap [] := va_S.rf
  have hP : va_P (dC, dI) vwCl [(ad 5, .inr (1, [.ref (ad 20), .ref (ad 21), .ref (ad 22), .ref (ad 23), .int xtl, .int xrc, .int xrd, .int xwc])), (ad 21, .inl (cI, 150, .inl xfr))] s.heap := hP
  clear hAe hD0
  have hl := lv_entry ([.ref (ad 5), .int u1]) (n := 3) (Nat.le_of_ble_eq_true rfl)
  rw [lg_entry_eq]
  generalize (lg_sl ([.ref (ad 5), .int u1]) ++ List.replicate (3 - (lg_sl ([.ref (ad 5), .int u1])).length) Slot.unset).toArray = ls at hl ⊢
  have hl : lv_has ls 3 [(0, .ref (ad 5)), (1, .int u1)] := hl
  unfold zf_Fo_takeWord at hf
  refine lv_iload_n hx hb zd_Fo_takeWord_0 rfl (lv_at hl 1 rfl) ?_
  obtain ⟨y1, hg1, hf⟩ := mp_bd hf
  refine mp_Rz (va_runS (As := [.int u1]) (rest := []) ⟨hx, hb, hml, hown, hts⟩ (zc_Fo_joinsTwo l dC dI cI cJ cZ ad u1 y1 hg1) (va_cwS 1 hts (mp_gS hsub zq_358 zq_359 zq_29 zq_360) rfl rfl rfl (by decide +kernel) ⟨Nat.le_of_ble_eq_true rfl, Nat.le_of_ble_eq_true rfl⟩) ⟨mp_blR, mp_preR hN hK (hP.sub [] rfl)⟩ rfl rfl hl.1 rfl (lv_room (Nat.le_of_ble_eq_true rfl)) zd_Fo_takeWord_1 ⟨Nat.zero_le _, Nat.zero_le _⟩) (fun hz1 => ?_)
  refine lv_istore_n (lv' := [(2, .int y1), (0, .ref (ad 5)), (1, .int u1)]) hx hb zd_Fo_takeWord_4 rfl hl (by decide) rfl (fun ls hl => ?_)
  refine lv_iload_n hx hb zd_Fo_takeWord_5 rfl (lv_at hl 2 rfl) ?_
  refine lv_bipush (v := -12) hx hb zd_Fo_takeWord_6 (by decide) ?_
  refine lv_icmp_eq (tgt := 33) hx hb zd_Fo_takeWord_8 (by decide) (fun c_2 => ?_) (fun c_2 => ?_)
  · have hf := mp_t c_2 hf
    refine lv_iconst (v := 0) hx hb zd_Fo_takeWord_33 (by decide) ?_
    have hf := Option.some.inj hf
    subst hf
    exact W.zret (v := (0 : Int32)) hx hb hr (mp_nz (Or.inl rfl)) (fun t ht hW => ⟨⟨(0 : Int32), (), rfl, ⟨rfl, (Or.inl rfl)⟩, by rw [ht]; exact hP, hD⟩, hS.F ht⟩) hS.2.2 zd_Fo_takeWord_34
  · have hf := mp_f c_2 hf
    refine lv_iload_n hx hb zd_Fo_takeWord_11 rfl (lv_at hl 0 rfl) ?_
    refine lv_if_eq (tgt := 23) hx hb zd_Fo_takeWord_12 (by decide) (fun c_3 => ?_) (fun c_3 => ?_)
    · have hf := mp_t c_3 hf
      refine lv_aload_n hx hb zd_Fo_takeWord_23 rfl (lv_at hl 1 rfl) ?_
      refine va_get (D := (dC, dI)) (ci := 1) (v := .int xrc) (C := zR_Fo) (T := zT_Fo) (N := 8) hx hb hts (fun w h => hsub w (zi_Fo w h)) hown hK hP 0 rfl rfl 5 (by decide) (hw _ zq_132) (fun _ h9 => h9) rfl zd_Fo_takeWord_24 ?_
      refine lv_sipush (v := 150) hx hb zd_Fo_takeWord_27 (by decide) ?_
      refine lv_icmp_lt (tgt := 35) hx hb zd_Fo_takeWord_30 (by decide) (fun c_4 => ?_) (fun c_4 => ?_)
      · have hf := mp_t c_4 hf
        refine lv_aload_n hx hb zd_Fo_takeWord_35 rfl (lv_at hl 1 rfl) ?_
        refine va_get (D := (dC, dI)) (ci := 1) (v := .ref (ad 21)) (C := zR_Fo) (T := zT_Fo) (N := 8) hx hb hts (fun w h => hsub w (zi_Fo w h)) hown hK hP 0 rfl rfl 1 (by decide) (hw _ zq_128) (fun _ h9 => h9) rfl zd_Fo_takeWord_36 ?_
        refine lv_aload_n hx hb zd_Fo_takeWord_39 rfl (lv_at hl 1 rfl) ?_
        refine va_get (D := (dC, dI)) (ci := 1) (v := .int xrc) (C := zR_Fo) (T := zT_Fo) (N := 8) hx hb hts (fun w h => hsub w (zi_Fo w h)) hown hK hP 0 rfl rfl 5 (by decide) (hw _ zq_132) (fun _ h9 => h9) rfl zd_Fo_takeWord_40 ?_
        refine lv_iload_n hx hb zd_Fo_takeWord_43 rfl (lv_at hl 2 rfl) ?_
        obtain ⟨h_5, hf⟩ := mp_in hf
        refine va_iast hx hb hK hP hD hS 1 0 rfl rfl (i := xrc) (x := u1) h_5 zd_Fo_takeWord_44 (fun H locs hP hD hS => ?_)
        have hP : va_P (dC, dI) vwCl [(ad 5, .inr (1, [.ref (ad 20), .ref (ad 21), .ref (ad 22), .ref (ad 23), .int xtl, .int xrc, .int xrd, .int xwc])), (ad 21, .inl (cI, 150, .inl (upd xfr xrc.toNatClampNeg u1)))] H := hP
        have hD : va_D A [(ad 5, .inr (1, [.ref (ad 20), .ref (ad 21), .ref (ad 22), .ref (ad 23), .int xtl, .int xrc, .int xrd, .int xwc])), (ad 21, .inl (cI, 150, .inl (upd xfr xrc.toNatClampNeg u1)))] := hD
        refine lv_aload_n hx hb zd_Fo_takeWord_45 rfl (lv_at hl 1 rfl) ?_
        refine lv_dup hx hb zd_Fo_takeWord_46 rfl ?_
        refine va_get (D := (dC, dI)) (ci := 1) (v := .int xrc) (C := zR_Fo) (T := zT_Fo) (N := 8) hx hb hts (fun w h => hsub w (zi_Fo w h)) hown hK hP 0 rfl rfl 5 (by decide) (hw _ zq_132) (fun _ h9 => h9) rfl zd_Fo_takeWord_47 ?_
        refine lv_iconst (v := 1) hx hb zd_Fo_takeWord_50 (by decide) ?_
        refine lv_iadd hx hb zd_Fo_takeWord_51 ?_
        refine va_put (D := (dC, dI)) (ci := 1) (v := .int (xrc + (1 : Int32))) (ty := .int) (C := zR_Fo) (T := zT_Fo) (N := 8) hx hb hts (fun w h => hsub w (zi_Fo w h)) zt_Fo zt_Fo_ok zn_Fo hown hK hP hD hS 0 rfl rfl 5 (by decide) (hw _ zq_132) (fun _ h9 => h9) rfl (by decide +kernel) rfl rfl (Nat.le_of_ble_eq_true rfl) zd_Fo_takeWord_52 (fun H locs hP hD hS => ?_)
        have hP : va_P (dC, dI) vwCl [(ad 5, .inr (1, [.ref (ad 20), .ref (ad 21), .ref (ad 22), .ref (ad 23), .int xtl, .int (xrc + (1 : Int32)), .int xrd, .int xwc])), (ad 21, .inl (cI, 150, .inl (upd xfr xrc.toNatClampNeg u1)))] H := hP
        have hD : va_D A [(ad 5, .inr (1, [.ref (ad 20), .ref (ad 21), .ref (ad 22), .ref (ad 23), .int xtl, .int (xrc + (1 : Int32)), .int xrd, .int xwc])), (ad 21, .inl (cI, 150, .inl (upd xfr xrc.toNatClampNeg u1)))] := hD
        refine lv_aload_n hx hb zd_Fo_takeWord_55 rfl (lv_at hl 1 rfl) ?_
        refine lv_dup hx hb zd_Fo_takeWord_56 rfl ?_
        refine va_get (D := (dC, dI)) (ci := 1) (v := .int xrd) (C := zR_Fo) (T := zT_Fo) (N := 8) hx hb hts (fun w h => hsub w (zi_Fo w h)) hown hK hP 0 rfl rfl 6 (by decide) (hw _ zq_133) (fun _ h9 => h9) rfl zd_Fo_takeWord_57 ?_
        refine lv_iload_n hx hb zd_Fo_takeWord_60 rfl (lv_at hl 0 rfl) ?_
        refine lv_if_eq (tgt := 68) hx hb zd_Fo_takeWord_61 (by decide) (fun c_6 => ?_) (fun c_6 => ?_)
        · have hf := mp_t c_6 hf
          refine lv_iconst (v := 1) hx hb zd_Fo_takeWord_68 (by decide) ?_
          refine lv_iadd hx hb zd_Fo_takeWord_69 ?_
          refine va_put (D := (dC, dI)) (ci := 1) (v := .int (xrd + (1 : Int32))) (ty := .int) (C := zR_Fo) (T := zT_Fo) (N := 8) hx hb hts (fun w h => hsub w (zi_Fo w h)) zt_Fo zt_Fo_ok zn_Fo hown hK hP hD hS 0 rfl rfl 6 (by decide) (hw _ zq_133) (fun _ h9 => h9) rfl (by decide +kernel) rfl rfl (Nat.le_of_ble_eq_true rfl) zd_Fo_takeWord_70 (fun H locs hP hD hS => ?_)
          have hP : va_P (dC, dI) vwCl [(ad 5, .inr (1, [.ref (ad 20), .ref (ad 21), .ref (ad 22), .ref (ad 23), .int xtl, .int (xrc + (1 : Int32)), .int (xrd + (1 : Int32)), .int xwc])), (ad 21, .inl (cI, 150, .inl (upd xfr xrc.toNatClampNeg u1)))] H := hP
          have hD : va_D A [(ad 5, .inr (1, [.ref (ad 20), .ref (ad 21), .ref (ad 22), .ref (ad 23), .int xtl, .int (xrc + (1 : Int32)), .int (xrd + (1 : Int32)), .int xwc])), (ad 21, .inl (cI, 150, .inl (upd xfr xrc.toNatClampNeg u1)))] := hD
          refine lv_iconst (v := 1) hx hb zd_Fo_takeWord_73 (by decide) ?_
          have hf := Option.some.inj hf
          subst hf
          exact W.zret (v := (1 : Int32)) hx hb hr (mp_nz (Or.inr rfl)) (fun t ht hW => ⟨⟨(1 : Int32), (), rfl, ⟨rfl, (Or.inr rfl)⟩, by rw [ht]; exact hP, hD⟩, hS.F ht⟩) hS.2.2 zd_Fo_takeWord_74
        · have hf := mp_f c_6 hf
          refine lv_iconst (v := -1) hx hb zd_Fo_takeWord_64 (by decide) ?_
          refine lv_goto (tgt := 69) hx hb zd_Fo_takeWord_65 (by decide) ?_
          refine lv_iadd hx hb zd_Fo_takeWord_69 ?_
          refine va_put (D := (dC, dI)) (ci := 1) (v := .int (xrd + (-1 : Int32))) (ty := .int) (C := zR_Fo) (T := zT_Fo) (N := 8) hx hb hts (fun w h => hsub w (zi_Fo w h)) zt_Fo zt_Fo_ok zn_Fo hown hK hP hD hS 0 rfl rfl 6 (by decide) (hw _ zq_133) (fun _ h9 => h9) rfl (by decide +kernel) rfl rfl (Nat.le_of_ble_eq_true rfl) zd_Fo_takeWord_70 (fun H locs hP hD hS => ?_)
          have hP : va_P (dC, dI) vwCl [(ad 5, .inr (1, [.ref (ad 20), .ref (ad 21), .ref (ad 22), .ref (ad 23), .int xtl, .int (xrc + (1 : Int32)), .int (xrd + (-1 : Int32)), .int xwc])), (ad 21, .inl (cI, 150, .inl (upd xfr xrc.toNatClampNeg u1)))] H := hP
          have hD : va_D A [(ad 5, .inr (1, [.ref (ad 20), .ref (ad 21), .ref (ad 22), .ref (ad 23), .int xtl, .int (xrc + (1 : Int32)), .int (xrd + (-1 : Int32)), .int xwc])), (ad 21, .inl (cI, 150, .inl (upd xfr xrc.toNatClampNeg u1)))] := hD
          refine lv_iconst (v := 1) hx hb zd_Fo_takeWord_73 (by decide) ?_
          have hf := Option.some.inj hf
          subst hf
          exact W.zret (v := (1 : Int32)) hx hb hr (mp_nz (Or.inr rfl)) (fun t ht hW => ⟨⟨(1 : Int32), (), rfl, ⟨rfl, (Or.inr rfl)⟩, by rw [ht]; exact hP, hD⟩, hS.F ht⟩) hS.2.2 zd_Fo_takeWord_74
      · have hf := mp_f c_4 hf
        refine lv_iconst (v := 0) hx hb zd_Fo_takeWord_33 (by decide) ?_
        have hf := Option.some.inj hf
        subst hf
        exact W.zret (v := (0 : Int32)) hx hb hr (mp_nz (Or.inl rfl)) (fun t ht hW => ⟨⟨(0 : Int32), (), rfl, ⟨rfl, (Or.inl rfl)⟩, by rw [ht]; exact hP, hD⟩, hS.F ht⟩) hS.2.2 zd_Fo_takeWord_34
    · have hf := mp_f c_3 hf
      refine lv_aload_n hx hb zd_Fo_takeWord_15 rfl (lv_at hl 1 rfl) ?_
      refine va_get (D := (dC, dI)) (ci := 1) (v := .int xrd) (C := zR_Fo) (T := zT_Fo) (N := 8) hx hb hts (fun w h => hsub w (zi_Fo w h)) hown hK hP 0 rfl rfl 6 (by decide) (hw _ zq_133) (fun _ h9 => h9) rfl zd_Fo_takeWord_16 ?_
      refine lv_iconst (v := 2) hx hb zd_Fo_takeWord_19 (by decide) ?_
      refine lv_icmp_lt (tgt := 33) hx hb zd_Fo_takeWord_20 (by decide) (fun c_7 => ?_) (fun c_7 => ?_)
      · have hf := mp_t c_7 hf
        refine lv_iconst (v := 0) hx hb zd_Fo_takeWord_33 (by decide) ?_
        have hf := Option.some.inj hf
        subst hf
        exact W.zret (v := (0 : Int32)) hx hb hr (mp_nz (Or.inl rfl)) (fun t ht hW => ⟨⟨(0 : Int32), (), rfl, ⟨rfl, (Or.inl rfl)⟩, by rw [ht]; exact hP, hD⟩, hS.F ht⟩) hS.2.2 zd_Fo_takeWord_34
      · have hf := mp_f c_7 hf
        refine lv_aload_n hx hb zd_Fo_takeWord_23 rfl (lv_at hl 1 rfl) ?_
        refine va_get (D := (dC, dI)) (ci := 1) (v := .int xrc) (C := zR_Fo) (T := zT_Fo) (N := 8) hx hb hts (fun w h => hsub w (zi_Fo w h)) hown hK hP 0 rfl rfl 5 (by decide) (hw _ zq_132) (fun _ h9 => h9) rfl zd_Fo_takeWord_24 ?_
        refine lv_sipush (v := 150) hx hb zd_Fo_takeWord_27 (by decide) ?_
        refine lv_icmp_lt (tgt := 35) hx hb zd_Fo_takeWord_30 (by decide) (fun c_8 => ?_) (fun c_8 => ?_)
        · have hf := mp_t c_8 hf
          refine lv_aload_n hx hb zd_Fo_takeWord_35 rfl (lv_at hl 1 rfl) ?_
          refine va_get (D := (dC, dI)) (ci := 1) (v := .ref (ad 21)) (C := zR_Fo) (T := zT_Fo) (N := 8) hx hb hts (fun w h => hsub w (zi_Fo w h)) hown hK hP 0 rfl rfl 1 (by decide) (hw _ zq_128) (fun _ h9 => h9) rfl zd_Fo_takeWord_36 ?_
          refine lv_aload_n hx hb zd_Fo_takeWord_39 rfl (lv_at hl 1 rfl) ?_
          refine va_get (D := (dC, dI)) (ci := 1) (v := .int xrc) (C := zR_Fo) (T := zT_Fo) (N := 8) hx hb hts (fun w h => hsub w (zi_Fo w h)) hown hK hP 0 rfl rfl 5 (by decide) (hw _ zq_132) (fun _ h9 => h9) rfl zd_Fo_takeWord_40 ?_
          refine lv_iload_n hx hb zd_Fo_takeWord_43 rfl (lv_at hl 2 rfl) ?_
          obtain ⟨h_9, hf⟩ := mp_in hf
          refine va_iast hx hb hK hP hD hS 1 0 rfl rfl (i := xrc) (x := u1) h_9 zd_Fo_takeWord_44 (fun H locs hP hD hS => ?_)
          have hP : va_P (dC, dI) vwCl [(ad 5, .inr (1, [.ref (ad 20), .ref (ad 21), .ref (ad 22), .ref (ad 23), .int xtl, .int xrc, .int xrd, .int xwc])), (ad 21, .inl (cI, 150, .inl (upd xfr xrc.toNatClampNeg u1)))] H := hP
          have hD : va_D A [(ad 5, .inr (1, [.ref (ad 20), .ref (ad 21), .ref (ad 22), .ref (ad 23), .int xtl, .int xrc, .int xrd, .int xwc])), (ad 21, .inl (cI, 150, .inl (upd xfr xrc.toNatClampNeg u1)))] := hD
          refine lv_aload_n hx hb zd_Fo_takeWord_45 rfl (lv_at hl 1 rfl) ?_
          refine lv_dup hx hb zd_Fo_takeWord_46 rfl ?_
          refine va_get (D := (dC, dI)) (ci := 1) (v := .int xrc) (C := zR_Fo) (T := zT_Fo) (N := 8) hx hb hts (fun w h => hsub w (zi_Fo w h)) hown hK hP 0 rfl rfl 5 (by decide) (hw _ zq_132) (fun _ h9 => h9) rfl zd_Fo_takeWord_47 ?_
          refine lv_iconst (v := 1) hx hb zd_Fo_takeWord_50 (by decide) ?_
          refine lv_iadd hx hb zd_Fo_takeWord_51 ?_
          refine va_put (D := (dC, dI)) (ci := 1) (v := .int (xrc + (1 : Int32))) (ty := .int) (C := zR_Fo) (T := zT_Fo) (N := 8) hx hb hts (fun w h => hsub w (zi_Fo w h)) zt_Fo zt_Fo_ok zn_Fo hown hK hP hD hS 0 rfl rfl 5 (by decide) (hw _ zq_132) (fun _ h9 => h9) rfl (by decide +kernel) rfl rfl (Nat.le_of_ble_eq_true rfl) zd_Fo_takeWord_52 (fun H locs hP hD hS => ?_)
          have hP : va_P (dC, dI) vwCl [(ad 5, .inr (1, [.ref (ad 20), .ref (ad 21), .ref (ad 22), .ref (ad 23), .int xtl, .int (xrc + (1 : Int32)), .int xrd, .int xwc])), (ad 21, .inl (cI, 150, .inl (upd xfr xrc.toNatClampNeg u1)))] H := hP
          have hD : va_D A [(ad 5, .inr (1, [.ref (ad 20), .ref (ad 21), .ref (ad 22), .ref (ad 23), .int xtl, .int (xrc + (1 : Int32)), .int xrd, .int xwc])), (ad 21, .inl (cI, 150, .inl (upd xfr xrc.toNatClampNeg u1)))] := hD
          refine lv_aload_n hx hb zd_Fo_takeWord_55 rfl (lv_at hl 1 rfl) ?_
          refine lv_dup hx hb zd_Fo_takeWord_56 rfl ?_
          refine va_get (D := (dC, dI)) (ci := 1) (v := .int xrd) (C := zR_Fo) (T := zT_Fo) (N := 8) hx hb hts (fun w h => hsub w (zi_Fo w h)) hown hK hP 0 rfl rfl 6 (by decide) (hw _ zq_133) (fun _ h9 => h9) rfl zd_Fo_takeWord_57 ?_
          refine lv_iload_n hx hb zd_Fo_takeWord_60 rfl (lv_at hl 0 rfl) ?_
          refine lv_if_eq (tgt := 68) hx hb zd_Fo_takeWord_61 (by decide) (fun c_10 => ?_) (fun c_10 => ?_)
          · have hf := mp_t c_10 hf
            refine lv_iconst (v := 1) hx hb zd_Fo_takeWord_68 (by decide) ?_
            refine lv_iadd hx hb zd_Fo_takeWord_69 ?_
            refine va_put (D := (dC, dI)) (ci := 1) (v := .int (xrd + (1 : Int32))) (ty := .int) (C := zR_Fo) (T := zT_Fo) (N := 8) hx hb hts (fun w h => hsub w (zi_Fo w h)) zt_Fo zt_Fo_ok zn_Fo hown hK hP hD hS 0 rfl rfl 6 (by decide) (hw _ zq_133) (fun _ h9 => h9) rfl (by decide +kernel) rfl rfl (Nat.le_of_ble_eq_true rfl) zd_Fo_takeWord_70 (fun H locs hP hD hS => ?_)
            have hP : va_P (dC, dI) vwCl [(ad 5, .inr (1, [.ref (ad 20), .ref (ad 21), .ref (ad 22), .ref (ad 23), .int xtl, .int (xrc + (1 : Int32)), .int (xrd + (1 : Int32)), .int xwc])), (ad 21, .inl (cI, 150, .inl (upd xfr xrc.toNatClampNeg u1)))] H := hP
            have hD : va_D A [(ad 5, .inr (1, [.ref (ad 20), .ref (ad 21), .ref (ad 22), .ref (ad 23), .int xtl, .int (xrc + (1 : Int32)), .int (xrd + (1 : Int32)), .int xwc])), (ad 21, .inl (cI, 150, .inl (upd xfr xrc.toNatClampNeg u1)))] := hD
            refine lv_iconst (v := 1) hx hb zd_Fo_takeWord_73 (by decide) ?_
            have hf := Option.some.inj hf
            subst hf
            exact W.zret (v := (1 : Int32)) hx hb hr (mp_nz (Or.inr rfl)) (fun t ht hW => ⟨⟨(1 : Int32), (), rfl, ⟨rfl, (Or.inr rfl)⟩, by rw [ht]; exact hP, hD⟩, hS.F ht⟩) hS.2.2 zd_Fo_takeWord_74
          · have hf := mp_f c_10 hf
            refine lv_iconst (v := -1) hx hb zd_Fo_takeWord_64 (by decide) ?_
            refine lv_goto (tgt := 69) hx hb zd_Fo_takeWord_65 (by decide) ?_
            refine lv_iadd hx hb zd_Fo_takeWord_69 ?_
            refine va_put (D := (dC, dI)) (ci := 1) (v := .int (xrd + (-1 : Int32))) (ty := .int) (C := zR_Fo) (T := zT_Fo) (N := 8) hx hb hts (fun w h => hsub w (zi_Fo w h)) zt_Fo zt_Fo_ok zn_Fo hown hK hP hD hS 0 rfl rfl 6 (by decide) (hw _ zq_133) (fun _ h9 => h9) rfl (by decide +kernel) rfl rfl (Nat.le_of_ble_eq_true rfl) zd_Fo_takeWord_70 (fun H locs hP hD hS => ?_)
            have hP : va_P (dC, dI) vwCl [(ad 5, .inr (1, [.ref (ad 20), .ref (ad 21), .ref (ad 22), .ref (ad 23), .int xtl, .int (xrc + (1 : Int32)), .int (xrd + (-1 : Int32)), .int xwc])), (ad 21, .inl (cI, 150, .inl (upd xfr xrc.toNatClampNeg u1)))] H := hP
            have hD : va_D A [(ad 5, .inr (1, [.ref (ad 20), .ref (ad 21), .ref (ad 22), .ref (ad 23), .int xtl, .int (xrc + (1 : Int32)), .int (xrd + (-1 : Int32)), .int xwc])), (ad 21, .inl (cI, 150, .inl (upd xfr xrc.toNatClampNeg u1)))] := hD
            refine lv_iconst (v := 1) hx hb zd_Fo_takeWord_73 (by decide) ?_
            have hf := Option.some.inj hf
            subst hf
            exact W.zret (v := (1 : Int32)) hx hb hr (mp_nz (Or.inr rfl)) (fun t ht hW => ⟨⟨(1 : Int32), (), rfl, ⟨rfl, (Or.inr rfl)⟩, by rw [ht]; exact hP, hD⟩, hS.F ht⟩) hS.2.2 zd_Fo_takeWord_74
        · have hf := mp_f c_8 hf
          refine lv_iconst (v := 0) hx hb zd_Fo_takeWord_33 (by decide) ?_
          have hf := Option.some.inj hf
          subst hf
          exact W.zret (v := (0 : Int32)) hx hb hr (mp_nz (Or.inl rfl)) (fun t ht hW => ⟨⟨(0 : Int32), (), rfl, ⟨rfl, (Or.inl rfl)⟩, by rw [ht]; exact hP, hD⟩, hS.F ht⟩) hS.2.2 zd_Fo_takeWord_34
set_option maxHeartbeats 4000000 in
set_option maxRecDepth 100000 in
theorem zc_Fo_isGap (l : Launch) (dC : Nat → ClassId) (dI : Nat → Nat → Nat) (cI cJ cZ : ClassId) (ad : Nat → Nat) (u0 : Int32) (res : Int32) (hf : zf_Fo_isGap u0 = some res) : Met l zy_Fo_isGap zw_Fo_isGap ({ frames := 0, cells := 0, slots := 0, locals := 0 } : Room) (mp_PR (dC, dI) vwCl (mp_tys cI cJ cZ) [] [.int u0]) (vp_Si (fun r => r = res ∧ mp_b res)) 0 0 (fun _ => False) := by
  refine Met.ofW (cc := zb_Fo_isGap) (maxL := 1) (ret := (some .boolean)) (by decide) rfl ?_
  intro p e s m args below meth c s₁ B hml hv
  obtain ⟨rfl, hP, hK, hN⟩ := hv
  have hx := B.exec
  have hb := B.bytes
  have hr := B.returns
  have hts := atoms_spec (ws := zw_Fo_isGap) B.pre
  have hsub : ∀ w ∈ mp_tbl, w ∈ zw_Fo_isGap := fun w h => List.mem_cons_of_mem _ h
  have hw : ∀ w ∈ mp_tbl, w.before _ s = true := fun w h => hts w (hsub w h)
  have hown : s.vm.findClass zR_Fo = some m.cls := findClass_of_methodNamed B.named
  have hlocks := B.notSynchronized
  have hl := lv_entry ([.int u0]) (n := 1) (Nat.le_of_ble_eq_true rfl)
  rw [lg_entry_eq]
  generalize (lg_sl ([.int u0]) ++ List.replicate (1 - (lg_sl ([.int u0])).length) Slot.unset).toArray = ls at hl ⊢
  have hl : lv_has ls 1 [(0, .int u0)] := hl
  unfold zf_Fo_isGap at hf
  refine lv_iload_n hx hb zd_Fo_isGap_0 rfl (lv_at hl 0 rfl) ?_
  refine lv_bipush (v := 32) hx hb zd_Fo_isGap_1 (by decide) ?_
  refine lv_icmp_eq (tgt := 12) hx hb zd_Fo_isGap_3 (by decide) (fun c_1 => ?_) (fun c_1 => ?_)
  · have hf := mp_t c_1 hf
    refine lv_iconst (v := 1) hx hb zd_Fo_isGap_12 (by decide) ?_
    refine lv_goto (tgt := 17) hx hb zd_Fo_isGap_13 (by decide) ?_
    have hf := Option.some.inj hf
    subst hf
    exact W.zret (v := (1 : Int32)) hx hb hr (mp_nz (Or.inr rfl)) (fun t ht hW => ⟨(1 : Int32), rfl, ⟨rfl, (Or.inr rfl)⟩, ht⟩) (fun q h => by cases h) zd_Fo_isGap_17
  · have hf := mp_f c_1 hf
    refine lv_iload_n hx hb zd_Fo_isGap_6 rfl (lv_at hl 0 rfl) ?_
    refine lv_bipush (v := 10) hx hb zd_Fo_isGap_7 (by decide) ?_
    refine lv_icmp_ne (tgt := 16) hx hb zd_Fo_isGap_9 (by decide) (fun c_2 => ?_) (fun c_2 => ?_)
    · have hf := mp_f c_2 hf
      refine lv_iconst (v := 0) hx hb zd_Fo_isGap_16 (by decide) ?_
      have hf := Option.some.inj hf
      subst hf
      exact W.zret (v := (0 : Int32)) hx hb hr (mp_nz (Or.inl rfl)) (fun t ht hW => ⟨(0 : Int32), rfl, ⟨rfl, (Or.inl rfl)⟩, ht⟩) (fun q h => by cases h) zd_Fo_isGap_17
    · have hf := mp_t c_2 hf
      refine lv_iconst (v := 1) hx hb zd_Fo_isGap_12 (by decide) ?_
      refine lv_goto (tgt := 17) hx hb zd_Fo_isGap_13 (by decide) ?_
      have hf := Option.some.inj hf
      subst hf
      exact W.zret (v := (1 : Int32)) hx hb hr (mp_nz (Or.inr rfl)) (fun t ht hW => ⟨(1 : Int32), rfl, ⟨rfl, (Or.inr rfl)⟩, ht⟩) (fun q h => by cases h) zd_Fo_isGap_17
set_option maxHeartbeats 4000000 in
set_option maxRecDepth 100000 in
theorem zc_Fo_readText (l : Launch) (dC : Nat → ClassId) (dI : Nat → Nat → Nat) (cI cJ cZ : ClassId) (ad : Nat → Nat) (sz : Nat) (xtl : Int32) (xrc : Int32) (xrd : Int32) (xwc : Int32) (xft : Nat → Int32) (xfr : Nat → Int32) (xfw : Nat → Int32) (res : Int32 × Int32 × Int32 × Int32 × Int32 × (Nat → Int32) × (Nat → Int32)) (hf : zf_Fo_readText xtl xrc xrd xwc xft xfr xfw = some res) : Met l zy_Fo_readText zw_Fo_readText ({ frames := 3, cells := 0, slots := 0, locals := 67 } : Room) (mp_PM (dC, dI) vwCl (mp_tys cI cJ cZ) [(ad 5, .inr (1, [.ref (ad 20), .ref (ad 21), .ref (ad 22), .ref (ad 23), .int xtl, .int xrc, .int xrd, .int xwc])), (ad 20, .inl (cI, 300, .inl xft)), (ad 21, .inl (cI, 150, .inl xfr)), (ad 22, .inl (cI, 150, .inl xfw))] sz [.ref (ad 5)]) (va_Qi (fun r (_ : Unit) => r = res.1) (mp_BM (dC, dI) vwCl [(ad 5, .inr (1, [.ref (ad 20), .ref (ad 21), .ref (ad 22), .ref (ad 23), .int res.2.1, .int res.2.2.1, .int res.2.2.2.1, .int res.2.2.2.2.1])), (ad 20, .inl (cI, 300, .inl xft)), (ad 21, .inl (cI, 150, .inl res.2.2.2.2.2.1)), (ad 22, .inl (cI, 150, .inl res.2.2.2.2.2.2))] (va_A [(ad 5, .inr (1, [.ref (ad 20), .ref (ad 21), .ref (ad 22), .ref (ad 23), .int xtl, .int xrc, .int xrd, .int xwc])), (ad 20, .inl (cI, 300, .inl xft)), (ad 21, .inl (cI, 150, .inl xfr)), (ad 22, .inl (cI, 150, .inl xfw))] sz)) (va_A [(ad 5, .inr (1, [.ref (ad 20), .ref (ad 21), .ref (ad 22), .ref (ad 23), .int xtl, .int xrc, .int xrd, .int xwc])), (ad 20, .inl (cI, 300, .inl xft)), (ad 21, .inl (cI, 150, .inl xfr)), (ad 22, .inl (cI, 150, .inl xfw))] sz)) 0 0 ((va_A [(ad 5, .inr (1, [.ref (ad 20), .ref (ad 21), .ref (ad 22), .ref (ad 23), .int xtl, .int xrc, .int xrd, .int xwc])), (ad 20, .inl (cI, 300, .inl xft)), (ad 21, .inl (cI, 150, .inl xfr)), (ad 22, .inl (cI, 150, .inl xfw))] sz)) := by
  refine Met.ofW (cc := zb_Fo_readText) (maxL := 4) (ret := (some .int)) (by decide) rfl ?_
  intro p e s m args below meth c s₁ B hml hv
  obtain ⟨rfl, hsz, hP, hK, hD0, hN⟩ := hv
  have hx := B.exec
  have hb := B.bytes
  have hr := B.returns
  have hts := atoms_spec (ws := zw_Fo_readText) B.pre
  have hsub : ∀ w ∈ mp_tbl, w ∈ zw_Fo_readText := fun w h => List.mem_cons_of_mem _ h
  have hw : ∀ w ∈ mp_tbl, w.before _ s = true := fun w h => hts w (hsub w h)
  have hown : s.vm.findClass zR_Fo = some m.cls := findClass_of_methodNamed B.named
  have hlocks := B.notSynchronized
  subst hsz
  have hD := hD0.self (sz := s.heap.size)
  generalize hAe : va_A [(ad 5, .inr (1, [.ref (ad 20), .ref (ad 21), .ref (ad 22), .ref (ad 23), .int xtl, .int xrc, .int xrd, .int xwc])), (ad 20, .inl (cI, 300, .inl xft)), (ad 21, .inl (cI, 150, .inl xfr)), (ad 22, .inl (cI, 150, .inl xfw))] s.heap.size = A at hD ⊢
  have hA : ∀ q : Nat, s.heap.size ≤ q → A q := fun q h => by rw [← hAe]; exact Or.inr h
  have hS : va_S A s.heap s.heap [] := va_S.rf
  have hP : va_P (dC, dI) vwCl [(ad 5, .inr (1, [.ref (ad 20), .ref (ad 21), .ref (ad 22), .ref (ad 23), .int xtl, .int xrc, .int xrd, .int xwc])), (ad 20, .inl (cI, 300, .inl xft)), (ad 21, .inl (cI, 150, .inl xfr)), (ad 22, .inl (cI, 150, .inl xfw))] s.heap := hP
  clear hAe hD0
  have loop24 : ∀ (v1 : Int32) (xtl : Int32) (xwc : Int32) (xfw : Nat → Int32) (n : Nat) (v2 : Int32) (v3 : Int32) (xrc : Int32) (xrd : Int32) (xfr : Nat → Int32) (H : Heap) (locs : List Loc) (ls : Array Slot), zf_Fo_readText_L24 v1 xtl xwc xfw xft n v2 v3 xrc xrd xfr = some res → va_P (dC, dI) vwCl [(ad 5, .inr (1, [.ref (ad 20), .ref (ad 21), .ref (ad 22), .ref (ad 23), .int xtl, .int xrc, .int xrd, .int xwc])), (ad 20, .inl (cI, 300, .inl xft)), (ad 21, .inl (cI, 150, .inl xfr)), (ad 22, .inl (cI, 150, .inl xfw))] H → va_D A [(ad 5, .inr (1, [.ref (ad 20), .ref (ad 21), .ref (ad 22), .ref (ad 23), .int xtl, .int xrc, .int xrd, .int xwc])), (ad 20, .inl (cI, 300, .inl xft)), (ad 21, .inl (cI, 150, .inl xfr)), (ad 22, .inl (cI, 150, .inl xfw))] → va_S A s.heap H locs → lv_has ls 4 [(0, .ref (ad 5)), (1, .int v1), (2, .int v2), (3, .int v3)] → W p l e (headSpec zw_Fo_readText ({ frames := 3, cells := 0, slots := 0, locals := 67 } : Room)).room s m ([.ref (ad 5)] : List Value).toArray below meth c H locs 0 0 (MQ below (va_Qi (fun r (_ : Unit) => r = res.1) (mp_BM (dC, dI) vwCl [(ad 5, .inr (1, [.ref (ad 20), .ref (ad 21), .ref (ad 22), .ref (ad 23), .int res.2.1, .int res.2.2.1, .int res.2.2.2.1, .int res.2.2.2.2.1])), (ad 20, .inl (cI, 300, .inl xft)), (ad 21, .inl (cI, 150, .inl res.2.2.2.2.2.1)), (ad 22, .inl (cI, 150, .inl res.2.2.2.2.2.2))] A) A) ([.ref (ad 5)] : List Value).toArray s 0 0 (A)) (F0 m 24 ls []) := by
    intro v1 xtl xwc xfw n
    induction n with
    | zero => intro v2 v3 xrc xrd xfr H locs ls hf; simp [zf_Fo_readText_L24] at hf
    | succ n ih =>
      intro v2 v3 xrc xrd xfr H locs ls hf hP hD hS hl
      rw [zf_Fo_readText_L24] at hf
      refine lv_iload_n hx hb zd_Fo_readText_24 rfl (lv_at hl 3 rfl) ?_
      refine lv_iload_n hx hb zd_Fo_readText_25 rfl (lv_at hl 1 rfl) ?_
      refine lv_icmp_gt (tgt := 81) hx hb zd_Fo_readText_26 (by decide) (fun c_1 => ?_) (fun c_1 => ?_)
      · have hf := mp_t c_1 hf
        refine lv_aload_n hx hb zd_Fo_readText_81 rfl (lv_at hl 0 rfl) ?_
        refine va_get (D := (dC, dI)) (ci := 1) (v := .int xrd) (C := zR_Fo) (T := zT_Fo) (N := 8) hx hb hts (fun w h => hsub w (zi_Fo w h)) hown hK hP 0 rfl rfl 6 (by decide) (hw _ zq_133) (fun _ h9 => h9) rfl zd_Fo_readText_82 ?_
        refine lv_iconst (v := 1) hx hb zd_Fo_readText_85 (by decide) ?_
        refine lv_icmp_eq (tgt := 96) hx hb zd_Fo_readText_86 (by decide) (fun c_2 => ?_) (fun c_2 => ?_)
        · have hf := mp_t c_2 hf
          refine lv_aload_n hx hb zd_Fo_readText_96 rfl (lv_at hl 0 rfl) ?_
          refine va_get (D := (dC, dI)) (ci := 1) (v := .ref (ad 21)) (C := zR_Fo) (T := zT_Fo) (N := 8) hx hb hts (fun w h => hsub w (zi_Fo w h)) hown hK hP 0 rfl rfl 1 (by decide) (hw _ zq_128) (fun _ h9 => h9) rfl zd_Fo_readText_97 ?_
          refine lv_iconst (v := 0) hx hb zd_Fo_readText_100 (by decide) ?_
          refine lv_aload_n hx hb zd_Fo_readText_101 rfl (lv_at hl 0 rfl) ?_
          refine va_get (D := (dC, dI)) (ci := 1) (v := .ref (ad 22)) (C := zR_Fo) (T := zT_Fo) (N := 8) hx hb hts (fun w h => hsub w (zi_Fo w h)) hown hK hP 0 rfl rfl 2 (by decide) (hw _ zq_129) (fun _ h9 => h9) rfl zd_Fo_readText_102 ?_
          refine lv_iconst (v := 0) hx hb zd_Fo_readText_105 (by decide) ?_
          refine lv_aload_n hx hb zd_Fo_readText_106 rfl (lv_at hl 0 rfl) ?_
          refine va_get (D := (dC, dI)) (ci := 1) (v := .int xrc) (C := zR_Fo) (T := zT_Fo) (N := 8) hx hb hts (fun w h => hsub w (zi_Fo w h)) hown hK hP 0 rfl rfl 5 (by decide) (hw _ zq_132) (fun _ h9 => h9) rfl zd_Fo_readText_107 ?_
          obtain ⟨h_3, hf⟩ := mp_in hf
          obtain ⟨p_3, q_3, r_3, s_3, t_3⟩ := mp_cp h_3
          refine va_copyi hx hb (by rw [hml]; exact hl.1.symm) hown (hw _ zq_361) (hw _ zq_363) (hw _ zq_362) (hw _ zq_32) hK hP hD hS 2 3 0 0 rfl rfl rfl rfl rfl (sp := (0 : Int32)) (dp := (0 : Int32)) (n := xrc) p_3 q_3 r_3 s_3 t_3 (fun _ _ => rfl) (Nat.le_of_ble_eq_true rfl) (Nat.le_of_ble_eq_true rfl) zd_Fo_readText_110 (fun H locs hP hD hS => ?_)
          have hP : va_P (dC, dI) vwCl [(ad 5, .inr (1, [.ref (ad 20), .ref (ad 21), .ref (ad 22), .ref (ad 23), .int xtl, .int xrc, .int xrd, .int xwc])), (ad 20, .inl (cI, 300, .inl xft)), (ad 21, .inl (cI, 150, .inl xfr)), (ad 22, .inl (cI, 150, .inl (va_cpy xfr xfw (0 : Int32).toNatClampNeg (0 : Int32).toNatClampNeg xrc.toNatClampNeg)))] H := hP
          have hD : va_D A [(ad 5, .inr (1, [.ref (ad 20), .ref (ad 21), .ref (ad 22), .ref (ad 23), .int xtl, .int xrc, .int xrd, .int xwc])), (ad 20, .inl (cI, 300, .inl xft)), (ad 21, .inl (cI, 150, .inl xfr)), (ad 22, .inl (cI, 150, .inl (va_cpy xfr xfw (0 : Int32).toNatClampNeg (0 : Int32).toNatClampNeg xrc.toNatClampNeg)))] := hD
          refine lv_aload_n hx hb zd_Fo_readText_113 rfl (lv_at hl 0 rfl) ?_
          refine lv_aload_n hx hb zd_Fo_readText_114 rfl (lv_at hl 0 rfl) ?_
          refine va_get (D := (dC, dI)) (ci := 1) (v := .int xrc) (C := zR_Fo) (T := zT_Fo) (N := 8) hx hb hts (fun w h => hsub w (zi_Fo w h)) hown hK hP 0 rfl rfl 5 (by decide) (hw _ zq_132) (fun _ h9 => h9) rfl zd_Fo_readText_115 ?_
          refine va_put (D := (dC, dI)) (ci := 1) (v := .int xrc) (ty := .int) (C := zR_Fo) (T := zT_Fo) (N := 8) hx hb hts (fun w h => hsub w (zi_Fo w h)) zt_Fo zt_Fo_ok zn_Fo hown hK hP hD hS 0 rfl rfl 7 (by decide) (hw _ zq_134) (fun _ h9 => h9) rfl (by decide +kernel) rfl rfl (Nat.le_of_ble_eq_true rfl) zd_Fo_readText_118 (fun H locs hP hD hS => ?_)
          have hP : va_P (dC, dI) vwCl [(ad 5, .inr (1, [.ref (ad 20), .ref (ad 21), .ref (ad 22), .ref (ad 23), .int xtl, .int xrc, .int xrd, .int xrc])), (ad 20, .inl (cI, 300, .inl xft)), (ad 21, .inl (cI, 150, .inl xfr)), (ad 22, .inl (cI, 150, .inl (va_cpy xfr xfw (0 : Int32).toNatClampNeg (0 : Int32).toNatClampNeg xrc.toNatClampNeg)))] H := hP
          have hD : va_D A [(ad 5, .inr (1, [.ref (ad 20), .ref (ad 21), .ref (ad 22), .ref (ad 23), .int xtl, .int xrc, .int xrd, .int xrc])), (ad 20, .inl (cI, 300, .inl xft)), (ad 21, .inl (cI, 150, .inl xfr)), (ad 22, .inl (cI, 150, .inl (va_cpy xfr xfw (0 : Int32).toNatClampNeg (0 : Int32).toNatClampNeg xrc.toNatClampNeg)))] := hD
          refine lv_aload_n hx hb zd_Fo_readText_121 rfl (lv_at hl 0 rfl) ?_
          refine va_get (D := (dC, dI)) (ci := 1) (v := .int xrc) (C := zR_Fo) (T := zT_Fo) (N := 8) hx hb hts (fun w h => hsub w (zi_Fo w h)) hown hK hP 0 rfl rfl 7 (by decide) (hw _ zq_134) (fun _ h9 => h9) rfl zd_Fo_readText_122 ?_
          have hf := Option.some.inj hf
          subst hf
          exact W.iret (v := xrc) hx hb hr (fun t ht hW => ⟨⟨xrc, (), rfl, rfl, by rw [ht]; exact hP, hD⟩, hS.F ht⟩) hS.2.2 zd_Fo_readText_125
        · have hf := mp_f c_2 hf
          refine lv_iconst (v := -1) hx hb zd_Fo_readText_89 (by decide) ?_
          refine lv_aload_n hx hb zd_Fo_readText_90 rfl (lv_at hl 0 rfl) ?_
          refine va_get (D := (dC, dI)) (ci := 1) (v := .int xrc) (C := zR_Fo) (T := zT_Fo) (N := 8) hx hb hts (fun w h => hsub w (zi_Fo w h)) hown hK hP 0 rfl rfl 5 (by decide) (hw _ zq_132) (fun _ h9 => h9) rfl zd_Fo_readText_91 ?_
          refine lv_isub hx hb zd_Fo_readText_94 ?_
          have hf := Option.some.inj hf
          subst hf
          exact W.iret (v := ((-1 : Int32) - xrc)) hx hb hr (fun t ht hW => ⟨⟨((-1 : Int32) - xrc), (), rfl, rfl, by rw [ht]; exact hP, hD⟩, hS.F ht⟩) hS.2.2 zd_Fo_readText_95
      · have hf := mp_f c_1 hf
        refine lv_iload_n hx hb zd_Fo_readText_29 rfl (lv_at hl 3 rfl) ?_
        refine lv_iload_n hx hb zd_Fo_readText_30 rfl (lv_at hl 1 rfl) ?_
        refine lv_icmp_eq (tgt := 46) hx hb zd_Fo_readText_31 (by decide) (fun c_4 => ?_) (fun c_4 => ?_)
        · have hf := mp_t c_4 hf
          refine lv_iload_n hx hb zd_Fo_readText_46 rfl (lv_at hl 2 rfl) ?_
          refine lv_iload_n hx hb zd_Fo_readText_47 rfl (lv_at hl 3 rfl) ?_
          refine lv_icmp_ge (tgt := 71) hx hb zd_Fo_readText_48 (by decide) (fun c_5 => ?_) (fun c_5 => ?_)
          · have hf := mp_t c_5 hf
            refine lv_iload_n hx hb zd_Fo_readText_71 rfl (lv_at hl 3 rfl) ?_
            refine lv_iconst (v := 1) hx hb zd_Fo_readText_72 (by decide) ?_
            refine lv_iadd hx hb zd_Fo_readText_73 ?_
            refine lv_istore_n (lv' := [(2, .int (v3 + (1 : Int32))), (0, .ref (ad 5)), (1, .int v1), (3, .int v3)]) hx hb zd_Fo_readText_74 rfl hl (by decide) rfl (fun ls hl => ?_)
            refine lv_iinc (v := (v3 + (1 : Int32))) (lv' := [(3, .int (v3 + (1 : Int32))), (2, .int (v3 + (1 : Int32))), (0, .ref (ad 5)), (1, .int v1)]) hx hb zd_Fo_readText_75 hl (k := 3) rfl rfl (by decide) rfl (fun ls hl => ?_)
            refine lv_goto (tgt := 24) hx hb zd_Fo_readText_78 (by decide) ?_
            exact ih (v3 + (1 : Int32)) (v3 + (1 : Int32)) xrc xrd xfr _ _ _ hf hP hD hS (lv_sub hl [2, 3, 1, 0] rfl)
          · have hf := mp_f c_5 hf
            refine lv_aload_n hx hb zd_Fo_readText_51 rfl (lv_at hl 0 rfl) ?_
            refine lv_aload_n hx hb zd_Fo_readText_52 rfl (lv_at hl 0 rfl) ?_
            refine lv_iload_n hx hb zd_Fo_readText_53 rfl (lv_at hl 2 rfl) ?_
            refine lv_iload_n hx hb zd_Fo_readText_54 rfl (lv_at hl 3 rfl) ?_
            obtain ⟨y6, hg6, hf⟩ := mp_bd hf
            refine mp_Ri (va_runV (As := [.int v2, .int v3]) (rest := [.ref (ad 5)]) ⟨hx, hb, hml, hown, hts⟩ (zc_Fo_wordAt l dC dI cI cJ cZ ad xtl xrc xrd xwc xft v2 v3 y6 hg6) (cwV 2 hts (mp_gV hsub zq_333 zq_335 zq_4 zq_29 zq_336) rfl rfl rfl (by decide +kernel) ⟨Nat.le_of_ble_eq_true rfl, Nat.le_of_ble_eq_true rfl⟩) ⟨mp_blR, va_recv hK hP (ci := 1) (q0 := 0) rfl rfl, mp_preR hN hK (hP.sub [0, 1] rfl)⟩ rfl rfl hl.1 rfl (lv_room (Nat.le_of_ble_eq_true rfl)) zd_Fo_readText_55 ⟨Nat.zero_le _, Nat.zero_le _⟩) ?_
            obtain ⟨y7, hg7, hf⟩ := mp_bd hf
            refine mp_Mz (wr := [(ad 20, .inl (cI, 300, .inl xft)), (ad 22, .inl (cI, 150, .inl xfw))]) (va_runV (As := [.int y6]) (rest := []) ⟨hx, hb, hml, hown, hts⟩ (zc_Fo_takeWord l dC dI cI cJ cZ ad _ xtl xrc xrd xwc xfr y6 y7 hg7) (cwV 1 hts (mp_gV hsub zq_354 zq_356 zq_6 zq_29 zq_357) rfl rfl rfl (by decide +kernel) ⟨Nat.le_of_ble_eq_true rfl, Nat.le_of_ble_eq_true rfl⟩) ⟨mp_blM, va_recv hK hP (ci := 1) (q0 := 0) rfl rfl, mp_preM hN hK (hP.sub [0, 2] rfl) (hD.sub [0, 2] (by decide) rfl)⟩ rfl rfl hl.1 rfl (lv_room (Nat.le_of_ble_eq_true rfl)) zd_Fo_readText_58 ⟨Nat.zero_le _, Nat.zero_le _⟩) hP hD hS hA [0, 2] [1, 3] rfl rfl (by decide) (by decide) (fun H locs hP hD hS hz7 => ?_)
            have hP : va_P (dC, dI) vwCl [(ad 20, .inl (cI, 300, .inl xft)), (ad 22, .inl (cI, 150, .inl xfw)), (ad 5, .inr (1, [.ref (ad 20), .ref (ad 21), .ref (ad 22), .ref (ad 23), .int xtl, .int y7.2.1, .int y7.2.2.1, .int xwc])), (ad 21, .inl (cI, 150, .inl y7.2.2.2))] H := hP
            have hD : va_D A [(ad 20, .inl (cI, 300, .inl xft)), (ad 22, .inl (cI, 150, .inl xfw)), (ad 5, .inr (1, [.ref (ad 20), .ref (ad 21), .ref (ad 22), .ref (ad 23), .int xtl, .int y7.2.1, .int y7.2.2.1, .int xwc])), (ad 21, .inl (cI, 150, .inl y7.2.2.2))] := hD
            refine lv_if_ne (tgt := 71) hx hb zd_Fo_readText_61 (by decide) (fun c_8 => ?_) (fun c_8 => ?_)
            · have hf := mp_f c_8 hf
              refine lv_iload_n hx hb zd_Fo_readText_71 rfl (lv_at hl 3 rfl) ?_
              refine lv_iconst (v := 1) hx hb zd_Fo_readText_72 (by decide) ?_
              refine lv_iadd hx hb zd_Fo_readText_73 ?_
              refine lv_istore_n (lv' := [(2, .int (v3 + (1 : Int32))), (0, .ref (ad 5)), (1, .int v1), (3, .int v3)]) hx hb zd_Fo_readText_74 rfl hl (by decide) rfl (fun ls hl => ?_)
              refine lv_iinc (v := (v3 + (1 : Int32))) (lv' := [(3, .int (v3 + (1 : Int32))), (2, .int (v3 + (1 : Int32))), (0, .ref (ad 5)), (1, .int v1)]) hx hb zd_Fo_readText_75 hl (k := 3) rfl rfl (by decide) rfl (fun ls hl => ?_)
              refine lv_goto (tgt := 24) hx hb zd_Fo_readText_78 (by decide) ?_
              exact ih (v3 + (1 : Int32)) (v3 + (1 : Int32)) y7.2.1 y7.2.2.1 y7.2.2.2 _ _ _ hf (hP.sub [2, 0, 3, 1] rfl) (hD.sub [2, 0, 3, 1] (by decide) rfl) hS (lv_sub hl [2, 3, 1, 0] rfl)
            · have hf := mp_t c_8 hf
              refine lv_iconst (v := -1) hx hb zd_Fo_readText_64 (by decide) ?_
              refine lv_aload_n hx hb zd_Fo_readText_65 rfl (lv_at hl 0 rfl) ?_
              refine va_get (D := (dC, dI)) (ci := 1) (v := .int y7.2.1) (C := zR_Fo) (T := zT_Fo) (N := 8) hx hb hts (fun w h => hsub w (zi_Fo w h)) hown hK hP 2 rfl rfl 5 (by decide) (hw _ zq_132) (fun _ h9 => h9) rfl zd_Fo_readText_66 ?_
              refine lv_isub hx hb zd_Fo_readText_69 ?_
              have hf := Option.some.inj hf
              subst hf
              have hP := hP.sub (ws' := [(ad 5, .inr (1, [.ref (ad 20), .ref (ad 21), .ref (ad 22), .ref (ad 23), .int xtl, .int y7.2.1, .int y7.2.2.1, .int xwc])), (ad 20, .inl (cI, 300, .inl xft)), (ad 21, .inl (cI, 150, .inl y7.2.2.2)), (ad 22, .inl (cI, 150, .inl xfw))]) [2, 0, 3, 1] rfl
              have hD := hD.sub (ws' := [(ad 5, .inr (1, [.ref (ad 20), .ref (ad 21), .ref (ad 22), .ref (ad 23), .int xtl, .int y7.2.1, .int y7.2.2.1, .int xwc])), (ad 20, .inl (cI, 300, .inl xft)), (ad 21, .inl (cI, 150, .inl y7.2.2.2)), (ad 22, .inl (cI, 150, .inl xfw))]) [2, 0, 3, 1] (by decide) rfl
              exact W.iret (v := ((-1 : Int32) - y7.2.1)) hx hb hr (fun t ht hW => ⟨⟨((-1 : Int32) - y7.2.1), (), rfl, rfl, by rw [ht]; exact hP, hD⟩, hS.F ht⟩) hS.2.2 zd_Fo_readText_70
        · have hf := mp_f c_4 hf
          refine lv_aload_n hx hb zd_Fo_readText_34 rfl (lv_at hl 0 rfl) ?_
          refine va_get (D := (dC, dI)) (ci := 1) (v := .ref (ad 20)) (C := zR_Fo) (T := zT_Fo) (N := 8) hx hb hts (fun w h => hsub w (zi_Fo w h)) hown hK hP 0 rfl rfl 0 (by decide) (hw _ zq_127) (fun _ h9 => h9) rfl zd_Fo_readText_35 ?_
          refine lv_iload_n hx hb zd_Fo_readText_38 rfl (lv_at hl 3 rfl) ?_
          obtain ⟨h_9, hf⟩ := mp_in hf
          refine va_iald hx hb hK hP 1 0 rfl rfl (i := v3) h_9 zd_Fo_readText_39 ?_
          obtain ⟨y10, hg10, hf⟩ := mp_bd hf
          refine mp_Rz (va_runS (As := [.int (xft v3.toNatClampNeg)]) (rest := []) ⟨hx, hb, hml, hown, hts⟩ (zc_Fo_isGap l dC dI cI cJ cZ ad (xft v3.toNatClampNeg) y10 hg10) (va_cwS 1 hts (mp_gS hsub zq_330 zq_331 zq_29 zq_332) rfl rfl rfl (by decide +kernel) ⟨Nat.le_of_ble_eq_true rfl, Nat.le_of_ble_eq_true rfl⟩) ⟨mp_blR, mp_preR hN hK (hP.sub [] rfl)⟩ rfl rfl hl.1 rfl (lv_room (Nat.le_of_ble_eq_true rfl)) zd_Fo_readText_40 ⟨Nat.zero_le _, Nat.zero_le _⟩) (fun hz10 => ?_)
          refine lv_if_eq (tgt := 75) hx hb zd_Fo_readText_43 (by decide) (fun c_11 => ?_) (fun c_11 => ?_)
          · have hf := mp_t c_11 hf
            refine lv_iinc (v := (v3 + (1 : Int32))) (lv' := [(3, .int (v3 + (1 : Int32))), (0, .ref (ad 5)), (1, .int v1), (2, .int v2)]) hx hb zd_Fo_readText_75 hl (k := 3) rfl rfl (by decide) rfl (fun ls hl => ?_)
            refine lv_goto (tgt := 24) hx hb zd_Fo_readText_78 (by decide) ?_
            exact ih v2 (v3 + (1 : Int32)) xrc xrd xfr _ _ _ hf hP hD hS (lv_sub hl [1, 2, 3, 0] rfl)
          · have hf := mp_f c_11 hf
            refine lv_iload_n hx hb zd_Fo_readText_46 rfl (lv_at hl 2 rfl) ?_
            refine lv_iload_n hx hb zd_Fo_readText_47 rfl (lv_at hl 3 rfl) ?_
            refine lv_icmp_ge (tgt := 71) hx hb zd_Fo_readText_48 (by decide) (fun c_12 => ?_) (fun c_12 => ?_)
            · have hf := mp_t c_12 hf
              refine lv_iload_n hx hb zd_Fo_readText_71 rfl (lv_at hl 3 rfl) ?_
              refine lv_iconst (v := 1) hx hb zd_Fo_readText_72 (by decide) ?_
              refine lv_iadd hx hb zd_Fo_readText_73 ?_
              refine lv_istore_n (lv' := [(2, .int (v3 + (1 : Int32))), (0, .ref (ad 5)), (1, .int v1), (3, .int v3)]) hx hb zd_Fo_readText_74 rfl hl (by decide) rfl (fun ls hl => ?_)
              refine lv_iinc (v := (v3 + (1 : Int32))) (lv' := [(3, .int (v3 + (1 : Int32))), (2, .int (v3 + (1 : Int32))), (0, .ref (ad 5)), (1, .int v1)]) hx hb zd_Fo_readText_75 hl (k := 3) rfl rfl (by decide) rfl (fun ls hl => ?_)
              refine lv_goto (tgt := 24) hx hb zd_Fo_readText_78 (by decide) ?_
              exact ih (v3 + (1 : Int32)) (v3 + (1 : Int32)) xrc xrd xfr _ _ _ hf hP hD hS (lv_sub hl [2, 3, 1, 0] rfl)
            · have hf := mp_f c_12 hf
              refine lv_aload_n hx hb zd_Fo_readText_51 rfl (lv_at hl 0 rfl) ?_
              refine lv_aload_n hx hb zd_Fo_readText_52 rfl (lv_at hl 0 rfl) ?_
              refine lv_iload_n hx hb zd_Fo_readText_53 rfl (lv_at hl 2 rfl) ?_
              refine lv_iload_n hx hb zd_Fo_readText_54 rfl (lv_at hl 3 rfl) ?_
              obtain ⟨y13, hg13, hf⟩ := mp_bd hf
              refine mp_Ri (va_runV (As := [.int v2, .int v3]) (rest := [.ref (ad 5)]) ⟨hx, hb, hml, hown, hts⟩ (zc_Fo_wordAt l dC dI cI cJ cZ ad xtl xrc xrd xwc xft v2 v3 y13 hg13) (cwV 2 hts (mp_gV hsub zq_333 zq_335 zq_4 zq_29 zq_336) rfl rfl rfl (by decide +kernel) ⟨Nat.le_of_ble_eq_true rfl, Nat.le_of_ble_eq_true rfl⟩) ⟨mp_blR, va_recv hK hP (ci := 1) (q0 := 0) rfl rfl, mp_preR hN hK (hP.sub [0, 1] rfl)⟩ rfl rfl hl.1 rfl (lv_room (Nat.le_of_ble_eq_true rfl)) zd_Fo_readText_55 ⟨Nat.zero_le _, Nat.zero_le _⟩) ?_
              obtain ⟨y14, hg14, hf⟩ := mp_bd hf
              refine mp_Mz (wr := [(ad 20, .inl (cI, 300, .inl xft)), (ad 22, .inl (cI, 150, .inl xfw))]) (va_runV (As := [.int y13]) (rest := []) ⟨hx, hb, hml, hown, hts⟩ (zc_Fo_takeWord l dC dI cI cJ cZ ad _ xtl xrc xrd xwc xfr y13 y14 hg14) (cwV 1 hts (mp_gV hsub zq_354 zq_356 zq_6 zq_29 zq_357) rfl rfl rfl (by decide +kernel) ⟨Nat.le_of_ble_eq_true rfl, Nat.le_of_ble_eq_true rfl⟩) ⟨mp_blM, va_recv hK hP (ci := 1) (q0 := 0) rfl rfl, mp_preM hN hK (hP.sub [0, 2] rfl) (hD.sub [0, 2] (by decide) rfl)⟩ rfl rfl hl.1 rfl (lv_room (Nat.le_of_ble_eq_true rfl)) zd_Fo_readText_58 ⟨Nat.zero_le _, Nat.zero_le _⟩) hP hD hS hA [0, 2] [1, 3] rfl rfl (by decide) (by decide) (fun H locs hP hD hS hz14 => ?_)
              have hP : va_P (dC, dI) vwCl [(ad 20, .inl (cI, 300, .inl xft)), (ad 22, .inl (cI, 150, .inl xfw)), (ad 5, .inr (1, [.ref (ad 20), .ref (ad 21), .ref (ad 22), .ref (ad 23), .int xtl, .int y14.2.1, .int y14.2.2.1, .int xwc])), (ad 21, .inl (cI, 150, .inl y14.2.2.2))] H := hP
              have hD : va_D A [(ad 20, .inl (cI, 300, .inl xft)), (ad 22, .inl (cI, 150, .inl xfw)), (ad 5, .inr (1, [.ref (ad 20), .ref (ad 21), .ref (ad 22), .ref (ad 23), .int xtl, .int y14.2.1, .int y14.2.2.1, .int xwc])), (ad 21, .inl (cI, 150, .inl y14.2.2.2))] := hD
              refine lv_if_ne (tgt := 71) hx hb zd_Fo_readText_61 (by decide) (fun c_15 => ?_) (fun c_15 => ?_)
              · have hf := mp_f c_15 hf
                refine lv_iload_n hx hb zd_Fo_readText_71 rfl (lv_at hl 3 rfl) ?_
                refine lv_iconst (v := 1) hx hb zd_Fo_readText_72 (by decide) ?_
                refine lv_iadd hx hb zd_Fo_readText_73 ?_
                refine lv_istore_n (lv' := [(2, .int (v3 + (1 : Int32))), (0, .ref (ad 5)), (1, .int v1), (3, .int v3)]) hx hb zd_Fo_readText_74 rfl hl (by decide) rfl (fun ls hl => ?_)
                refine lv_iinc (v := (v3 + (1 : Int32))) (lv' := [(3, .int (v3 + (1 : Int32))), (2, .int (v3 + (1 : Int32))), (0, .ref (ad 5)), (1, .int v1)]) hx hb zd_Fo_readText_75 hl (k := 3) rfl rfl (by decide) rfl (fun ls hl => ?_)
                refine lv_goto (tgt := 24) hx hb zd_Fo_readText_78 (by decide) ?_
                exact ih (v3 + (1 : Int32)) (v3 + (1 : Int32)) y14.2.1 y14.2.2.1 y14.2.2.2 _ _ _ hf (hP.sub [2, 0, 3, 1] rfl) (hD.sub [2, 0, 3, 1] (by decide) rfl) hS (lv_sub hl [2, 3, 1, 0] rfl)
              · have hf := mp_t c_15 hf
                refine lv_iconst (v := -1) hx hb zd_Fo_readText_64 (by decide) ?_
                refine lv_aload_n hx hb zd_Fo_readText_65 rfl (lv_at hl 0 rfl) ?_
                refine va_get (D := (dC, dI)) (ci := 1) (v := .int y14.2.1) (C := zR_Fo) (T := zT_Fo) (N := 8) hx hb hts (fun w h => hsub w (zi_Fo w h)) hown hK hP 2 rfl rfl 5 (by decide) (hw _ zq_132) (fun _ h9 => h9) rfl zd_Fo_readText_66 ?_
                refine lv_isub hx hb zd_Fo_readText_69 ?_
                have hf := Option.some.inj hf
                subst hf
                have hP := hP.sub (ws' := [(ad 5, .inr (1, [.ref (ad 20), .ref (ad 21), .ref (ad 22), .ref (ad 23), .int xtl, .int y14.2.1, .int y14.2.2.1, .int xwc])), (ad 20, .inl (cI, 300, .inl xft)), (ad 21, .inl (cI, 150, .inl y14.2.2.2)), (ad 22, .inl (cI, 150, .inl xfw))]) [2, 0, 3, 1] rfl
                have hD := hD.sub (ws' := [(ad 5, .inr (1, [.ref (ad 20), .ref (ad 21), .ref (ad 22), .ref (ad 23), .int xtl, .int y14.2.1, .int y14.2.2.1, .int xwc])), (ad 20, .inl (cI, 300, .inl xft)), (ad 21, .inl (cI, 150, .inl y14.2.2.2)), (ad 22, .inl (cI, 150, .inl xfw))]) [2, 0, 3, 1] (by decide) rfl
                exact W.iret (v := ((-1 : Int32) - y14.2.1)) hx hb hr (fun t ht hW => ⟨⟨((-1 : Int32) - y14.2.1), (), rfl, rfl, by rw [ht]; exact hP, hD⟩, hS.F ht⟩) hS.2.2 zd_Fo_readText_70
  have hl := lv_entry ([.ref (ad 5)]) (n := 4) (Nat.le_of_ble_eq_true rfl)
  rw [lg_entry_eq]
  generalize (lg_sl ([.ref (ad 5)]) ++ List.replicate (4 - (lg_sl ([.ref (ad 5)])).length) Slot.unset).toArray = ls at hl ⊢
  have hl : lv_has ls 4 [(0, .ref (ad 5))] := hl
  unfold zf_Fo_readText at hf
  refine lv_aload_n hx hb zd_Fo_readText_0 rfl (lv_at hl 0 rfl) ?_
  refine va_get (D := (dC, dI)) (ci := 1) (v := .int xtl) (C := zR_Fo) (T := zT_Fo) (N := 8) hx hb hts (fun w h => hsub w (zi_Fo w h)) hown hK hP 0 rfl rfl 4 (by decide) (hw _ zq_131) (fun _ h9 => h9) rfl zd_Fo_readText_1 ?_
  refine lv_istore_n (lv' := [(1, .int xtl), (0, .ref (ad 5))]) hx hb zd_Fo_readText_4 rfl hl (by decide) rfl (fun ls hl => ?_)
  refine lv_aload_n hx hb zd_Fo_readText_5 rfl (lv_at hl 1 rfl) ?_
  refine lv_iconst (v := 0) hx hb zd_Fo_readText_6 (by decide) ?_
  refine va_put (D := (dC, dI)) (ci := 1) (v := .int (0 : Int32)) (ty := .int) (C := zR_Fo) (T := zT_Fo) (N := 8) hx hb hts (fun w h => hsub w (zi_Fo w h)) zt_Fo zt_Fo_ok zn_Fo hown hK hP hD hS 0 rfl rfl 4 (by decide) (hw _ zq_131) (fun _ h9 => h9) rfl (by decide +kernel) rfl rfl (Nat.le_of_ble_eq_true rfl) zd_Fo_readText_7 (fun H locs hP hD hS => ?_)
  have hP : va_P (dC, dI) vwCl [(ad 5, .inr (1, [.ref (ad 20), .ref (ad 21), .ref (ad 22), .ref (ad 23), .int (0 : Int32), .int xrc, .int xrd, .int xwc])), (ad 20, .inl (cI, 300, .inl xft)), (ad 21, .inl (cI, 150, .inl xfr)), (ad 22, .inl (cI, 150, .inl xfw))] H := hP
  have hD : va_D A [(ad 5, .inr (1, [.ref (ad 20), .ref (ad 21), .ref (ad 22), .ref (ad 23), .int (0 : Int32), .int xrc, .int xrd, .int xwc])), (ad 20, .inl (cI, 300, .inl xft)), (ad 21, .inl (cI, 150, .inl xfr)), (ad 22, .inl (cI, 150, .inl xfw))] := hD
  refine lv_aload_n hx hb zd_Fo_readText_10 rfl (lv_at hl 1 rfl) ?_
  refine lv_iconst (v := 0) hx hb zd_Fo_readText_11 (by decide) ?_
  refine va_put (D := (dC, dI)) (ci := 1) (v := .int (0 : Int32)) (ty := .int) (C := zR_Fo) (T := zT_Fo) (N := 8) hx hb hts (fun w h => hsub w (zi_Fo w h)) zt_Fo zt_Fo_ok zn_Fo hown hK hP hD hS 0 rfl rfl 5 (by decide) (hw _ zq_132) (fun _ h9 => h9) rfl (by decide +kernel) rfl rfl (Nat.le_of_ble_eq_true rfl) zd_Fo_readText_12 (fun H locs hP hD hS => ?_)
  have hP : va_P (dC, dI) vwCl [(ad 5, .inr (1, [.ref (ad 20), .ref (ad 21), .ref (ad 22), .ref (ad 23), .int (0 : Int32), .int (0 : Int32), .int xrd, .int xwc])), (ad 20, .inl (cI, 300, .inl xft)), (ad 21, .inl (cI, 150, .inl xfr)), (ad 22, .inl (cI, 150, .inl xfw))] H := hP
  have hD : va_D A [(ad 5, .inr (1, [.ref (ad 20), .ref (ad 21), .ref (ad 22), .ref (ad 23), .int (0 : Int32), .int (0 : Int32), .int xrd, .int xwc])), (ad 20, .inl (cI, 300, .inl xft)), (ad 21, .inl (cI, 150, .inl xfr)), (ad 22, .inl (cI, 150, .inl xfw))] := hD
  refine lv_aload_n hx hb zd_Fo_readText_15 rfl (lv_at hl 1 rfl) ?_
  refine lv_iconst (v := 0) hx hb zd_Fo_readText_16 (by decide) ?_
  refine va_put (D := (dC, dI)) (ci := 1) (v := .int (0 : Int32)) (ty := .int) (C := zR_Fo) (T := zT_Fo) (N := 8) hx hb hts (fun w h => hsub w (zi_Fo w h)) zt_Fo zt_Fo_ok zn_Fo hown hK hP hD hS 0 rfl rfl 6 (by decide) (hw _ zq_133) (fun _ h9 => h9) rfl (by decide +kernel) rfl rfl (Nat.le_of_ble_eq_true rfl) zd_Fo_readText_17 (fun H locs hP hD hS => ?_)
  have hP : va_P (dC, dI) vwCl [(ad 5, .inr (1, [.ref (ad 20), .ref (ad 21), .ref (ad 22), .ref (ad 23), .int (0 : Int32), .int (0 : Int32), .int (0 : Int32), .int xwc])), (ad 20, .inl (cI, 300, .inl xft)), (ad 21, .inl (cI, 150, .inl xfr)), (ad 22, .inl (cI, 150, .inl xfw))] H := hP
  have hD : va_D A [(ad 5, .inr (1, [.ref (ad 20), .ref (ad 21), .ref (ad 22), .ref (ad 23), .int (0 : Int32), .int (0 : Int32), .int (0 : Int32), .int xwc])), (ad 20, .inl (cI, 300, .inl xft)), (ad 21, .inl (cI, 150, .inl xfr)), (ad 22, .inl (cI, 150, .inl xfw))] := hD
  refine lv_iconst (v := 0) hx hb zd_Fo_readText_20 (by decide) ?_
  refine lv_istore_n (lv' := [(2, .int (0 : Int32)), (1, .int xtl), (0, .ref (ad 5))]) hx hb zd_Fo_readText_21 rfl hl (by decide) rfl (fun ls hl => ?_)
  refine lv_iconst (v := 0) hx hb zd_Fo_readText_22 (by decide) ?_
  refine lv_istore_n (lv' := [(3, .int (0 : Int32)), (2, .int (0 : Int32)), (1, .int xtl), (0, .ref (ad 5))]) hx hb zd_Fo_readText_23 rfl hl (by decide) rfl (fun ls hl => ?_)
  exact loop24 xtl (0 : Int32) xwc xfw 2000 (0 : Int32) (0 : Int32) (0 : Int32) (0 : Int32) xfr _ _ _ hf hP hD hS (lv_sub hl [3, 2, 1, 0] rfl)
set_option maxHeartbeats 4000000 in
set_option maxRecDepth 100000 in
theorem zc_MP_score (l : Launch) (dC : Nat → ClassId) (dI : Nat → Nat → Nat) (cI cJ cZ : ClassId) (ad : Nat → Nat) (sz : Nat) (xgc : Int32) (xtl : Int32) (xrc : Int32) (xrd : Int32) (xwc : Int32) (xft : Nat → Int32) (xfr : Nat → Int32) (xfw : Nat → Int32) (res : Int32 × Int32 × Int32 × Int32 × Int32 × (Nat → Int32) × (Nat → Int32)) (hf : zf_MP_score xtl xrc xrd xwc xft xfr xfw = some res) : Met l zy_MP_score zw_MP_score ({ frames := 4, cells := 0, slots := 0, locals := 90 } : Room) (mp_PM (dC, dI) vwCl (mp_tys cI cJ cZ) [(ad 0, .inr (4, [.ref (ad 1), .ref (ad 2), .ref (ad 3), .ref (ad 4), .ref (ad 5), .ref (ad 6), .int xgc])), (ad 5, .inr (1, [.ref (ad 20), .ref (ad 21), .ref (ad 22), .ref (ad 23), .int xtl, .int xrc, .int xrd, .int xwc])), (ad 20, .inl (cI, 300, .inl xft)), (ad 21, .inl (cI, 150, .inl xfr)), (ad 22, .inl (cI, 150, .inl xfw))] sz [.ref (ad 0)]) (va_Qi (fun r (_ : Unit) => r = res.1) (mp_BM (dC, dI) vwCl [(ad 0, .inr (4, [.ref (ad 1), .ref (ad 2), .ref (ad 3), .ref (ad 4), .ref (ad 5), .ref (ad 6), .int xgc])), (ad 5, .inr (1, [.ref (ad 20), .ref (ad 21), .ref (ad 22), .ref (ad 23), .int res.2.1, .int res.2.2.1, .int res.2.2.2.1, .int res.2.2.2.2.1])), (ad 20, .inl (cI, 300, .inl xft)), (ad 21, .inl (cI, 150, .inl res.2.2.2.2.2.1)), (ad 22, .inl (cI, 150, .inl res.2.2.2.2.2.2))] (va_A [(ad 0, .inr (4, [.ref (ad 1), .ref (ad 2), .ref (ad 3), .ref (ad 4), .ref (ad 5), .ref (ad 6), .int xgc])), (ad 5, .inr (1, [.ref (ad 20), .ref (ad 21), .ref (ad 22), .ref (ad 23), .int xtl, .int xrc, .int xrd, .int xwc])), (ad 20, .inl (cI, 300, .inl xft)), (ad 21, .inl (cI, 150, .inl xfr)), (ad 22, .inl (cI, 150, .inl xfw))] sz)) (va_A [(ad 0, .inr (4, [.ref (ad 1), .ref (ad 2), .ref (ad 3), .ref (ad 4), .ref (ad 5), .ref (ad 6), .int xgc])), (ad 5, .inr (1, [.ref (ad 20), .ref (ad 21), .ref (ad 22), .ref (ad 23), .int xtl, .int xrc, .int xrd, .int xwc])), (ad 20, .inl (cI, 300, .inl xft)), (ad 21, .inl (cI, 150, .inl xfr)), (ad 22, .inl (cI, 150, .inl xfw))] sz)) 0 0 ((va_A [(ad 0, .inr (4, [.ref (ad 1), .ref (ad 2), .ref (ad 3), .ref (ad 4), .ref (ad 5), .ref (ad 6), .int xgc])), (ad 5, .inr (1, [.ref (ad 20), .ref (ad 21), .ref (ad 22), .ref (ad 23), .int xtl, .int xrc, .int xrd, .int xwc])), (ad 20, .inl (cI, 300, .inl xft)), (ad 21, .inl (cI, 150, .inl xfr)), (ad 22, .inl (cI, 150, .inl xfw))] sz)) := by
  refine Met.ofW (cc := zb_MP_score) (maxL := 1) (ret := (some .int)) (by decide) rfl ?_
  intro p e s m args below meth c s₁ B hml hv
  obtain ⟨rfl, hsz, hP, hK, hD0, hN⟩ := hv
  have hx := B.exec
  have hb := B.bytes
  have hr := B.returns
  have hts := atoms_spec (ws := zw_MP_score) B.pre
  have hsub : ∀ w ∈ mp_tbl, w ∈ zw_MP_score := fun w h => List.mem_cons_of_mem _ h
  have hw : ∀ w ∈ mp_tbl, w.before _ s = true := fun w h => hts w (hsub w h)
  have hown : s.vm.findClass zR_MP = some m.cls := findClass_of_methodNamed B.named
  have hlocks := B.notSynchronized
  subst hsz
  have hD := hD0.self (sz := s.heap.size)
  generalize hAe : va_A [(ad 0, .inr (4, [.ref (ad 1), .ref (ad 2), .ref (ad 3), .ref (ad 4), .ref (ad 5), .ref (ad 6), .int xgc])), (ad 5, .inr (1, [.ref (ad 20), .ref (ad 21), .ref (ad 22), .ref (ad 23), .int xtl, .int xrc, .int xrd, .int xwc])), (ad 20, .inl (cI, 300, .inl xft)), (ad 21, .inl (cI, 150, .inl xfr)), (ad 22, .inl (cI, 150, .inl xfw))] s.heap.size = A at hD ⊢
  have hA : ∀ q : Nat, s.heap.size ≤ q → A q := fun q h => by rw [← hAe]; exact Or.inr h
  have hS : va_S A s.heap s.heap [] := va_S.rf
  have hP : va_P (dC, dI) vwCl [(ad 0, .inr (4, [.ref (ad 1), .ref (ad 2), .ref (ad 3), .ref (ad 4), .ref (ad 5), .ref (ad 6), .int xgc])), (ad 5, .inr (1, [.ref (ad 20), .ref (ad 21), .ref (ad 22), .ref (ad 23), .int xtl, .int xrc, .int xrd, .int xwc])), (ad 20, .inl (cI, 300, .inl xft)), (ad 21, .inl (cI, 150, .inl xfr)), (ad 22, .inl (cI, 150, .inl xfw))] s.heap := hP
  clear hAe hD0
  have hl := lv_entry ([.ref (ad 0)]) (n := 1) (Nat.le_of_ble_eq_true rfl)
  rw [lg_entry_eq]
  generalize (lg_sl ([.ref (ad 0)]) ++ List.replicate (1 - (lg_sl ([.ref (ad 0)])).length) Slot.unset).toArray = ls at hl ⊢
  have hl : lv_has ls 1 [(0, .ref (ad 0))] := hl
  unfold zf_MP_score at hf
  refine lv_aload_n hx hb zd_MP_score_0 rfl (lv_at hl 0 rfl) ?_
  refine va_get (D := (dC, dI)) (ci := 4) (v := .ref (ad 5)) (C := zR_MP) (T := zT_MP) (N := 7) hx hb hts (fun w h => hsub w (zi_MP w h)) hown hK hP 0 rfl rfl 4 (by decide) (hw _ zq_156) (fun _ h9 => h9) rfl zd_MP_score_1 ?_
  obtain ⟨y1, hg1, hf⟩ := mp_bd hf
  refine mp_Mi (wr := [(ad 0, .inr (4, [.ref (ad 1), .ref (ad 2), .ref (ad 3), .ref (ad 4), .ref (ad 5), .ref (ad 6), .int xgc]))]) (va_runV (As := []) (rest := []) ⟨hx, hb, hml, hown, hts⟩ (zc_Fo_readText l dC dI cI cJ cZ ad _ xtl xrc xrd xwc xft xfr xfw y1 hg1) (cwV 0 hts (mp_gV hsub zq_326 zq_327 zq_328 zq_29 zq_329) rfl rfl rfl (by decide +kernel) ⟨Nat.le_of_ble_eq_true rfl, Nat.le_of_ble_eq_true rfl⟩) ⟨mp_blM, va_recv hK hP (ci := 1) (q0 := 1) rfl rfl, mp_preM hN hK (hP.sub [1, 2, 3, 4] rfl) (hD.sub [1, 2, 3, 4] (by decide) rfl)⟩ rfl rfl hl.1 rfl (lv_room (Nat.le_of_ble_eq_true rfl)) zd_MP_score_4 ⟨Nat.zero_le _, Nat.zero_le _⟩) hP hD hS hA [1, 2, 3, 4] [0] rfl rfl (by decide) (by decide) (fun H locs hP hD hS => ?_)
  have hP : va_P (dC, dI) vwCl [(ad 0, .inr (4, [.ref (ad 1), .ref (ad 2), .ref (ad 3), .ref (ad 4), .ref (ad 5), .ref (ad 6), .int xgc])), (ad 5, .inr (1, [.ref (ad 20), .ref (ad 21), .ref (ad 22), .ref (ad 23), .int y1.2.1, .int y1.2.2.1, .int y1.2.2.2.1, .int y1.2.2.2.2.1])), (ad 20, .inl (cI, 300, .inl xft)), (ad 21, .inl (cI, 150, .inl y1.2.2.2.2.2.1)), (ad 22, .inl (cI, 150, .inl y1.2.2.2.2.2.2))] H := hP
  have hD : va_D A [(ad 0, .inr (4, [.ref (ad 1), .ref (ad 2), .ref (ad 3), .ref (ad 4), .ref (ad 5), .ref (ad 6), .int xgc])), (ad 5, .inr (1, [.ref (ad 20), .ref (ad 21), .ref (ad 22), .ref (ad 23), .int y1.2.1, .int y1.2.2.1, .int y1.2.2.2.1, .int y1.2.2.2.2.1])), (ad 20, .inl (cI, 300, .inl xft)), (ad 21, .inl (cI, 150, .inl y1.2.2.2.2.2.1)), (ad 22, .inl (cI, 150, .inl y1.2.2.2.2.2.2))] := hD
  have hf := Option.some.inj hf
  subst hf
  exact W.iret (v := y1.1) hx hb hr (fun t ht hW => ⟨⟨y1.1, (), rfl, rfl, by rw [ht]; exact hP, hD⟩, hS.F ht⟩) hS.2.2 zd_MP_score_7
set_option maxHeartbeats 4000000 in
set_option maxRecDepth 100000 in
theorem zc_Fo_isTold (l : Launch) (dC : Nat → ClassId) (dI : Nat → Nat → Nat) (cI cJ cZ : ClassId) (ad : Nat → Nat) (xtl : Int32) (xrc : Int32) (xrd : Int32) (xwc : Int32) (res : Int32) (hf : zf_Fo_isTold xwc = some res) : Met l zy_Fo_isTold zw_Fo_isTold ({ frames := 0, cells := 0, slots := 0, locals := 0 } : Room) (mp_PR (dC, dI) vwCl (mp_tys cI cJ cZ) [(ad 5, .inr (1, [.ref (ad 20), .ref (ad 21), .ref (ad 22), .ref (ad 23), .int xtl, .int xrc, .int xrd, .int xwc]))] [.ref (ad 5)]) (vp_Si (fun r => r = res ∧ mp_b res)) 0 0 (fun _ => False) := by
  refine Met.ofW (cc := zb_Fo_isTold) (maxL := 1) (ret := (some .boolean)) (by decide) rfl ?_
  intro p e s m args below meth c s₁ B hml hv
  obtain ⟨rfl, hP, hK, hN⟩ := hv
  have hx := B.exec
  have hb := B.bytes
  have hr := B.returns
  have hts := atoms_spec (ws := zw_Fo_isTold) B.pre
  have hsub : ∀ w ∈ mp_tbl, w ∈ zw_Fo_isTold := fun w h => List.mem_cons_of_mem _ h
  have hw : ∀ w ∈ mp_tbl, w.before _ s = true := fun w h => hts w (hsub w h)
  have hown : s.vm.findClass zR_Fo = some m.cls := findClass_of_methodNamed B.named
  have hlocks := B.notSynchronized
  have hl := lv_entry ([.ref (ad 5)]) (n := 1) (Nat.le_of_ble_eq_true rfl)
  rw [lg_entry_eq]
  generalize (lg_sl ([.ref (ad 5)]) ++ List.replicate (1 - (lg_sl ([.ref (ad 5)])).length) Slot.unset).toArray = ls at hl ⊢
  have hl : lv_has ls 1 [(0, .ref (ad 5))] := hl
  unfold zf_Fo_isTold at hf
  refine lv_aload_n hx hb zd_Fo_isTold_0 rfl (lv_at hl 0 rfl) ?_
  refine va_get (D := (dC, dI)) (ci := 1) (v := .int xwc) (C := zR_Fo) (T := zT_Fo) (N := 8) hx hb hts (fun w h => hsub w (zi_Fo w h)) hown hK hP 0 rfl rfl 7 (by decide) (hw _ zq_134) (fun _ h9 => h9) rfl zd_Fo_isTold_1 ?_
  refine lv_if_le (tgt := 11) hx hb zd_Fo_isTold_4 (by decide) (fun c_1 => ?_) (fun c_1 => ?_)
  · have hf := mp_t c_1 hf
    refine lv_iconst (v := 0) hx hb zd_Fo_isTold_11 (by decide) ?_
    have hf := Option.some.inj hf
    subst hf
    exact W.zret (v := (0 : Int32)) hx hb hr (mp_nz (Or.inl rfl)) (fun t ht hW => ⟨(0 : Int32), rfl, ⟨rfl, (Or.inl rfl)⟩, ht⟩) (fun q h => by cases h) zd_Fo_isTold_12
  · have hf := mp_f c_1 hf
    refine lv_iconst (v := 1) hx hb zd_Fo_isTold_7 (by decide) ?_
    refine lv_goto (tgt := 12) hx hb zd_Fo_isTold_8 (by decide) ?_
    have hf := Option.some.inj hf
    subst hf
    exact W.zret (v := (1 : Int32)) hx hb hr (mp_nz (Or.inr rfl)) (fun t ht hW => ⟨(1 : Int32), rfl, ⟨rfl, (Or.inr rfl)⟩, ht⟩) (fun q h => by cases h) zd_Fo_isTold_12
set_option maxHeartbeats 4000000 in
set_option maxRecDepth 100000 in
theorem zc_Pa_ownCount (l : Launch) (dC : Nat → ClassId) (dI : Nat → Nat → Nat) (cI cJ cZ : ClassId) (ad : Nat → Nat) (xpn : Int32) (xpo : Nat → Int32) (u1 : Int32) (res : Int32) (hf : zf_Pa_ownCount u1 xpn xpo = some res) : Met l zy_Pa_ownCount zw_Pa_ownCount ({ frames := 0, cells := 0, slots := 0, locals := 0 } : Room) (mp_PR (dC, dI) vwCl (mp_tys cI cJ cZ) [(ad 3, .inr (3, [.ref (ad 7), .ref (ad 8), .ref (ad 9), .ref (ad 10), .ref (ad 11), .ref (ad 12), .int xpn])), (ad 7, .inl (cI, 24, .inl xpo))] [.ref (ad 3), .int u1]) (vp_Si (fun r => r = res)) 0 0 (fun _ => False) := by
  refine Met.ofW (cc := zb_Pa_ownCount) (maxL := 4) (ret := (some .int)) (by decide) rfl ?_
  intro p e s m args below meth c s₁ B hml hv
  obtain ⟨rfl, hP, hK, hN⟩ := hv
  have hx := B.exec
  have hb := B.bytes
  have hr := B.returns
  have hts := atoms_spec (ws := zw_Pa_ownCount) B.pre
  have hsub : ∀ w ∈ mp_tbl, w ∈ zw_Pa_ownCount := fun w h => List.mem_cons_of_mem _ h
  have hw : ∀ w ∈ mp_tbl, w.before _ s = true := fun w h => hts w (hsub w h)
  have hown : s.vm.findClass zR_Pa = some m.cls := findClass_of_methodNamed B.named
  have hlocks := B.notSynchronized
  have loop4 : ∀ (v1 : Int32) (n : Nat) (v2 : Int32) (v3 : Int32) (ls : Array Slot), zf_Pa_ownCount_L4 v1 xpn xpo n v2 v3 = some res → lv_has ls 4 [(0, .ref (ad 3)), (1, .int v1), (2, .int v2), (3, .int v3)] → W p l e (headSpec zw_Pa_ownCount ({ frames := 0, cells := 0, slots := 0, locals := 0 } : Room)).room s m ([.ref (ad 3), .int u1] : List Value).toArray below meth c s.heap [] 0 0 (MQ below (vp_Si (fun r => r = res)) ([.ref (ad 3), .int u1] : List Value).toArray s 0 0 (fun _ => False)) (F0 m 4 ls []) := by
    intro v1 n
    induction n with
    | zero => intro v2 v3 ls hf; simp [zf_Pa_ownCount_L4] at hf
    | succ n ih =>
      intro v2 v3 ls hf hl
      rw [zf_Pa_ownCount_L4] at hf
      refine lv_iload_n hx hb zd_Pa_ownCount_4 rfl (lv_at hl 3 rfl) ?_
      refine lv_aload_n hx hb zd_Pa_ownCount_5 rfl (lv_at hl 0 rfl) ?_
      refine va_get (D := (dC, dI)) (ci := 3) (v := .int xpn) (C := zR_Pa) (T := zT_Pa) (N := 7) hx hb hts (fun w h => hsub w (zi_Pa w h)) hown hK hP 0 rfl rfl 6 (by decide) (hw _ zq_87) (fun _ h9 => h9) rfl zd_Pa_ownCount_6 ?_
      refine lv_icmp_ge (tgt := 31) hx hb zd_Pa_ownCount_9 (by decide) (fun c_1 => ?_) (fun c_1 => ?_)
      · have hf := mp_t c_1 hf
        refine lv_iload_n hx hb zd_Pa_ownCount_31 rfl (lv_at hl 2 rfl) ?_
        have hf := Option.some.inj hf
        subst hf
        exact W.iret (v := v2) hx hb hr (fun t ht hW => ⟨v2, rfl, rfl, ht⟩) (fun q h => by cases h) zd_Pa_ownCount_32
      · have hf := mp_f c_1 hf
        refine lv_aload_n hx hb zd_Pa_ownCount_12 rfl (lv_at hl 0 rfl) ?_
        refine va_get (D := (dC, dI)) (ci := 3) (v := .ref (ad 7)) (C := zR_Pa) (T := zT_Pa) (N := 7) hx hb hts (fun w h => hsub w (zi_Pa w h)) hown hK hP 0 rfl rfl 0 (by decide) (hw _ zq_75) (fun _ h9 => h9) rfl zd_Pa_ownCount_13 ?_
        refine lv_iload_n hx hb zd_Pa_ownCount_16 rfl (lv_at hl 3 rfl) ?_
        obtain ⟨h_2, hf⟩ := mp_in hf
        refine va_iald hx hb hK hP 1 0 rfl rfl (i := v3) h_2 zd_Pa_ownCount_17 ?_
        refine lv_iload_n hx hb zd_Pa_ownCount_18 rfl (lv_at hl 1 rfl) ?_
        refine lv_icmp_ne (tgt := 25) hx hb zd_Pa_ownCount_19 (by decide) (fun c_3 => ?_) (fun c_3 => ?_)
        · have hf := mp_f c_3 hf
          refine lv_iinc (v := (v3 + (1 : Int32))) (lv' := [(3, .int (v3 + (1 : Int32))), (0, .ref (ad 3)), (1, .int v1), (2, .int v2)]) hx hb zd_Pa_ownCount_25 hl (k := 3) rfl rfl (by decide) rfl (fun ls hl => ?_)
          refine lv_goto (tgt := 4) hx hb zd_Pa_ownCount_28 (by decide) ?_
          exact ih v2 (v3 + (1 : Int32)) _ hf (lv_sub hl [1, 2, 3, 0] rfl)
        · have hf := mp_t c_3 hf
          refine lv_iinc (v := (v2 + (1 : Int32))) (lv' := [(2, .int (v2 + (1 : Int32))), (0, .ref (ad 3)), (1, .int v1), (3, .int v3)]) hx hb zd_Pa_ownCount_22 hl (k := 2) rfl rfl (by decide) rfl (fun ls hl => ?_)
          refine lv_iinc (v := (v3 + (1 : Int32))) (lv' := [(3, .int (v3 + (1 : Int32))), (2, .int (v2 + (1 : Int32))), (0, .ref (ad 3)), (1, .int v1)]) hx hb zd_Pa_ownCount_25 hl (k := 3) rfl rfl (by decide) rfl (fun ls hl => ?_)
          refine lv_goto (tgt := 4) hx hb zd_Pa_ownCount_28 (by decide) ?_
          exact ih (v2 + (1 : Int32)) (v3 + (1 : Int32)) _ hf (lv_sub hl [2, 3, 1, 0] rfl)
  have hl := lv_entry ([.ref (ad 3), .int u1]) (n := 4) (Nat.le_of_ble_eq_true rfl)
  rw [lg_entry_eq]
  generalize (lg_sl ([.ref (ad 3), .int u1]) ++ List.replicate (4 - (lg_sl ([.ref (ad 3), .int u1])).length) Slot.unset).toArray = ls at hl ⊢
  have hl : lv_has ls 4 [(0, .ref (ad 3)), (1, .int u1)] := hl
  unfold zf_Pa_ownCount at hf
  refine lv_iconst (v := 0) hx hb zd_Pa_ownCount_0 (by decide) ?_
  refine lv_istore_n (lv' := [(2, .int (0 : Int32)), (0, .ref (ad 3)), (1, .int u1)]) hx hb zd_Pa_ownCount_1 rfl hl (by decide) rfl (fun ls hl => ?_)
  refine lv_iconst (v := 0) hx hb zd_Pa_ownCount_2 (by decide) ?_
  refine lv_istore_n (lv' := [(3, .int (0 : Int32)), (2, .int (0 : Int32)), (0, .ref (ad 3)), (1, .int u1)]) hx hb zd_Pa_ownCount_3 rfl hl (by decide) rfl (fun ls hl => ?_)
  exact loop4 u1 2000 (0 : Int32) (0 : Int32) _ hf (lv_sub hl [2, 3, 1, 0] rfl)
set_option maxHeartbeats 4000000 in
set_option maxRecDepth 100000 in
theorem zc_Fo_cutProduct (l : Launch) (dC : Nat → ClassId) (dI : Nat → Nat → Nat) (cI cJ cZ : ClassId) (ad : Nat → Nat) (u0 : Int64) (u2 : Int64) (res : Int64) (hf : zf_Fo_cutProduct u0 u2 = some res) : Met l zy_Fo_cutProduct zw_Fo_cutProduct ({ frames := 1, cells := 0, slots := 0, locals := 25 } : Room) (mp_PR (dC, dI) vwCl (mp_tys cI cJ cZ) [] [.long u0, .long u2]) (vp_Sl (fun r => r = res)) 0 0 (fun _ => False) := by
  refine Met.ofW (cc := zb_Fo_cutProduct) (maxL := 4) (ret := (some .long)) (by decide) rfl ?_
  intro p e s m args below meth c s₁ B hml hv
  obtain ⟨rfl, hP, hK, hN⟩ := hv
  have hx := B.exec
  have hb := B.bytes
  have hr := B.returns
  have hts := atoms_spec (ws := zw_Fo_cutProduct) B.pre
  have hsub : ∀ w ∈ mp_tbl, w ∈ zw_Fo_cutProduct := fun w h => List.mem_cons_of_mem _ h
  have hw : ∀ w ∈ mp_tbl, w.before _ s = true := fun w h => hts w (hsub w h)
  have hown : s.vm.findClass zR_Fo = some m.cls := findClass_of_methodNamed B.named
  have hlocks := B.notSynchronized
  have hl := lv_entry ([.long u0, .long u2]) (n := 4) (Nat.le_of_ble_eq_true rfl)
  rw [lg_entry_eq]
  generalize (lg_sl ([.long u0, .long u2]) ++ List.replicate (4 - (lg_sl ([.long u0, .long u2])).length) Slot.unset).toArray = ls at hl ⊢
  have hl : lv_has ls 4 [(0, .long u0), (2, .long u2)] := hl
  unfold zf_Fo_cutProduct at hf
  refine lv_lload_n hx hb zd_Fo_cutProduct_0 rfl (lv_at hl 0 rfl) ?_
  refine lv_lconst (v := 0) hx hb zd_Fo_cutProduct_1 (by decide) ?_
  refine W.lcmp hx hb zd_Fo_cutProduct_2 ?_
  refine lv_if_ne (tgt := 8) hx hb zd_Fo_cutProduct_3 (by decide) (fun c_1 => ?_) (fun c_1 => ?_)
  · have c_1 := fun h9 => c_1 ((lg_cmp_eq _ _).mpr h9)
    have hf := mp_f c_1 hf
    refine lv_lload_n hx hb zd_Fo_cutProduct_8 rfl (lv_at hl 1 rfl) ?_
    refine va_mabs_long hx hb (by rw [hml]; exact hl.1.symm) hown (hw _ zq_409) (hw _ zq_410) (hw _ zq_33) (hw _ zq_411) (Nat.le_of_ble_eq_true rfl) (Nat.le_of_ble_eq_true rfl) (Nat.zero_le _) (Nat.zero_le _) zd_Fo_cutProduct_9 ?_
    refine lv_ldc2 (v := 1000000000000) hx hb hown (hw _ zq_399) zd_Fo_cutProduct_12 ?_
    refine lv_lload_n hx hb zd_Fo_cutProduct_15 rfl (lv_at hl 0 rfl) ?_
    refine va_mabs_long hx hb (by rw [hml]; exact hl.1.symm) hown (hw _ zq_409) (hw _ zq_410) (hw _ zq_33) (hw _ zq_411) (Nat.le_of_ble_eq_true rfl) (Nat.le_of_ble_eq_true rfl) (Nat.zero_le _) (Nat.zero_le _) zd_Fo_cutProduct_16 ?_
    obtain ⟨h_2, hf⟩ := mp_in hf
    refine lv_ldiv hx hb zd_Fo_cutProduct_19 h_2 ?_
    refine W.lcmp hx hb zd_Fo_cutProduct_20 ?_
    refine lv_if_gt (tgt := 28) hx hb zd_Fo_cutProduct_21 (by decide) (fun c_3 => ?_) (fun c_3 => ?_)
    · have c_3 := (lg_cmp_gt _ _).mp c_3
      have hf := mp_t c_3 hf
      refine lv_lload_n hx hb zd_Fo_cutProduct_28 rfl (lv_at hl 0 rfl) ?_
      refine lv_lconst (v := 0) hx hb zd_Fo_cutProduct_29 (by decide) ?_
      refine W.lcmp hx hb zd_Fo_cutProduct_30 ?_
      refine lv_if_ge (tgt := 38) hx hb zd_Fo_cutProduct_31 (by decide) (fun c_4 => ?_) (fun c_4 => ?_)
      · have c_4 := (lg_cmp_ge _ _).mp c_4
        have hf := mp_t c_4 hf
        refine lv_iconst (v := 0) hx hb zd_Fo_cutProduct_38 (by decide) ?_
        refine lv_lload_n hx hb zd_Fo_cutProduct_39 rfl (lv_at hl 1 rfl) ?_
        refine lv_lconst (v := 0) hx hb zd_Fo_cutProduct_40 (by decide) ?_
        refine W.lcmp hx hb zd_Fo_cutProduct_41 ?_
        refine lv_if_ge (tgt := 49) hx hb zd_Fo_cutProduct_42 (by decide) (fun c_5 => ?_) (fun c_5 => ?_)
        · have c_5 := (lg_cmp_ge _ _).mp c_5
          have hf := mp_t c_5 hf
          refine lv_iconst (v := 0) hx hb zd_Fo_cutProduct_49 (by decide) ?_
          refine lv_icmp_ne (tgt := 59) hx hb zd_Fo_cutProduct_50 (by decide) (fun c_6 => ?_) (fun c_6 => ?_)
          · have hf := mp_f c_6 hf
            refine lv_ldc2 (v := -1000000000000) hx hb hown (hw _ zq_398) zd_Fo_cutProduct_59 ?_
            have hf := Option.some.inj hf
            subst hf
            exact W.lret (v := (-1000000000000 : Int64)) hx hb hr (fun t ht hW => ⟨(-1000000000000 : Int64), rfl, rfl, ht⟩) (fun q h => by cases h) zd_Fo_cutProduct_62
          · have hf := mp_t c_6 hf
            refine lv_ldc2 (v := 1000000000000) hx hb hown (hw _ zq_399) zd_Fo_cutProduct_53 ?_
            refine lv_goto (tgt := 62) hx hb zd_Fo_cutProduct_56 (by decide) ?_
            have hf := Option.some.inj hf
            subst hf
            exact W.lret (v := (1000000000000 : Int64)) hx hb hr (fun t ht hW => ⟨(1000000000000 : Int64), rfl, rfl, ht⟩) (fun q h => by cases h) zd_Fo_cutProduct_62
        · have c_5 := fun h9 => c_5 ((lg_cmp_ge _ _).mpr h9)
          have hf := mp_f c_5 hf
          refine lv_iconst (v := 1) hx hb zd_Fo_cutProduct_45 (by decide) ?_
          refine lv_goto (tgt := 50) hx hb zd_Fo_cutProduct_46 (by decide) ?_
          refine lv_icmp_ne (tgt := 59) hx hb zd_Fo_cutProduct_50 (by decide) (fun c_7 => ?_) (fun c_7 => ?_)
          · have hf := mp_f c_7 hf
            refine lv_ldc2 (v := -1000000000000) hx hb hown (hw _ zq_398) zd_Fo_cutProduct_59 ?_
            have hf := Option.some.inj hf
            subst hf
            exact W.lret (v := (-1000000000000 : Int64)) hx hb hr (fun t ht hW => ⟨(-1000000000000 : Int64), rfl, rfl, ht⟩) (fun q h => by cases h) zd_Fo_cutProduct_62
          · have hf := mp_t c_7 hf
            refine lv_ldc2 (v := 1000000000000) hx hb hown (hw _ zq_399) zd_Fo_cutProduct_53 ?_
            refine lv_goto (tgt := 62) hx hb zd_Fo_cutProduct_56 (by decide) ?_
            have hf := Option.some.inj hf
            subst hf
            exact W.lret (v := (1000000000000 : Int64)) hx hb hr (fun t ht hW => ⟨(1000000000000 : Int64), rfl, rfl, ht⟩) (fun q h => by cases h) zd_Fo_cutProduct_62
      · have c_4 := fun h9 => c_4 ((lg_cmp_ge _ _).mpr h9)
        have hf := mp_f c_4 hf
        refine lv_iconst (v := 1) hx hb zd_Fo_cutProduct_34 (by decide) ?_
        refine lv_goto (tgt := 39) hx hb zd_Fo_cutProduct_35 (by decide) ?_
        refine lv_lload_n hx hb zd_Fo_cutProduct_39 rfl (lv_at hl 1 rfl) ?_
        refine lv_lconst (v := 0) hx hb zd_Fo_cutProduct_40 (by decide) ?_
        refine W.lcmp hx hb zd_Fo_cutProduct_41 ?_
        refine lv_if_ge (tgt := 49) hx hb zd_Fo_cutProduct_42 (by decide) (fun c_8 => ?_) (fun c_8 => ?_)
        · have c_8 := (lg_cmp_ge _ _).mp c_8
          have hf := mp_t c_8 hf
          refine lv_iconst (v := 0) hx hb zd_Fo_cutProduct_49 (by decide) ?_
          refine lv_icmp_ne (tgt := 59) hx hb zd_Fo_cutProduct_50 (by decide) (fun c_9 => ?_) (fun c_9 => ?_)
          · have hf := mp_f c_9 hf
            refine lv_ldc2 (v := -1000000000000) hx hb hown (hw _ zq_398) zd_Fo_cutProduct_59 ?_
            have hf := Option.some.inj hf
            subst hf
            exact W.lret (v := (-1000000000000 : Int64)) hx hb hr (fun t ht hW => ⟨(-1000000000000 : Int64), rfl, rfl, ht⟩) (fun q h => by cases h) zd_Fo_cutProduct_62
          · have hf := mp_t c_9 hf
            refine lv_ldc2 (v := 1000000000000) hx hb hown (hw _ zq_399) zd_Fo_cutProduct_53 ?_
            refine lv_goto (tgt := 62) hx hb zd_Fo_cutProduct_56 (by decide) ?_
            have hf := Option.some.inj hf
            subst hf
            exact W.lret (v := (1000000000000 : Int64)) hx hb hr (fun t ht hW => ⟨(1000000000000 : Int64), rfl, rfl, ht⟩) (fun q h => by cases h) zd_Fo_cutProduct_62
        · have c_8 := fun h9 => c_8 ((lg_cmp_ge _ _).mpr h9)
          have hf := mp_f c_8 hf
          refine lv_iconst (v := 1) hx hb zd_Fo_cutProduct_45 (by decide) ?_
          refine lv_goto (tgt := 50) hx hb zd_Fo_cutProduct_46 (by decide) ?_
          refine lv_icmp_ne (tgt := 59) hx hb zd_Fo_cutProduct_50 (by decide) (fun c_10 => ?_) (fun c_10 => ?_)
          · have hf := mp_f c_10 hf
            refine lv_ldc2 (v := -1000000000000) hx hb hown (hw _ zq_398) zd_Fo_cutProduct_59 ?_
            have hf := Option.some.inj hf
            subst hf
            exact W.lret (v := (-1000000000000 : Int64)) hx hb hr (fun t ht hW => ⟨(-1000000000000 : Int64), rfl, rfl, ht⟩) (fun q h => by cases h) zd_Fo_cutProduct_62
          · have hf := mp_t c_10 hf
            refine lv_ldc2 (v := 1000000000000) hx hb hown (hw _ zq_399) zd_Fo_cutProduct_53 ?_
            refine lv_goto (tgt := 62) hx hb zd_Fo_cutProduct_56 (by decide) ?_
            have hf := Option.some.inj hf
            subst hf
            exact W.lret (v := (1000000000000 : Int64)) hx hb hr (fun t ht hW => ⟨(1000000000000 : Int64), rfl, rfl, ht⟩) (fun q h => by cases h) zd_Fo_cutProduct_62
    · have c_3 := fun h9 => c_3 ((lg_cmp_gt _ _).mpr h9)
      have hf := mp_f c_3 hf
      refine lv_lload_n hx hb zd_Fo_cutProduct_24 rfl (lv_at hl 0 rfl) ?_
      refine lv_lload_n hx hb zd_Fo_cutProduct_25 rfl (lv_at hl 1 rfl) ?_
      refine lv_lmul hx hb zd_Fo_cutProduct_26 ?_
      have hf := Option.some.inj hf
      subst hf
      exact W.lret (v := (u0 * u2)) hx hb hr (fun t ht hW => ⟨(u0 * u2), rfl, rfl, ht⟩) (fun q h => by cases h) zd_Fo_cutProduct_27
  · have c_1 := (lg_cmp_eq _ _).mp c_1
    have hf := mp_t c_1 hf
    refine lv_lconst (v := 0) hx hb zd_Fo_cutProduct_6 (by decide) ?_
    have hf := Option.some.inj hf
    subst hf
    exact W.lret (v := (0 : Int64)) hx hb hr (fun t ht hW => ⟨(0 : Int64), rfl, rfl, ht⟩) (fun q h => by cases h) zd_Fo_cutProduct_7
set_option maxHeartbeats 4000000 in
set_option maxRecDepth 100000 in
theorem zc_Fo_cut (l : Launch) (dC : Nat → ClassId) (dI : Nat → Nat → Nat) (cI cJ cZ : ClassId) (ad : Nat → Nat) (u0 : Int64) (res : Int64) (hf : zf_Fo_cut u0 = some res) : Met l zy_Fo_cut zw_Fo_cut ({ frames := 1, cells := 0, slots := 0, locals := 25 } : Room) (mp_PR (dC, dI) vwCl (mp_tys cI cJ cZ) [] [.long u0]) (vp_Sl (fun r => r = res)) 0 0 (fun _ => False) := by
  refine Met.ofW (cc := zb_Fo_cut) (maxL := 2) (ret := (some .long)) (by decide) rfl ?_
  intro p e s m args below meth c s₁ B hml hv
  obtain ⟨rfl, hP, hK, hN⟩ := hv
  have hx := B.exec
  have hb := B.bytes
  have hr := B.returns
  have hts := atoms_spec (ws := zw_Fo_cut) B.pre
  have hsub : ∀ w ∈ mp_tbl, w ∈ zw_Fo_cut := fun w h => List.mem_cons_of_mem _ h
  have hw : ∀ w ∈ mp_tbl, w.before _ s = true := fun w h => hts w (hsub w h)
  have hown : s.vm.findClass zR_Fo = some m.cls := findClass_of_methodNamed B.named
  have hlocks := B.notSynchronized
  have hl := lv_entry ([.long u0]) (n := 2) (Nat.le_of_ble_eq_true rfl)
  rw [lg_entry_eq]
  generalize (lg_sl ([.long u0]) ++ List.replicate (2 - (lg_sl ([.long u0])).length) Slot.unset).toArray = ls at hl ⊢
  have hl : lv_has ls 2 [(0, .long u0)] := hl
  unfold zf_Fo_cut at hf
  refine lv_ldc2 (v := -1000000000000) hx hb hown (hw _ zq_398) zd_Fo_cut_0 ?_
  refine lv_ldc2 (v := 1000000000000) hx hb hown (hw _ zq_399) zd_Fo_cut_3 ?_
  refine lv_lload_n hx hb zd_Fo_cut_6 rfl (lv_at hl 0 rfl) ?_
  refine va_mmin_long hx hb (by rw [hml]; exact hl.1.symm) hown (hw _ zq_400) (hw _ zq_401) (hw _ zq_33) (hw _ zq_402) (Nat.le_of_ble_eq_true rfl) (Nat.le_of_ble_eq_true rfl) (Nat.zero_le _) (Nat.zero_le _) zd_Fo_cut_7 ?_
  refine va_mmax_long hx hb (by rw [hml]; exact hl.1.symm) hown (hw _ zq_403) (hw _ zq_404) (hw _ zq_33) (hw _ zq_405) (Nat.le_of_ble_eq_true rfl) (Nat.le_of_ble_eq_true rfl) (Nat.zero_le _) (Nat.zero_le _) zd_Fo_cut_10 ?_
  have hf := Option.some.inj hf
  subst hf
  exact W.lret (v := (if (if u0 < (1000000000000 : Int64) then u0 else (1000000000000 : Int64)) < (-1000000000000 : Int64) then (-1000000000000 : Int64) else (if u0 < (1000000000000 : Int64) then u0 else (1000000000000 : Int64)))) hx hb hr (fun t ht hW => ⟨(if (if u0 < (1000000000000 : Int64) then u0 else (1000000000000 : Int64)) < (-1000000000000 : Int64) then (-1000000000000 : Int64) else (if u0 < (1000000000000 : Int64) then u0 else (1000000000000 : Int64))), rfl, rfl, ht⟩) (fun q h => by cases h) zd_Fo_cut_13
set_option maxHeartbeats 4000000 in
set_option maxRecDepth 100000 in
theorem zc_Fo_join (l : Launch) (dC : Nat → ClassId) (dI : Nat → Nat → Nat) (cI cJ cZ : ClassId) (ad : Nat → Nat) (u0 : Int32) (u1 : Int64) (u3 : Int64) (res : Int64) (hf : zf_Fo_join u0 u1 u3 = some res) : Met l zy_Fo_join zw_Fo_join ({ frames := 2, cells := 0, slots := 0, locals := 48 } : Room) (mp_PR (dC, dI) vwCl (mp_tys cI cJ cZ) [] [.int u0, .long u1, .long u3]) (vp_Sl (fun r => r = res)) 0 0 (fun _ => False) := by
  refine Met.ofW (cc := zb_Fo_join) (maxL := 5) (ret := (some .long)) (by decide) rfl ?_
  intro p e s m args below meth c s₁ B hml hv
  obtain ⟨rfl, hP, hK, hN⟩ := hv
  have hx := B.exec
  have hb := B.bytes
  have hr := B.returns
  have hts := atoms_spec (ws := zw_Fo_join) B.pre
  have hsub : ∀ w ∈ mp_tbl, w ∈ zw_Fo_join := fun w h => List.mem_cons_of_mem _ h
  have hw : ∀ w ∈ mp_tbl, w.before _ s = true := fun w h => hts w (hsub w h)
  have hown : s.vm.findClass zR_Fo = some m.cls := findClass_of_methodNamed B.named
  have hlocks := B.notSynchronized
  have hl := lv_entry ([.int u0, .long u1, .long u3]) (n := 5) (Nat.le_of_ble_eq_true rfl)
  rw [lg_entry_eq]
  generalize (lg_sl ([.int u0, .long u1, .long u3]) ++ List.replicate (5 - (lg_sl ([.int u0, .long u1, .long u3])).length) Slot.unset).toArray = ls at hl ⊢
  have hl : lv_has ls 5 [(0, .int u0), (1, .long u1), (3, .long u3)] := hl
  unfold zf_Fo_join at hf
  refine lv_iload_n hx hb zd_Fo_join_0 rfl (lv_at hl 0 rfl) ?_
  by_cases c_1 : u0 = (-10 : Int32)
  · have hf := mp_t c_1 hf
    refine lv_tableIn (tgt := 52) (off := 51) hx hb zd_Fo_join_1 (by rw [c_1]; decide) (by rw [c_1]; decide) (by rw [c_1]; rfl) (by decide) ?_
    refine lv_lload_n hx hb zd_Fo_join_52 rfl (lv_at hl 1 rfl) ?_
    refine lv_lload_n hx hb zd_Fo_join_53 rfl (lv_at hl 2 rfl) ?_
    refine va_mmin_long hx hb (by rw [hml]; exact hl.1.symm) hown (hw _ zq_400) (hw _ zq_401) (hw _ zq_33) (hw _ zq_402) (Nat.le_of_ble_eq_true rfl) (Nat.le_of_ble_eq_true rfl) (Nat.zero_le _) (Nat.zero_le _) zd_Fo_join_54 ?_
    have hf := Option.some.inj hf
    subst hf
    exact W.lret (v := (if u3 < u1 then u3 else u1)) hx hb hr (fun t ht hW => ⟨(if u3 < u1 then u3 else u1), rfl, rfl, ht⟩) (fun q h => by cases h) zd_Fo_join_57
  have hf := mp_f c_1 hf
  by_cases c_2 : u0 = (-9 : Int32)
  · have hf := mp_t c_2 hf
    refine lv_tableIn (tgt := 46) (off := 45) hx hb zd_Fo_join_1 (by rw [c_2]; decide) (by rw [c_2]; decide) (by rw [c_2]; rfl) (by decide) ?_
    refine lv_lload_n hx hb zd_Fo_join_46 rfl (lv_at hl 1 rfl) ?_
    refine lv_lload_n hx hb zd_Fo_join_47 rfl (lv_at hl 2 rfl) ?_
    obtain ⟨y3, hg3, hf⟩ := mp_bd hf
    refine mp_Rl (va_runS (As := [.long u1, .long u3]) (rest := []) ⟨hx, hb, hml, hown, hts⟩ (zc_Fo_cutProduct l dC dI cI cJ cZ ad u1 u3 y3 hg3) (va_cwS 2 hts (mp_gS hsub zq_406 zq_407 zq_29 zq_408) rfl rfl rfl (by decide +kernel) ⟨Nat.le_of_ble_eq_true rfl, Nat.le_of_ble_eq_true rfl⟩) ⟨mp_blR, mp_preR hN hK (hP.sub [] rfl)⟩ rfl rfl hl.1 rfl (lv_room (Nat.le_of_ble_eq_true rfl)) zd_Fo_join_48 ⟨Nat.zero_le _, Nat.zero_le _⟩) ?_
    have hf := Option.some.inj hf
    subst hf
    exact W.lret (v := y3) hx hb hr (fun t ht hW => ⟨y3, rfl, rfl, ht⟩) (fun q h => by cases h) zd_Fo_join_51
  have hf := mp_f c_2 hf
  by_cases c_4 : u0 = (-8 : Int32)
  · have hf := mp_t c_4 hf
    refine lv_tableIn (tgt := 39) (off := 38) hx hb zd_Fo_join_1 (by rw [c_4]; decide) (by rw [c_4]; decide) (by rw [c_4]; rfl) (by decide) ?_
    refine lv_lload_n hx hb zd_Fo_join_39 rfl (lv_at hl 1 rfl) ?_
    refine lv_lload_n hx hb zd_Fo_join_40 rfl (lv_at hl 2 rfl) ?_
    refine lv_lsub hx hb zd_Fo_join_41 ?_
    obtain ⟨y5, hg5, hf⟩ := mp_bd hf
    refine mp_Rl (va_runS (As := [.long (u1 - u3)]) (rest := []) ⟨hx, hb, hml, hown, hts⟩ (zc_Fo_cut l dC dI cI cJ cZ ad (u1 - u3) y5 hg5) (va_cwS 1 hts (mp_gS hsub zq_395 zq_396 zq_29 zq_397) rfl rfl rfl (by decide +kernel) ⟨Nat.le_of_ble_eq_true rfl, Nat.le_of_ble_eq_true rfl⟩) ⟨mp_blR, mp_preR hN hK (hP.sub [] rfl)⟩ rfl rfl hl.1 rfl (lv_room (Nat.le_of_ble_eq_true rfl)) zd_Fo_join_42 ⟨Nat.zero_le _, Nat.zero_le _⟩) ?_
    have hf := Option.some.inj hf
    subst hf
    exact W.lret (v := y5) hx hb hr (fun t ht hW => ⟨y5, rfl, rfl, ht⟩) (fun q h => by cases h) zd_Fo_join_45
  have hf := mp_f c_4 hf
  by_cases c_6 : u0 = (-7 : Int32)
  · have hf := mp_t c_6 hf
    refine lv_tableIn (tgt := 32) (off := 31) hx hb zd_Fo_join_1 (by rw [c_6]; decide) (by rw [c_6]; decide) (by rw [c_6]; rfl) (by decide) ?_
    refine lv_lload_n hx hb zd_Fo_join_32 rfl (lv_at hl 1 rfl) ?_
    refine lv_lload_n hx hb zd_Fo_join_33 rfl (lv_at hl 2 rfl) ?_
    refine lv_ladd hx hb zd_Fo_join_34 ?_
    obtain ⟨y7, hg7, hf⟩ := mp_bd hf
    refine mp_Rl (va_runS (As := [.long (u1 + u3)]) (rest := []) ⟨hx, hb, hml, hown, hts⟩ (zc_Fo_cut l dC dI cI cJ cZ ad (u1 + u3) y7 hg7) (va_cwS 1 hts (mp_gS hsub zq_395 zq_396 zq_29 zq_397) rfl rfl rfl (by decide +kernel) ⟨Nat.le_of_ble_eq_true rfl, Nat.le_of_ble_eq_true rfl⟩) ⟨mp_blR, mp_preR hN hK (hP.sub [] rfl)⟩ rfl rfl hl.1 rfl (lv_room (Nat.le_of_ble_eq_true rfl)) zd_Fo_join_35 ⟨Nat.zero_le _, Nat.zero_le _⟩) ?_
    have hf := Option.some.inj hf
    subst hf
    exact W.lret (v := y7) hx hb hr (fun t ht hW => ⟨y7, rfl, rfl, ht⟩) (fun q h => by cases h) zd_Fo_join_38
  have hf := mp_f c_6 hf
  have c_8 : u0.toInt < -10 ∨ -7 < u0.toInt := by
    have n_1 := lv_neT (a := -10) c_1 (by decide)
    have n_2 := lv_neT (a := -9) c_2 (by decide)
    have n_4 := lv_neT (a := -8) c_4 (by decide)
    have n_6 := lv_neT (a := -7) c_6 (by decide)
    omega
  refine lv_tableOut (tgt := 58) hx hb zd_Fo_join_1 c_8 (by decide) ?_
  refine lv_lload_n hx hb zd_Fo_join_58 rfl (lv_at hl 1 rfl) ?_
  refine lv_lload_n hx hb zd_Fo_join_59 rfl (lv_at hl 2 rfl) ?_
  refine va_mmax_long hx hb (by rw [hml]; exact hl.1.symm) hown (hw _ zq_403) (hw _ zq_404) (hw _ zq_33) (hw _ zq_405) (Nat.le_of_ble_eq_true rfl) (Nat.le_of_ble_eq_true rfl) (Nat.zero_le _) (Nat.zero_le _) zd_Fo_join_60 ?_
  have hf := Option.some.inj hf
  subst hf
  exact W.lret (v := (if u3 < u1 then u1 else u3)) hx hb hr (fun t ht hW => ⟨(if u3 < u1 then u1 else u3), rfl, rfl, ht⟩) (fun q h => by cases h) zd_Fo_join_63
set_option maxHeartbeats 4000000 in
set_option maxRecDepth 100000 in
theorem zc_Fo_share (l : Launch) (dC : Nat → ClassId) (dI : Nat → Nat → Nat) (cI cJ cZ : ClassId) (ad : Nat → Nat) (xsm : Nat → Int64) (u0 : Int32) (res : Int64) (hf : zf_Fo_share u0 xsm = some res) : Met l zy_Fo_share zw_Fo_share ({ frames := 1, cells := 0, slots := 0, locals := 20 } : Room) (mp_PR (dC, dI) vwCl (mp_tys cI cJ cZ) [(ad 6, .inl (cJ, 5, .inr (.inl xsm)))] [.int u0, .ref (ad 6)]) (vp_Sl (fun r => r = res)) 0 0 (fun _ => False) := by
  refine Met.ofW (cc := zb_Fo_share) (maxL := 5) (ret := (some .long)) (by decide) rfl ?_
  intro p e s m args below meth c s₁ B hml hv
  obtain ⟨rfl, hP, hK, hN⟩ := hv
  have hx := B.exec
  have hb := B.bytes
  have hr := B.returns
  have hts := atoms_spec (ws := zw_Fo_share) B.pre
  have hsub : ∀ w ∈ mp_tbl, w ∈ zw_Fo_share := fun w h => List.mem_cons_of_mem _ h
  have hw : ∀ w ∈ mp_tbl, w.before _ s = true := fun w h => hts w (hsub w h)
  have hown : s.vm.findClass zR_Fo = some m.cls := findClass_of_methodNamed B.named
  have hlocks := B.notSynchronized
  have loop5 : ∀ (v0 : Int32) (n : Nat) (v2 : Int64) (v4 : Int32) (ls : Array Slot), zf_Fo_share_L5 v0 xsm n v2 v4 = some res → lv_has ls 5 [(0, .int v0), (1, .ref (ad 6)), (2, .long v2), (4, .int v4)] → W p l e (headSpec zw_Fo_share ({ frames := 1, cells := 0, slots := 0, locals := 20 } : Room)).room s m ([.int u0, .ref (ad 6)] : List Value).toArray below meth c s.heap [] 0 0 (MQ below (vp_Sl (fun r => r = res)) ([.int u0, .ref (ad 6)] : List Value).toArray s 0 0 (fun _ => False)) (F0 m 5 ls []) := by
    intro v0 n
    induction n with
    | zero => intro v2 v4 ls hf; simp [zf_Fo_share_L5] at hf
    | succ n ih =>
      intro v2 v4 ls hf hl
      rw [zf_Fo_share_L5] at hf
      refine lv_iload hx hb zd_Fo_share_5 (lv_at hl 3 rfl) ?_
      refine lv_iconst (v := 5) hx hb zd_Fo_share_7 (by decide) ?_
      refine lv_icmp_ge (tgt := 24) hx hb zd_Fo_share_8 (by decide) (fun c_1 => ?_) (fun c_1 => ?_)
      · have hf := mp_t c_1 hf
        refine lv_lload_n hx hb zd_Fo_share_24 rfl (lv_at hl 2 rfl) ?_
        refine lv_lconst (v := 0) hx hb zd_Fo_share_25 (by decide) ?_
        refine W.lcmp hx hb zd_Fo_share_26 ?_
        refine lv_if_le (tgt := 49) hx hb zd_Fo_share_27 (by decide) (fun c_2 => ?_) (fun c_2 => ?_)
        · have c_2 := (lg_cmp_le _ _).mp c_2
          have hf := mp_t c_2 hf
          refine lv_lconst (v := 0) hx hb zd_Fo_share_49 (by decide) ?_
          have hf := Option.some.inj hf
          subst hf
          exact W.lret (v := (0 : Int64)) hx hb hr (fun t ht hW => ⟨(0 : Int64), rfl, rfl, ht⟩) (fun q h => by cases h) zd_Fo_share_50
        · have c_2 := fun h9 => c_2 ((lg_cmp_le _ _).mpr h9)
          have hf := mp_f c_2 hf
          refine lv_iload_n hx hb zd_Fo_share_30 rfl (lv_at hl 0 rfl) ?_
          obtain ⟨y3, hg3, hf⟩ := mp_bd hf
          refine mp_Rz (va_runSN (As := [.int v0]) (rest := []) ⟨hx, hb, hml, hown, hts⟩ (zc_MP_isKind l dC dI cI cJ cZ ad v0 y3 hg3) ⟨va_cnB 1 hts (mp_gC hsub zq_195) rfl rfl rfl hN.2.2.2.2 (hw _ zq_25) (by decide +kernel) ⟨Nat.le_of_ble_eq_true rfl, Nat.le_of_ble_eq_true rfl⟩, hw _ zq_194, trivial⟩ ⟨mp_blR, mp_preR hN hK (hP.sub [] rfl)⟩ rfl rfl hl.1 rfl (lv_room (Nat.le_of_ble_eq_true rfl)) zd_Fo_share_31 ⟨Nat.zero_le _, Nat.zero_le _⟩) (fun hz3 => ?_)
          refine lv_if_eq (tgt := 49) hx hb zd_Fo_share_34 (by decide) (fun c_4 => ?_) (fun c_4 => ?_)
          · have hf := mp_t c_4 hf
            refine lv_lconst (v := 0) hx hb zd_Fo_share_49 (by decide) ?_
            have hf := Option.some.inj hf
            subst hf
            exact W.lret (v := (0 : Int64)) hx hb hr (fun t ht hW => ⟨(0 : Int64), rfl, rfl, ht⟩) (fun q h => by cases h) zd_Fo_share_50
          · have hf := mp_f c_4 hf
            refine lv_ldc2 (v := 1000) hx hb hown (hw _ zq_391) zd_Fo_share_37 ?_
            refine lv_aload_n hx hb zd_Fo_share_40 rfl (lv_at hl 1 rfl) ?_
            refine lv_iload_n hx hb zd_Fo_share_41 rfl (lv_at hl 0 rfl) ?_
            obtain ⟨h_5, hf⟩ := mp_in hf
            refine va_lald hx hb hK hP 0 1 rfl rfl (i := v0) h_5 zd_Fo_share_42 ?_
            refine lv_lmul hx hb zd_Fo_share_43 ?_
            refine lv_lload_n hx hb zd_Fo_share_44 rfl (lv_at hl 2 rfl) ?_
            obtain ⟨h_6, hf⟩ := mp_in hf
            refine lv_ldiv hx hb zd_Fo_share_45 h_6 ?_
            refine lv_goto (tgt := 50) hx hb zd_Fo_share_46 (by decide) ?_
            have hf := Option.some.inj hf
            subst hf
            exact W.lret (v := (((1000 : Int64) * (xsm v0.toNatClampNeg)) / v2)) hx hb hr (fun t ht hW => ⟨(((1000 : Int64) * (xsm v0.toNatClampNeg)) / v2), rfl, rfl, ht⟩) (fun q h => by cases h) zd_Fo_share_50
      · have hf := mp_f c_1 hf
        refine lv_lload_n hx hb zd_Fo_share_11 rfl (lv_at hl 2 rfl) ?_
        refine lv_aload_n hx hb zd_Fo_share_12 rfl (lv_at hl 1 rfl) ?_
        refine lv_iload hx hb zd_Fo_share_13 (lv_at hl 3 rfl) ?_
        obtain ⟨h_7, hf⟩ := mp_in hf
        refine va_lald hx hb hK hP 0 1 rfl rfl (i := v4) h_7 zd_Fo_share_15 ?_
        refine lv_ladd hx hb zd_Fo_share_16 ?_
        refine lv_lstore_n (lv' := [(2, .long (v2 + (xsm v4.toNatClampNeg))), (0, .int v0), (1, .ref (ad 6)), (4, .int v4)]) hx hb zd_Fo_share_17 rfl hl (by decide) rfl (fun ls hl => ?_)
        refine lv_iinc (v := (v4 + (1 : Int32))) (lv' := [(4, .int (v4 + (1 : Int32))), (2, .long (v2 + (xsm v4.toNatClampNeg))), (0, .int v0), (1, .ref (ad 6))]) hx hb zd_Fo_share_18 hl (k := 3) rfl rfl (by decide) rfl (fun ls hl => ?_)
        refine lv_goto (tgt := 5) hx hb zd_Fo_share_21 (by decide) ?_
        exact ih (v2 + (xsm v4.toNatClampNeg)) (v4 + (1 : Int32)) _ hf (lv_sub hl [2, 3, 1, 0] rfl)
  have hl := lv_entry ([.int u0, .ref (ad 6)]) (n := 5) (Nat.le_of_ble_eq_true rfl)
  rw [lg_entry_eq]
  generalize (lg_sl ([.int u0, .ref (ad 6)]) ++ List.replicate (5 - (lg_sl ([.int u0, .ref (ad 6)])).length) Slot.unset).toArray = ls at hl ⊢
  have hl : lv_has ls 5 [(0, .int u0), (1, .ref (ad 6))] := hl
  unfold zf_Fo_share at hf
  refine lv_lconst (v := 0) hx hb zd_Fo_share_0 (by decide) ?_
  refine lv_lstore_n (lv' := [(2, .long (0 : Int64)), (0, .int u0), (1, .ref (ad 6))]) hx hb zd_Fo_share_1 rfl hl (by decide) rfl (fun ls hl => ?_)
  refine lv_iconst (v := 0) hx hb zd_Fo_share_2 (by decide) ?_
  refine lv_istore (lv' := [(4, .int (0 : Int32)), (2, .long (0 : Int64)), (0, .int u0), (1, .ref (ad 6))]) hx hb zd_Fo_share_3 hl (by decide) rfl (fun ls hl => ?_)
  exact loop5 u0 2000 (0 : Int64) (0 : Int32) _ hf (lv_sub hl [2, 3, 1, 0] rfl)
set_option maxHeartbeats 4000000 in
set_option maxRecDepth 100000 in
theorem zc_Fo_valueOf (l : Launch) (dC : Nat → ClassId) (dI : Nat → Nat → Nat) (cI cJ cZ : ClassId) (ad : Nat → Nat) (xsm : Nat → Int64) (u0 : Int32) (u2 : Int32) (res : Int64) (hf : zf_Fo_valueOf u0 u2 xsm = some res) : Met l zy_Fo_valueOf zw_Fo_valueOf ({ frames := 2, cells := 0, slots := 0, locals := 44 } : Room) (mp_PR (dC, dI) vwCl (mp_tys cI cJ cZ) [(ad 6, .inl (cJ, 5, .inr (.inl xsm)))] [.int u0, .ref (ad 6), .int u2]) (vp_Sl (fun r => r = res)) 0 0 (fun _ => False) := by
  refine Met.ofW (cc := zb_Fo_valueOf) (maxL := 3) (ret := (some .long)) (by decide) rfl ?_
  intro p e s m args below meth c s₁ B hml hv
  obtain ⟨rfl, hP, hK, hN⟩ := hv
  have hx := B.exec
  have hb := B.bytes
  have hr := B.returns
  have hts := atoms_spec (ws := zw_Fo_valueOf) B.pre
  have hsub : ∀ w ∈ mp_tbl, w ∈ zw_Fo_valueOf := fun w h => List.mem_cons_of_mem _ h
  have hw : ∀ w ∈ mp_tbl, w.before _ s = true := fun w h => hts w (hsub w h)
  have hown : s.vm.findClass zR_Fo = some m.cls := findClass_of_methodNamed B.named
  have hlocks := B.notSynchronized
  have hl := lv_entry ([.int u0, .ref (ad 6), .int u2]) (n := 3) (Nat.le_of_ble_eq_true rfl)
  rw [lg_entry_eq]
  generalize (lg_sl ([.int u0, .ref (ad 6), .int u2]) ++ List.replicate (3 - (lg_sl ([.int u0, .ref (ad 6), .int u2])).length) Slot.unset).toArray = ls at hl ⊢
  have hl : lv_has ls 3 [(0, .int u0), (1, .ref (ad 6)), (2, .int u2)] := hl
  unfold zf_Fo_valueOf at hf
  refine lv_iload_n hx hb zd_Fo_valueOf_0 rfl (lv_at hl 0 rfl) ?_
  refine lv_if_lt (tgt := 7) hx hb zd_Fo_valueOf_1 (by decide) (fun c_1 => ?_) (fun c_1 => ?_)
  · have hf := mp_t c_1 hf
    refine lv_iload_n hx hb zd_Fo_valueOf_7 rfl (lv_at hl 0 rfl) ?_
    refine lv_bipush (v := -6) hx hb zd_Fo_valueOf_8 (by decide) ?_
    refine lv_icmp_ne (tgt := 16) hx hb zd_Fo_valueOf_10 (by decide) (fun c_2 => ?_) (fun c_2 => ?_)
    · have hf := mp_f c_2 hf
      refine lv_iconst (v := -1) hx hb zd_Fo_valueOf_16 (by decide) ?_
      refine lv_iload_n hx hb zd_Fo_valueOf_17 rfl (lv_at hl 0 rfl) ?_
      refine lv_isub hx hb zd_Fo_valueOf_18 ?_
      refine lv_aload_n hx hb zd_Fo_valueOf_19 rfl (lv_at hl 1 rfl) ?_
      obtain ⟨y3, hg3, hf⟩ := mp_bd hf
      refine mp_Rl (va_runS (As := [.int ((-1 : Int32) - u0), .ref (ad 6)]) (rest := []) ⟨hx, hb, hml, hown, hts⟩ (zc_Fo_share l dC dI cI cJ cZ ad xsm ((-1 : Int32) - u0) y3 hg3) (va_cwS 2 hts (mp_gS hsub zq_388 zq_389 zq_29 zq_390) rfl rfl rfl (by decide +kernel) ⟨Nat.le_of_ble_eq_true rfl, Nat.le_of_ble_eq_true rfl⟩) ⟨mp_blR, mp_preR hN hK (hP.sub [0] rfl)⟩ rfl rfl hl.1 rfl (lv_room (Nat.le_of_ble_eq_true rfl)) zd_Fo_valueOf_20 ⟨Nat.zero_le _, Nat.zero_le _⟩) ?_
      have hf := Option.some.inj hf
      subst hf
      exact W.lret (v := y3) hx hb hr (fun t ht hW => ⟨y3, rfl, rfl, ht⟩) (fun q h => by cases h) zd_Fo_valueOf_23
    · have hf := mp_t c_2 hf
      refine lv_iload_n hx hb zd_Fo_valueOf_13 rfl (lv_at hl 2 rfl) ?_
      refine lv_i2l hx hb zd_Fo_valueOf_14 rfl ?_
      have hf := Option.some.inj hf
      subst hf
      exact W.lret (v := u2.toInt64) hx hb hr (fun t ht hW => ⟨u2.toInt64, rfl, rfl, ht⟩) (fun q h => by cases h) zd_Fo_valueOf_15
  · have hf := mp_f c_1 hf
    refine lv_iload_n hx hb zd_Fo_valueOf_4 rfl (lv_at hl 0 rfl) ?_
    refine lv_i2l hx hb zd_Fo_valueOf_5 rfl ?_
    have hf := Option.some.inj hf
    subst hf
    exact W.lret (v := u0.toInt64) hx hb hr (fun t ht hW => ⟨u0.toInt64, rfl, rfl, ht⟩) (fun q h => by cases h) zd_Fo_valueOf_6
set_option maxHeartbeats 4000000 in
set_option maxRecDepth 100000 in
theorem zc_Fo_value (l : Launch) (dC : Nat → ClassId) (dI : Nat → Nat → Nat) (cI cJ cZ : ClassId) (ad : Nat → Nat) (sz : Nat) (xtl : Int32) (xrc : Int32) (xrd : Int32) (xwc : Int32) (xsm : Nat → Int64) (xfw : Nat → Int32) (xfs : Nat → Int64) (u2 : Int32) (res : Int64 × (Nat → Int64)) (hf : zf_Fo_value u2 xwc xsm xfw xfs = some res) : Met l zy_Fo_value zw_Fo_value ({ frames := 3, cells := 0, slots := 0, locals := 72 } : Room) (mp_PM (dC, dI) vwCl (mp_tys cI cJ cZ) [(ad 5, .inr (1, [.ref (ad 20), .ref (ad 21), .ref (ad 22), .ref (ad 23), .int xtl, .int xrc, .int xrd, .int xwc])), (ad 6, .inl (cJ, 5, .inr (.inl xsm))), (ad 22, .inl (cI, 150, .inl xfw)), (ad 23, .inl (cJ, 150, .inr (.inl xfs)))] sz [.ref (ad 5), .ref (ad 6), .int u2]) (va_Ql (fun r (_ : Unit) => r = res.1) (mp_BM (dC, dI) vwCl [(ad 5, .inr (1, [.ref (ad 20), .ref (ad 21), .ref (ad 22), .ref (ad 23), .int xtl, .int xrc, .int xrd, .int xwc])), (ad 6, .inl (cJ, 5, .inr (.inl xsm))), (ad 22, .inl (cI, 150, .inl xfw)), (ad 23, .inl (cJ, 150, .inr (.inl res.2)))] (va_A [(ad 5, .inr (1, [.ref (ad 20), .ref (ad 21), .ref (ad 22), .ref (ad 23), .int xtl, .int xrc, .int xrd, .int xwc])), (ad 6, .inl (cJ, 5, .inr (.inl xsm))), (ad 22, .inl (cI, 150, .inl xfw)), (ad 23, .inl (cJ, 150, .inr (.inl xfs)))] sz)) (va_A [(ad 5, .inr (1, [.ref (ad 20), .ref (ad 21), .ref (ad 22), .ref (ad 23), .int xtl, .int xrc, .int xrd, .int xwc])), (ad 6, .inl (cJ, 5, .inr (.inl xsm))), (ad 22, .inl (cI, 150, .inl xfw)), (ad 23, .inl (cJ, 150, .inr (.inl xfs)))] sz)) 0 0 ((va_A [(ad 5, .inr (1, [.ref (ad 20), .ref (ad 21), .ref (ad 22), .ref (ad 23), .int xtl, .int xrc, .int xrd, .int xwc])), (ad 6, .inl (cJ, 5, .inr (.inl xsm))), (ad 22, .inl (cI, 150, .inl xfw)), (ad 23, .inl (cJ, 150, .inr (.inl xfs)))] sz)) := by
  refine Met.ofW (cc := zb_Fo_value) (maxL := 6) (ret := (some .long)) (by decide) rfl ?_
  intro p e s m args below meth c s₁ B hml hv
  obtain ⟨rfl, hsz, hP, hK, hD0, hN⟩ := hv
  have hx := B.exec
  have hb := B.bytes
  have hr := B.returns
  have hts := atoms_spec (ws := zw_Fo_value) B.pre
  have hsub : ∀ w ∈ mp_tbl, w ∈ zw_Fo_value := fun w h => List.mem_cons_of_mem _ h
  have hw : ∀ w ∈ mp_tbl, w.before _ s = true := fun w h => hts w (hsub w h)
  have hown : s.vm.findClass zR_Fo = some m.cls := findClass_of_methodNamed B.named
  have hlocks := B.notSynchronized
  subst hsz
  have hD := hD0.self (sz := s.heap.size)
  generalize hAe : va_A [(ad 5, .inr (1, [.ref (ad 20), .ref (ad 21), .ref (ad 22), .ref (ad 23), .int xtl, .int xrc, .int xrd, .int xwc])), (ad 6, .inl (cJ, 5, .inr (.inl xsm))), (ad 22, .inl (cI, 150, .inl xfw)), (ad 23, .inl (cJ, 150, .inr (.inl xfs)))] s.heap.size = A at hD ⊢
  have hA : ∀ q : Nat, s.heap.size ≤ q → A q := fun q h => by rw [← hAe]; exact Or.inr h
  have hS : va_S A s.heap s.heap [] := va_S.rf
  have hP : va_P (dC, dI) vwCl [(ad 5, .inr (1, [.ref (ad 20), .ref (ad 21), .ref (ad 22), .ref (ad 23), .int xtl, .int xrc, .int xrd, .int xwc])), (ad 6, .inl (cJ, 5, .inr (.inl xsm))), (ad 22, .inl (cI, 150, .inl xfw)), (ad 23, .inl (cJ, 150, .inr (.inl xfs)))] s.heap := hP
  clear hAe hD0
  have loop5 : ∀ (v2 : Int32) (n : Nat) (v3 : Int32) (v4 : Int32) (xfs : Nat → Int64) (H : Heap) (locs : List Loc) (ls : Array Slot), zf_Fo_value_L5 v2 xwc xsm xfw n v3 v4 xfs = some res → va_P (dC, dI) vwCl [(ad 5, .inr (1, [.ref (ad 20), .ref (ad 21), .ref (ad 22), .ref (ad 23), .int xtl, .int xrc, .int xrd, .int xwc])), (ad 6, .inl (cJ, 5, .inr (.inl xsm))), (ad 22, .inl (cI, 150, .inl xfw)), (ad 23, .inl (cJ, 150, .inr (.inl xfs)))] H → va_D A [(ad 5, .inr (1, [.ref (ad 20), .ref (ad 21), .ref (ad 22), .ref (ad 23), .int xtl, .int xrc, .int xrd, .int xwc])), (ad 6, .inl (cJ, 5, .inr (.inl xsm))), (ad 22, .inl (cI, 150, .inl xfw)), (ad 23, .inl (cJ, 150, .inr (.inl xfs)))] → va_S A s.heap H locs → lv_has ls 6 [(0, .ref (ad 5)), (1, .ref (ad 6)), (2, .int v2), (3, .int v3), (4, .int v4)] → W p l e (headSpec zw_Fo_value ({ frames := 3, cells := 0, slots := 0, locals := 72 } : Room)).room s m ([.ref (ad 5), .ref (ad 6), .int u2] : List Value).toArray below meth c H locs 0 0 (MQ below (va_Ql (fun r (_ : Unit) => r = res.1) (mp_BM (dC, dI) vwCl [(ad 5, .inr (1, [.ref (ad 20), .ref (ad 21), .ref (ad 22), .ref (ad 23), .int xtl, .int xrc, .int xrd, .int xwc])), (ad 6, .inl (cJ, 5, .inr (.inl xsm))), (ad 22, .inl (cI, 150, .inl xfw)), (ad 23, .inl (cJ, 150, .inr (.inl res.2)))] A) A) ([.ref (ad 5), .ref (ad 6), .int u2] : List Value).toArray s 0 0 (A)) (F0 m 5 ls []) := by
    intro v2 n
    induction n with
    | zero => intro v3 v4 xfs H locs ls hf; simp [zf_Fo_value_L5] at hf
    | succ n ih =>
      intro v3 v4 xfs H locs ls hf hP hD hS hl
      rw [zf_Fo_value_L5] at hf
      refine lv_iload hx hb zd_Fo_value_5 (lv_at hl 4 rfl) ?_
      refine lv_aload_n hx hb zd_Fo_value_7 rfl (lv_at hl 0 rfl) ?_
      refine va_get (D := (dC, dI)) (ci := 1) (v := .int xwc) (C := zR_Fo) (T := zT_Fo) (N := 8) hx hb hts (fun w h => hsub w (zi_Fo w h)) hown hK hP 0 rfl rfl 7 (by decide) (hw _ zq_134) (fun _ h9 => h9) rfl zd_Fo_value_8 ?_
      refine lv_icmp_ge (tgt := 91) hx hb zd_Fo_value_11 (by decide) (fun c_1 => ?_) (fun c_1 => ?_)
      · have hf := mp_t c_1 hf
        refine lv_aload_n hx hb zd_Fo_value_91 rfl (lv_at hl 0 rfl) ?_
        refine va_get (D := (dC, dI)) (ci := 1) (v := .ref (ad 23)) (C := zR_Fo) (T := zT_Fo) (N := 8) hx hb hts (fun w h => hsub w (zi_Fo w h)) hown hK hP 0 rfl rfl 3 (by decide) (hw _ zq_130) (fun _ h9 => h9) rfl zd_Fo_value_92 ?_
        refine lv_iconst (v := 0) hx hb zd_Fo_value_95 (by decide) ?_
        obtain ⟨h_2, hf⟩ := mp_in hf
        refine va_lald hx hb hK hP 3 1 rfl rfl (i := (0 : Int32)) h_2 zd_Fo_value_96 ?_
        have hf := Option.some.inj hf
        subst hf
        exact W.lret (v := (xfs (0 : Int32).toNatClampNeg)) hx hb hr (fun t ht hW => ⟨⟨(xfs (0 : Int32).toNatClampNeg), (), rfl, rfl, by rw [ht]; exact hP, hD⟩, hS.F ht⟩) hS.2.2 zd_Fo_value_97
      · have hf := mp_f c_1 hf
        refine lv_aload_n hx hb zd_Fo_value_14 rfl (lv_at hl 0 rfl) ?_
        refine va_get (D := (dC, dI)) (ci := 1) (v := .ref (ad 22)) (C := zR_Fo) (T := zT_Fo) (N := 8) hx hb hts (fun w h => hsub w (zi_Fo w h)) hown hK hP 0 rfl rfl 2 (by decide) (hw _ zq_129) (fun _ h9 => h9) rfl zd_Fo_value_15 ?_
        refine lv_iload hx hb zd_Fo_value_18 (lv_at hl 4 rfl) ?_
        obtain ⟨h_3, hf⟩ := mp_in hf
        refine va_iald hx hb hK hP 2 0 rfl rfl (i := v4) h_3 zd_Fo_value_20 ?_
        refine lv_istore (lv' := [(5, .int (xfw v4.toNatClampNeg)), (0, .ref (ad 5)), (1, .ref (ad 6)), (2, .int v2), (3, .int v3), (4, .int v4)]) hx hb zd_Fo_value_21 hl (by decide) rfl (fun ls hl => ?_)
        refine lv_iload hx hb zd_Fo_value_23 (lv_at hl 0 rfl) ?_
        obtain ⟨y4, hg4, hf⟩ := mp_bd hf
        refine mp_Rz (va_runS (As := [.int (xfw v4.toNatClampNeg)]) (rest := []) ⟨hx, hb, hml, hown, hts⟩ (zc_Fo_joinsTwo l dC dI cI cJ cZ ad (xfw v4.toNatClampNeg) y4 hg4) (va_cwS 1 hts (mp_gS hsub zq_358 zq_359 zq_29 zq_360) rfl rfl rfl (by decide +kernel) ⟨Nat.le_of_ble_eq_true rfl, Nat.le_of_ble_eq_true rfl⟩) ⟨mp_blR, mp_preR hN hK (hP.sub [] rfl)⟩ rfl rfl hl.1 rfl (lv_room (Nat.le_of_ble_eq_true rfl)) zd_Fo_value_25 ⟨Nat.zero_le _, Nat.zero_le _⟩) (fun hz4 => ?_)
        refine lv_if_ne (tgt := 50) hx hb zd_Fo_value_28 (by decide) (fun c_5 => ?_) (fun c_5 => ?_)
        · have hf := mp_f c_5 hf
          refine lv_iload_n hx hb zd_Fo_value_50 rfl (lv_at hl 4 rfl) ?_
          refine lv_iconst (v := 2) hx hb zd_Fo_value_51 (by decide) ?_
          refine lv_icmp_lt (tgt := 85) hx hb zd_Fo_value_52 (by decide) (fun c_6 => ?_) (fun c_6 => ?_)
          · have hf := mp_t c_6 hf
            refine lv_iinc (v := (v4 + (1 : Int32))) (lv' := [(4, .int (v4 + (1 : Int32))), (5, .int (xfw v4.toNatClampNeg)), (0, .ref (ad 5)), (1, .ref (ad 6)), (2, .int v2), (3, .int v3)]) hx hb zd_Fo_value_85 hl (k := 5) rfl rfl (by decide) rfl (fun ls hl => ?_)
            refine lv_goto (tgt := 5) hx hb zd_Fo_value_88 (by decide) ?_
            exact ih v3 (v4 + (1 : Int32)) xfs _ _ _ hf hP hD hS (lv_sub hl [2, 3, 4, 5, 0] rfl)
          · have hf := mp_f c_6 hf
            refine lv_iinc (v := (v3 + (-1 : Int32))) (lv' := [(3, .int (v3 + (-1 : Int32))), (5, .int (xfw v4.toNatClampNeg)), (0, .ref (ad 5)), (1, .ref (ad 6)), (2, .int v2), (4, .int v4)]) hx hb zd_Fo_value_55 hl (k := 4) rfl rfl (by decide) rfl (fun ls hl => ?_)
            refine lv_aload_n hx hb zd_Fo_value_58 rfl (lv_at hl 2 rfl) ?_
            refine va_get (D := (dC, dI)) (ci := 1) (v := .ref (ad 23)) (C := zR_Fo) (T := zT_Fo) (N := 8) hx hb hts (fun w h => hsub w (zi_Fo w h)) hown hK hP 0 rfl rfl 3 (by decide) (hw _ zq_130) (fun _ h9 => h9) rfl zd_Fo_value_59 ?_
            refine lv_iload_n hx hb zd_Fo_value_62 rfl (lv_at hl 0 rfl) ?_
            refine lv_iconst (v := 1) hx hb zd_Fo_value_63 (by decide) ?_
            refine lv_isub hx hb zd_Fo_value_64 ?_
            refine lv_iload hx hb zd_Fo_value_65 (lv_at hl 1 rfl) ?_
            refine lv_aload_n hx hb zd_Fo_value_67 rfl (lv_at hl 2 rfl) ?_
            refine va_get (D := (dC, dI)) (ci := 1) (v := .ref (ad 23)) (C := zR_Fo) (T := zT_Fo) (N := 8) hx hb hts (fun w h => hsub w (zi_Fo w h)) hown hK hP 0 rfl rfl 3 (by decide) (hw _ zq_130) (fun _ h9 => h9) rfl zd_Fo_value_68 ?_
            refine lv_iload_n hx hb zd_Fo_value_71 rfl (lv_at hl 0 rfl) ?_
            refine lv_iconst (v := 1) hx hb zd_Fo_value_72 (by decide) ?_
            refine lv_isub hx hb zd_Fo_value_73 ?_
            obtain ⟨h_7, hf⟩ := mp_in hf
            refine va_lald hx hb hK hP 3 1 rfl rfl (i := ((v3 + (-1 : Int32)) - (1 : Int32))) h_7 zd_Fo_value_74 ?_
            refine lv_aload_n hx hb zd_Fo_value_75 rfl (lv_at hl 2 rfl) ?_
            refine va_get (D := (dC, dI)) (ci := 1) (v := .ref (ad 23)) (C := zR_Fo) (T := zT_Fo) (N := 8) hx hb hts (fun w h => hsub w (zi_Fo w h)) hown hK hP 0 rfl rfl 3 (by decide) (hw _ zq_130) (fun _ h9 => h9) rfl zd_Fo_value_76 ?_
            refine lv_iload_n hx hb zd_Fo_value_79 rfl (lv_at hl 0 rfl) ?_
            obtain ⟨h_8, hf⟩ := mp_in hf
            refine va_lald hx hb hK hP 3 1 rfl rfl (i := (v3 + (-1 : Int32))) h_8 zd_Fo_value_80 ?_
            obtain ⟨y9, hg9, hf⟩ := mp_bd hf
            refine mp_Rl (va_runS (As := [.int (xfw v4.toNatClampNeg), .long (xfs ((v3 + (-1 : Int32)) - (1 : Int32)).toNatClampNeg), .long (xfs (v3 + (-1 : Int32)).toNatClampNeg)]) (rest := [.int ((v3 + (-1 : Int32)) - (1 : Int32)), .ref (ad 23)]) ⟨hx, hb, hml, hown, hts⟩ (zc_Fo_join l dC dI cI cJ cZ ad (xfw v4.toNatClampNeg) (xfs ((v3 + (-1 : Int32)) - (1 : Int32)).toNatClampNeg) (xfs (v3 + (-1 : Int32)).toNatClampNeg) y9 hg9) (va_cwS 3 hts (mp_gS hsub zq_392 zq_393 zq_29 zq_394) rfl rfl rfl (by decide +kernel) ⟨Nat.le_of_ble_eq_true rfl, Nat.le_of_ble_eq_true rfl⟩) ⟨mp_blR, mp_preR hN hK (hP.sub [] rfl)⟩ rfl rfl hl.1 rfl (lv_room (Nat.le_of_ble_eq_true rfl)) zd_Fo_value_81 ⟨Nat.zero_le _, Nat.zero_le _⟩) ?_
            obtain ⟨h_10, hf⟩ := mp_in hf
            refine va_last hx hb hK hP hD hS 3 1 rfl rfl (i := ((v3 + (-1 : Int32)) - (1 : Int32))) (x := y9) h_10 zd_Fo_value_84 (fun H locs hP hD hS => ?_)
            have hP : va_P (dC, dI) vwCl [(ad 5, .inr (1, [.ref (ad 20), .ref (ad 21), .ref (ad 22), .ref (ad 23), .int xtl, .int xrc, .int xrd, .int xwc])), (ad 6, .inl (cJ, 5, .inr (.inl xsm))), (ad 22, .inl (cI, 150, .inl xfw)), (ad 23, .inl (cJ, 150, .inr (.inl (vp_updL xfs ((v3 + (-1 : Int32)) - (1 : Int32)).toNatClampNeg y9))))] H := hP
            have hD : va_D A [(ad 5, .inr (1, [.ref (ad 20), .ref (ad 21), .ref (ad 22), .ref (ad 23), .int xtl, .int xrc, .int xrd, .int xwc])), (ad 6, .inl (cJ, 5, .inr (.inl xsm))), (ad 22, .inl (cI, 150, .inl xfw)), (ad 23, .inl (cJ, 150, .inr (.inl (vp_updL xfs ((v3 + (-1 : Int32)) - (1 : Int32)).toNatClampNeg y9))))] := hD
            refine lv_iinc (v := (v4 + (1 : Int32))) (lv' := [(4, .int (v4 + (1 : Int32))), (3, .int (v3 + (-1 : Int32))), (5, .int (xfw v4.toNatClampNeg)), (0, .ref (ad 5)), (1, .ref (ad 6)), (2, .int v2)]) hx hb zd_Fo_value_85 hl (k := 5) rfl rfl (by decide) rfl (fun ls hl => ?_)
            refine lv_goto (tgt := 5) hx hb zd_Fo_value_88 (by decide) ?_
            exact ih (v3 + (-1 : Int32)) (v4 + (1 : Int32)) (vp_updL xfs ((v3 + (-1 : Int32)) - (1 : Int32)).toNatClampNeg y9) _ _ _ hf hP hD hS (lv_sub hl [3, 4, 5, 1, 0] rfl)
        · have hf := mp_t c_5 hf
          refine lv_aload_n hx hb zd_Fo_value_31 rfl (lv_at hl 1 rfl) ?_
          refine va_get (D := (dC, dI)) (ci := 1) (v := .ref (ad 23)) (C := zR_Fo) (T := zT_Fo) (N := 8) hx hb hts (fun w h => hsub w (zi_Fo w h)) hown hK hP 0 rfl rfl 3 (by decide) (hw _ zq_130) (fun _ h9 => h9) rfl zd_Fo_value_32 ?_
          refine lv_iload_n hx hb zd_Fo_value_35 rfl (lv_at hl 4 rfl) ?_
          refine lv_iload hx hb zd_Fo_value_36 (lv_at hl 0 rfl) ?_
          refine lv_aload_n hx hb zd_Fo_value_38 rfl (lv_at hl 2 rfl) ?_
          refine lv_iload_n hx hb zd_Fo_value_39 rfl (lv_at hl 3 rfl) ?_
          obtain ⟨y11, hg11, hf⟩ := mp_bd hf
          refine mp_Rl (va_runS (As := [.int (xfw v4.toNatClampNeg), .ref (ad 6), .int v2]) (rest := [.int v3, .ref (ad 23)]) ⟨hx, hb, hml, hown, hts⟩ (zc_Fo_valueOf l dC dI cI cJ cZ ad xsm (xfw v4.toNatClampNeg) v2 y11 hg11) (va_cwS 3 hts (mp_gS hsub zq_385 zq_386 zq_29 zq_387) rfl rfl rfl (by decide +kernel) ⟨Nat.le_of_ble_eq_true rfl, Nat.le_of_ble_eq_true rfl⟩) ⟨mp_blR, mp_preR hN hK (hP.sub [1] rfl)⟩ rfl rfl hl.1 rfl (lv_room (Nat.le_of_ble_eq_true rfl)) zd_Fo_value_40 ⟨Nat.zero_le _, Nat.zero_le _⟩) ?_
          obtain ⟨h_12, hf⟩ := mp_in hf
          refine va_last hx hb hK hP hD hS 3 1 rfl rfl (i := v3) (x := y11) h_12 zd_Fo_value_43 (fun H locs hP hD hS => ?_)
          have hP : va_P (dC, dI) vwCl [(ad 5, .inr (1, [.ref (ad 20), .ref (ad 21), .ref (ad 22), .ref (ad 23), .int xtl, .int xrc, .int xrd, .int xwc])), (ad 6, .inl (cJ, 5, .inr (.inl xsm))), (ad 22, .inl (cI, 150, .inl xfw)), (ad 23, .inl (cJ, 150, .inr (.inl (vp_updL xfs v3.toNatClampNeg y11))))] H := hP
          have hD : va_D A [(ad 5, .inr (1, [.ref (ad 20), .ref (ad 21), .ref (ad 22), .ref (ad 23), .int xtl, .int xrc, .int xrd, .int xwc])), (ad 6, .inl (cJ, 5, .inr (.inl xsm))), (ad 22, .inl (cI, 150, .inl xfw)), (ad 23, .inl (cJ, 150, .inr (.inl (vp_updL xfs v3.toNatClampNeg y11))))] := hD
          refine lv_iinc (v := (v3 + (1 : Int32))) (lv' := [(3, .int (v3 + (1 : Int32))), (5, .int (xfw v4.toNatClampNeg)), (0, .ref (ad 5)), (1, .ref (ad 6)), (2, .int v2), (4, .int v4)]) hx hb zd_Fo_value_44 hl (k := 4) rfl rfl (by decide) rfl (fun ls hl => ?_)
          refine lv_goto (tgt := 85) hx hb zd_Fo_value_47 (by decide) ?_
          refine lv_iinc (v := (v4 + (1 : Int32))) (lv' := [(4, .int (v4 + (1 : Int32))), (3, .int (v3 + (1 : Int32))), (5, .int (xfw v4.toNatClampNeg)), (0, .ref (ad 5)), (1, .ref (ad 6)), (2, .int v2)]) hx hb zd_Fo_value_85 hl (k := 5) rfl rfl (by decide) rfl (fun ls hl => ?_)
          refine lv_goto (tgt := 5) hx hb zd_Fo_value_88 (by decide) ?_
          exact ih (v3 + (1 : Int32)) (v4 + (1 : Int32)) (vp_updL xfs v3.toNatClampNeg y11) _ _ _ hf hP hD hS (lv_sub hl [3, 4, 5, 1, 0] rfl)
  have hl := lv_entry ([.ref (ad 5), .ref (ad 6), .int u2]) (n := 6) (Nat.le_of_ble_eq_true rfl)
  rw [lg_entry_eq]
  generalize (lg_sl ([.ref (ad 5), .ref (ad 6), .int u2]) ++ List.replicate (6 - (lg_sl ([.ref (ad 5), .ref (ad 6), .int u2])).length) Slot.unset).toArray = ls at hl ⊢
  have hl : lv_has ls 6 [(0, .ref (ad 5)), (1, .ref (ad 6)), (2, .int u2)] := hl
  unfold zf_Fo_value at hf
  refine lv_iconst (v := 0) hx hb zd_Fo_value_0 (by decide) ?_
  refine lv_istore_n (lv' := [(3, .int (0 : Int32)), (0, .ref (ad 5)), (1, .ref (ad 6)), (2, .int u2)]) hx hb zd_Fo_value_1 rfl hl (by decide) rfl (fun ls hl => ?_)
  refine lv_iconst (v := 0) hx hb zd_Fo_value_2 (by decide) ?_
  refine lv_istore (lv' := [(4, .int (0 : Int32)), (3, .int (0 : Int32)), (0, .ref (ad 5)), (1, .ref (ad 6)), (2, .int u2)]) hx hb zd_Fo_value_3 hl (by decide) rfl (fun ls hl => ?_)
  exact loop5 u2 2000 (0 : Int32) (0 : Int32) xfs _ _ _ hf hP hD hS (lv_sub hl [2, 3, 4, 1, 0] rfl)
