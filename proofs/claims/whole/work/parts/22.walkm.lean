set_option maxHeartbeats 4000000 in
set_option maxRecDepth 100000 in
theorem zc_Mo_unit (l : Launch) (dC : Nat → ClassId) (dI : Nat → Nat → Nat) (cI cJ cZ : ClassId) (ad : Nat → Nat) (sz : Nat) (mgc : Int32) (mpn : Int32) (mcn : Int32) (msz : Int32) (mwc : Int32) (mhf : Int32) (mtx : Nat → Int32) (u1 : Int32) (res : Int32 × Int32 × (Nat → Int32)) (hf : zf_Mo_unit u1 msz mtx = some res) : Met l zy_Mo_unit zw_Mo_unit ({ frames := 1, cells := 0, slots := 0, locals := 25 } : Room) (mp_PM (dC, dI) vwCl (mp_tys cI cJ cZ) [(ad 0, .inr (5, [.int mgc, .ref (ad 1), .int mpn, .ref (ad 2), .ref (ad 3), .ref (ad 4), .ref (ad 5), .ref (ad 6), .int mcn, .ref (ad 7), .ref (ad 8), .ref (ad 9), .ref (ad 10), .ref (ad 11), .ref (ad 12), .int msz, .ref (ad 13), .int mwc, .int mhf, .ref (ad 14), .ref (ad 15), .ref (ad 16), .ref (ad 17), .ref (ad 18)])), (ad 12, .inl (cI, 300, .inl mtx))] sz [.ref (ad 0), .int u1]) (va_Qi (fun r (_ : Unit) => r = res.1 ∧ mp_b res.1) (mp_BM (dC, dI) vwCl [(ad 0, .inr (5, [.int mgc, .ref (ad 1), .int mpn, .ref (ad 2), .ref (ad 3), .ref (ad 4), .ref (ad 5), .ref (ad 6), .int mcn, .ref (ad 7), .ref (ad 8), .ref (ad 9), .ref (ad 10), .ref (ad 11), .ref (ad 12), .int res.2.1, .ref (ad 13), .int mwc, .int mhf, .ref (ad 14), .ref (ad 15), .ref (ad 16), .ref (ad 17), .ref (ad 18)])), (ad 12, .inl (cI, 300, .inl res.2.2))] (va_A [(ad 0, .inr (5, [.int mgc, .ref (ad 1), .int mpn, .ref (ad 2), .ref (ad 3), .ref (ad 4), .ref (ad 5), .ref (ad 6), .int mcn, .ref (ad 7), .ref (ad 8), .ref (ad 9), .ref (ad 10), .ref (ad 11), .ref (ad 12), .int msz, .ref (ad 13), .int mwc, .int mhf, .ref (ad 14), .ref (ad 15), .ref (ad 16), .ref (ad 17), .ref (ad 18)])), (ad 12, .inl (cI, 300, .inl mtx))] sz)) (va_A [(ad 0, .inr (5, [.int mgc, .ref (ad 1), .int mpn, .ref (ad 2), .ref (ad 3), .ref (ad 4), .ref (ad 5), .ref (ad 6), .int mcn, .ref (ad 7), .ref (ad 8), .ref (ad 9), .ref (ad 10), .ref (ad 11), .ref (ad 12), .int msz, .ref (ad 13), .int mwc, .int mhf, .ref (ad 14), .ref (ad 15), .ref (ad 16), .ref (ad 17), .ref (ad 18)])), (ad 12, .inl (cI, 300, .inl mtx))] sz)) 0 0 ((va_A [(ad 0, .inr (5, [.int mgc, .ref (ad 1), .int mpn, .ref (ad 2), .ref (ad 3), .ref (ad 4), .ref (ad 5), .ref (ad 6), .int mcn, .ref (ad 7), .ref (ad 8), .ref (ad 9), .ref (ad 10), .ref (ad 11), .ref (ad 12), .int msz, .ref (ad 13), .int mwc, .int mhf, .ref (ad 14), .ref (ad 15), .ref (ad 16), .ref (ad 17), .ref (ad 18)])), (ad 12, .inl (cI, 300, .inl mtx))] sz)) := by
  refine Met.ofW (cc := zb_Mo_unit) (maxL := 2) (ret := (some .boolean)) (by decide) rfl ?_
  intro p e s m args below meth c s₁ B hml hv
  obtain ⟨rfl, hsz, hP, hK, hD0, hN⟩ := hv
  have hx := B.exec
  have hb := B.bytes
  have hr := B.returns
  have hts := atoms_spec (ws := zw_Mo_unit) B.pre
  have hsub : ∀ w ∈ mp_tbl, w ∈ zw_Mo_unit := fun w h => List.mem_cons_of_mem _ h
  have hw : ∀ w ∈ mp_tbl, w.before _ s = true := fun w h => hts w (hsub w h)
  have hown : s.vm.findClass zR_Mo = some m.cls := findClass_of_methodNamed B.named
  have hlocks := B.notSynchronized
  subst hsz
  have hD := hD0.self (sz := s.heap.size)
  generalize hAe : va_A [(ad 0, .inr (5, [.int mgc, .ref (ad 1), .int mpn, .ref (ad 2), .ref (ad 3), .ref (ad 4), .ref (ad 5), .ref (ad 6), .int mcn, .ref (ad 7), .ref (ad 8), .ref (ad 9), .ref (ad 10), .ref (ad 11), .ref (ad 12), .int msz, .ref (ad 13), .int mwc, .int mhf, .ref (ad 14), .ref (ad 15), .ref (ad 16), .ref (ad 17), .ref (ad 18)])), (ad 12, .inl (cI, 300, .inl mtx))] s.heap.size = A at hD ⊢
  have hA : ∀ q : Nat, s.heap.size ≤ q → A q := fun q h => by rw [← hAe]; exact Or.inr h
  have hS : va_S A s.heap s.heap [] := va_S.rf
  have hP : va_P (dC, dI) vwCl [(ad 0, .inr (5, [.int mgc, .ref (ad 1), .int mpn, .ref (ad 2), .ref (ad 3), .ref (ad 4), .ref (ad 5), .ref (ad 6), .int mcn, .ref (ad 7), .ref (ad 8), .ref (ad 9), .ref (ad 10), .ref (ad 11), .ref (ad 12), .int msz, .ref (ad 13), .int mwc, .int mhf, .ref (ad 14), .ref (ad 15), .ref (ad 16), .ref (ad 17), .ref (ad 18)])), (ad 12, .inl (cI, 300, .inl mtx))] s.heap := hP
  clear hAe hD0
  have hl := lv_entry ([.ref (ad 0), .int u1]) (n := 2) (Nat.le_of_ble_eq_true rfl)
  rw [lg_entry_eq]
  generalize (lg_sl ([.ref (ad 0), .int u1]) ++ List.replicate (2 - (lg_sl ([.ref (ad 0), .int u1])).length) Slot.unset).toArray = ls at hl ⊢
  have hl : lv_has ls 2 [(0, .ref (ad 0)), (1, .int u1)] := hl
  unfold zf_Mo_unit at hf
  refine lv_iload_n hx hb zd_Mo_unit_0 rfl (lv_at hl 1 rfl) ?_
  refine lv_i2l hx hb zd_Mo_unit_1 rfl ?_
  refine lv_lconst (v := 0) hx hb zd_Mo_unit_2 (by decide) ?_
  refine lv_ldc2 (v := 255) hx hb hown (hw _ zq_614) zd_Mo_unit_3 ?_
  obtain ⟨y1, hg1, hf⟩ := mp_bd hf
  refine mp_Rz (va_runS (As := [.long u1.toInt64, .long (0 : Int64), .long (255 : Int64)]) (rest := []) ⟨hx, hb, hml, hown, hts⟩ (zc_Mo_isIn l dC dI cI cJ cZ ad u1.toInt64 (0 : Int64) (255 : Int64) y1 hg1) (va_cwS 3 hts (mp_gS hsub zq_532 zq_533 zq_30 zq_534) rfl rfl rfl (by decide +kernel) ⟨Nat.le_of_ble_eq_true rfl, Nat.le_of_ble_eq_true rfl⟩) ⟨mp_blR, mp_preR hN hK (hP.sub [] rfl)⟩ rfl rfl hl.1 rfl (lv_room (Nat.le_of_ble_eq_true rfl)) zd_Mo_unit_6 ⟨Nat.zero_le _, Nat.zero_le _⟩) (fun hz1 => ?_)
  refine lv_if_eq (tgt := 22) hx hb zd_Mo_unit_9 (by decide) (fun c_2 => ?_) (fun c_2 => ?_)
  · have hf := mp_t c_2 hf
    refine lv_iconst (v := 0) hx hb zd_Mo_unit_22 (by decide) ?_
    have hf := Option.some.inj hf
    subst hf
    exact W.zret (v := (0 : Int32)) hx hb hr (mp_nz (Or.inl rfl)) (fun t ht hW => ⟨⟨(0 : Int32), (), rfl, ⟨rfl, (Or.inl rfl)⟩, by rw [ht]; exact hP, hD⟩, hS.F ht⟩) hS.2.2 zd_Mo_unit_23
  · have hf := mp_f c_2 hf
    refine lv_aload_n hx hb zd_Mo_unit_12 rfl (lv_at hl 0 rfl) ?_
    refine va_get (D := (dC, dI)) (ci := 5) (v := .int msz) (C := zR_Mo) (T := zT_Mo) (N := 24) hx hb hts (fun w h => hsub w (zi_Mo w h)) hown hK hP 0 rfl rfl 15 (by decide) (hw _ zq_458) (fun _ h9 => h9) rfl zd_Mo_unit_13 ?_
    refine lv_sipush (v := 300) hx hb zd_Mo_unit_16 (by decide) ?_
    refine lv_icmp_ne (tgt := 24) hx hb zd_Mo_unit_19 (by decide) (fun c_3 => ?_) (fun c_3 => ?_)
    · have hf := mp_f c_3 hf
      refine lv_aload_n hx hb zd_Mo_unit_24 rfl (lv_at hl 0 rfl) ?_
      refine va_get (D := (dC, dI)) (ci := 5) (v := .ref (ad 12)) (C := zR_Mo) (T := zT_Mo) (N := 24) hx hb hts (fun w h => hsub w (zi_Mo w h)) hown hK hP 0 rfl rfl 14 (by decide) (hw _ zq_457) (fun _ h9 => h9) rfl zd_Mo_unit_25 ?_
      refine lv_aload_n hx hb zd_Mo_unit_28 rfl (lv_at hl 0 rfl) ?_
      refine va_get (D := (dC, dI)) (ci := 5) (v := .int msz) (C := zR_Mo) (T := zT_Mo) (N := 24) hx hb hts (fun w h => hsub w (zi_Mo w h)) hown hK hP 0 rfl rfl 15 (by decide) (hw _ zq_458) (fun _ h9 => h9) rfl zd_Mo_unit_29 ?_
      refine lv_iload_n hx hb zd_Mo_unit_32 rfl (lv_at hl 1 rfl) ?_
      obtain ⟨h_4, hf⟩ := mp_in hf
      refine va_iast hx hb hK hP hD hS 1 0 rfl rfl (i := msz) (x := u1) h_4 zd_Mo_unit_33 (fun H locs hP hD hS => ?_)
      have hP : va_P (dC, dI) vwCl [(ad 0, .inr (5, [.int mgc, .ref (ad 1), .int mpn, .ref (ad 2), .ref (ad 3), .ref (ad 4), .ref (ad 5), .ref (ad 6), .int mcn, .ref (ad 7), .ref (ad 8), .ref (ad 9), .ref (ad 10), .ref (ad 11), .ref (ad 12), .int msz, .ref (ad 13), .int mwc, .int mhf, .ref (ad 14), .ref (ad 15), .ref (ad 16), .ref (ad 17), .ref (ad 18)])), (ad 12, .inl (cI, 300, .inl (upd mtx msz.toNatClampNeg u1)))] H := hP
      have hD : va_D A [(ad 0, .inr (5, [.int mgc, .ref (ad 1), .int mpn, .ref (ad 2), .ref (ad 3), .ref (ad 4), .ref (ad 5), .ref (ad 6), .int mcn, .ref (ad 7), .ref (ad 8), .ref (ad 9), .ref (ad 10), .ref (ad 11), .ref (ad 12), .int msz, .ref (ad 13), .int mwc, .int mhf, .ref (ad 14), .ref (ad 15), .ref (ad 16), .ref (ad 17), .ref (ad 18)])), (ad 12, .inl (cI, 300, .inl (upd mtx msz.toNatClampNeg u1)))] := hD
      refine lv_aload_n hx hb zd_Mo_unit_34 rfl (lv_at hl 0 rfl) ?_
      refine lv_dup hx hb zd_Mo_unit_35 rfl ?_
      refine va_get (D := (dC, dI)) (ci := 5) (v := .int msz) (C := zR_Mo) (T := zT_Mo) (N := 24) hx hb hts (fun w h => hsub w (zi_Mo w h)) hown hK hP 0 rfl rfl 15 (by decide) (hw _ zq_458) (fun _ h9 => h9) rfl zd_Mo_unit_36 ?_
      refine lv_iconst (v := 1) hx hb zd_Mo_unit_39 (by decide) ?_
      refine lv_iadd hx hb zd_Mo_unit_40 ?_
      refine va_put (D := (dC, dI)) (ci := 5) (v := .int (msz + (1 : Int32))) (ty := .int) (C := zR_Mo) (T := zT_Mo) (N := 24) hx hb hts (fun w h => hsub w (zi_Mo w h)) zt_Mo zt_Mo_ok zn_Mo hown hK hP hD hS 0 rfl rfl 15 (by decide) (hw _ zq_458) (fun _ h9 => h9) rfl (by decide +kernel) rfl rfl (Nat.le_of_ble_eq_true rfl) zd_Mo_unit_41 (fun H locs hP hD hS => ?_)
      have hP : va_P (dC, dI) vwCl [(ad 0, .inr (5, [.int mgc, .ref (ad 1), .int mpn, .ref (ad 2), .ref (ad 3), .ref (ad 4), .ref (ad 5), .ref (ad 6), .int mcn, .ref (ad 7), .ref (ad 8), .ref (ad 9), .ref (ad 10), .ref (ad 11), .ref (ad 12), .int (msz + (1 : Int32)), .ref (ad 13), .int mwc, .int mhf, .ref (ad 14), .ref (ad 15), .ref (ad 16), .ref (ad 17), .ref (ad 18)])), (ad 12, .inl (cI, 300, .inl (upd mtx msz.toNatClampNeg u1)))] H := hP
      have hD : va_D A [(ad 0, .inr (5, [.int mgc, .ref (ad 1), .int mpn, .ref (ad 2), .ref (ad 3), .ref (ad 4), .ref (ad 5), .ref (ad 6), .int mcn, .ref (ad 7), .ref (ad 8), .ref (ad 9), .ref (ad 10), .ref (ad 11), .ref (ad 12), .int (msz + (1 : Int32)), .ref (ad 13), .int mwc, .int mhf, .ref (ad 14), .ref (ad 15), .ref (ad 16), .ref (ad 17), .ref (ad 18)])), (ad 12, .inl (cI, 300, .inl (upd mtx msz.toNatClampNeg u1)))] := hD
      refine lv_iconst (v := 1) hx hb zd_Mo_unit_44 (by decide) ?_
      have hf := Option.some.inj hf
      subst hf
      exact W.zret (v := (1 : Int32)) hx hb hr (mp_nz (Or.inr rfl)) (fun t ht hW => ⟨⟨(1 : Int32), (), rfl, ⟨rfl, (Or.inr rfl)⟩, by rw [ht]; exact hP, hD⟩, hS.F ht⟩) hS.2.2 zd_Mo_unit_45
    · have hf := mp_t c_3 hf
      refine lv_iconst (v := 0) hx hb zd_Mo_unit_22 (by decide) ?_
      have hf := Option.some.inj hf
      subst hf
      exact W.zret (v := (0 : Int32)) hx hb hr (mp_nz (Or.inl rfl)) (fun t ht hW => ⟨⟨(0 : Int32), (), rfl, ⟨rfl, (Or.inl rfl)⟩, by rw [ht]; exact hP, hD⟩, hS.F ht⟩) hS.2.2 zd_Mo_unit_23
set_option maxHeartbeats 4000000 in
set_option maxRecDepth 100000 in
theorem zc_Mo_isBlank (l : Launch) (dC : Nat → ClassId) (dI : Nat → Nat → Nat) (cI cJ cZ : ClassId) (ad : Nat → Nat) (u0 : Int32) (res : Int32) (hf : zf_Mo_isBlank u0 = some res) : Met l zy_Mo_isBlank zw_Mo_isBlank ({ frames := 0, cells := 0, slots := 0, locals := 0 } : Room) (mp_PR (dC, dI) vwCl (mp_tys cI cJ cZ) [] [.int u0]) (vp_Si (fun r => r = res ∧ mp_b res)) 0 0 (fun _ => False) := by
  refine Met.ofW (cc := zb_Mo_isBlank) (maxL := 1) (ret := (some .boolean)) (by decide) rfl ?_
  intro p e s m args below meth c s₁ B hml hv
  obtain ⟨rfl, hP, hK, hN⟩ := hv
  have hx := B.exec
  have hb := B.bytes
  have hr := B.returns
  have hts := atoms_spec (ws := zw_Mo_isBlank) B.pre
  have hsub : ∀ w ∈ mp_tbl, w ∈ zw_Mo_isBlank := fun w h => List.mem_cons_of_mem _ h
  have hw : ∀ w ∈ mp_tbl, w.before _ s = true := fun w h => hts w (hsub w h)
  have hown : s.vm.findClass zR_Mo = some m.cls := findClass_of_methodNamed B.named
  have hlocks := B.notSynchronized
  have hl := lv_entry ([.int u0]) (n := 1) (Nat.le_of_ble_eq_true rfl)
  rw [lg_entry_eq]
  generalize (lg_sl ([.int u0]) ++ List.replicate (1 - (lg_sl ([.int u0])).length) Slot.unset).toArray = ls at hl ⊢
  have hl : lv_has ls 1 [(0, .int u0)] := hl
  unfold zf_Mo_isBlank at hf
  refine lv_iload_n hx hb zd_Mo_isBlank_0 rfl (lv_at hl 0 rfl) ?_
  refine lv_bipush (v := 32) hx hb zd_Mo_isBlank_1 (by decide) ?_
  refine lv_icmp_eq (tgt := 12) hx hb zd_Mo_isBlank_3 (by decide) (fun c_1 => ?_) (fun c_1 => ?_)
  · have hf := mp_t c_1 hf
    refine lv_iconst (v := 1) hx hb zd_Mo_isBlank_12 (by decide) ?_
    refine lv_goto (tgt := 17) hx hb zd_Mo_isBlank_13 (by decide) ?_
    have hf := Option.some.inj hf
    subst hf
    exact W.zret (v := (1 : Int32)) hx hb hr (mp_nz (Or.inr rfl)) (fun t ht hW => ⟨(1 : Int32), rfl, ⟨rfl, (Or.inr rfl)⟩, ht⟩) (fun q h => by cases h) zd_Mo_isBlank_17
  · have hf := mp_f c_1 hf
    refine lv_iload_n hx hb zd_Mo_isBlank_6 rfl (lv_at hl 0 rfl) ?_
    refine lv_bipush (v := 10) hx hb zd_Mo_isBlank_7 (by decide) ?_
    refine lv_icmp_ne (tgt := 16) hx hb zd_Mo_isBlank_9 (by decide) (fun c_2 => ?_) (fun c_2 => ?_)
    · have hf := mp_f c_2 hf
      refine lv_iconst (v := 0) hx hb zd_Mo_isBlank_16 (by decide) ?_
      have hf := Option.some.inj hf
      subst hf
      exact W.zret (v := (0 : Int32)) hx hb hr (mp_nz (Or.inl rfl)) (fun t ht hW => ⟨(0 : Int32), rfl, ⟨rfl, (Or.inl rfl)⟩, ht⟩) (fun q h => by cases h) zd_Mo_isBlank_17
    · have hf := mp_t c_2 hf
      refine lv_iconst (v := 1) hx hb zd_Mo_isBlank_12 (by decide) ?_
      refine lv_goto (tgt := 17) hx hb zd_Mo_isBlank_13 (by decide) ?_
      have hf := Option.some.inj hf
      subst hf
      exact W.zret (v := (1 : Int32)) hx hb hr (mp_nz (Or.inr rfl)) (fun t ht hW => ⟨(1 : Int32), rfl, ⟨rfl, (Or.inr rfl)⟩, ht⟩) (fun q h => by cases h) zd_Mo_isBlank_17
set_option maxHeartbeats 4000000 in
set_option maxRecDepth 100000 in
theorem zc_Mo_is (l : Launch) (dC : Nat → ClassId) (dI : Nat → Nat → Nat) (cI cJ cZ : ClassId) (ad : Nat → Nat) (mgc : Int32) (mpn : Int32) (mcn : Int32) (msz : Int32) (mwc : Int32) (mhf : Int32) (mtx : Nat → Int32) (u1 : Int32) (u2 : Int32) (u3 : Int32) (u4 : Int32) (res : Int32) (hf : zf_Mo_is u1 u2 u3 u4 mtx = some res) : Met l zy_Mo_is zw_Mo_is ({ frames := 0, cells := 0, slots := 0, locals := 0 } : Room) (mp_PR (dC, dI) vwCl (mp_tys cI cJ cZ) [(ad 0, .inr (5, [.int mgc, .ref (ad 1), .int mpn, .ref (ad 2), .ref (ad 3), .ref (ad 4), .ref (ad 5), .ref (ad 6), .int mcn, .ref (ad 7), .ref (ad 8), .ref (ad 9), .ref (ad 10), .ref (ad 11), .ref (ad 12), .int msz, .ref (ad 13), .int mwc, .int mhf, .ref (ad 14), .ref (ad 15), .ref (ad 16), .ref (ad 17), .ref (ad 18)])), (ad 12, .inl (cI, 300, .inl mtx))] [.ref (ad 0), .int u1, .int u2, .int u3, .int u4]) (vp_Si (fun r => r = res ∧ mp_b res)) 0 0 (fun _ => False) := by
  refine Met.ofW (cc := zb_Mo_is) (maxL := 5) (ret := (some .boolean)) (by decide) rfl ?_
  intro p e s m args below meth c s₁ B hml hv
  obtain ⟨rfl, hP, hK, hN⟩ := hv
  have hx := B.exec
  have hb := B.bytes
  have hr := B.returns
  have hts := atoms_spec (ws := zw_Mo_is) B.pre
  have hsub : ∀ w ∈ mp_tbl, w ∈ zw_Mo_is := fun w h => List.mem_cons_of_mem _ h
  have hw : ∀ w ∈ mp_tbl, w.before _ s = true := fun w h => hts w (hsub w h)
  have hown : s.vm.findClass zR_Mo = some m.cls := findClass_of_methodNamed B.named
  have hlocks := B.notSynchronized
  have hl := lv_entry ([.ref (ad 0), .int u1, .int u2, .int u3, .int u4]) (n := 5) (Nat.le_of_ble_eq_true rfl)
  rw [lg_entry_eq]
  generalize (lg_sl ([.ref (ad 0), .int u1, .int u2, .int u3, .int u4]) ++ List.replicate (5 - (lg_sl ([.ref (ad 0), .int u1, .int u2, .int u3, .int u4])).length) Slot.unset).toArray = ls at hl ⊢
  have hl : lv_has ls 5 [(0, .ref (ad 0)), (1, .int u1), (2, .int u2), (3, .int u3), (4, .int u4)] := hl
  unfold zf_Mo_is at hf
  refine lv_aload_n hx hb zd_Mo_is_0 rfl (lv_at hl 0 rfl) ?_
  refine va_get (D := (dC, dI)) (ci := 5) (v := .ref (ad 12)) (C := zR_Mo) (T := zT_Mo) (N := 24) hx hb hts (fun w h => hsub w (zi_Mo w h)) hown hK hP 0 rfl rfl 14 (by decide) (hw _ zq_457) (fun _ h9 => h9) rfl zd_Mo_is_1 ?_
  refine lv_iload_n hx hb zd_Mo_is_4 rfl (lv_at hl 1 rfl) ?_
  obtain ⟨h_1, hf⟩ := mp_in hf
  refine va_iald hx hb hK hP 1 0 rfl rfl (i := u1) h_1 zd_Mo_is_5 ?_
  refine lv_iload_n hx hb zd_Mo_is_6 rfl (lv_at hl 2 rfl) ?_
  refine lv_icmp_ne (tgt := 39) hx hb zd_Mo_is_7 (by decide) (fun c_2 => ?_) (fun c_2 => ?_)
  · have hf := mp_f c_2 hf
    refine lv_iconst (v := 0) hx hb zd_Mo_is_39 (by decide) ?_
    have hf := Option.some.inj hf
    subst hf
    exact W.zret (v := (0 : Int32)) hx hb hr (mp_nz (Or.inl rfl)) (fun t ht hW => ⟨(0 : Int32), rfl, ⟨rfl, (Or.inl rfl)⟩, ht⟩) (fun q h => by cases h) zd_Mo_is_40
  · have hf := mp_t c_2 hf
    refine lv_aload_n hx hb zd_Mo_is_10 rfl (lv_at hl 0 rfl) ?_
    refine va_get (D := (dC, dI)) (ci := 5) (v := .ref (ad 12)) (C := zR_Mo) (T := zT_Mo) (N := 24) hx hb hts (fun w h => hsub w (zi_Mo w h)) hown hK hP 0 rfl rfl 14 (by decide) (hw _ zq_457) (fun _ h9 => h9) rfl zd_Mo_is_11 ?_
    refine lv_iload_n hx hb zd_Mo_is_14 rfl (lv_at hl 1 rfl) ?_
    refine lv_iconst (v := 1) hx hb zd_Mo_is_15 (by decide) ?_
    refine lv_iadd hx hb zd_Mo_is_16 ?_
    obtain ⟨h_3, hf⟩ := mp_in hf
    refine va_iald hx hb hK hP 1 0 rfl rfl (i := (u1 + (1 : Int32))) h_3 zd_Mo_is_17 ?_
    refine lv_iload_n hx hb zd_Mo_is_18 rfl (lv_at hl 3 rfl) ?_
    refine lv_icmp_ne (tgt := 39) hx hb zd_Mo_is_19 (by decide) (fun c_4 => ?_) (fun c_4 => ?_)
    · have hf := mp_f c_4 hf
      refine lv_iconst (v := 0) hx hb zd_Mo_is_39 (by decide) ?_
      have hf := Option.some.inj hf
      subst hf
      exact W.zret (v := (0 : Int32)) hx hb hr (mp_nz (Or.inl rfl)) (fun t ht hW => ⟨(0 : Int32), rfl, ⟨rfl, (Or.inl rfl)⟩, ht⟩) (fun q h => by cases h) zd_Mo_is_40
    · have hf := mp_t c_4 hf
      refine lv_aload_n hx hb zd_Mo_is_22 rfl (lv_at hl 0 rfl) ?_
      refine va_get (D := (dC, dI)) (ci := 5) (v := .ref (ad 12)) (C := zR_Mo) (T := zT_Mo) (N := 24) hx hb hts (fun w h => hsub w (zi_Mo w h)) hown hK hP 0 rfl rfl 14 (by decide) (hw _ zq_457) (fun _ h9 => h9) rfl zd_Mo_is_23 ?_
      refine lv_iload_n hx hb zd_Mo_is_26 rfl (lv_at hl 1 rfl) ?_
      refine lv_iconst (v := 2) hx hb zd_Mo_is_27 (by decide) ?_
      refine lv_iadd hx hb zd_Mo_is_28 ?_
      obtain ⟨h_5, hf⟩ := mp_in hf
      refine va_iald hx hb hK hP 1 0 rfl rfl (i := (u1 + (2 : Int32))) h_5 zd_Mo_is_29 ?_
      refine lv_iload hx hb zd_Mo_is_30 (lv_at hl 4 rfl) ?_
      refine lv_icmp_ne (tgt := 39) hx hb zd_Mo_is_32 (by decide) (fun c_6 => ?_) (fun c_6 => ?_)
      · have hf := mp_f c_6 hf
        refine lv_iconst (v := 0) hx hb zd_Mo_is_39 (by decide) ?_
        have hf := Option.some.inj hf
        subst hf
        exact W.zret (v := (0 : Int32)) hx hb hr (mp_nz (Or.inl rfl)) (fun t ht hW => ⟨(0 : Int32), rfl, ⟨rfl, (Or.inl rfl)⟩, ht⟩) (fun q h => by cases h) zd_Mo_is_40
      · have hf := mp_t c_6 hf
        refine lv_iconst (v := 1) hx hb zd_Mo_is_35 (by decide) ?_
        refine lv_goto (tgt := 40) hx hb zd_Mo_is_36 (by decide) ?_
        have hf := Option.some.inj hf
        subst hf
        exact W.zret (v := (1 : Int32)) hx hb hr (mp_nz (Or.inr rfl)) (fun t ht hW => ⟨(1 : Int32), rfl, ⟨rfl, (Or.inr rfl)⟩, ht⟩) (fun q h => by cases h) zd_Mo_is_40
set_option maxHeartbeats 4000000 in
set_option maxRecDepth 100000 in
theorem zc_Mo_wordAt (l : Launch) (dC : Nat → ClassId) (dI : Nat → Nat → Nat) (cI cJ cZ : ClassId) (ad : Nat → Nat) (mgc : Int32) (mpn : Int32) (mcn : Int32) (msz : Int32) (mwc : Int32) (mhf : Int32) (mtx : Nat → Int32) (u1 : Int32) (u2 : Int32) (res : Int32) (hf : zf_Mo_wordAt u1 u2 mtx = some res) : Met l zy_Mo_wordAt zw_Mo_wordAt ({ frames := 1, cells := 0, slots := 0, locals := 24 } : Room) (mp_PR (dC, dI) vwCl (mp_tys cI cJ cZ) [(ad 0, .inr (5, [.int mgc, .ref (ad 1), .int mpn, .ref (ad 2), .ref (ad 3), .ref (ad 4), .ref (ad 5), .ref (ad 6), .int mcn, .ref (ad 7), .ref (ad 8), .ref (ad 9), .ref (ad 10), .ref (ad 11), .ref (ad 12), .int msz, .ref (ad 13), .int mwc, .int mhf, .ref (ad 14), .ref (ad 15), .ref (ad 16), .ref (ad 17), .ref (ad 18)])), (ad 12, .inl (cI, 300, .inl mtx))] [.ref (ad 0), .int u1, .int u2]) (vp_Si (fun r => r = res)) 0 0 (fun _ => False) := by
  refine Met.ofW (cc := zb_Mo_wordAt) (maxL := 6) (ret := (some .int)) (by decide) rfl ?_
  intro p e s m args below meth c s₁ B hml hv
  obtain ⟨rfl, hP, hK, hN⟩ := hv
  have hx := B.exec
  have hb := B.bytes
  have hr := B.returns
  have hts := atoms_spec (ws := zw_Mo_wordAt) B.pre
  have hsub : ∀ w ∈ mp_tbl, w ∈ zw_Mo_wordAt := fun w h => List.mem_cons_of_mem _ h
  have hw : ∀ w ∈ mp_tbl, w.before _ s = true := fun w h => hts w (hsub w h)
  have hown : s.vm.findClass zR_Mo = some m.cls := findClass_of_methodNamed B.named
  have hlocks := B.notSynchronized
  have loop184 : ∀ (v1 : Int32) (v2 : Int32) (v3 : Int32) (n : Nat) (v4 : Int32) (v5 : Int32) (ls : Array Slot), zf_Mo_wordAt_L184 v1 v2 v3 mtx n v4 v5 = some res → lv_has ls 6 [(0, .ref (ad 0)), (1, .int v1), (2, .int v2), (3, .int v3), (4, .int v4), (5, .int v5)] → W p l e (headSpec zw_Mo_wordAt ({ frames := 1, cells := 0, slots := 0, locals := 24 } : Room)).room s m ([.ref (ad 0), .int u1, .int u2] : List Value).toArray below meth c s.heap [] 0 0 (MQ below (vp_Si (fun r => r = res)) ([.ref (ad 0), .int u1, .int u2] : List Value).toArray s 0 0 (fun _ => False)) (F0 m 184 ls []) := by
    intro v1 v2 v3 n
    induction n with
    | zero => intro v4 v5 ls hf; simp [zf_Mo_wordAt_L184] at hf
    | succ n ih =>
      intro v4 v5 ls hf hl
      rw [zf_Mo_wordAt_L184] at hf
      refine lv_iload hx hb zd_Mo_wordAt_184 (lv_at hl 5 rfl) ?_
      refine lv_iload_n hx hb zd_Mo_wordAt_186 rfl (lv_at hl 1 rfl) ?_
      refine lv_iload_n hx hb zd_Mo_wordAt_187 rfl (lv_at hl 2 rfl) ?_
      refine lv_iadd hx hb zd_Mo_wordAt_188 ?_
      refine lv_icmp_ge (tgt := 250) hx hb zd_Mo_wordAt_189 (by decide) (fun c_7 => ?_) (fun c_7 => ?_)
      · have hf := mp_t c_7 hf
        refine lv_iload hx hb zd_Mo_wordAt_250 (lv_at hl 4 rfl) ?_
        have hf := Option.some.inj hf
        subst hf
        exact W.iret (v := v4) hx hb hr (fun t ht hW => ⟨v4, rfl, rfl, ht⟩) (fun q h => by cases h) zd_Mo_wordAt_252
      · have hf := mp_f c_7 hf
        refine lv_iload hx hb zd_Mo_wordAt_192 (lv_at hl 4 rfl) ?_
        refine lv_if_lt (tgt := 250) hx hb zd_Mo_wordAt_194 (by decide) (fun c_8 => ?_) (fun c_8 => ?_)
        · have hf := mp_t c_8 hf
          refine lv_iload hx hb zd_Mo_wordAt_250 (lv_at hl 4 rfl) ?_
          have hf := Option.some.inj hf
          subst hf
          exact W.iret (v := v4) hx hb hr (fun t ht hW => ⟨v4, rfl, rfl, ht⟩) (fun q h => by cases h) zd_Mo_wordAt_252
        · have hf := mp_f c_8 hf
          refine lv_aload_n hx hb zd_Mo_wordAt_197 rfl (lv_at hl 0 rfl) ?_
          refine va_get (D := (dC, dI)) (ci := 5) (v := .ref (ad 12)) (C := zR_Mo) (T := zT_Mo) (N := 24) hx hb hts (fun w h => hsub w (zi_Mo w h)) hown hK hP 0 rfl rfl 14 (by decide) (hw _ zq_457) (fun _ h9 => h9) rfl zd_Mo_wordAt_198 ?_
          refine lv_iload hx hb zd_Mo_wordAt_201 (lv_at hl 5 rfl) ?_
          obtain ⟨h_9, hf⟩ := mp_in hf
          refine va_iald hx hb hK hP 1 0 rfl rfl (i := v5) h_9 zd_Mo_wordAt_203 ?_
          refine lv_bipush (v := 48) hx hb zd_Mo_wordAt_204 (by decide) ?_
          refine lv_icmp_lt (tgt := 240) hx hb zd_Mo_wordAt_206 (by decide) (fun c_10 => ?_) (fun c_10 => ?_)
          · have hf := mp_t c_10 hf
            refine lv_bipush (v := -12) hx hb zd_Mo_wordAt_240 (by decide) ?_
            refine lv_istore (lv' := [(4, .int (-12 : Int32)), (0, .ref (ad 0)), (1, .int v1), (2, .int v2), (3, .int v3), (5, .int v5)]) hx hb zd_Mo_wordAt_242 hl (by decide) rfl (fun ls hl => ?_)
            refine lv_iinc (v := (v5 + (1 : Int32))) (lv' := [(5, .int (v5 + (1 : Int32))), (4, .int (-12 : Int32)), (0, .ref (ad 0)), (1, .int v1), (2, .int v2), (3, .int v3)]) hx hb zd_Mo_wordAt_244 hl (k := 5) rfl rfl (by decide) rfl (fun ls hl => ?_)
            refine lv_goto (tgt := 184) hx hb zd_Mo_wordAt_247 (by decide) ?_
            exact ih (-12 : Int32) (v5 + (1 : Int32)) _ hf (lv_sub hl [2, 3, 4, 5, 1, 0] rfl)
          · have hf := mp_f c_10 hf
            refine lv_aload_n hx hb zd_Mo_wordAt_209 rfl (lv_at hl 0 rfl) ?_
            refine va_get (D := (dC, dI)) (ci := 5) (v := .ref (ad 12)) (C := zR_Mo) (T := zT_Mo) (N := 24) hx hb hts (fun w h => hsub w (zi_Mo w h)) hown hK hP 0 rfl rfl 14 (by decide) (hw _ zq_457) (fun _ h9 => h9) rfl zd_Mo_wordAt_210 ?_
            refine lv_iload hx hb zd_Mo_wordAt_213 (lv_at hl 5 rfl) ?_
            obtain ⟨h_11, hf⟩ := mp_in hf
            refine va_iald hx hb hK hP 1 0 rfl rfl (i := v5) h_11 zd_Mo_wordAt_215 ?_
            refine lv_bipush (v := 57) hx hb zd_Mo_wordAt_216 (by decide) ?_
            refine lv_icmp_gt (tgt := 240) hx hb zd_Mo_wordAt_218 (by decide) (fun c_12 => ?_) (fun c_12 => ?_)
            · have hf := mp_t c_12 hf
              refine lv_bipush (v := -12) hx hb zd_Mo_wordAt_240 (by decide) ?_
              refine lv_istore (lv' := [(4, .int (-12 : Int32)), (0, .ref (ad 0)), (1, .int v1), (2, .int v2), (3, .int v3), (5, .int v5)]) hx hb zd_Mo_wordAt_242 hl (by decide) rfl (fun ls hl => ?_)
              refine lv_iinc (v := (v5 + (1 : Int32))) (lv' := [(5, .int (v5 + (1 : Int32))), (4, .int (-12 : Int32)), (0, .ref (ad 0)), (1, .int v1), (2, .int v2), (3, .int v3)]) hx hb zd_Mo_wordAt_244 hl (k := 5) rfl rfl (by decide) rfl (fun ls hl => ?_)
              refine lv_goto (tgt := 184) hx hb zd_Mo_wordAt_247 (by decide) ?_
              exact ih (-12 : Int32) (v5 + (1 : Int32)) _ hf (lv_sub hl [2, 3, 4, 5, 1, 0] rfl)
            · have hf := mp_f c_12 hf
              refine lv_bipush (v := 10) hx hb zd_Mo_wordAt_221 (by decide) ?_
              refine lv_iload hx hb zd_Mo_wordAt_223 (lv_at hl 4 rfl) ?_
              refine lv_imul hx hb zd_Mo_wordAt_225 ?_
              refine lv_aload_n hx hb zd_Mo_wordAt_226 rfl (lv_at hl 0 rfl) ?_
              refine va_get (D := (dC, dI)) (ci := 5) (v := .ref (ad 12)) (C := zR_Mo) (T := zT_Mo) (N := 24) hx hb hts (fun w h => hsub w (zi_Mo w h)) hown hK hP 0 rfl rfl 14 (by decide) (hw _ zq_457) (fun _ h9 => h9) rfl zd_Mo_wordAt_227 ?_
              refine lv_iload hx hb zd_Mo_wordAt_230 (lv_at hl 5 rfl) ?_
              obtain ⟨h_13, hf⟩ := mp_in hf
              refine va_iald hx hb hK hP 1 0 rfl rfl (i := v5) h_13 zd_Mo_wordAt_232 ?_
              refine lv_iadd hx hb zd_Mo_wordAt_233 ?_
              refine lv_bipush (v := 48) hx hb zd_Mo_wordAt_234 (by decide) ?_
              refine lv_isub hx hb zd_Mo_wordAt_236 ?_
              refine lv_goto (tgt := 242) hx hb zd_Mo_wordAt_237 (by decide) ?_
              refine lv_istore (lv' := [(4, .int ((((10 : Int32) * v4) + (mtx v5.toNatClampNeg)) - (48 : Int32))), (0, .ref (ad 0)), (1, .int v1), (2, .int v2), (3, .int v3), (5, .int v5)]) hx hb zd_Mo_wordAt_242 hl (by decide) rfl (fun ls hl => ?_)
              refine lv_iinc (v := (v5 + (1 : Int32))) (lv' := [(5, .int (v5 + (1 : Int32))), (4, .int ((((10 : Int32) * v4) + (mtx v5.toNatClampNeg)) - (48 : Int32))), (0, .ref (ad 0)), (1, .int v1), (2, .int v2), (3, .int v3)]) hx hb zd_Mo_wordAt_244 hl (k := 5) rfl rfl (by decide) rfl (fun ls hl => ?_)
              refine lv_goto (tgt := 184) hx hb zd_Mo_wordAt_247 (by decide) ?_
              exact ih ((((10 : Int32) * v4) + (mtx v5.toNatClampNeg)) - (48 : Int32)) (v5 + (1 : Int32)) _ hf (lv_sub hl [2, 3, 4, 5, 1, 0] rfl)
  have hl := lv_entry ([.ref (ad 0), .int u1, .int u2]) (n := 6) (Nat.le_of_ble_eq_true rfl)
  rw [lg_entry_eq]
  generalize (lg_sl ([.ref (ad 0), .int u1, .int u2]) ++ List.replicate (6 - (lg_sl ([.ref (ad 0), .int u1, .int u2])).length) Slot.unset).toArray = ls at hl ⊢
  have hl : lv_has ls 6 [(0, .ref (ad 0)), (1, .int u1), (2, .int u2)] := hl
  unfold zf_Mo_wordAt at hf
  refine lv_aload_n hx hb zd_Mo_wordAt_0 rfl (lv_at hl 0 rfl) ?_
  refine va_get (D := (dC, dI)) (ci := 5) (v := .ref (ad 12)) (C := zR_Mo) (T := zT_Mo) (N := 24) hx hb hts (fun w h => hsub w (zi_Mo w h)) hown hK hP 0 rfl rfl 14 (by decide) (hw _ zq_457) (fun _ h9 => h9) rfl zd_Mo_wordAt_1 ?_
  refine lv_iload_n hx hb zd_Mo_wordAt_4 rfl (lv_at hl 1 rfl) ?_
  obtain ⟨h_1, hf⟩ := mp_in hf
  refine va_iald hx hb hK hP 1 0 rfl rfl (i := u1) h_1 zd_Mo_wordAt_5 ?_
  refine lv_istore_n (lv' := [(3, .int (mtx u1.toNatClampNeg)), (0, .ref (ad 0)), (1, .int u1), (2, .int u2)]) hx hb zd_Mo_wordAt_6 rfl hl (by decide) rfl (fun ls hl => ?_)
  refine lv_iload_n hx hb zd_Mo_wordAt_7 rfl (lv_at hl 3 rfl) ?_
  refine lv_iconst (v := 1) hx hb zd_Mo_wordAt_8 (by decide) ?_
  refine lv_icmp_ne (tgt := 72) hx hb zd_Mo_wordAt_9 (by decide) (fun c_2 => ?_) (fun c_2 => ?_)
  · have hf := mp_f c_2 hf
    refine lv_iload_n hx hb zd_Mo_wordAt_72 rfl (lv_at hl 3 rfl) ?_
    refine lv_iconst (v := 2) hx hb zd_Mo_wordAt_73 (by decide) ?_
    refine lv_icmp_ne (tgt := 123) hx hb zd_Mo_wordAt_74 (by decide) (fun c_3 => ?_) (fun c_3 => ?_)
    · have hf := mp_f c_3 hf
      refine lv_iload_n hx hb zd_Mo_wordAt_123 rfl (lv_at hl 3 rfl) ?_
      refine lv_iconst (v := 3) hx hb zd_Mo_wordAt_124 (by decide) ?_
      refine lv_icmp_ne (tgt := 145) hx hb zd_Mo_wordAt_125 (by decide) (fun c_4 => ?_) (fun c_4 => ?_)
      · have hf := mp_f c_4 hf
        refine lv_iload_n hx hb zd_Mo_wordAt_145 rfl (lv_at hl 3 rfl) ?_
        refine lv_iconst (v := 3) hx hb zd_Mo_wordAt_146 (by decide) ?_
        refine lv_icmp_ne (tgt := 167) hx hb zd_Mo_wordAt_147 (by decide) (fun c_5 => ?_) (fun c_5 => ?_)
        · have hf := mp_f c_5 hf
          refine lv_iload_n hx hb zd_Mo_wordAt_167 rfl (lv_at hl 3 rfl) ?_
          refine lv_bipush (v := 6) hx hb zd_Mo_wordAt_168 (by decide) ?_
          refine lv_icmp_gt (tgt := 177) hx hb zd_Mo_wordAt_170 (by decide) (fun c_6 => ?_) (fun c_6 => ?_)
          · have hf := mp_t c_6 hf
            refine lv_bipush (v := -12) hx hb zd_Mo_wordAt_177 (by decide) ?_
            refine lv_istore (lv' := [(4, .int (-12 : Int32)), (3, .int (mtx u1.toNatClampNeg)), (0, .ref (ad 0)), (1, .int u1), (2, .int u2)]) hx hb zd_Mo_wordAt_179 hl (by decide) rfl (fun ls hl => ?_)
            refine lv_iload_n hx hb zd_Mo_wordAt_181 rfl (lv_at hl 3 rfl) ?_
            refine lv_istore (lv' := [(5, .int u1), (4, .int (-12 : Int32)), (3, .int (mtx u1.toNatClampNeg)), (0, .ref (ad 0)), (1, .int u1), (2, .int u2)]) hx hb zd_Mo_wordAt_182 hl (by decide) rfl (fun ls hl => ?_)
            exact loop184 u1 u2 (mtx u1.toNatClampNeg) 2000 (-12 : Int32) u1 _ hf (lv_sub hl [3, 4, 5, 2, 1, 0] rfl)
          · have hf := mp_f c_6 hf
            refine lv_iconst (v := 0) hx hb zd_Mo_wordAt_173 (by decide) ?_
            refine lv_goto (tgt := 179) hx hb zd_Mo_wordAt_174 (by decide) ?_
            refine lv_istore (lv' := [(4, .int (0 : Int32)), (3, .int (mtx u1.toNatClampNeg)), (0, .ref (ad 0)), (1, .int u1), (2, .int u2)]) hx hb zd_Mo_wordAt_179 hl (by decide) rfl (fun ls hl => ?_)
            refine lv_iload_n hx hb zd_Mo_wordAt_181 rfl (lv_at hl 3 rfl) ?_
            refine lv_istore (lv' := [(5, .int u1), (4, .int (0 : Int32)), (3, .int (mtx u1.toNatClampNeg)), (0, .ref (ad 0)), (1, .int u1), (2, .int u2)]) hx hb zd_Mo_wordAt_182 hl (by decide) rfl (fun ls hl => ?_)
            exact loop184 u1 u2 (mtx u1.toNatClampNeg) 2000 (0 : Int32) u1 _ hf (lv_sub hl [3, 4, 5, 2, 1, 0] rfl)
        · have hf := mp_t c_5 hf
          refine lv_aload_n hx hb zd_Mo_wordAt_150 rfl (lv_at hl 1 rfl) ?_
          refine lv_iload_n hx hb zd_Mo_wordAt_151 rfl (lv_at hl 2 rfl) ?_
          refine lv_bipush (v := 109) hx hb zd_Mo_wordAt_152 (by decide) ?_
          refine lv_bipush (v := 97) hx hb zd_Mo_wordAt_154 (by decide) ?_
          refine lv_bipush (v := 120) hx hb zd_Mo_wordAt_156 (by decide) ?_
          obtain ⟨y14, hg14, hf⟩ := mp_bd hf
          refine mp_Rz (va_runV (As := [.int u1, .int (109 : Int32), .int (97 : Int32), .int (120 : Int32)]) (rest := []) ⟨hx, hb, hml, hown, hts⟩ (zc_Mo_is l dC dI cI cJ cZ ad mgc mpn mcn msz mwc mhf mtx u1 (109 : Int32) (97 : Int32) (120 : Int32) y14 hg14) (cwV 4 hts (mp_gV hsub zq_626 zq_628 zq_19 zq_30 zq_629) rfl rfl rfl (by decide +kernel) ⟨Nat.le_of_ble_eq_true rfl, Nat.le_of_ble_eq_true rfl⟩) ⟨mp_blR, va_recv hK hP (ci := 5) (q0 := 0) rfl rfl, mp_preR hN hK (hP.sub [0, 1] rfl)⟩ rfl rfl hl.1 rfl (lv_room (Nat.le_of_ble_eq_true rfl)) zd_Mo_wordAt_158 ⟨Nat.zero_le _, Nat.zero_le _⟩) (fun hz14 => ?_)
          refine lv_if_eq (tgt := 167) hx hb zd_Mo_wordAt_161 (by decide) (fun c_15 => ?_) (fun c_15 => ?_)
          · have hf := mp_t c_15 hf
            refine lv_iload_n hx hb zd_Mo_wordAt_167 rfl (lv_at hl 3 rfl) ?_
            refine lv_bipush (v := 6) hx hb zd_Mo_wordAt_168 (by decide) ?_
            refine lv_icmp_gt (tgt := 177) hx hb zd_Mo_wordAt_170 (by decide) (fun c_16 => ?_) (fun c_16 => ?_)
            · have hf := mp_t c_16 hf
              refine lv_bipush (v := -12) hx hb zd_Mo_wordAt_177 (by decide) ?_
              refine lv_istore (lv' := [(4, .int (-12 : Int32)), (3, .int (mtx u1.toNatClampNeg)), (0, .ref (ad 0)), (1, .int u1), (2, .int u2)]) hx hb zd_Mo_wordAt_179 hl (by decide) rfl (fun ls hl => ?_)
              refine lv_iload_n hx hb zd_Mo_wordAt_181 rfl (lv_at hl 3 rfl) ?_
              refine lv_istore (lv' := [(5, .int u1), (4, .int (-12 : Int32)), (3, .int (mtx u1.toNatClampNeg)), (0, .ref (ad 0)), (1, .int u1), (2, .int u2)]) hx hb zd_Mo_wordAt_182 hl (by decide) rfl (fun ls hl => ?_)
              exact loop184 u1 u2 (mtx u1.toNatClampNeg) 2000 (-12 : Int32) u1 _ hf (lv_sub hl [3, 4, 5, 2, 1, 0] rfl)
            · have hf := mp_f c_16 hf
              refine lv_iconst (v := 0) hx hb zd_Mo_wordAt_173 (by decide) ?_
              refine lv_goto (tgt := 179) hx hb zd_Mo_wordAt_174 (by decide) ?_
              refine lv_istore (lv' := [(4, .int (0 : Int32)), (3, .int (mtx u1.toNatClampNeg)), (0, .ref (ad 0)), (1, .int u1), (2, .int u2)]) hx hb zd_Mo_wordAt_179 hl (by decide) rfl (fun ls hl => ?_)
              refine lv_iload_n hx hb zd_Mo_wordAt_181 rfl (lv_at hl 3 rfl) ?_
              refine lv_istore (lv' := [(5, .int u1), (4, .int (0 : Int32)), (3, .int (mtx u1.toNatClampNeg)), (0, .ref (ad 0)), (1, .int u1), (2, .int u2)]) hx hb zd_Mo_wordAt_182 hl (by decide) rfl (fun ls hl => ?_)
              exact loop184 u1 u2 (mtx u1.toNatClampNeg) 2000 (0 : Int32) u1 _ hf (lv_sub hl [3, 4, 5, 2, 1, 0] rfl)
          · have hf := mp_f c_15 hf
            refine lv_bipush (v := -11) hx hb zd_Mo_wordAt_164 (by decide) ?_
            have hf := Option.some.inj hf
            subst hf
            exact W.iret (v := (-11 : Int32)) hx hb hr (fun t ht hW => ⟨(-11 : Int32), rfl, rfl, ht⟩) (fun q h => by cases h) zd_Mo_wordAt_166
      · have hf := mp_t c_4 hf
        refine lv_aload_n hx hb zd_Mo_wordAt_128 rfl (lv_at hl 1 rfl) ?_
        refine lv_iload_n hx hb zd_Mo_wordAt_129 rfl (lv_at hl 2 rfl) ?_
        refine lv_bipush (v := 109) hx hb zd_Mo_wordAt_130 (by decide) ?_
        refine lv_bipush (v := 105) hx hb zd_Mo_wordAt_132 (by decide) ?_
        refine lv_bipush (v := 110) hx hb zd_Mo_wordAt_134 (by decide) ?_
        obtain ⟨y17, hg17, hf⟩ := mp_bd hf
        refine mp_Rz (va_runV (As := [.int u1, .int (109 : Int32), .int (105 : Int32), .int (110 : Int32)]) (rest := []) ⟨hx, hb, hml, hown, hts⟩ (zc_Mo_is l dC dI cI cJ cZ ad mgc mpn mcn msz mwc mhf mtx u1 (109 : Int32) (105 : Int32) (110 : Int32) y17 hg17) (cwV 4 hts (mp_gV hsub zq_626 zq_628 zq_19 zq_30 zq_629) rfl rfl rfl (by decide +kernel) ⟨Nat.le_of_ble_eq_true rfl, Nat.le_of_ble_eq_true rfl⟩) ⟨mp_blR, va_recv hK hP (ci := 5) (q0 := 0) rfl rfl, mp_preR hN hK (hP.sub [0, 1] rfl)⟩ rfl rfl hl.1 rfl (lv_room (Nat.le_of_ble_eq_true rfl)) zd_Mo_wordAt_136 ⟨Nat.zero_le _, Nat.zero_le _⟩) (fun hz17 => ?_)
        refine lv_if_eq (tgt := 145) hx hb zd_Mo_wordAt_139 (by decide) (fun c_18 => ?_) (fun c_18 => ?_)
        · have hf := mp_t c_18 hf
          refine lv_iload_n hx hb zd_Mo_wordAt_145 rfl (lv_at hl 3 rfl) ?_
          refine lv_iconst (v := 3) hx hb zd_Mo_wordAt_146 (by decide) ?_
          refine lv_icmp_ne (tgt := 167) hx hb zd_Mo_wordAt_147 (by decide) (fun c_19 => ?_) (fun c_19 => ?_)
          · have hf := mp_f c_19 hf
            refine lv_iload_n hx hb zd_Mo_wordAt_167 rfl (lv_at hl 3 rfl) ?_
            refine lv_bipush (v := 6) hx hb zd_Mo_wordAt_168 (by decide) ?_
            refine lv_icmp_gt (tgt := 177) hx hb zd_Mo_wordAt_170 (by decide) (fun c_20 => ?_) (fun c_20 => ?_)
            · have hf := mp_t c_20 hf
              refine lv_bipush (v := -12) hx hb zd_Mo_wordAt_177 (by decide) ?_
              refine lv_istore (lv' := [(4, .int (-12 : Int32)), (3, .int (mtx u1.toNatClampNeg)), (0, .ref (ad 0)), (1, .int u1), (2, .int u2)]) hx hb zd_Mo_wordAt_179 hl (by decide) rfl (fun ls hl => ?_)
              refine lv_iload_n hx hb zd_Mo_wordAt_181 rfl (lv_at hl 3 rfl) ?_
              refine lv_istore (lv' := [(5, .int u1), (4, .int (-12 : Int32)), (3, .int (mtx u1.toNatClampNeg)), (0, .ref (ad 0)), (1, .int u1), (2, .int u2)]) hx hb zd_Mo_wordAt_182 hl (by decide) rfl (fun ls hl => ?_)
              exact loop184 u1 u2 (mtx u1.toNatClampNeg) 2000 (-12 : Int32) u1 _ hf (lv_sub hl [3, 4, 5, 2, 1, 0] rfl)
            · have hf := mp_f c_20 hf
              refine lv_iconst (v := 0) hx hb zd_Mo_wordAt_173 (by decide) ?_
              refine lv_goto (tgt := 179) hx hb zd_Mo_wordAt_174 (by decide) ?_
              refine lv_istore (lv' := [(4, .int (0 : Int32)), (3, .int (mtx u1.toNatClampNeg)), (0, .ref (ad 0)), (1, .int u1), (2, .int u2)]) hx hb zd_Mo_wordAt_179 hl (by decide) rfl (fun ls hl => ?_)
              refine lv_iload_n hx hb zd_Mo_wordAt_181 rfl (lv_at hl 3 rfl) ?_
              refine lv_istore (lv' := [(5, .int u1), (4, .int (0 : Int32)), (3, .int (mtx u1.toNatClampNeg)), (0, .ref (ad 0)), (1, .int u1), (2, .int u2)]) hx hb zd_Mo_wordAt_182 hl (by decide) rfl (fun ls hl => ?_)
              exact loop184 u1 u2 (mtx u1.toNatClampNeg) 2000 (0 : Int32) u1 _ hf (lv_sub hl [3, 4, 5, 2, 1, 0] rfl)
          · have hf := mp_t c_19 hf
            refine lv_aload_n hx hb zd_Mo_wordAt_150 rfl (lv_at hl 1 rfl) ?_
            refine lv_iload_n hx hb zd_Mo_wordAt_151 rfl (lv_at hl 2 rfl) ?_
            refine lv_bipush (v := 109) hx hb zd_Mo_wordAt_152 (by decide) ?_
            refine lv_bipush (v := 97) hx hb zd_Mo_wordAt_154 (by decide) ?_
            refine lv_bipush (v := 120) hx hb zd_Mo_wordAt_156 (by decide) ?_
            obtain ⟨y21, hg21, hf⟩ := mp_bd hf
            refine mp_Rz (va_runV (As := [.int u1, .int (109 : Int32), .int (97 : Int32), .int (120 : Int32)]) (rest := []) ⟨hx, hb, hml, hown, hts⟩ (zc_Mo_is l dC dI cI cJ cZ ad mgc mpn mcn msz mwc mhf mtx u1 (109 : Int32) (97 : Int32) (120 : Int32) y21 hg21) (cwV 4 hts (mp_gV hsub zq_626 zq_628 zq_19 zq_30 zq_629) rfl rfl rfl (by decide +kernel) ⟨Nat.le_of_ble_eq_true rfl, Nat.le_of_ble_eq_true rfl⟩) ⟨mp_blR, va_recv hK hP (ci := 5) (q0 := 0) rfl rfl, mp_preR hN hK (hP.sub [0, 1] rfl)⟩ rfl rfl hl.1 rfl (lv_room (Nat.le_of_ble_eq_true rfl)) zd_Mo_wordAt_158 ⟨Nat.zero_le _, Nat.zero_le _⟩) (fun hz21 => ?_)
            refine lv_if_eq (tgt := 167) hx hb zd_Mo_wordAt_161 (by decide) (fun c_22 => ?_) (fun c_22 => ?_)
            · have hf := mp_t c_22 hf
              refine lv_iload_n hx hb zd_Mo_wordAt_167 rfl (lv_at hl 3 rfl) ?_
              refine lv_bipush (v := 6) hx hb zd_Mo_wordAt_168 (by decide) ?_
              refine lv_icmp_gt (tgt := 177) hx hb zd_Mo_wordAt_170 (by decide) (fun c_23 => ?_) (fun c_23 => ?_)
              · have hf := mp_t c_23 hf
                refine lv_bipush (v := -12) hx hb zd_Mo_wordAt_177 (by decide) ?_
                refine lv_istore (lv' := [(4, .int (-12 : Int32)), (3, .int (mtx u1.toNatClampNeg)), (0, .ref (ad 0)), (1, .int u1), (2, .int u2)]) hx hb zd_Mo_wordAt_179 hl (by decide) rfl (fun ls hl => ?_)
                refine lv_iload_n hx hb zd_Mo_wordAt_181 rfl (lv_at hl 3 rfl) ?_
                refine lv_istore (lv' := [(5, .int u1), (4, .int (-12 : Int32)), (3, .int (mtx u1.toNatClampNeg)), (0, .ref (ad 0)), (1, .int u1), (2, .int u2)]) hx hb zd_Mo_wordAt_182 hl (by decide) rfl (fun ls hl => ?_)
                exact loop184 u1 u2 (mtx u1.toNatClampNeg) 2000 (-12 : Int32) u1 _ hf (lv_sub hl [3, 4, 5, 2, 1, 0] rfl)
              · have hf := mp_f c_23 hf
                refine lv_iconst (v := 0) hx hb zd_Mo_wordAt_173 (by decide) ?_
                refine lv_goto (tgt := 179) hx hb zd_Mo_wordAt_174 (by decide) ?_
                refine lv_istore (lv' := [(4, .int (0 : Int32)), (3, .int (mtx u1.toNatClampNeg)), (0, .ref (ad 0)), (1, .int u1), (2, .int u2)]) hx hb zd_Mo_wordAt_179 hl (by decide) rfl (fun ls hl => ?_)
                refine lv_iload_n hx hb zd_Mo_wordAt_181 rfl (lv_at hl 3 rfl) ?_
                refine lv_istore (lv' := [(5, .int u1), (4, .int (0 : Int32)), (3, .int (mtx u1.toNatClampNeg)), (0, .ref (ad 0)), (1, .int u1), (2, .int u2)]) hx hb zd_Mo_wordAt_182 hl (by decide) rfl (fun ls hl => ?_)
                exact loop184 u1 u2 (mtx u1.toNatClampNeg) 2000 (0 : Int32) u1 _ hf (lv_sub hl [3, 4, 5, 2, 1, 0] rfl)
            · have hf := mp_f c_22 hf
              refine lv_bipush (v := -11) hx hb zd_Mo_wordAt_164 (by decide) ?_
              have hf := Option.some.inj hf
              subst hf
              exact W.iret (v := (-11 : Int32)) hx hb hr (fun t ht hW => ⟨(-11 : Int32), rfl, rfl, ht⟩) (fun q h => by cases h) zd_Mo_wordAt_166
        · have hf := mp_f c_18 hf
          refine lv_bipush (v := -10) hx hb zd_Mo_wordAt_142 (by decide) ?_
          have hf := Option.some.inj hf
          subst hf
          exact W.iret (v := (-10 : Int32)) hx hb hr (fun t ht hW => ⟨(-10 : Int32), rfl, rfl, ht⟩) (fun q h => by cases h) zd_Mo_wordAt_144
    · have hf := mp_t c_3 hf
      refine lv_iload_n hx hb zd_Mo_wordAt_77 rfl (lv_at hl 0 rfl) ?_
      refine lv_bipush (v := 107) hx hb zd_Mo_wordAt_78 (by decide) ?_
      refine lv_icmp_ne (tgt := 123) hx hb zd_Mo_wordAt_80 (by decide) (fun c_24 => ?_) (fun c_24 => ?_)
      · have hf := mp_f c_24 hf
        refine lv_iload_n hx hb zd_Mo_wordAt_123 rfl (lv_at hl 3 rfl) ?_
        refine lv_iconst (v := 3) hx hb zd_Mo_wordAt_124 (by decide) ?_
        refine lv_icmp_ne (tgt := 145) hx hb zd_Mo_wordAt_125 (by decide) (fun c_25 => ?_) (fun c_25 => ?_)
        · have hf := mp_f c_25 hf
          refine lv_iload_n hx hb zd_Mo_wordAt_145 rfl (lv_at hl 3 rfl) ?_
          refine lv_iconst (v := 3) hx hb zd_Mo_wordAt_146 (by decide) ?_
          refine lv_icmp_ne (tgt := 167) hx hb zd_Mo_wordAt_147 (by decide) (fun c_26 => ?_) (fun c_26 => ?_)
          · have hf := mp_f c_26 hf
            refine lv_iload_n hx hb zd_Mo_wordAt_167 rfl (lv_at hl 3 rfl) ?_
            refine lv_bipush (v := 6) hx hb zd_Mo_wordAt_168 (by decide) ?_
            refine lv_icmp_gt (tgt := 177) hx hb zd_Mo_wordAt_170 (by decide) (fun c_27 => ?_) (fun c_27 => ?_)
            · have hf := mp_t c_27 hf
              refine lv_bipush (v := -12) hx hb zd_Mo_wordAt_177 (by decide) ?_
              refine lv_istore (lv' := [(4, .int (-12 : Int32)), (3, .int (mtx u1.toNatClampNeg)), (0, .ref (ad 0)), (1, .int u1), (2, .int u2)]) hx hb zd_Mo_wordAt_179 hl (by decide) rfl (fun ls hl => ?_)
              refine lv_iload_n hx hb zd_Mo_wordAt_181 rfl (lv_at hl 3 rfl) ?_
              refine lv_istore (lv' := [(5, .int u1), (4, .int (-12 : Int32)), (3, .int (mtx u1.toNatClampNeg)), (0, .ref (ad 0)), (1, .int u1), (2, .int u2)]) hx hb zd_Mo_wordAt_182 hl (by decide) rfl (fun ls hl => ?_)
              exact loop184 u1 u2 (mtx u1.toNatClampNeg) 2000 (-12 : Int32) u1 _ hf (lv_sub hl [3, 4, 5, 2, 1, 0] rfl)
            · have hf := mp_f c_27 hf
              refine lv_iconst (v := 0) hx hb zd_Mo_wordAt_173 (by decide) ?_
              refine lv_goto (tgt := 179) hx hb zd_Mo_wordAt_174 (by decide) ?_
              refine lv_istore (lv' := [(4, .int (0 : Int32)), (3, .int (mtx u1.toNatClampNeg)), (0, .ref (ad 0)), (1, .int u1), (2, .int u2)]) hx hb zd_Mo_wordAt_179 hl (by decide) rfl (fun ls hl => ?_)
              refine lv_iload_n hx hb zd_Mo_wordAt_181 rfl (lv_at hl 3 rfl) ?_
              refine lv_istore (lv' := [(5, .int u1), (4, .int (0 : Int32)), (3, .int (mtx u1.toNatClampNeg)), (0, .ref (ad 0)), (1, .int u1), (2, .int u2)]) hx hb zd_Mo_wordAt_182 hl (by decide) rfl (fun ls hl => ?_)
              exact loop184 u1 u2 (mtx u1.toNatClampNeg) 2000 (0 : Int32) u1 _ hf (lv_sub hl [3, 4, 5, 2, 1, 0] rfl)
          · have hf := mp_t c_26 hf
            refine lv_aload_n hx hb zd_Mo_wordAt_150 rfl (lv_at hl 1 rfl) ?_
            refine lv_iload_n hx hb zd_Mo_wordAt_151 rfl (lv_at hl 2 rfl) ?_
            refine lv_bipush (v := 109) hx hb zd_Mo_wordAt_152 (by decide) ?_
            refine lv_bipush (v := 97) hx hb zd_Mo_wordAt_154 (by decide) ?_
            refine lv_bipush (v := 120) hx hb zd_Mo_wordAt_156 (by decide) ?_
            obtain ⟨y28, hg28, hf⟩ := mp_bd hf
            refine mp_Rz (va_runV (As := [.int u1, .int (109 : Int32), .int (97 : Int32), .int (120 : Int32)]) (rest := []) ⟨hx, hb, hml, hown, hts⟩ (zc_Mo_is l dC dI cI cJ cZ ad mgc mpn mcn msz mwc mhf mtx u1 (109 : Int32) (97 : Int32) (120 : Int32) y28 hg28) (cwV 4 hts (mp_gV hsub zq_626 zq_628 zq_19 zq_30 zq_629) rfl rfl rfl (by decide +kernel) ⟨Nat.le_of_ble_eq_true rfl, Nat.le_of_ble_eq_true rfl⟩) ⟨mp_blR, va_recv hK hP (ci := 5) (q0 := 0) rfl rfl, mp_preR hN hK (hP.sub [0, 1] rfl)⟩ rfl rfl hl.1 rfl (lv_room (Nat.le_of_ble_eq_true rfl)) zd_Mo_wordAt_158 ⟨Nat.zero_le _, Nat.zero_le _⟩) (fun hz28 => ?_)
            refine lv_if_eq (tgt := 167) hx hb zd_Mo_wordAt_161 (by decide) (fun c_29 => ?_) (fun c_29 => ?_)
            · have hf := mp_t c_29 hf
              refine lv_iload_n hx hb zd_Mo_wordAt_167 rfl (lv_at hl 3 rfl) ?_
              refine lv_bipush (v := 6) hx hb zd_Mo_wordAt_168 (by decide) ?_
              refine lv_icmp_gt (tgt := 177) hx hb zd_Mo_wordAt_170 (by decide) (fun c_30 => ?_) (fun c_30 => ?_)
              · have hf := mp_t c_30 hf
                refine lv_bipush (v := -12) hx hb zd_Mo_wordAt_177 (by decide) ?_
                refine lv_istore (lv' := [(4, .int (-12 : Int32)), (3, .int (mtx u1.toNatClampNeg)), (0, .ref (ad 0)), (1, .int u1), (2, .int u2)]) hx hb zd_Mo_wordAt_179 hl (by decide) rfl (fun ls hl => ?_)
                refine lv_iload_n hx hb zd_Mo_wordAt_181 rfl (lv_at hl 3 rfl) ?_
                refine lv_istore (lv' := [(5, .int u1), (4, .int (-12 : Int32)), (3, .int (mtx u1.toNatClampNeg)), (0, .ref (ad 0)), (1, .int u1), (2, .int u2)]) hx hb zd_Mo_wordAt_182 hl (by decide) rfl (fun ls hl => ?_)
                exact loop184 u1 u2 (mtx u1.toNatClampNeg) 2000 (-12 : Int32) u1 _ hf (lv_sub hl [3, 4, 5, 2, 1, 0] rfl)
              · have hf := mp_f c_30 hf
                refine lv_iconst (v := 0) hx hb zd_Mo_wordAt_173 (by decide) ?_
                refine lv_goto (tgt := 179) hx hb zd_Mo_wordAt_174 (by decide) ?_
                refine lv_istore (lv' := [(4, .int (0 : Int32)), (3, .int (mtx u1.toNatClampNeg)), (0, .ref (ad 0)), (1, .int u1), (2, .int u2)]) hx hb zd_Mo_wordAt_179 hl (by decide) rfl (fun ls hl => ?_)
                refine lv_iload_n hx hb zd_Mo_wordAt_181 rfl (lv_at hl 3 rfl) ?_
                refine lv_istore (lv' := [(5, .int u1), (4, .int (0 : Int32)), (3, .int (mtx u1.toNatClampNeg)), (0, .ref (ad 0)), (1, .int u1), (2, .int u2)]) hx hb zd_Mo_wordAt_182 hl (by decide) rfl (fun ls hl => ?_)
                exact loop184 u1 u2 (mtx u1.toNatClampNeg) 2000 (0 : Int32) u1 _ hf (lv_sub hl [3, 4, 5, 2, 1, 0] rfl)
            · have hf := mp_f c_29 hf
              refine lv_bipush (v := -11) hx hb zd_Mo_wordAt_164 (by decide) ?_
              have hf := Option.some.inj hf
              subst hf
              exact W.iret (v := (-11 : Int32)) hx hb hr (fun t ht hW => ⟨(-11 : Int32), rfl, rfl, ht⟩) (fun q h => by cases h) zd_Mo_wordAt_166
        · have hf := mp_t c_25 hf
          refine lv_aload_n hx hb zd_Mo_wordAt_128 rfl (lv_at hl 1 rfl) ?_
          refine lv_iload_n hx hb zd_Mo_wordAt_129 rfl (lv_at hl 2 rfl) ?_
          refine lv_bipush (v := 109) hx hb zd_Mo_wordAt_130 (by decide) ?_
          refine lv_bipush (v := 105) hx hb zd_Mo_wordAt_132 (by decide) ?_
          refine lv_bipush (v := 110) hx hb zd_Mo_wordAt_134 (by decide) ?_
          obtain ⟨y31, hg31, hf⟩ := mp_bd hf
          refine mp_Rz (va_runV (As := [.int u1, .int (109 : Int32), .int (105 : Int32), .int (110 : Int32)]) (rest := []) ⟨hx, hb, hml, hown, hts⟩ (zc_Mo_is l dC dI cI cJ cZ ad mgc mpn mcn msz mwc mhf mtx u1 (109 : Int32) (105 : Int32) (110 : Int32) y31 hg31) (cwV 4 hts (mp_gV hsub zq_626 zq_628 zq_19 zq_30 zq_629) rfl rfl rfl (by decide +kernel) ⟨Nat.le_of_ble_eq_true rfl, Nat.le_of_ble_eq_true rfl⟩) ⟨mp_blR, va_recv hK hP (ci := 5) (q0 := 0) rfl rfl, mp_preR hN hK (hP.sub [0, 1] rfl)⟩ rfl rfl hl.1 rfl (lv_room (Nat.le_of_ble_eq_true rfl)) zd_Mo_wordAt_136 ⟨Nat.zero_le _, Nat.zero_le _⟩) (fun hz31 => ?_)
          refine lv_if_eq (tgt := 145) hx hb zd_Mo_wordAt_139 (by decide) (fun c_32 => ?_) (fun c_32 => ?_)
          · have hf := mp_t c_32 hf
            refine lv_iload_n hx hb zd_Mo_wordAt_145 rfl (lv_at hl 3 rfl) ?_
            refine lv_iconst (v := 3) hx hb zd_Mo_wordAt_146 (by decide) ?_
            refine lv_icmp_ne (tgt := 167) hx hb zd_Mo_wordAt_147 (by decide) (fun c_33 => ?_) (fun c_33 => ?_)
            · have hf := mp_f c_33 hf
              refine lv_iload_n hx hb zd_Mo_wordAt_167 rfl (lv_at hl 3 rfl) ?_
              refine lv_bipush (v := 6) hx hb zd_Mo_wordAt_168 (by decide) ?_
              refine lv_icmp_gt (tgt := 177) hx hb zd_Mo_wordAt_170 (by decide) (fun c_34 => ?_) (fun c_34 => ?_)
              · have hf := mp_t c_34 hf
                refine lv_bipush (v := -12) hx hb zd_Mo_wordAt_177 (by decide) ?_
                refine lv_istore (lv' := [(4, .int (-12 : Int32)), (3, .int (mtx u1.toNatClampNeg)), (0, .ref (ad 0)), (1, .int u1), (2, .int u2)]) hx hb zd_Mo_wordAt_179 hl (by decide) rfl (fun ls hl => ?_)
                refine lv_iload_n hx hb zd_Mo_wordAt_181 rfl (lv_at hl 3 rfl) ?_
                refine lv_istore (lv' := [(5, .int u1), (4, .int (-12 : Int32)), (3, .int (mtx u1.toNatClampNeg)), (0, .ref (ad 0)), (1, .int u1), (2, .int u2)]) hx hb zd_Mo_wordAt_182 hl (by decide) rfl (fun ls hl => ?_)
                exact loop184 u1 u2 (mtx u1.toNatClampNeg) 2000 (-12 : Int32) u1 _ hf (lv_sub hl [3, 4, 5, 2, 1, 0] rfl)
              · have hf := mp_f c_34 hf
                refine lv_iconst (v := 0) hx hb zd_Mo_wordAt_173 (by decide) ?_
                refine lv_goto (tgt := 179) hx hb zd_Mo_wordAt_174 (by decide) ?_
                refine lv_istore (lv' := [(4, .int (0 : Int32)), (3, .int (mtx u1.toNatClampNeg)), (0, .ref (ad 0)), (1, .int u1), (2, .int u2)]) hx hb zd_Mo_wordAt_179 hl (by decide) rfl (fun ls hl => ?_)
                refine lv_iload_n hx hb zd_Mo_wordAt_181 rfl (lv_at hl 3 rfl) ?_
                refine lv_istore (lv' := [(5, .int u1), (4, .int (0 : Int32)), (3, .int (mtx u1.toNatClampNeg)), (0, .ref (ad 0)), (1, .int u1), (2, .int u2)]) hx hb zd_Mo_wordAt_182 hl (by decide) rfl (fun ls hl => ?_)
                exact loop184 u1 u2 (mtx u1.toNatClampNeg) 2000 (0 : Int32) u1 _ hf (lv_sub hl [3, 4, 5, 2, 1, 0] rfl)
            · have hf := mp_t c_33 hf
              refine lv_aload_n hx hb zd_Mo_wordAt_150 rfl (lv_at hl 1 rfl) ?_
              refine lv_iload_n hx hb zd_Mo_wordAt_151 rfl (lv_at hl 2 rfl) ?_
              refine lv_bipush (v := 109) hx hb zd_Mo_wordAt_152 (by decide) ?_
              refine lv_bipush (v := 97) hx hb zd_Mo_wordAt_154 (by decide) ?_
              refine lv_bipush (v := 120) hx hb zd_Mo_wordAt_156 (by decide) ?_
              obtain ⟨y35, hg35, hf⟩ := mp_bd hf
              refine mp_Rz (va_runV (As := [.int u1, .int (109 : Int32), .int (97 : Int32), .int (120 : Int32)]) (rest := []) ⟨hx, hb, hml, hown, hts⟩ (zc_Mo_is l dC dI cI cJ cZ ad mgc mpn mcn msz mwc mhf mtx u1 (109 : Int32) (97 : Int32) (120 : Int32) y35 hg35) (cwV 4 hts (mp_gV hsub zq_626 zq_628 zq_19 zq_30 zq_629) rfl rfl rfl (by decide +kernel) ⟨Nat.le_of_ble_eq_true rfl, Nat.le_of_ble_eq_true rfl⟩) ⟨mp_blR, va_recv hK hP (ci := 5) (q0 := 0) rfl rfl, mp_preR hN hK (hP.sub [0, 1] rfl)⟩ rfl rfl hl.1 rfl (lv_room (Nat.le_of_ble_eq_true rfl)) zd_Mo_wordAt_158 ⟨Nat.zero_le _, Nat.zero_le _⟩) (fun hz35 => ?_)
              refine lv_if_eq (tgt := 167) hx hb zd_Mo_wordAt_161 (by decide) (fun c_36 => ?_) (fun c_36 => ?_)
              · have hf := mp_t c_36 hf
                refine lv_iload_n hx hb zd_Mo_wordAt_167 rfl (lv_at hl 3 rfl) ?_
                refine lv_bipush (v := 6) hx hb zd_Mo_wordAt_168 (by decide) ?_
                refine lv_icmp_gt (tgt := 177) hx hb zd_Mo_wordAt_170 (by decide) (fun c_37 => ?_) (fun c_37 => ?_)
                · have hf := mp_t c_37 hf
                  refine lv_bipush (v := -12) hx hb zd_Mo_wordAt_177 (by decide) ?_
                  refine lv_istore (lv' := [(4, .int (-12 : Int32)), (3, .int (mtx u1.toNatClampNeg)), (0, .ref (ad 0)), (1, .int u1), (2, .int u2)]) hx hb zd_Mo_wordAt_179 hl (by decide) rfl (fun ls hl => ?_)
                  refine lv_iload_n hx hb zd_Mo_wordAt_181 rfl (lv_at hl 3 rfl) ?_
                  refine lv_istore (lv' := [(5, .int u1), (4, .int (-12 : Int32)), (3, .int (mtx u1.toNatClampNeg)), (0, .ref (ad 0)), (1, .int u1), (2, .int u2)]) hx hb zd_Mo_wordAt_182 hl (by decide) rfl (fun ls hl => ?_)
                  exact loop184 u1 u2 (mtx u1.toNatClampNeg) 2000 (-12 : Int32) u1 _ hf (lv_sub hl [3, 4, 5, 2, 1, 0] rfl)
                · have hf := mp_f c_37 hf
                  refine lv_iconst (v := 0) hx hb zd_Mo_wordAt_173 (by decide) ?_
                  refine lv_goto (tgt := 179) hx hb zd_Mo_wordAt_174 (by decide) ?_
                  refine lv_istore (lv' := [(4, .int (0 : Int32)), (3, .int (mtx u1.toNatClampNeg)), (0, .ref (ad 0)), (1, .int u1), (2, .int u2)]) hx hb zd_Mo_wordAt_179 hl (by decide) rfl (fun ls hl => ?_)
                  refine lv_iload_n hx hb zd_Mo_wordAt_181 rfl (lv_at hl 3 rfl) ?_
                  refine lv_istore (lv' := [(5, .int u1), (4, .int (0 : Int32)), (3, .int (mtx u1.toNatClampNeg)), (0, .ref (ad 0)), (1, .int u1), (2, .int u2)]) hx hb zd_Mo_wordAt_182 hl (by decide) rfl (fun ls hl => ?_)
                  exact loop184 u1 u2 (mtx u1.toNatClampNeg) 2000 (0 : Int32) u1 _ hf (lv_sub hl [3, 4, 5, 2, 1, 0] rfl)
              · have hf := mp_f c_36 hf
                refine lv_bipush (v := -11) hx hb zd_Mo_wordAt_164 (by decide) ?_
                have hf := Option.some.inj hf
                subst hf
                exact W.iret (v := (-11 : Int32)) hx hb hr (fun t ht hW => ⟨(-11 : Int32), rfl, rfl, ht⟩) (fun q h => by cases h) zd_Mo_wordAt_166
          · have hf := mp_f c_32 hf
            refine lv_bipush (v := -10) hx hb zd_Mo_wordAt_142 (by decide) ?_
            have hf := Option.some.inj hf
            subst hf
            exact W.iret (v := (-10 : Int32)) hx hb hr (fun t ht hW => ⟨(-10 : Int32), rfl, rfl, ht⟩) (fun q h => by cases h) zd_Mo_wordAt_144
      · have hf := mp_t c_24 hf
        refine lv_aload_n hx hb zd_Mo_wordAt_83 rfl (lv_at hl 1 rfl) ?_
        refine va_get (D := (dC, dI)) (ci := 5) (v := .ref (ad 12)) (C := zR_Mo) (T := zT_Mo) (N := 24) hx hb hts (fun w h => hsub w (zi_Mo w h)) hown hK hP 0 rfl rfl 14 (by decide) (hw _ zq_457) (fun _ h9 => h9) rfl zd_Mo_wordAt_84 ?_
        refine lv_iload_n hx hb zd_Mo_wordAt_87 rfl (lv_at hl 2 rfl) ?_
        refine lv_iconst (v := 1) hx hb zd_Mo_wordAt_88 (by decide) ?_
        refine lv_iadd hx hb zd_Mo_wordAt_89 ?_
        obtain ⟨h_38, hf⟩ := mp_in hf
        refine va_iald hx hb hK hP 1 0 rfl rfl (i := (u1 + (1 : Int32))) h_38 zd_Mo_wordAt_90 ?_
        refine lv_bipush (v := 48) hx hb zd_Mo_wordAt_91 (by decide) ?_
        refine lv_icmp_lt (tgt := 123) hx hb zd_Mo_wordAt_93 (by decide) (fun c_39 => ?_) (fun c_39 => ?_)
        · have hf := mp_t c_39 hf
          refine lv_iload_n hx hb zd_Mo_wordAt_123 rfl (lv_at hl 3 rfl) ?_
          refine lv_iconst (v := 3) hx hb zd_Mo_wordAt_124 (by decide) ?_
          refine lv_icmp_ne (tgt := 145) hx hb zd_Mo_wordAt_125 (by decide) (fun c_40 => ?_) (fun c_40 => ?_)
          · have hf := mp_f c_40 hf
            refine lv_iload_n hx hb zd_Mo_wordAt_145 rfl (lv_at hl 3 rfl) ?_
            refine lv_iconst (v := 3) hx hb zd_Mo_wordAt_146 (by decide) ?_
            refine lv_icmp_ne (tgt := 167) hx hb zd_Mo_wordAt_147 (by decide) (fun c_41 => ?_) (fun c_41 => ?_)
            · have hf := mp_f c_41 hf
              refine lv_iload_n hx hb zd_Mo_wordAt_167 rfl (lv_at hl 3 rfl) ?_
              refine lv_bipush (v := 6) hx hb zd_Mo_wordAt_168 (by decide) ?_
              refine lv_icmp_gt (tgt := 177) hx hb zd_Mo_wordAt_170 (by decide) (fun c_42 => ?_) (fun c_42 => ?_)
              · have hf := mp_t c_42 hf
                refine lv_bipush (v := -12) hx hb zd_Mo_wordAt_177 (by decide) ?_
                refine lv_istore (lv' := [(4, .int (-12 : Int32)), (3, .int (mtx u1.toNatClampNeg)), (0, .ref (ad 0)), (1, .int u1), (2, .int u2)]) hx hb zd_Mo_wordAt_179 hl (by decide) rfl (fun ls hl => ?_)
                refine lv_iload_n hx hb zd_Mo_wordAt_181 rfl (lv_at hl 3 rfl) ?_
                refine lv_istore (lv' := [(5, .int u1), (4, .int (-12 : Int32)), (3, .int (mtx u1.toNatClampNeg)), (0, .ref (ad 0)), (1, .int u1), (2, .int u2)]) hx hb zd_Mo_wordAt_182 hl (by decide) rfl (fun ls hl => ?_)
                exact loop184 u1 u2 (mtx u1.toNatClampNeg) 2000 (-12 : Int32) u1 _ hf (lv_sub hl [3, 4, 5, 2, 1, 0] rfl)
              · have hf := mp_f c_42 hf
                refine lv_iconst (v := 0) hx hb zd_Mo_wordAt_173 (by decide) ?_
                refine lv_goto (tgt := 179) hx hb zd_Mo_wordAt_174 (by decide) ?_
                refine lv_istore (lv' := [(4, .int (0 : Int32)), (3, .int (mtx u1.toNatClampNeg)), (0, .ref (ad 0)), (1, .int u1), (2, .int u2)]) hx hb zd_Mo_wordAt_179 hl (by decide) rfl (fun ls hl => ?_)
                refine lv_iload_n hx hb zd_Mo_wordAt_181 rfl (lv_at hl 3 rfl) ?_
                refine lv_istore (lv' := [(5, .int u1), (4, .int (0 : Int32)), (3, .int (mtx u1.toNatClampNeg)), (0, .ref (ad 0)), (1, .int u1), (2, .int u2)]) hx hb zd_Mo_wordAt_182 hl (by decide) rfl (fun ls hl => ?_)
                exact loop184 u1 u2 (mtx u1.toNatClampNeg) 2000 (0 : Int32) u1 _ hf (lv_sub hl [3, 4, 5, 2, 1, 0] rfl)
            · have hf := mp_t c_41 hf
              refine lv_aload_n hx hb zd_Mo_wordAt_150 rfl (lv_at hl 1 rfl) ?_
              refine lv_iload_n hx hb zd_Mo_wordAt_151 rfl (lv_at hl 2 rfl) ?_
              refine lv_bipush (v := 109) hx hb zd_Mo_wordAt_152 (by decide) ?_
              refine lv_bipush (v := 97) hx hb zd_Mo_wordAt_154 (by decide) ?_
              refine lv_bipush (v := 120) hx hb zd_Mo_wordAt_156 (by decide) ?_
              obtain ⟨y43, hg43, hf⟩ := mp_bd hf
              refine mp_Rz (va_runV (As := [.int u1, .int (109 : Int32), .int (97 : Int32), .int (120 : Int32)]) (rest := []) ⟨hx, hb, hml, hown, hts⟩ (zc_Mo_is l dC dI cI cJ cZ ad mgc mpn mcn msz mwc mhf mtx u1 (109 : Int32) (97 : Int32) (120 : Int32) y43 hg43) (cwV 4 hts (mp_gV hsub zq_626 zq_628 zq_19 zq_30 zq_629) rfl rfl rfl (by decide +kernel) ⟨Nat.le_of_ble_eq_true rfl, Nat.le_of_ble_eq_true rfl⟩) ⟨mp_blR, va_recv hK hP (ci := 5) (q0 := 0) rfl rfl, mp_preR hN hK (hP.sub [0, 1] rfl)⟩ rfl rfl hl.1 rfl (lv_room (Nat.le_of_ble_eq_true rfl)) zd_Mo_wordAt_158 ⟨Nat.zero_le _, Nat.zero_le _⟩) (fun hz43 => ?_)
              refine lv_if_eq (tgt := 167) hx hb zd_Mo_wordAt_161 (by decide) (fun c_44 => ?_) (fun c_44 => ?_)
              · have hf := mp_t c_44 hf
                refine lv_iload_n hx hb zd_Mo_wordAt_167 rfl (lv_at hl 3 rfl) ?_
                refine lv_bipush (v := 6) hx hb zd_Mo_wordAt_168 (by decide) ?_
                refine lv_icmp_gt (tgt := 177) hx hb zd_Mo_wordAt_170 (by decide) (fun c_45 => ?_) (fun c_45 => ?_)
                · have hf := mp_t c_45 hf
                  refine lv_bipush (v := -12) hx hb zd_Mo_wordAt_177 (by decide) ?_
                  refine lv_istore (lv' := [(4, .int (-12 : Int32)), (3, .int (mtx u1.toNatClampNeg)), (0, .ref (ad 0)), (1, .int u1), (2, .int u2)]) hx hb zd_Mo_wordAt_179 hl (by decide) rfl (fun ls hl => ?_)
                  refine lv_iload_n hx hb zd_Mo_wordAt_181 rfl (lv_at hl 3 rfl) ?_
                  refine lv_istore (lv' := [(5, .int u1), (4, .int (-12 : Int32)), (3, .int (mtx u1.toNatClampNeg)), (0, .ref (ad 0)), (1, .int u1), (2, .int u2)]) hx hb zd_Mo_wordAt_182 hl (by decide) rfl (fun ls hl => ?_)
                  exact loop184 u1 u2 (mtx u1.toNatClampNeg) 2000 (-12 : Int32) u1 _ hf (lv_sub hl [3, 4, 5, 2, 1, 0] rfl)
                · have hf := mp_f c_45 hf
                  refine lv_iconst (v := 0) hx hb zd_Mo_wordAt_173 (by decide) ?_
                  refine lv_goto (tgt := 179) hx hb zd_Mo_wordAt_174 (by decide) ?_
                  refine lv_istore (lv' := [(4, .int (0 : Int32)), (3, .int (mtx u1.toNatClampNeg)), (0, .ref (ad 0)), (1, .int u1), (2, .int u2)]) hx hb zd_Mo_wordAt_179 hl (by decide) rfl (fun ls hl => ?_)
                  refine lv_iload_n hx hb zd_Mo_wordAt_181 rfl (lv_at hl 3 rfl) ?_
                  refine lv_istore (lv' := [(5, .int u1), (4, .int (0 : Int32)), (3, .int (mtx u1.toNatClampNeg)), (0, .ref (ad 0)), (1, .int u1), (2, .int u2)]) hx hb zd_Mo_wordAt_182 hl (by decide) rfl (fun ls hl => ?_)
                  exact loop184 u1 u2 (mtx u1.toNatClampNeg) 2000 (0 : Int32) u1 _ hf (lv_sub hl [3, 4, 5, 2, 1, 0] rfl)
              · have hf := mp_f c_44 hf
                refine lv_bipush (v := -11) hx hb zd_Mo_wordAt_164 (by decide) ?_
                have hf := Option.some.inj hf
                subst hf
                exact W.iret (v := (-11 : Int32)) hx hb hr (fun t ht hW => ⟨(-11 : Int32), rfl, rfl, ht⟩) (fun q h => by cases h) zd_Mo_wordAt_166
          · have hf := mp_t c_40 hf
            refine lv_aload_n hx hb zd_Mo_wordAt_128 rfl (lv_at hl 1 rfl) ?_
            refine lv_iload_n hx hb zd_Mo_wordAt_129 rfl (lv_at hl 2 rfl) ?_
            refine lv_bipush (v := 109) hx hb zd_Mo_wordAt_130 (by decide) ?_
            refine lv_bipush (v := 105) hx hb zd_Mo_wordAt_132 (by decide) ?_
            refine lv_bipush (v := 110) hx hb zd_Mo_wordAt_134 (by decide) ?_
            obtain ⟨y46, hg46, hf⟩ := mp_bd hf
            refine mp_Rz (va_runV (As := [.int u1, .int (109 : Int32), .int (105 : Int32), .int (110 : Int32)]) (rest := []) ⟨hx, hb, hml, hown, hts⟩ (zc_Mo_is l dC dI cI cJ cZ ad mgc mpn mcn msz mwc mhf mtx u1 (109 : Int32) (105 : Int32) (110 : Int32) y46 hg46) (cwV 4 hts (mp_gV hsub zq_626 zq_628 zq_19 zq_30 zq_629) rfl rfl rfl (by decide +kernel) ⟨Nat.le_of_ble_eq_true rfl, Nat.le_of_ble_eq_true rfl⟩) ⟨mp_blR, va_recv hK hP (ci := 5) (q0 := 0) rfl rfl, mp_preR hN hK (hP.sub [0, 1] rfl)⟩ rfl rfl hl.1 rfl (lv_room (Nat.le_of_ble_eq_true rfl)) zd_Mo_wordAt_136 ⟨Nat.zero_le _, Nat.zero_le _⟩) (fun hz46 => ?_)
            refine lv_if_eq (tgt := 145) hx hb zd_Mo_wordAt_139 (by decide) (fun c_47 => ?_) (fun c_47 => ?_)
            · have hf := mp_t c_47 hf
              refine lv_iload_n hx hb zd_Mo_wordAt_145 rfl (lv_at hl 3 rfl) ?_
              refine lv_iconst (v := 3) hx hb zd_Mo_wordAt_146 (by decide) ?_
              refine lv_icmp_ne (tgt := 167) hx hb zd_Mo_wordAt_147 (by decide) (fun c_48 => ?_) (fun c_48 => ?_)
              · have hf := mp_f c_48 hf
                refine lv_iload_n hx hb zd_Mo_wordAt_167 rfl (lv_at hl 3 rfl) ?_
                refine lv_bipush (v := 6) hx hb zd_Mo_wordAt_168 (by decide) ?_
                refine lv_icmp_gt (tgt := 177) hx hb zd_Mo_wordAt_170 (by decide) (fun c_49 => ?_) (fun c_49 => ?_)
                · have hf := mp_t c_49 hf
                  refine lv_bipush (v := -12) hx hb zd_Mo_wordAt_177 (by decide) ?_
                  refine lv_istore (lv' := [(4, .int (-12 : Int32)), (3, .int (mtx u1.toNatClampNeg)), (0, .ref (ad 0)), (1, .int u1), (2, .int u2)]) hx hb zd_Mo_wordAt_179 hl (by decide) rfl (fun ls hl => ?_)
                  refine lv_iload_n hx hb zd_Mo_wordAt_181 rfl (lv_at hl 3 rfl) ?_
                  refine lv_istore (lv' := [(5, .int u1), (4, .int (-12 : Int32)), (3, .int (mtx u1.toNatClampNeg)), (0, .ref (ad 0)), (1, .int u1), (2, .int u2)]) hx hb zd_Mo_wordAt_182 hl (by decide) rfl (fun ls hl => ?_)
                  exact loop184 u1 u2 (mtx u1.toNatClampNeg) 2000 (-12 : Int32) u1 _ hf (lv_sub hl [3, 4, 5, 2, 1, 0] rfl)
                · have hf := mp_f c_49 hf
                  refine lv_iconst (v := 0) hx hb zd_Mo_wordAt_173 (by decide) ?_
                  refine lv_goto (tgt := 179) hx hb zd_Mo_wordAt_174 (by decide) ?_
                  refine lv_istore (lv' := [(4, .int (0 : Int32)), (3, .int (mtx u1.toNatClampNeg)), (0, .ref (ad 0)), (1, .int u1), (2, .int u2)]) hx hb zd_Mo_wordAt_179 hl (by decide) rfl (fun ls hl => ?_)
                  refine lv_iload_n hx hb zd_Mo_wordAt_181 rfl (lv_at hl 3 rfl) ?_
                  refine lv_istore (lv' := [(5, .int u1), (4, .int (0 : Int32)), (3, .int (mtx u1.toNatClampNeg)), (0, .ref (ad 0)), (1, .int u1), (2, .int u2)]) hx hb zd_Mo_wordAt_182 hl (by decide) rfl (fun ls hl => ?_)
                  exact loop184 u1 u2 (mtx u1.toNatClampNeg) 2000 (0 : Int32) u1 _ hf (lv_sub hl [3, 4, 5, 2, 1, 0] rfl)
              · have hf := mp_t c_48 hf
                refine lv_aload_n hx hb zd_Mo_wordAt_150 rfl (lv_at hl 1 rfl) ?_
                refine lv_iload_n hx hb zd_Mo_wordAt_151 rfl (lv_at hl 2 rfl) ?_
                refine lv_bipush (v := 109) hx hb zd_Mo_wordAt_152 (by decide) ?_
                refine lv_bipush (v := 97) hx hb zd_Mo_wordAt_154 (by decide) ?_
                refine lv_bipush (v := 120) hx hb zd_Mo_wordAt_156 (by decide) ?_
                obtain ⟨y50, hg50, hf⟩ := mp_bd hf
                refine mp_Rz (va_runV (As := [.int u1, .int (109 : Int32), .int (97 : Int32), .int (120 : Int32)]) (rest := []) ⟨hx, hb, hml, hown, hts⟩ (zc_Mo_is l dC dI cI cJ cZ ad mgc mpn mcn msz mwc mhf mtx u1 (109 : Int32) (97 : Int32) (120 : Int32) y50 hg50) (cwV 4 hts (mp_gV hsub zq_626 zq_628 zq_19 zq_30 zq_629) rfl rfl rfl (by decide +kernel) ⟨Nat.le_of_ble_eq_true rfl, Nat.le_of_ble_eq_true rfl⟩) ⟨mp_blR, va_recv hK hP (ci := 5) (q0 := 0) rfl rfl, mp_preR hN hK (hP.sub [0, 1] rfl)⟩ rfl rfl hl.1 rfl (lv_room (Nat.le_of_ble_eq_true rfl)) zd_Mo_wordAt_158 ⟨Nat.zero_le _, Nat.zero_le _⟩) (fun hz50 => ?_)
                refine lv_if_eq (tgt := 167) hx hb zd_Mo_wordAt_161 (by decide) (fun c_51 => ?_) (fun c_51 => ?_)
                · have hf := mp_t c_51 hf
                  refine lv_iload_n hx hb zd_Mo_wordAt_167 rfl (lv_at hl 3 rfl) ?_
                  refine lv_bipush (v := 6) hx hb zd_Mo_wordAt_168 (by decide) ?_
                  refine lv_icmp_gt (tgt := 177) hx hb zd_Mo_wordAt_170 (by decide) (fun c_52 => ?_) (fun c_52 => ?_)
                  · have hf := mp_t c_52 hf
                    refine lv_bipush (v := -12) hx hb zd_Mo_wordAt_177 (by decide) ?_
                    refine lv_istore (lv' := [(4, .int (-12 : Int32)), (3, .int (mtx u1.toNatClampNeg)), (0, .ref (ad 0)), (1, .int u1), (2, .int u2)]) hx hb zd_Mo_wordAt_179 hl (by decide) rfl (fun ls hl => ?_)
                    refine lv_iload_n hx hb zd_Mo_wordAt_181 rfl (lv_at hl 3 rfl) ?_
                    refine lv_istore (lv' := [(5, .int u1), (4, .int (-12 : Int32)), (3, .int (mtx u1.toNatClampNeg)), (0, .ref (ad 0)), (1, .int u1), (2, .int u2)]) hx hb zd_Mo_wordAt_182 hl (by decide) rfl (fun ls hl => ?_)
                    exact loop184 u1 u2 (mtx u1.toNatClampNeg) 2000 (-12 : Int32) u1 _ hf (lv_sub hl [3, 4, 5, 2, 1, 0] rfl)
                  · have hf := mp_f c_52 hf
                    refine lv_iconst (v := 0) hx hb zd_Mo_wordAt_173 (by decide) ?_
                    refine lv_goto (tgt := 179) hx hb zd_Mo_wordAt_174 (by decide) ?_
                    refine lv_istore (lv' := [(4, .int (0 : Int32)), (3, .int (mtx u1.toNatClampNeg)), (0, .ref (ad 0)), (1, .int u1), (2, .int u2)]) hx hb zd_Mo_wordAt_179 hl (by decide) rfl (fun ls hl => ?_)
                    refine lv_iload_n hx hb zd_Mo_wordAt_181 rfl (lv_at hl 3 rfl) ?_
                    refine lv_istore (lv' := [(5, .int u1), (4, .int (0 : Int32)), (3, .int (mtx u1.toNatClampNeg)), (0, .ref (ad 0)), (1, .int u1), (2, .int u2)]) hx hb zd_Mo_wordAt_182 hl (by decide) rfl (fun ls hl => ?_)
                    exact loop184 u1 u2 (mtx u1.toNatClampNeg) 2000 (0 : Int32) u1 _ hf (lv_sub hl [3, 4, 5, 2, 1, 0] rfl)
                · have hf := mp_f c_51 hf
                  refine lv_bipush (v := -11) hx hb zd_Mo_wordAt_164 (by decide) ?_
                  have hf := Option.some.inj hf
                  subst hf
                  exact W.iret (v := (-11 : Int32)) hx hb hr (fun t ht hW => ⟨(-11 : Int32), rfl, rfl, ht⟩) (fun q h => by cases h) zd_Mo_wordAt_166
            · have hf := mp_f c_47 hf
              refine lv_bipush (v := -10) hx hb zd_Mo_wordAt_142 (by decide) ?_
              have hf := Option.some.inj hf
              subst hf
              exact W.iret (v := (-10 : Int32)) hx hb hr (fun t ht hW => ⟨(-10 : Int32), rfl, rfl, ht⟩) (fun q h => by cases h) zd_Mo_wordAt_144
        · have hf := mp_f c_39 hf
          refine lv_aload_n hx hb zd_Mo_wordAt_96 rfl (lv_at hl 1 rfl) ?_
          refine va_get (D := (dC, dI)) (ci := 5) (v := .ref (ad 12)) (C := zR_Mo) (T := zT_Mo) (N := 24) hx hb hts (fun w h => hsub w (zi_Mo w h)) hown hK hP 0 rfl rfl 14 (by decide) (hw _ zq_457) (fun _ h9 => h9) rfl zd_Mo_wordAt_97 ?_
          refine lv_iload_n hx hb zd_Mo_wordAt_100 rfl (lv_at hl 2 rfl) ?_
          refine lv_iconst (v := 1) hx hb zd_Mo_wordAt_101 (by decide) ?_
          refine lv_iadd hx hb zd_Mo_wordAt_102 ?_
          obtain ⟨h_53, hf⟩ := mp_in hf
          refine va_iald hx hb hK hP 1 0 rfl rfl (i := (u1 + (1 : Int32))) h_53 zd_Mo_wordAt_103 ?_
          refine lv_bipush (v := 52) hx hb zd_Mo_wordAt_104 (by decide) ?_
          refine lv_icmp_gt (tgt := 123) hx hb zd_Mo_wordAt_106 (by decide) (fun c_54 => ?_) (fun c_54 => ?_)
          · have hf := mp_t c_54 hf
            refine lv_iload_n hx hb zd_Mo_wordAt_123 rfl (lv_at hl 3 rfl) ?_
            refine lv_iconst (v := 3) hx hb zd_Mo_wordAt_124 (by decide) ?_
            refine lv_icmp_ne (tgt := 145) hx hb zd_Mo_wordAt_125 (by decide) (fun c_55 => ?_) (fun c_55 => ?_)
            · have hf := mp_f c_55 hf
              refine lv_iload_n hx hb zd_Mo_wordAt_145 rfl (lv_at hl 3 rfl) ?_
              refine lv_iconst (v := 3) hx hb zd_Mo_wordAt_146 (by decide) ?_
              refine lv_icmp_ne (tgt := 167) hx hb zd_Mo_wordAt_147 (by decide) (fun c_56 => ?_) (fun c_56 => ?_)
              · have hf := mp_f c_56 hf
                refine lv_iload_n hx hb zd_Mo_wordAt_167 rfl (lv_at hl 3 rfl) ?_
                refine lv_bipush (v := 6) hx hb zd_Mo_wordAt_168 (by decide) ?_
                refine lv_icmp_gt (tgt := 177) hx hb zd_Mo_wordAt_170 (by decide) (fun c_57 => ?_) (fun c_57 => ?_)
                · have hf := mp_t c_57 hf
                  refine lv_bipush (v := -12) hx hb zd_Mo_wordAt_177 (by decide) ?_
                  refine lv_istore (lv' := [(4, .int (-12 : Int32)), (3, .int (mtx u1.toNatClampNeg)), (0, .ref (ad 0)), (1, .int u1), (2, .int u2)]) hx hb zd_Mo_wordAt_179 hl (by decide) rfl (fun ls hl => ?_)
                  refine lv_iload_n hx hb zd_Mo_wordAt_181 rfl (lv_at hl 3 rfl) ?_
                  refine lv_istore (lv' := [(5, .int u1), (4, .int (-12 : Int32)), (3, .int (mtx u1.toNatClampNeg)), (0, .ref (ad 0)), (1, .int u1), (2, .int u2)]) hx hb zd_Mo_wordAt_182 hl (by decide) rfl (fun ls hl => ?_)
                  exact loop184 u1 u2 (mtx u1.toNatClampNeg) 2000 (-12 : Int32) u1 _ hf (lv_sub hl [3, 4, 5, 2, 1, 0] rfl)
                · have hf := mp_f c_57 hf
                  refine lv_iconst (v := 0) hx hb zd_Mo_wordAt_173 (by decide) ?_
                  refine lv_goto (tgt := 179) hx hb zd_Mo_wordAt_174 (by decide) ?_
                  refine lv_istore (lv' := [(4, .int (0 : Int32)), (3, .int (mtx u1.toNatClampNeg)), (0, .ref (ad 0)), (1, .int u1), (2, .int u2)]) hx hb zd_Mo_wordAt_179 hl (by decide) rfl (fun ls hl => ?_)
                  refine lv_iload_n hx hb zd_Mo_wordAt_181 rfl (lv_at hl 3 rfl) ?_
                  refine lv_istore (lv' := [(5, .int u1), (4, .int (0 : Int32)), (3, .int (mtx u1.toNatClampNeg)), (0, .ref (ad 0)), (1, .int u1), (2, .int u2)]) hx hb zd_Mo_wordAt_182 hl (by decide) rfl (fun ls hl => ?_)
                  exact loop184 u1 u2 (mtx u1.toNatClampNeg) 2000 (0 : Int32) u1 _ hf (lv_sub hl [3, 4, 5, 2, 1, 0] rfl)
              · have hf := mp_t c_56 hf
                refine lv_aload_n hx hb zd_Mo_wordAt_150 rfl (lv_at hl 1 rfl) ?_
                refine lv_iload_n hx hb zd_Mo_wordAt_151 rfl (lv_at hl 2 rfl) ?_
                refine lv_bipush (v := 109) hx hb zd_Mo_wordAt_152 (by decide) ?_
                refine lv_bipush (v := 97) hx hb zd_Mo_wordAt_154 (by decide) ?_
                refine lv_bipush (v := 120) hx hb zd_Mo_wordAt_156 (by decide) ?_
                obtain ⟨y58, hg58, hf⟩ := mp_bd hf
                refine mp_Rz (va_runV (As := [.int u1, .int (109 : Int32), .int (97 : Int32), .int (120 : Int32)]) (rest := []) ⟨hx, hb, hml, hown, hts⟩ (zc_Mo_is l dC dI cI cJ cZ ad mgc mpn mcn msz mwc mhf mtx u1 (109 : Int32) (97 : Int32) (120 : Int32) y58 hg58) (cwV 4 hts (mp_gV hsub zq_626 zq_628 zq_19 zq_30 zq_629) rfl rfl rfl (by decide +kernel) ⟨Nat.le_of_ble_eq_true rfl, Nat.le_of_ble_eq_true rfl⟩) ⟨mp_blR, va_recv hK hP (ci := 5) (q0 := 0) rfl rfl, mp_preR hN hK (hP.sub [0, 1] rfl)⟩ rfl rfl hl.1 rfl (lv_room (Nat.le_of_ble_eq_true rfl)) zd_Mo_wordAt_158 ⟨Nat.zero_le _, Nat.zero_le _⟩) (fun hz58 => ?_)
                refine lv_if_eq (tgt := 167) hx hb zd_Mo_wordAt_161 (by decide) (fun c_59 => ?_) (fun c_59 => ?_)
                · have hf := mp_t c_59 hf
                  refine lv_iload_n hx hb zd_Mo_wordAt_167 rfl (lv_at hl 3 rfl) ?_
                  refine lv_bipush (v := 6) hx hb zd_Mo_wordAt_168 (by decide) ?_
                  refine lv_icmp_gt (tgt := 177) hx hb zd_Mo_wordAt_170 (by decide) (fun c_60 => ?_) (fun c_60 => ?_)
                  · have hf := mp_t c_60 hf
                    refine lv_bipush (v := -12) hx hb zd_Mo_wordAt_177 (by decide) ?_
                    refine lv_istore (lv' := [(4, .int (-12 : Int32)), (3, .int (mtx u1.toNatClampNeg)), (0, .ref (ad 0)), (1, .int u1), (2, .int u2)]) hx hb zd_Mo_wordAt_179 hl (by decide) rfl (fun ls hl => ?_)
                    refine lv_iload_n hx hb zd_Mo_wordAt_181 rfl (lv_at hl 3 rfl) ?_
                    refine lv_istore (lv' := [(5, .int u1), (4, .int (-12 : Int32)), (3, .int (mtx u1.toNatClampNeg)), (0, .ref (ad 0)), (1, .int u1), (2, .int u2)]) hx hb zd_Mo_wordAt_182 hl (by decide) rfl (fun ls hl => ?_)
                    exact loop184 u1 u2 (mtx u1.toNatClampNeg) 2000 (-12 : Int32) u1 _ hf (lv_sub hl [3, 4, 5, 2, 1, 0] rfl)
                  · have hf := mp_f c_60 hf
                    refine lv_iconst (v := 0) hx hb zd_Mo_wordAt_173 (by decide) ?_
                    refine lv_goto (tgt := 179) hx hb zd_Mo_wordAt_174 (by decide) ?_
                    refine lv_istore (lv' := [(4, .int (0 : Int32)), (3, .int (mtx u1.toNatClampNeg)), (0, .ref (ad 0)), (1, .int u1), (2, .int u2)]) hx hb zd_Mo_wordAt_179 hl (by decide) rfl (fun ls hl => ?_)
                    refine lv_iload_n hx hb zd_Mo_wordAt_181 rfl (lv_at hl 3 rfl) ?_
                    refine lv_istore (lv' := [(5, .int u1), (4, .int (0 : Int32)), (3, .int (mtx u1.toNatClampNeg)), (0, .ref (ad 0)), (1, .int u1), (2, .int u2)]) hx hb zd_Mo_wordAt_182 hl (by decide) rfl (fun ls hl => ?_)
                    exact loop184 u1 u2 (mtx u1.toNatClampNeg) 2000 (0 : Int32) u1 _ hf (lv_sub hl [3, 4, 5, 2, 1, 0] rfl)
                · have hf := mp_f c_59 hf
                  refine lv_bipush (v := -11) hx hb zd_Mo_wordAt_164 (by decide) ?_
                  have hf := Option.some.inj hf
                  subst hf
                  exact W.iret (v := (-11 : Int32)) hx hb hr (fun t ht hW => ⟨(-11 : Int32), rfl, rfl, ht⟩) (fun q h => by cases h) zd_Mo_wordAt_166
            · have hf := mp_t c_55 hf
              refine lv_aload_n hx hb zd_Mo_wordAt_128 rfl (lv_at hl 1 rfl) ?_
              refine lv_iload_n hx hb zd_Mo_wordAt_129 rfl (lv_at hl 2 rfl) ?_
              refine lv_bipush (v := 109) hx hb zd_Mo_wordAt_130 (by decide) ?_
              refine lv_bipush (v := 105) hx hb zd_Mo_wordAt_132 (by decide) ?_
              refine lv_bipush (v := 110) hx hb zd_Mo_wordAt_134 (by decide) ?_
              obtain ⟨y61, hg61, hf⟩ := mp_bd hf
              refine mp_Rz (va_runV (As := [.int u1, .int (109 : Int32), .int (105 : Int32), .int (110 : Int32)]) (rest := []) ⟨hx, hb, hml, hown, hts⟩ (zc_Mo_is l dC dI cI cJ cZ ad mgc mpn mcn msz mwc mhf mtx u1 (109 : Int32) (105 : Int32) (110 : Int32) y61 hg61) (cwV 4 hts (mp_gV hsub zq_626 zq_628 zq_19 zq_30 zq_629) rfl rfl rfl (by decide +kernel) ⟨Nat.le_of_ble_eq_true rfl, Nat.le_of_ble_eq_true rfl⟩) ⟨mp_blR, va_recv hK hP (ci := 5) (q0 := 0) rfl rfl, mp_preR hN hK (hP.sub [0, 1] rfl)⟩ rfl rfl hl.1 rfl (lv_room (Nat.le_of_ble_eq_true rfl)) zd_Mo_wordAt_136 ⟨Nat.zero_le _, Nat.zero_le _⟩) (fun hz61 => ?_)
              refine lv_if_eq (tgt := 145) hx hb zd_Mo_wordAt_139 (by decide) (fun c_62 => ?_) (fun c_62 => ?_)
              · have hf := mp_t c_62 hf
                refine lv_iload_n hx hb zd_Mo_wordAt_145 rfl (lv_at hl 3 rfl) ?_
                refine lv_iconst (v := 3) hx hb zd_Mo_wordAt_146 (by decide) ?_
                refine lv_icmp_ne (tgt := 167) hx hb zd_Mo_wordAt_147 (by decide) (fun c_63 => ?_) (fun c_63 => ?_)
                · have hf := mp_f c_63 hf
                  refine lv_iload_n hx hb zd_Mo_wordAt_167 rfl (lv_at hl 3 rfl) ?_
                  refine lv_bipush (v := 6) hx hb zd_Mo_wordAt_168 (by decide) ?_
                  refine lv_icmp_gt (tgt := 177) hx hb zd_Mo_wordAt_170 (by decide) (fun c_64 => ?_) (fun c_64 => ?_)
                  · have hf := mp_t c_64 hf
                    refine lv_bipush (v := -12) hx hb zd_Mo_wordAt_177 (by decide) ?_
                    refine lv_istore (lv' := [(4, .int (-12 : Int32)), (3, .int (mtx u1.toNatClampNeg)), (0, .ref (ad 0)), (1, .int u1), (2, .int u2)]) hx hb zd_Mo_wordAt_179 hl (by decide) rfl (fun ls hl => ?_)
                    refine lv_iload_n hx hb zd_Mo_wordAt_181 rfl (lv_at hl 3 rfl) ?_
                    refine lv_istore (lv' := [(5, .int u1), (4, .int (-12 : Int32)), (3, .int (mtx u1.toNatClampNeg)), (0, .ref (ad 0)), (1, .int u1), (2, .int u2)]) hx hb zd_Mo_wordAt_182 hl (by decide) rfl (fun ls hl => ?_)
                    exact loop184 u1 u2 (mtx u1.toNatClampNeg) 2000 (-12 : Int32) u1 _ hf (lv_sub hl [3, 4, 5, 2, 1, 0] rfl)
                  · have hf := mp_f c_64 hf
                    refine lv_iconst (v := 0) hx hb zd_Mo_wordAt_173 (by decide) ?_
                    refine lv_goto (tgt := 179) hx hb zd_Mo_wordAt_174 (by decide) ?_
                    refine lv_istore (lv' := [(4, .int (0 : Int32)), (3, .int (mtx u1.toNatClampNeg)), (0, .ref (ad 0)), (1, .int u1), (2, .int u2)]) hx hb zd_Mo_wordAt_179 hl (by decide) rfl (fun ls hl => ?_)
                    refine lv_iload_n hx hb zd_Mo_wordAt_181 rfl (lv_at hl 3 rfl) ?_
                    refine lv_istore (lv' := [(5, .int u1), (4, .int (0 : Int32)), (3, .int (mtx u1.toNatClampNeg)), (0, .ref (ad 0)), (1, .int u1), (2, .int u2)]) hx hb zd_Mo_wordAt_182 hl (by decide) rfl (fun ls hl => ?_)
                    exact loop184 u1 u2 (mtx u1.toNatClampNeg) 2000 (0 : Int32) u1 _ hf (lv_sub hl [3, 4, 5, 2, 1, 0] rfl)
                · have hf := mp_t c_63 hf
                  refine lv_aload_n hx hb zd_Mo_wordAt_150 rfl (lv_at hl 1 rfl) ?_
                  refine lv_iload_n hx hb zd_Mo_wordAt_151 rfl (lv_at hl 2 rfl) ?_
                  refine lv_bipush (v := 109) hx hb zd_Mo_wordAt_152 (by decide) ?_
                  refine lv_bipush (v := 97) hx hb zd_Mo_wordAt_154 (by decide) ?_
                  refine lv_bipush (v := 120) hx hb zd_Mo_wordAt_156 (by decide) ?_
                  obtain ⟨y65, hg65, hf⟩ := mp_bd hf
                  refine mp_Rz (va_runV (As := [.int u1, .int (109 : Int32), .int (97 : Int32), .int (120 : Int32)]) (rest := []) ⟨hx, hb, hml, hown, hts⟩ (zc_Mo_is l dC dI cI cJ cZ ad mgc mpn mcn msz mwc mhf mtx u1 (109 : Int32) (97 : Int32) (120 : Int32) y65 hg65) (cwV 4 hts (mp_gV hsub zq_626 zq_628 zq_19 zq_30 zq_629) rfl rfl rfl (by decide +kernel) ⟨Nat.le_of_ble_eq_true rfl, Nat.le_of_ble_eq_true rfl⟩) ⟨mp_blR, va_recv hK hP (ci := 5) (q0 := 0) rfl rfl, mp_preR hN hK (hP.sub [0, 1] rfl)⟩ rfl rfl hl.1 rfl (lv_room (Nat.le_of_ble_eq_true rfl)) zd_Mo_wordAt_158 ⟨Nat.zero_le _, Nat.zero_le _⟩) (fun hz65 => ?_)
                  refine lv_if_eq (tgt := 167) hx hb zd_Mo_wordAt_161 (by decide) (fun c_66 => ?_) (fun c_66 => ?_)
                  · have hf := mp_t c_66 hf
                    refine lv_iload_n hx hb zd_Mo_wordAt_167 rfl (lv_at hl 3 rfl) ?_
                    refine lv_bipush (v := 6) hx hb zd_Mo_wordAt_168 (by decide) ?_
                    refine lv_icmp_gt (tgt := 177) hx hb zd_Mo_wordAt_170 (by decide) (fun c_67 => ?_) (fun c_67 => ?_)
                    · have hf := mp_t c_67 hf
                      refine lv_bipush (v := -12) hx hb zd_Mo_wordAt_177 (by decide) ?_
                      refine lv_istore (lv' := [(4, .int (-12 : Int32)), (3, .int (mtx u1.toNatClampNeg)), (0, .ref (ad 0)), (1, .int u1), (2, .int u2)]) hx hb zd_Mo_wordAt_179 hl (by decide) rfl (fun ls hl => ?_)
                      refine lv_iload_n hx hb zd_Mo_wordAt_181 rfl (lv_at hl 3 rfl) ?_
                      refine lv_istore (lv' := [(5, .int u1), (4, .int (-12 : Int32)), (3, .int (mtx u1.toNatClampNeg)), (0, .ref (ad 0)), (1, .int u1), (2, .int u2)]) hx hb zd_Mo_wordAt_182 hl (by decide) rfl (fun ls hl => ?_)
                      exact loop184 u1 u2 (mtx u1.toNatClampNeg) 2000 (-12 : Int32) u1 _ hf (lv_sub hl [3, 4, 5, 2, 1, 0] rfl)
                    · have hf := mp_f c_67 hf
                      refine lv_iconst (v := 0) hx hb zd_Mo_wordAt_173 (by decide) ?_
                      refine lv_goto (tgt := 179) hx hb zd_Mo_wordAt_174 (by decide) ?_
                      refine lv_istore (lv' := [(4, .int (0 : Int32)), (3, .int (mtx u1.toNatClampNeg)), (0, .ref (ad 0)), (1, .int u1), (2, .int u2)]) hx hb zd_Mo_wordAt_179 hl (by decide) rfl (fun ls hl => ?_)
                      refine lv_iload_n hx hb zd_Mo_wordAt_181 rfl (lv_at hl 3 rfl) ?_
                      refine lv_istore (lv' := [(5, .int u1), (4, .int (0 : Int32)), (3, .int (mtx u1.toNatClampNeg)), (0, .ref (ad 0)), (1, .int u1), (2, .int u2)]) hx hb zd_Mo_wordAt_182 hl (by decide) rfl (fun ls hl => ?_)
                      exact loop184 u1 u2 (mtx u1.toNatClampNeg) 2000 (0 : Int32) u1 _ hf (lv_sub hl [3, 4, 5, 2, 1, 0] rfl)
                  · have hf := mp_f c_66 hf
                    refine lv_bipush (v := -11) hx hb zd_Mo_wordAt_164 (by decide) ?_
                    have hf := Option.some.inj hf
                    subst hf
                    exact W.iret (v := (-11 : Int32)) hx hb hr (fun t ht hW => ⟨(-11 : Int32), rfl, rfl, ht⟩) (fun q h => by cases h) zd_Mo_wordAt_166
              · have hf := mp_f c_62 hf
                refine lv_bipush (v := -10) hx hb zd_Mo_wordAt_142 (by decide) ?_
                have hf := Option.some.inj hf
                subst hf
                exact W.iret (v := (-10 : Int32)) hx hb hr (fun t ht hW => ⟨(-10 : Int32), rfl, rfl, ht⟩) (fun q h => by cases h) zd_Mo_wordAt_144
          · have hf := mp_f c_54 hf
            refine lv_iconst (v := -1) hx hb zd_Mo_wordAt_109 (by decide) ?_
            refine lv_aload_n hx hb zd_Mo_wordAt_110 rfl (lv_at hl 1 rfl) ?_
            refine va_get (D := (dC, dI)) (ci := 5) (v := .ref (ad 12)) (C := zR_Mo) (T := zT_Mo) (N := 24) hx hb hts (fun w h => hsub w (zi_Mo w h)) hown hK hP 0 rfl rfl 14 (by decide) (hw _ zq_457) (fun _ h9 => h9) rfl zd_Mo_wordAt_111 ?_
            refine lv_iload_n hx hb zd_Mo_wordAt_114 rfl (lv_at hl 2 rfl) ?_
            refine lv_iconst (v := 1) hx hb zd_Mo_wordAt_115 (by decide) ?_
            refine lv_iadd hx hb zd_Mo_wordAt_116 ?_
            obtain ⟨h_68, hf⟩ := mp_in hf
            refine va_iald hx hb hK hP 1 0 rfl rfl (i := (u1 + (1 : Int32))) h_68 zd_Mo_wordAt_117 ?_
            refine lv_bipush (v := 48) hx hb zd_Mo_wordAt_118 (by decide) ?_
            refine lv_isub hx hb zd_Mo_wordAt_120 ?_
            refine lv_isub hx hb zd_Mo_wordAt_121 ?_
            have hf := Option.some.inj hf
            subst hf
            exact W.iret (v := ((-1 : Int32) - ((mtx (u1 + (1 : Int32)).toNatClampNeg) - (48 : Int32)))) hx hb hr (fun t ht hW => ⟨((-1 : Int32) - ((mtx (u1 + (1 : Int32)).toNatClampNeg) - (48 : Int32))), rfl, rfl, ht⟩) (fun q h => by cases h) zd_Mo_wordAt_122
  · have hf := mp_t c_2 hf
    refine lv_iload_n hx hb zd_Mo_wordAt_12 rfl (lv_at hl 0 rfl) ?_
    refine lv_bipush (v := 110) hx hb zd_Mo_wordAt_13 (by decide) ?_
    refine lv_icmp_eq (tgt := 36) hx hb zd_Mo_wordAt_15 (by decide) (fun c_69 => ?_) (fun c_69 => ?_)
    · have hf := mp_t c_69 hf
      refine lv_iload_n hx hb zd_Mo_wordAt_36 rfl (lv_at hl 0 rfl) ?_
      refine lv_bipush (v := 110) hx hb zd_Mo_wordAt_37 (by decide) ?_
      refine lv_icmp_ne (tgt := 47) hx hb zd_Mo_wordAt_39 (by decide) (fun c_70 => ?_) (fun c_70 => ?_)
      · have hf := mp_f c_70 hf
        refine lv_iload_n hx hb zd_Mo_wordAt_47 rfl (lv_at hl 0 rfl) ?_
        refine lv_bipush (v := 43) hx hb zd_Mo_wordAt_48 (by decide) ?_
        refine lv_icmp_ne (tgt := 58) hx hb zd_Mo_wordAt_50 (by decide) (fun c_71 => ?_) (fun c_71 => ?_)
        · have hf := mp_f c_71 hf
          refine lv_iload_n hx hb zd_Mo_wordAt_58 rfl (lv_at hl 0 rfl) ?_
          refine lv_bipush (v := 45) hx hb zd_Mo_wordAt_59 (by decide) ?_
          refine lv_icmp_ne (tgt := 69) hx hb zd_Mo_wordAt_61 (by decide) (fun c_72 => ?_) (fun c_72 => ?_)
          · have hf := mp_f c_72 hf
            refine lv_bipush (v := -9) hx hb zd_Mo_wordAt_69 (by decide) ?_
            have hf := Option.some.inj hf
            subst hf
            exact W.iret (v := (-9 : Int32)) hx hb hr (fun t ht hW => ⟨(-9 : Int32), rfl, rfl, ht⟩) (fun q h => by cases h) zd_Mo_wordAt_71
          · have hf := mp_t c_72 hf
            refine lv_bipush (v := -8) hx hb zd_Mo_wordAt_64 (by decide) ?_
            refine lv_goto (tgt := 71) hx hb zd_Mo_wordAt_66 (by decide) ?_
            have hf := Option.some.inj hf
            subst hf
            exact W.iret (v := (-8 : Int32)) hx hb hr (fun t ht hW => ⟨(-8 : Int32), rfl, rfl, ht⟩) (fun q h => by cases h) zd_Mo_wordAt_71
        · have hf := mp_t c_71 hf
          refine lv_bipush (v := -7) hx hb zd_Mo_wordAt_53 (by decide) ?_
          refine lv_goto (tgt := 71) hx hb zd_Mo_wordAt_55 (by decide) ?_
          have hf := Option.some.inj hf
          subst hf
          exact W.iret (v := (-7 : Int32)) hx hb hr (fun t ht hW => ⟨(-7 : Int32), rfl, rfl, ht⟩) (fun q h => by cases h) zd_Mo_wordAt_71
      · have hf := mp_t c_70 hf
        refine lv_bipush (v := -6) hx hb zd_Mo_wordAt_42 (by decide) ?_
        refine lv_goto (tgt := 71) hx hb zd_Mo_wordAt_44 (by decide) ?_
        have hf := Option.some.inj hf
        subst hf
        exact W.iret (v := (-6 : Int32)) hx hb hr (fun t ht hW => ⟨(-6 : Int32), rfl, rfl, ht⟩) (fun q h => by cases h) zd_Mo_wordAt_71
    · have hf := mp_f c_69 hf
      refine lv_iload_n hx hb zd_Mo_wordAt_18 rfl (lv_at hl 0 rfl) ?_
      refine lv_bipush (v := 43) hx hb zd_Mo_wordAt_19 (by decide) ?_
      refine lv_icmp_eq (tgt := 36) hx hb zd_Mo_wordAt_21 (by decide) (fun c_73 => ?_) (fun c_73 => ?_)
      · have hf := mp_t c_73 hf
        refine lv_iload_n hx hb zd_Mo_wordAt_36 rfl (lv_at hl 0 rfl) ?_
        refine lv_bipush (v := 110) hx hb zd_Mo_wordAt_37 (by decide) ?_
        refine lv_icmp_ne (tgt := 47) hx hb zd_Mo_wordAt_39 (by decide) (fun c_74 => ?_) (fun c_74 => ?_)
        · have hf := mp_f c_74 hf
          refine lv_iload_n hx hb zd_Mo_wordAt_47 rfl (lv_at hl 0 rfl) ?_
          refine lv_bipush (v := 43) hx hb zd_Mo_wordAt_48 (by decide) ?_
          refine lv_icmp_ne (tgt := 58) hx hb zd_Mo_wordAt_50 (by decide) (fun c_75 => ?_) (fun c_75 => ?_)
          · have hf := mp_f c_75 hf
            refine lv_iload_n hx hb zd_Mo_wordAt_58 rfl (lv_at hl 0 rfl) ?_
            refine lv_bipush (v := 45) hx hb zd_Mo_wordAt_59 (by decide) ?_
            refine lv_icmp_ne (tgt := 69) hx hb zd_Mo_wordAt_61 (by decide) (fun c_76 => ?_) (fun c_76 => ?_)
            · have hf := mp_f c_76 hf
              refine lv_bipush (v := -9) hx hb zd_Mo_wordAt_69 (by decide) ?_
              have hf := Option.some.inj hf
              subst hf
              exact W.iret (v := (-9 : Int32)) hx hb hr (fun t ht hW => ⟨(-9 : Int32), rfl, rfl, ht⟩) (fun q h => by cases h) zd_Mo_wordAt_71
            · have hf := mp_t c_76 hf
              refine lv_bipush (v := -8) hx hb zd_Mo_wordAt_64 (by decide) ?_
              refine lv_goto (tgt := 71) hx hb zd_Mo_wordAt_66 (by decide) ?_
              have hf := Option.some.inj hf
              subst hf
              exact W.iret (v := (-8 : Int32)) hx hb hr (fun t ht hW => ⟨(-8 : Int32), rfl, rfl, ht⟩) (fun q h => by cases h) zd_Mo_wordAt_71
          · have hf := mp_t c_75 hf
            refine lv_bipush (v := -7) hx hb zd_Mo_wordAt_53 (by decide) ?_
            refine lv_goto (tgt := 71) hx hb zd_Mo_wordAt_55 (by decide) ?_
            have hf := Option.some.inj hf
            subst hf
            exact W.iret (v := (-7 : Int32)) hx hb hr (fun t ht hW => ⟨(-7 : Int32), rfl, rfl, ht⟩) (fun q h => by cases h) zd_Mo_wordAt_71
        · have hf := mp_t c_74 hf
          refine lv_bipush (v := -6) hx hb zd_Mo_wordAt_42 (by decide) ?_
          refine lv_goto (tgt := 71) hx hb zd_Mo_wordAt_44 (by decide) ?_
          have hf := Option.some.inj hf
          subst hf
          exact W.iret (v := (-6 : Int32)) hx hb hr (fun t ht hW => ⟨(-6 : Int32), rfl, rfl, ht⟩) (fun q h => by cases h) zd_Mo_wordAt_71
      · have hf := mp_f c_73 hf
        refine lv_iload_n hx hb zd_Mo_wordAt_24 rfl (lv_at hl 0 rfl) ?_
        refine lv_bipush (v := 45) hx hb zd_Mo_wordAt_25 (by decide) ?_
        refine lv_icmp_eq (tgt := 36) hx hb zd_Mo_wordAt_27 (by decide) (fun c_77 => ?_) (fun c_77 => ?_)
        · have hf := mp_t c_77 hf
          refine lv_iload_n hx hb zd_Mo_wordAt_36 rfl (lv_at hl 0 rfl) ?_
          refine lv_bipush (v := 110) hx hb zd_Mo_wordAt_37 (by decide) ?_
          refine lv_icmp_ne (tgt := 47) hx hb zd_Mo_wordAt_39 (by decide) (fun c_78 => ?_) (fun c_78 => ?_)
          · have hf := mp_f c_78 hf
            refine lv_iload_n hx hb zd_Mo_wordAt_47 rfl (lv_at hl 0 rfl) ?_
            refine lv_bipush (v := 43) hx hb zd_Mo_wordAt_48 (by decide) ?_
            refine lv_icmp_ne (tgt := 58) hx hb zd_Mo_wordAt_50 (by decide) (fun c_79 => ?_) (fun c_79 => ?_)
            · have hf := mp_f c_79 hf
              refine lv_iload_n hx hb zd_Mo_wordAt_58 rfl (lv_at hl 0 rfl) ?_
              refine lv_bipush (v := 45) hx hb zd_Mo_wordAt_59 (by decide) ?_
              refine lv_icmp_ne (tgt := 69) hx hb zd_Mo_wordAt_61 (by decide) (fun c_80 => ?_) (fun c_80 => ?_)
              · have hf := mp_f c_80 hf
                refine lv_bipush (v := -9) hx hb zd_Mo_wordAt_69 (by decide) ?_
                have hf := Option.some.inj hf
                subst hf
                exact W.iret (v := (-9 : Int32)) hx hb hr (fun t ht hW => ⟨(-9 : Int32), rfl, rfl, ht⟩) (fun q h => by cases h) zd_Mo_wordAt_71
              · have hf := mp_t c_80 hf
                refine lv_bipush (v := -8) hx hb zd_Mo_wordAt_64 (by decide) ?_
                refine lv_goto (tgt := 71) hx hb zd_Mo_wordAt_66 (by decide) ?_
                have hf := Option.some.inj hf
                subst hf
                exact W.iret (v := (-8 : Int32)) hx hb hr (fun t ht hW => ⟨(-8 : Int32), rfl, rfl, ht⟩) (fun q h => by cases h) zd_Mo_wordAt_71
            · have hf := mp_t c_79 hf
              refine lv_bipush (v := -7) hx hb zd_Mo_wordAt_53 (by decide) ?_
              refine lv_goto (tgt := 71) hx hb zd_Mo_wordAt_55 (by decide) ?_
              have hf := Option.some.inj hf
              subst hf
              exact W.iret (v := (-7 : Int32)) hx hb hr (fun t ht hW => ⟨(-7 : Int32), rfl, rfl, ht⟩) (fun q h => by cases h) zd_Mo_wordAt_71
          · have hf := mp_t c_78 hf
            refine lv_bipush (v := -6) hx hb zd_Mo_wordAt_42 (by decide) ?_
            refine lv_goto (tgt := 71) hx hb zd_Mo_wordAt_44 (by decide) ?_
            have hf := Option.some.inj hf
            subst hf
            exact W.iret (v := (-6 : Int32)) hx hb hr (fun t ht hW => ⟨(-6 : Int32), rfl, rfl, ht⟩) (fun q h => by cases h) zd_Mo_wordAt_71
        · have hf := mp_f c_77 hf
          refine lv_iload_n hx hb zd_Mo_wordAt_30 rfl (lv_at hl 0 rfl) ?_
          refine lv_bipush (v := 42) hx hb zd_Mo_wordAt_31 (by decide) ?_
          refine lv_icmp_ne (tgt := 72) hx hb zd_Mo_wordAt_33 (by decide) (fun c_81 => ?_) (fun c_81 => ?_)
          · have hf := mp_f c_81 hf
            refine lv_iload_n hx hb zd_Mo_wordAt_72 rfl (lv_at hl 3 rfl) ?_
            refine lv_iconst (v := 2) hx hb zd_Mo_wordAt_73 (by decide) ?_
            refine lv_icmp_ne (tgt := 123) hx hb zd_Mo_wordAt_74 (by decide) (fun c_82 => ?_) (fun c_82 => ?_)
            · have hf := mp_f c_82 hf
              refine lv_iload_n hx hb zd_Mo_wordAt_123 rfl (lv_at hl 3 rfl) ?_
              refine lv_iconst (v := 3) hx hb zd_Mo_wordAt_124 (by decide) ?_
              refine lv_icmp_ne (tgt := 145) hx hb zd_Mo_wordAt_125 (by decide) (fun c_83 => ?_) (fun c_83 => ?_)
              · have hf := mp_f c_83 hf
                refine lv_iload_n hx hb zd_Mo_wordAt_145 rfl (lv_at hl 3 rfl) ?_
                refine lv_iconst (v := 3) hx hb zd_Mo_wordAt_146 (by decide) ?_
                refine lv_icmp_ne (tgt := 167) hx hb zd_Mo_wordAt_147 (by decide) (fun c_84 => ?_) (fun c_84 => ?_)
                · have hf := mp_f c_84 hf
                  refine lv_iload_n hx hb zd_Mo_wordAt_167 rfl (lv_at hl 3 rfl) ?_
                  refine lv_bipush (v := 6) hx hb zd_Mo_wordAt_168 (by decide) ?_
                  refine lv_icmp_gt (tgt := 177) hx hb zd_Mo_wordAt_170 (by decide) (fun c_85 => ?_) (fun c_85 => ?_)
                  · have hf := mp_t c_85 hf
                    refine lv_bipush (v := -12) hx hb zd_Mo_wordAt_177 (by decide) ?_
                    refine lv_istore (lv' := [(4, .int (-12 : Int32)), (3, .int (mtx u1.toNatClampNeg)), (0, .ref (ad 0)), (1, .int u1), (2, .int u2)]) hx hb zd_Mo_wordAt_179 hl (by decide) rfl (fun ls hl => ?_)
                    refine lv_iload_n hx hb zd_Mo_wordAt_181 rfl (lv_at hl 3 rfl) ?_
                    refine lv_istore (lv' := [(5, .int u1), (4, .int (-12 : Int32)), (3, .int (mtx u1.toNatClampNeg)), (0, .ref (ad 0)), (1, .int u1), (2, .int u2)]) hx hb zd_Mo_wordAt_182 hl (by decide) rfl (fun ls hl => ?_)
                    exact loop184 u1 u2 (mtx u1.toNatClampNeg) 2000 (-12 : Int32) u1 _ hf (lv_sub hl [3, 4, 5, 2, 1, 0] rfl)
                  · have hf := mp_f c_85 hf
                    refine lv_iconst (v := 0) hx hb zd_Mo_wordAt_173 (by decide) ?_
                    refine lv_goto (tgt := 179) hx hb zd_Mo_wordAt_174 (by decide) ?_
                    refine lv_istore (lv' := [(4, .int (0 : Int32)), (3, .int (mtx u1.toNatClampNeg)), (0, .ref (ad 0)), (1, .int u1), (2, .int u2)]) hx hb zd_Mo_wordAt_179 hl (by decide) rfl (fun ls hl => ?_)
                    refine lv_iload_n hx hb zd_Mo_wordAt_181 rfl (lv_at hl 3 rfl) ?_
                    refine lv_istore (lv' := [(5, .int u1), (4, .int (0 : Int32)), (3, .int (mtx u1.toNatClampNeg)), (0, .ref (ad 0)), (1, .int u1), (2, .int u2)]) hx hb zd_Mo_wordAt_182 hl (by decide) rfl (fun ls hl => ?_)
                    exact loop184 u1 u2 (mtx u1.toNatClampNeg) 2000 (0 : Int32) u1 _ hf (lv_sub hl [3, 4, 5, 2, 1, 0] rfl)
                · have hf := mp_t c_84 hf
                  refine lv_aload_n hx hb zd_Mo_wordAt_150 rfl (lv_at hl 1 rfl) ?_
                  refine lv_iload_n hx hb zd_Mo_wordAt_151 rfl (lv_at hl 2 rfl) ?_
                  refine lv_bipush (v := 109) hx hb zd_Mo_wordAt_152 (by decide) ?_
                  refine lv_bipush (v := 97) hx hb zd_Mo_wordAt_154 (by decide) ?_
                  refine lv_bipush (v := 120) hx hb zd_Mo_wordAt_156 (by decide) ?_
                  obtain ⟨y86, hg86, hf⟩ := mp_bd hf
                  refine mp_Rz (va_runV (As := [.int u1, .int (109 : Int32), .int (97 : Int32), .int (120 : Int32)]) (rest := []) ⟨hx, hb, hml, hown, hts⟩ (zc_Mo_is l dC dI cI cJ cZ ad mgc mpn mcn msz mwc mhf mtx u1 (109 : Int32) (97 : Int32) (120 : Int32) y86 hg86) (cwV 4 hts (mp_gV hsub zq_626 zq_628 zq_19 zq_30 zq_629) rfl rfl rfl (by decide +kernel) ⟨Nat.le_of_ble_eq_true rfl, Nat.le_of_ble_eq_true rfl⟩) ⟨mp_blR, va_recv hK hP (ci := 5) (q0 := 0) rfl rfl, mp_preR hN hK (hP.sub [0, 1] rfl)⟩ rfl rfl hl.1 rfl (lv_room (Nat.le_of_ble_eq_true rfl)) zd_Mo_wordAt_158 ⟨Nat.zero_le _, Nat.zero_le _⟩) (fun hz86 => ?_)
                  refine lv_if_eq (tgt := 167) hx hb zd_Mo_wordAt_161 (by decide) (fun c_87 => ?_) (fun c_87 => ?_)
                  · have hf := mp_t c_87 hf
                    refine lv_iload_n hx hb zd_Mo_wordAt_167 rfl (lv_at hl 3 rfl) ?_
                    refine lv_bipush (v := 6) hx hb zd_Mo_wordAt_168 (by decide) ?_
                    refine lv_icmp_gt (tgt := 177) hx hb zd_Mo_wordAt_170 (by decide) (fun c_88 => ?_) (fun c_88 => ?_)
                    · have hf := mp_t c_88 hf
                      refine lv_bipush (v := -12) hx hb zd_Mo_wordAt_177 (by decide) ?_
                      refine lv_istore (lv' := [(4, .int (-12 : Int32)), (3, .int (mtx u1.toNatClampNeg)), (0, .ref (ad 0)), (1, .int u1), (2, .int u2)]) hx hb zd_Mo_wordAt_179 hl (by decide) rfl (fun ls hl => ?_)
                      refine lv_iload_n hx hb zd_Mo_wordAt_181 rfl (lv_at hl 3 rfl) ?_
                      refine lv_istore (lv' := [(5, .int u1), (4, .int (-12 : Int32)), (3, .int (mtx u1.toNatClampNeg)), (0, .ref (ad 0)), (1, .int u1), (2, .int u2)]) hx hb zd_Mo_wordAt_182 hl (by decide) rfl (fun ls hl => ?_)
                      exact loop184 u1 u2 (mtx u1.toNatClampNeg) 2000 (-12 : Int32) u1 _ hf (lv_sub hl [3, 4, 5, 2, 1, 0] rfl)
                    · have hf := mp_f c_88 hf
                      refine lv_iconst (v := 0) hx hb zd_Mo_wordAt_173 (by decide) ?_
                      refine lv_goto (tgt := 179) hx hb zd_Mo_wordAt_174 (by decide) ?_
                      refine lv_istore (lv' := [(4, .int (0 : Int32)), (3, .int (mtx u1.toNatClampNeg)), (0, .ref (ad 0)), (1, .int u1), (2, .int u2)]) hx hb zd_Mo_wordAt_179 hl (by decide) rfl (fun ls hl => ?_)
                      refine lv_iload_n hx hb zd_Mo_wordAt_181 rfl (lv_at hl 3 rfl) ?_
                      refine lv_istore (lv' := [(5, .int u1), (4, .int (0 : Int32)), (3, .int (mtx u1.toNatClampNeg)), (0, .ref (ad 0)), (1, .int u1), (2, .int u2)]) hx hb zd_Mo_wordAt_182 hl (by decide) rfl (fun ls hl => ?_)
                      exact loop184 u1 u2 (mtx u1.toNatClampNeg) 2000 (0 : Int32) u1 _ hf (lv_sub hl [3, 4, 5, 2, 1, 0] rfl)
                  · have hf := mp_f c_87 hf
                    refine lv_bipush (v := -11) hx hb zd_Mo_wordAt_164 (by decide) ?_
                    have hf := Option.some.inj hf
                    subst hf
                    exact W.iret (v := (-11 : Int32)) hx hb hr (fun t ht hW => ⟨(-11 : Int32), rfl, rfl, ht⟩) (fun q h => by cases h) zd_Mo_wordAt_166
              · have hf := mp_t c_83 hf
                refine lv_aload_n hx hb zd_Mo_wordAt_128 rfl (lv_at hl 1 rfl) ?_
                refine lv_iload_n hx hb zd_Mo_wordAt_129 rfl (lv_at hl 2 rfl) ?_
                refine lv_bipush (v := 109) hx hb zd_Mo_wordAt_130 (by decide) ?_
                refine lv_bipush (v := 105) hx hb zd_Mo_wordAt_132 (by decide) ?_
                refine lv_bipush (v := 110) hx hb zd_Mo_wordAt_134 (by decide) ?_
                obtain ⟨y89, hg89, hf⟩ := mp_bd hf
                refine mp_Rz (va_runV (As := [.int u1, .int (109 : Int32), .int (105 : Int32), .int (110 : Int32)]) (rest := []) ⟨hx, hb, hml, hown, hts⟩ (zc_Mo_is l dC dI cI cJ cZ ad mgc mpn mcn msz mwc mhf mtx u1 (109 : Int32) (105 : Int32) (110 : Int32) y89 hg89) (cwV 4 hts (mp_gV hsub zq_626 zq_628 zq_19 zq_30 zq_629) rfl rfl rfl (by decide +kernel) ⟨Nat.le_of_ble_eq_true rfl, Nat.le_of_ble_eq_true rfl⟩) ⟨mp_blR, va_recv hK hP (ci := 5) (q0 := 0) rfl rfl, mp_preR hN hK (hP.sub [0, 1] rfl)⟩ rfl rfl hl.1 rfl (lv_room (Nat.le_of_ble_eq_true rfl)) zd_Mo_wordAt_136 ⟨Nat.zero_le _, Nat.zero_le _⟩) (fun hz89 => ?_)
                refine lv_if_eq (tgt := 145) hx hb zd_Mo_wordAt_139 (by decide) (fun c_90 => ?_) (fun c_90 => ?_)
                · have hf := mp_t c_90 hf
                  refine lv_iload_n hx hb zd_Mo_wordAt_145 rfl (lv_at hl 3 rfl) ?_
                  refine lv_iconst (v := 3) hx hb zd_Mo_wordAt_146 (by decide) ?_
                  refine lv_icmp_ne (tgt := 167) hx hb zd_Mo_wordAt_147 (by decide) (fun c_91 => ?_) (fun c_91 => ?_)
                  · have hf := mp_f c_91 hf
                    refine lv_iload_n hx hb zd_Mo_wordAt_167 rfl (lv_at hl 3 rfl) ?_
                    refine lv_bipush (v := 6) hx hb zd_Mo_wordAt_168 (by decide) ?_
                    refine lv_icmp_gt (tgt := 177) hx hb zd_Mo_wordAt_170 (by decide) (fun c_92 => ?_) (fun c_92 => ?_)
                    · have hf := mp_t c_92 hf
                      refine lv_bipush (v := -12) hx hb zd_Mo_wordAt_177 (by decide) ?_
                      refine lv_istore (lv' := [(4, .int (-12 : Int32)), (3, .int (mtx u1.toNatClampNeg)), (0, .ref (ad 0)), (1, .int u1), (2, .int u2)]) hx hb zd_Mo_wordAt_179 hl (by decide) rfl (fun ls hl => ?_)
                      refine lv_iload_n hx hb zd_Mo_wordAt_181 rfl (lv_at hl 3 rfl) ?_
                      refine lv_istore (lv' := [(5, .int u1), (4, .int (-12 : Int32)), (3, .int (mtx u1.toNatClampNeg)), (0, .ref (ad 0)), (1, .int u1), (2, .int u2)]) hx hb zd_Mo_wordAt_182 hl (by decide) rfl (fun ls hl => ?_)
                      exact loop184 u1 u2 (mtx u1.toNatClampNeg) 2000 (-12 : Int32) u1 _ hf (lv_sub hl [3, 4, 5, 2, 1, 0] rfl)
                    · have hf := mp_f c_92 hf
                      refine lv_iconst (v := 0) hx hb zd_Mo_wordAt_173 (by decide) ?_
                      refine lv_goto (tgt := 179) hx hb zd_Mo_wordAt_174 (by decide) ?_
                      refine lv_istore (lv' := [(4, .int (0 : Int32)), (3, .int (mtx u1.toNatClampNeg)), (0, .ref (ad 0)), (1, .int u1), (2, .int u2)]) hx hb zd_Mo_wordAt_179 hl (by decide) rfl (fun ls hl => ?_)
                      refine lv_iload_n hx hb zd_Mo_wordAt_181 rfl (lv_at hl 3 rfl) ?_
                      refine lv_istore (lv' := [(5, .int u1), (4, .int (0 : Int32)), (3, .int (mtx u1.toNatClampNeg)), (0, .ref (ad 0)), (1, .int u1), (2, .int u2)]) hx hb zd_Mo_wordAt_182 hl (by decide) rfl (fun ls hl => ?_)
                      exact loop184 u1 u2 (mtx u1.toNatClampNeg) 2000 (0 : Int32) u1 _ hf (lv_sub hl [3, 4, 5, 2, 1, 0] rfl)
                  · have hf := mp_t c_91 hf
                    refine lv_aload_n hx hb zd_Mo_wordAt_150 rfl (lv_at hl 1 rfl) ?_
                    refine lv_iload_n hx hb zd_Mo_wordAt_151 rfl (lv_at hl 2 rfl) ?_
                    refine lv_bipush (v := 109) hx hb zd_Mo_wordAt_152 (by decide) ?_
                    refine lv_bipush (v := 97) hx hb zd_Mo_wordAt_154 (by decide) ?_
                    refine lv_bipush (v := 120) hx hb zd_Mo_wordAt_156 (by decide) ?_
                    obtain ⟨y93, hg93, hf⟩ := mp_bd hf
                    refine mp_Rz (va_runV (As := [.int u1, .int (109 : Int32), .int (97 : Int32), .int (120 : Int32)]) (rest := []) ⟨hx, hb, hml, hown, hts⟩ (zc_Mo_is l dC dI cI cJ cZ ad mgc mpn mcn msz mwc mhf mtx u1 (109 : Int32) (97 : Int32) (120 : Int32) y93 hg93) (cwV 4 hts (mp_gV hsub zq_626 zq_628 zq_19 zq_30 zq_629) rfl rfl rfl (by decide +kernel) ⟨Nat.le_of_ble_eq_true rfl, Nat.le_of_ble_eq_true rfl⟩) ⟨mp_blR, va_recv hK hP (ci := 5) (q0 := 0) rfl rfl, mp_preR hN hK (hP.sub [0, 1] rfl)⟩ rfl rfl hl.1 rfl (lv_room (Nat.le_of_ble_eq_true rfl)) zd_Mo_wordAt_158 ⟨Nat.zero_le _, Nat.zero_le _⟩) (fun hz93 => ?_)
                    refine lv_if_eq (tgt := 167) hx hb zd_Mo_wordAt_161 (by decide) (fun c_94 => ?_) (fun c_94 => ?_)
                    · have hf := mp_t c_94 hf
                      refine lv_iload_n hx hb zd_Mo_wordAt_167 rfl (lv_at hl 3 rfl) ?_
                      refine lv_bipush (v := 6) hx hb zd_Mo_wordAt_168 (by decide) ?_
                      refine lv_icmp_gt (tgt := 177) hx hb zd_Mo_wordAt_170 (by decide) (fun c_95 => ?_) (fun c_95 => ?_)
                      · have hf := mp_t c_95 hf
                        refine lv_bipush (v := -12) hx hb zd_Mo_wordAt_177 (by decide) ?_
                        refine lv_istore (lv' := [(4, .int (-12 : Int32)), (3, .int (mtx u1.toNatClampNeg)), (0, .ref (ad 0)), (1, .int u1), (2, .int u2)]) hx hb zd_Mo_wordAt_179 hl (by decide) rfl (fun ls hl => ?_)
                        refine lv_iload_n hx hb zd_Mo_wordAt_181 rfl (lv_at hl 3 rfl) ?_
                        refine lv_istore (lv' := [(5, .int u1), (4, .int (-12 : Int32)), (3, .int (mtx u1.toNatClampNeg)), (0, .ref (ad 0)), (1, .int u1), (2, .int u2)]) hx hb zd_Mo_wordAt_182 hl (by decide) rfl (fun ls hl => ?_)
                        exact loop184 u1 u2 (mtx u1.toNatClampNeg) 2000 (-12 : Int32) u1 _ hf (lv_sub hl [3, 4, 5, 2, 1, 0] rfl)
                      · have hf := mp_f c_95 hf
                        refine lv_iconst (v := 0) hx hb zd_Mo_wordAt_173 (by decide) ?_
                        refine lv_goto (tgt := 179) hx hb zd_Mo_wordAt_174 (by decide) ?_
                        refine lv_istore (lv' := [(4, .int (0 : Int32)), (3, .int (mtx u1.toNatClampNeg)), (0, .ref (ad 0)), (1, .int u1), (2, .int u2)]) hx hb zd_Mo_wordAt_179 hl (by decide) rfl (fun ls hl => ?_)
                        refine lv_iload_n hx hb zd_Mo_wordAt_181 rfl (lv_at hl 3 rfl) ?_
                        refine lv_istore (lv' := [(5, .int u1), (4, .int (0 : Int32)), (3, .int (mtx u1.toNatClampNeg)), (0, .ref (ad 0)), (1, .int u1), (2, .int u2)]) hx hb zd_Mo_wordAt_182 hl (by decide) rfl (fun ls hl => ?_)
                        exact loop184 u1 u2 (mtx u1.toNatClampNeg) 2000 (0 : Int32) u1 _ hf (lv_sub hl [3, 4, 5, 2, 1, 0] rfl)
                    · have hf := mp_f c_94 hf
                      refine lv_bipush (v := -11) hx hb zd_Mo_wordAt_164 (by decide) ?_
                      have hf := Option.some.inj hf
                      subst hf
                      exact W.iret (v := (-11 : Int32)) hx hb hr (fun t ht hW => ⟨(-11 : Int32), rfl, rfl, ht⟩) (fun q h => by cases h) zd_Mo_wordAt_166
                · have hf := mp_f c_90 hf
                  refine lv_bipush (v := -10) hx hb zd_Mo_wordAt_142 (by decide) ?_
                  have hf := Option.some.inj hf
                  subst hf
                  exact W.iret (v := (-10 : Int32)) hx hb hr (fun t ht hW => ⟨(-10 : Int32), rfl, rfl, ht⟩) (fun q h => by cases h) zd_Mo_wordAt_144
            · have hf := mp_t c_82 hf
              refine lv_iload_n hx hb zd_Mo_wordAt_77 rfl (lv_at hl 0 rfl) ?_
              refine lv_bipush (v := 107) hx hb zd_Mo_wordAt_78 (by decide) ?_
              refine lv_icmp_ne (tgt := 123) hx hb zd_Mo_wordAt_80 (by decide) (fun c_96 => ?_) (fun c_96 => ?_)
              · have hf := mp_f c_96 hf
                refine lv_iload_n hx hb zd_Mo_wordAt_123 rfl (lv_at hl 3 rfl) ?_
                refine lv_iconst (v := 3) hx hb zd_Mo_wordAt_124 (by decide) ?_
                refine lv_icmp_ne (tgt := 145) hx hb zd_Mo_wordAt_125 (by decide) (fun c_97 => ?_) (fun c_97 => ?_)
                · have hf := mp_f c_97 hf
                  refine lv_iload_n hx hb zd_Mo_wordAt_145 rfl (lv_at hl 3 rfl) ?_
                  refine lv_iconst (v := 3) hx hb zd_Mo_wordAt_146 (by decide) ?_
                  refine lv_icmp_ne (tgt := 167) hx hb zd_Mo_wordAt_147 (by decide) (fun c_98 => ?_) (fun c_98 => ?_)
                  · have hf := mp_f c_98 hf
                    refine lv_iload_n hx hb zd_Mo_wordAt_167 rfl (lv_at hl 3 rfl) ?_
                    refine lv_bipush (v := 6) hx hb zd_Mo_wordAt_168 (by decide) ?_
                    refine lv_icmp_gt (tgt := 177) hx hb zd_Mo_wordAt_170 (by decide) (fun c_99 => ?_) (fun c_99 => ?_)
                    · have hf := mp_t c_99 hf
                      refine lv_bipush (v := -12) hx hb zd_Mo_wordAt_177 (by decide) ?_
                      refine lv_istore (lv' := [(4, .int (-12 : Int32)), (3, .int (mtx u1.toNatClampNeg)), (0, .ref (ad 0)), (1, .int u1), (2, .int u2)]) hx hb zd_Mo_wordAt_179 hl (by decide) rfl (fun ls hl => ?_)
                      refine lv_iload_n hx hb zd_Mo_wordAt_181 rfl (lv_at hl 3 rfl) ?_
                      refine lv_istore (lv' := [(5, .int u1), (4, .int (-12 : Int32)), (3, .int (mtx u1.toNatClampNeg)), (0, .ref (ad 0)), (1, .int u1), (2, .int u2)]) hx hb zd_Mo_wordAt_182 hl (by decide) rfl (fun ls hl => ?_)
                      exact loop184 u1 u2 (mtx u1.toNatClampNeg) 2000 (-12 : Int32) u1 _ hf (lv_sub hl [3, 4, 5, 2, 1, 0] rfl)
                    · have hf := mp_f c_99 hf
                      refine lv_iconst (v := 0) hx hb zd_Mo_wordAt_173 (by decide) ?_
                      refine lv_goto (tgt := 179) hx hb zd_Mo_wordAt_174 (by decide) ?_
                      refine lv_istore (lv' := [(4, .int (0 : Int32)), (3, .int (mtx u1.toNatClampNeg)), (0, .ref (ad 0)), (1, .int u1), (2, .int u2)]) hx hb zd_Mo_wordAt_179 hl (by decide) rfl (fun ls hl => ?_)
                      refine lv_iload_n hx hb zd_Mo_wordAt_181 rfl (lv_at hl 3 rfl) ?_
                      refine lv_istore (lv' := [(5, .int u1), (4, .int (0 : Int32)), (3, .int (mtx u1.toNatClampNeg)), (0, .ref (ad 0)), (1, .int u1), (2, .int u2)]) hx hb zd_Mo_wordAt_182 hl (by decide) rfl (fun ls hl => ?_)
                      exact loop184 u1 u2 (mtx u1.toNatClampNeg) 2000 (0 : Int32) u1 _ hf (lv_sub hl [3, 4, 5, 2, 1, 0] rfl)
                  · have hf := mp_t c_98 hf
                    refine lv_aload_n hx hb zd_Mo_wordAt_150 rfl (lv_at hl 1 rfl) ?_
                    refine lv_iload_n hx hb zd_Mo_wordAt_151 rfl (lv_at hl 2 rfl) ?_
                    refine lv_bipush (v := 109) hx hb zd_Mo_wordAt_152 (by decide) ?_
                    refine lv_bipush (v := 97) hx hb zd_Mo_wordAt_154 (by decide) ?_
                    refine lv_bipush (v := 120) hx hb zd_Mo_wordAt_156 (by decide) ?_
                    obtain ⟨y100, hg100, hf⟩ := mp_bd hf
                    refine mp_Rz (va_runV (As := [.int u1, .int (109 : Int32), .int (97 : Int32), .int (120 : Int32)]) (rest := []) ⟨hx, hb, hml, hown, hts⟩ (zc_Mo_is l dC dI cI cJ cZ ad mgc mpn mcn msz mwc mhf mtx u1 (109 : Int32) (97 : Int32) (120 : Int32) y100 hg100) (cwV 4 hts (mp_gV hsub zq_626 zq_628 zq_19 zq_30 zq_629) rfl rfl rfl (by decide +kernel) ⟨Nat.le_of_ble_eq_true rfl, Nat.le_of_ble_eq_true rfl⟩) ⟨mp_blR, va_recv hK hP (ci := 5) (q0 := 0) rfl rfl, mp_preR hN hK (hP.sub [0, 1] rfl)⟩ rfl rfl hl.1 rfl (lv_room (Nat.le_of_ble_eq_true rfl)) zd_Mo_wordAt_158 ⟨Nat.zero_le _, Nat.zero_le _⟩) (fun hz100 => ?_)
                    refine lv_if_eq (tgt := 167) hx hb zd_Mo_wordAt_161 (by decide) (fun c_101 => ?_) (fun c_101 => ?_)
                    · have hf := mp_t c_101 hf
                      refine lv_iload_n hx hb zd_Mo_wordAt_167 rfl (lv_at hl 3 rfl) ?_
                      refine lv_bipush (v := 6) hx hb zd_Mo_wordAt_168 (by decide) ?_
                      refine lv_icmp_gt (tgt := 177) hx hb zd_Mo_wordAt_170 (by decide) (fun c_102 => ?_) (fun c_102 => ?_)
                      · have hf := mp_t c_102 hf
                        refine lv_bipush (v := -12) hx hb zd_Mo_wordAt_177 (by decide) ?_
                        refine lv_istore (lv' := [(4, .int (-12 : Int32)), (3, .int (mtx u1.toNatClampNeg)), (0, .ref (ad 0)), (1, .int u1), (2, .int u2)]) hx hb zd_Mo_wordAt_179 hl (by decide) rfl (fun ls hl => ?_)
                        refine lv_iload_n hx hb zd_Mo_wordAt_181 rfl (lv_at hl 3 rfl) ?_
                        refine lv_istore (lv' := [(5, .int u1), (4, .int (-12 : Int32)), (3, .int (mtx u1.toNatClampNeg)), (0, .ref (ad 0)), (1, .int u1), (2, .int u2)]) hx hb zd_Mo_wordAt_182 hl (by decide) rfl (fun ls hl => ?_)
                        exact loop184 u1 u2 (mtx u1.toNatClampNeg) 2000 (-12 : Int32) u1 _ hf (lv_sub hl [3, 4, 5, 2, 1, 0] rfl)
                      · have hf := mp_f c_102 hf
                        refine lv_iconst (v := 0) hx hb zd_Mo_wordAt_173 (by decide) ?_
                        refine lv_goto (tgt := 179) hx hb zd_Mo_wordAt_174 (by decide) ?_
                        refine lv_istore (lv' := [(4, .int (0 : Int32)), (3, .int (mtx u1.toNatClampNeg)), (0, .ref (ad 0)), (1, .int u1), (2, .int u2)]) hx hb zd_Mo_wordAt_179 hl (by decide) rfl (fun ls hl => ?_)
                        refine lv_iload_n hx hb zd_Mo_wordAt_181 rfl (lv_at hl 3 rfl) ?_
                        refine lv_istore (lv' := [(5, .int u1), (4, .int (0 : Int32)), (3, .int (mtx u1.toNatClampNeg)), (0, .ref (ad 0)), (1, .int u1), (2, .int u2)]) hx hb zd_Mo_wordAt_182 hl (by decide) rfl (fun ls hl => ?_)
                        exact loop184 u1 u2 (mtx u1.toNatClampNeg) 2000 (0 : Int32) u1 _ hf (lv_sub hl [3, 4, 5, 2, 1, 0] rfl)
                    · have hf := mp_f c_101 hf
                      refine lv_bipush (v := -11) hx hb zd_Mo_wordAt_164 (by decide) ?_
                      have hf := Option.some.inj hf
                      subst hf
                      exact W.iret (v := (-11 : Int32)) hx hb hr (fun t ht hW => ⟨(-11 : Int32), rfl, rfl, ht⟩) (fun q h => by cases h) zd_Mo_wordAt_166
                · have hf := mp_t c_97 hf
                  refine lv_aload_n hx hb zd_Mo_wordAt_128 rfl (lv_at hl 1 rfl) ?_
                  refine lv_iload_n hx hb zd_Mo_wordAt_129 rfl (lv_at hl 2 rfl) ?_
                  refine lv_bipush (v := 109) hx hb zd_Mo_wordAt_130 (by decide) ?_
                  refine lv_bipush (v := 105) hx hb zd_Mo_wordAt_132 (by decide) ?_
                  refine lv_bipush (v := 110) hx hb zd_Mo_wordAt_134 (by decide) ?_
                  obtain ⟨y103, hg103, hf⟩ := mp_bd hf
                  refine mp_Rz (va_runV (As := [.int u1, .int (109 : Int32), .int (105 : Int32), .int (110 : Int32)]) (rest := []) ⟨hx, hb, hml, hown, hts⟩ (zc_Mo_is l dC dI cI cJ cZ ad mgc mpn mcn msz mwc mhf mtx u1 (109 : Int32) (105 : Int32) (110 : Int32) y103 hg103) (cwV 4 hts (mp_gV hsub zq_626 zq_628 zq_19 zq_30 zq_629) rfl rfl rfl (by decide +kernel) ⟨Nat.le_of_ble_eq_true rfl, Nat.le_of_ble_eq_true rfl⟩) ⟨mp_blR, va_recv hK hP (ci := 5) (q0 := 0) rfl rfl, mp_preR hN hK (hP.sub [0, 1] rfl)⟩ rfl rfl hl.1 rfl (lv_room (Nat.le_of_ble_eq_true rfl)) zd_Mo_wordAt_136 ⟨Nat.zero_le _, Nat.zero_le _⟩) (fun hz103 => ?_)
                  refine lv_if_eq (tgt := 145) hx hb zd_Mo_wordAt_139 (by decide) (fun c_104 => ?_) (fun c_104 => ?_)
                  · have hf := mp_t c_104 hf
                    refine lv_iload_n hx hb zd_Mo_wordAt_145 rfl (lv_at hl 3 rfl) ?_
                    refine lv_iconst (v := 3) hx hb zd_Mo_wordAt_146 (by decide) ?_
                    refine lv_icmp_ne (tgt := 167) hx hb zd_Mo_wordAt_147 (by decide) (fun c_105 => ?_) (fun c_105 => ?_)
                    · have hf := mp_f c_105 hf
                      refine lv_iload_n hx hb zd_Mo_wordAt_167 rfl (lv_at hl 3 rfl) ?_
                      refine lv_bipush (v := 6) hx hb zd_Mo_wordAt_168 (by decide) ?_
                      refine lv_icmp_gt (tgt := 177) hx hb zd_Mo_wordAt_170 (by decide) (fun c_106 => ?_) (fun c_106 => ?_)
                      · have hf := mp_t c_106 hf
                        refine lv_bipush (v := -12) hx hb zd_Mo_wordAt_177 (by decide) ?_
                        refine lv_istore (lv' := [(4, .int (-12 : Int32)), (3, .int (mtx u1.toNatClampNeg)), (0, .ref (ad 0)), (1, .int u1), (2, .int u2)]) hx hb zd_Mo_wordAt_179 hl (by decide) rfl (fun ls hl => ?_)
                        refine lv_iload_n hx hb zd_Mo_wordAt_181 rfl (lv_at hl 3 rfl) ?_
                        refine lv_istore (lv' := [(5, .int u1), (4, .int (-12 : Int32)), (3, .int (mtx u1.toNatClampNeg)), (0, .ref (ad 0)), (1, .int u1), (2, .int u2)]) hx hb zd_Mo_wordAt_182 hl (by decide) rfl (fun ls hl => ?_)
                        exact loop184 u1 u2 (mtx u1.toNatClampNeg) 2000 (-12 : Int32) u1 _ hf (lv_sub hl [3, 4, 5, 2, 1, 0] rfl)
                      · have hf := mp_f c_106 hf
                        refine lv_iconst (v := 0) hx hb zd_Mo_wordAt_173 (by decide) ?_
                        refine lv_goto (tgt := 179) hx hb zd_Mo_wordAt_174 (by decide) ?_
                        refine lv_istore (lv' := [(4, .int (0 : Int32)), (3, .int (mtx u1.toNatClampNeg)), (0, .ref (ad 0)), (1, .int u1), (2, .int u2)]) hx hb zd_Mo_wordAt_179 hl (by decide) rfl (fun ls hl => ?_)
                        refine lv_iload_n hx hb zd_Mo_wordAt_181 rfl (lv_at hl 3 rfl) ?_
                        refine lv_istore (lv' := [(5, .int u1), (4, .int (0 : Int32)), (3, .int (mtx u1.toNatClampNeg)), (0, .ref (ad 0)), (1, .int u1), (2, .int u2)]) hx hb zd_Mo_wordAt_182 hl (by decide) rfl (fun ls hl => ?_)
                        exact loop184 u1 u2 (mtx u1.toNatClampNeg) 2000 (0 : Int32) u1 _ hf (lv_sub hl [3, 4, 5, 2, 1, 0] rfl)
                    · have hf := mp_t c_105 hf
                      refine lv_aload_n hx hb zd_Mo_wordAt_150 rfl (lv_at hl 1 rfl) ?_
                      refine lv_iload_n hx hb zd_Mo_wordAt_151 rfl (lv_at hl 2 rfl) ?_
                      refine lv_bipush (v := 109) hx hb zd_Mo_wordAt_152 (by decide) ?_
                      refine lv_bipush (v := 97) hx hb zd_Mo_wordAt_154 (by decide) ?_
                      refine lv_bipush (v := 120) hx hb zd_Mo_wordAt_156 (by decide) ?_
                      obtain ⟨y107, hg107, hf⟩ := mp_bd hf
                      refine mp_Rz (va_runV (As := [.int u1, .int (109 : Int32), .int (97 : Int32), .int (120 : Int32)]) (rest := []) ⟨hx, hb, hml, hown, hts⟩ (zc_Mo_is l dC dI cI cJ cZ ad mgc mpn mcn msz mwc mhf mtx u1 (109 : Int32) (97 : Int32) (120 : Int32) y107 hg107) (cwV 4 hts (mp_gV hsub zq_626 zq_628 zq_19 zq_30 zq_629) rfl rfl rfl (by decide +kernel) ⟨Nat.le_of_ble_eq_true rfl, Nat.le_of_ble_eq_true rfl⟩) ⟨mp_blR, va_recv hK hP (ci := 5) (q0 := 0) rfl rfl, mp_preR hN hK (hP.sub [0, 1] rfl)⟩ rfl rfl hl.1 rfl (lv_room (Nat.le_of_ble_eq_true rfl)) zd_Mo_wordAt_158 ⟨Nat.zero_le _, Nat.zero_le _⟩) (fun hz107 => ?_)
                      refine lv_if_eq (tgt := 167) hx hb zd_Mo_wordAt_161 (by decide) (fun c_108 => ?_) (fun c_108 => ?_)
                      · have hf := mp_t c_108 hf
                        refine lv_iload_n hx hb zd_Mo_wordAt_167 rfl (lv_at hl 3 rfl) ?_
                        refine lv_bipush (v := 6) hx hb zd_Mo_wordAt_168 (by decide) ?_
                        refine lv_icmp_gt (tgt := 177) hx hb zd_Mo_wordAt_170 (by decide) (fun c_109 => ?_) (fun c_109 => ?_)
                        · have hf := mp_t c_109 hf
                          refine lv_bipush (v := -12) hx hb zd_Mo_wordAt_177 (by decide) ?_
                          refine lv_istore (lv' := [(4, .int (-12 : Int32)), (3, .int (mtx u1.toNatClampNeg)), (0, .ref (ad 0)), (1, .int u1), (2, .int u2)]) hx hb zd_Mo_wordAt_179 hl (by decide) rfl (fun ls hl => ?_)
                          refine lv_iload_n hx hb zd_Mo_wordAt_181 rfl (lv_at hl 3 rfl) ?_
                          refine lv_istore (lv' := [(5, .int u1), (4, .int (-12 : Int32)), (3, .int (mtx u1.toNatClampNeg)), (0, .ref (ad 0)), (1, .int u1), (2, .int u2)]) hx hb zd_Mo_wordAt_182 hl (by decide) rfl (fun ls hl => ?_)
                          exact loop184 u1 u2 (mtx u1.toNatClampNeg) 2000 (-12 : Int32) u1 _ hf (lv_sub hl [3, 4, 5, 2, 1, 0] rfl)
                        · have hf := mp_f c_109 hf
                          refine lv_iconst (v := 0) hx hb zd_Mo_wordAt_173 (by decide) ?_
                          refine lv_goto (tgt := 179) hx hb zd_Mo_wordAt_174 (by decide) ?_
                          refine lv_istore (lv' := [(4, .int (0 : Int32)), (3, .int (mtx u1.toNatClampNeg)), (0, .ref (ad 0)), (1, .int u1), (2, .int u2)]) hx hb zd_Mo_wordAt_179 hl (by decide) rfl (fun ls hl => ?_)
                          refine lv_iload_n hx hb zd_Mo_wordAt_181 rfl (lv_at hl 3 rfl) ?_
                          refine lv_istore (lv' := [(5, .int u1), (4, .int (0 : Int32)), (3, .int (mtx u1.toNatClampNeg)), (0, .ref (ad 0)), (1, .int u1), (2, .int u2)]) hx hb zd_Mo_wordAt_182 hl (by decide) rfl (fun ls hl => ?_)
                          exact loop184 u1 u2 (mtx u1.toNatClampNeg) 2000 (0 : Int32) u1 _ hf (lv_sub hl [3, 4, 5, 2, 1, 0] rfl)
                      · have hf := mp_f c_108 hf
                        refine lv_bipush (v := -11) hx hb zd_Mo_wordAt_164 (by decide) ?_
                        have hf := Option.some.inj hf
                        subst hf
                        exact W.iret (v := (-11 : Int32)) hx hb hr (fun t ht hW => ⟨(-11 : Int32), rfl, rfl, ht⟩) (fun q h => by cases h) zd_Mo_wordAt_166
                  · have hf := mp_f c_104 hf
                    refine lv_bipush (v := -10) hx hb zd_Mo_wordAt_142 (by decide) ?_
                    have hf := Option.some.inj hf
                    subst hf
                    exact W.iret (v := (-10 : Int32)) hx hb hr (fun t ht hW => ⟨(-10 : Int32), rfl, rfl, ht⟩) (fun q h => by cases h) zd_Mo_wordAt_144
              · have hf := mp_t c_96 hf
                refine lv_aload_n hx hb zd_Mo_wordAt_83 rfl (lv_at hl 1 rfl) ?_
                refine va_get (D := (dC, dI)) (ci := 5) (v := .ref (ad 12)) (C := zR_Mo) (T := zT_Mo) (N := 24) hx hb hts (fun w h => hsub w (zi_Mo w h)) hown hK hP 0 rfl rfl 14 (by decide) (hw _ zq_457) (fun _ h9 => h9) rfl zd_Mo_wordAt_84 ?_
                refine lv_iload_n hx hb zd_Mo_wordAt_87 rfl (lv_at hl 2 rfl) ?_
                refine lv_iconst (v := 1) hx hb zd_Mo_wordAt_88 (by decide) ?_
                refine lv_iadd hx hb zd_Mo_wordAt_89 ?_
                obtain ⟨h_110, hf⟩ := mp_in hf
                refine va_iald hx hb hK hP 1 0 rfl rfl (i := (u1 + (1 : Int32))) h_110 zd_Mo_wordAt_90 ?_
                refine lv_bipush (v := 48) hx hb zd_Mo_wordAt_91 (by decide) ?_
                refine lv_icmp_lt (tgt := 123) hx hb zd_Mo_wordAt_93 (by decide) (fun c_111 => ?_) (fun c_111 => ?_)
                · have hf := mp_t c_111 hf
                  refine lv_iload_n hx hb zd_Mo_wordAt_123 rfl (lv_at hl 3 rfl) ?_
                  refine lv_iconst (v := 3) hx hb zd_Mo_wordAt_124 (by decide) ?_
                  refine lv_icmp_ne (tgt := 145) hx hb zd_Mo_wordAt_125 (by decide) (fun c_112 => ?_) (fun c_112 => ?_)
                  · have hf := mp_f c_112 hf
                    refine lv_iload_n hx hb zd_Mo_wordAt_145 rfl (lv_at hl 3 rfl) ?_
                    refine lv_iconst (v := 3) hx hb zd_Mo_wordAt_146 (by decide) ?_
                    refine lv_icmp_ne (tgt := 167) hx hb zd_Mo_wordAt_147 (by decide) (fun c_113 => ?_) (fun c_113 => ?_)
                    · have hf := mp_f c_113 hf
                      refine lv_iload_n hx hb zd_Mo_wordAt_167 rfl (lv_at hl 3 rfl) ?_
                      refine lv_bipush (v := 6) hx hb zd_Mo_wordAt_168 (by decide) ?_
                      refine lv_icmp_gt (tgt := 177) hx hb zd_Mo_wordAt_170 (by decide) (fun c_114 => ?_) (fun c_114 => ?_)
                      · have hf := mp_t c_114 hf
                        refine lv_bipush (v := -12) hx hb zd_Mo_wordAt_177 (by decide) ?_
                        refine lv_istore (lv' := [(4, .int (-12 : Int32)), (3, .int (mtx u1.toNatClampNeg)), (0, .ref (ad 0)), (1, .int u1), (2, .int u2)]) hx hb zd_Mo_wordAt_179 hl (by decide) rfl (fun ls hl => ?_)
                        refine lv_iload_n hx hb zd_Mo_wordAt_181 rfl (lv_at hl 3 rfl) ?_
                        refine lv_istore (lv' := [(5, .int u1), (4, .int (-12 : Int32)), (3, .int (mtx u1.toNatClampNeg)), (0, .ref (ad 0)), (1, .int u1), (2, .int u2)]) hx hb zd_Mo_wordAt_182 hl (by decide) rfl (fun ls hl => ?_)
                        exact loop184 u1 u2 (mtx u1.toNatClampNeg) 2000 (-12 : Int32) u1 _ hf (lv_sub hl [3, 4, 5, 2, 1, 0] rfl)
                      · have hf := mp_f c_114 hf
                        refine lv_iconst (v := 0) hx hb zd_Mo_wordAt_173 (by decide) ?_
                        refine lv_goto (tgt := 179) hx hb zd_Mo_wordAt_174 (by decide) ?_
                        refine lv_istore (lv' := [(4, .int (0 : Int32)), (3, .int (mtx u1.toNatClampNeg)), (0, .ref (ad 0)), (1, .int u1), (2, .int u2)]) hx hb zd_Mo_wordAt_179 hl (by decide) rfl (fun ls hl => ?_)
                        refine lv_iload_n hx hb zd_Mo_wordAt_181 rfl (lv_at hl 3 rfl) ?_
                        refine lv_istore (lv' := [(5, .int u1), (4, .int (0 : Int32)), (3, .int (mtx u1.toNatClampNeg)), (0, .ref (ad 0)), (1, .int u1), (2, .int u2)]) hx hb zd_Mo_wordAt_182 hl (by decide) rfl (fun ls hl => ?_)
                        exact loop184 u1 u2 (mtx u1.toNatClampNeg) 2000 (0 : Int32) u1 _ hf (lv_sub hl [3, 4, 5, 2, 1, 0] rfl)
                    · have hf := mp_t c_113 hf
                      refine lv_aload_n hx hb zd_Mo_wordAt_150 rfl (lv_at hl 1 rfl) ?_
                      refine lv_iload_n hx hb zd_Mo_wordAt_151 rfl (lv_at hl 2 rfl) ?_
                      refine lv_bipush (v := 109) hx hb zd_Mo_wordAt_152 (by decide) ?_
                      refine lv_bipush (v := 97) hx hb zd_Mo_wordAt_154 (by decide) ?_
                      refine lv_bipush (v := 120) hx hb zd_Mo_wordAt_156 (by decide) ?_
                      obtain ⟨y115, hg115, hf⟩ := mp_bd hf
                      refine mp_Rz (va_runV (As := [.int u1, .int (109 : Int32), .int (97 : Int32), .int (120 : Int32)]) (rest := []) ⟨hx, hb, hml, hown, hts⟩ (zc_Mo_is l dC dI cI cJ cZ ad mgc mpn mcn msz mwc mhf mtx u1 (109 : Int32) (97 : Int32) (120 : Int32) y115 hg115) (cwV 4 hts (mp_gV hsub zq_626 zq_628 zq_19 zq_30 zq_629) rfl rfl rfl (by decide +kernel) ⟨Nat.le_of_ble_eq_true rfl, Nat.le_of_ble_eq_true rfl⟩) ⟨mp_blR, va_recv hK hP (ci := 5) (q0 := 0) rfl rfl, mp_preR hN hK (hP.sub [0, 1] rfl)⟩ rfl rfl hl.1 rfl (lv_room (Nat.le_of_ble_eq_true rfl)) zd_Mo_wordAt_158 ⟨Nat.zero_le _, Nat.zero_le _⟩) (fun hz115 => ?_)
                      refine lv_if_eq (tgt := 167) hx hb zd_Mo_wordAt_161 (by decide) (fun c_116 => ?_) (fun c_116 => ?_)
                      · have hf := mp_t c_116 hf
                        refine lv_iload_n hx hb zd_Mo_wordAt_167 rfl (lv_at hl 3 rfl) ?_
                        refine lv_bipush (v := 6) hx hb zd_Mo_wordAt_168 (by decide) ?_
                        refine lv_icmp_gt (tgt := 177) hx hb zd_Mo_wordAt_170 (by decide) (fun c_117 => ?_) (fun c_117 => ?_)
                        · have hf := mp_t c_117 hf
                          refine lv_bipush (v := -12) hx hb zd_Mo_wordAt_177 (by decide) ?_
                          refine lv_istore (lv' := [(4, .int (-12 : Int32)), (3, .int (mtx u1.toNatClampNeg)), (0, .ref (ad 0)), (1, .int u1), (2, .int u2)]) hx hb zd_Mo_wordAt_179 hl (by decide) rfl (fun ls hl => ?_)
                          refine lv_iload_n hx hb zd_Mo_wordAt_181 rfl (lv_at hl 3 rfl) ?_
                          refine lv_istore (lv' := [(5, .int u1), (4, .int (-12 : Int32)), (3, .int (mtx u1.toNatClampNeg)), (0, .ref (ad 0)), (1, .int u1), (2, .int u2)]) hx hb zd_Mo_wordAt_182 hl (by decide) rfl (fun ls hl => ?_)
                          exact loop184 u1 u2 (mtx u1.toNatClampNeg) 2000 (-12 : Int32) u1 _ hf (lv_sub hl [3, 4, 5, 2, 1, 0] rfl)
                        · have hf := mp_f c_117 hf
                          refine lv_iconst (v := 0) hx hb zd_Mo_wordAt_173 (by decide) ?_
                          refine lv_goto (tgt := 179) hx hb zd_Mo_wordAt_174 (by decide) ?_
                          refine lv_istore (lv' := [(4, .int (0 : Int32)), (3, .int (mtx u1.toNatClampNeg)), (0, .ref (ad 0)), (1, .int u1), (2, .int u2)]) hx hb zd_Mo_wordAt_179 hl (by decide) rfl (fun ls hl => ?_)
                          refine lv_iload_n hx hb zd_Mo_wordAt_181 rfl (lv_at hl 3 rfl) ?_
                          refine lv_istore (lv' := [(5, .int u1), (4, .int (0 : Int32)), (3, .int (mtx u1.toNatClampNeg)), (0, .ref (ad 0)), (1, .int u1), (2, .int u2)]) hx hb zd_Mo_wordAt_182 hl (by decide) rfl (fun ls hl => ?_)
                          exact loop184 u1 u2 (mtx u1.toNatClampNeg) 2000 (0 : Int32) u1 _ hf (lv_sub hl [3, 4, 5, 2, 1, 0] rfl)
                      · have hf := mp_f c_116 hf
                        refine lv_bipush (v := -11) hx hb zd_Mo_wordAt_164 (by decide) ?_
                        have hf := Option.some.inj hf
                        subst hf
                        exact W.iret (v := (-11 : Int32)) hx hb hr (fun t ht hW => ⟨(-11 : Int32), rfl, rfl, ht⟩) (fun q h => by cases h) zd_Mo_wordAt_166
                  · have hf := mp_t c_112 hf
                    refine lv_aload_n hx hb zd_Mo_wordAt_128 rfl (lv_at hl 1 rfl) ?_
                    refine lv_iload_n hx hb zd_Mo_wordAt_129 rfl (lv_at hl 2 rfl) ?_
                    refine lv_bipush (v := 109) hx hb zd_Mo_wordAt_130 (by decide) ?_
                    refine lv_bipush (v := 105) hx hb zd_Mo_wordAt_132 (by decide) ?_
                    refine lv_bipush (v := 110) hx hb zd_Mo_wordAt_134 (by decide) ?_
                    obtain ⟨y118, hg118, hf⟩ := mp_bd hf
                    refine mp_Rz (va_runV (As := [.int u1, .int (109 : Int32), .int (105 : Int32), .int (110 : Int32)]) (rest := []) ⟨hx, hb, hml, hown, hts⟩ (zc_Mo_is l dC dI cI cJ cZ ad mgc mpn mcn msz mwc mhf mtx u1 (109 : Int32) (105 : Int32) (110 : Int32) y118 hg118) (cwV 4 hts (mp_gV hsub zq_626 zq_628 zq_19 zq_30 zq_629) rfl rfl rfl (by decide +kernel) ⟨Nat.le_of_ble_eq_true rfl, Nat.le_of_ble_eq_true rfl⟩) ⟨mp_blR, va_recv hK hP (ci := 5) (q0 := 0) rfl rfl, mp_preR hN hK (hP.sub [0, 1] rfl)⟩ rfl rfl hl.1 rfl (lv_room (Nat.le_of_ble_eq_true rfl)) zd_Mo_wordAt_136 ⟨Nat.zero_le _, Nat.zero_le _⟩) (fun hz118 => ?_)
                    refine lv_if_eq (tgt := 145) hx hb zd_Mo_wordAt_139 (by decide) (fun c_119 => ?_) (fun c_119 => ?_)
                    · have hf := mp_t c_119 hf
                      refine lv_iload_n hx hb zd_Mo_wordAt_145 rfl (lv_at hl 3 rfl) ?_
                      refine lv_iconst (v := 3) hx hb zd_Mo_wordAt_146 (by decide) ?_
                      refine lv_icmp_ne (tgt := 167) hx hb zd_Mo_wordAt_147 (by decide) (fun c_120 => ?_) (fun c_120 => ?_)
                      · have hf := mp_f c_120 hf
                        refine lv_iload_n hx hb zd_Mo_wordAt_167 rfl (lv_at hl 3 rfl) ?_
                        refine lv_bipush (v := 6) hx hb zd_Mo_wordAt_168 (by decide) ?_
                        refine lv_icmp_gt (tgt := 177) hx hb zd_Mo_wordAt_170 (by decide) (fun c_121 => ?_) (fun c_121 => ?_)
                        · have hf := mp_t c_121 hf
                          refine lv_bipush (v := -12) hx hb zd_Mo_wordAt_177 (by decide) ?_
                          refine lv_istore (lv' := [(4, .int (-12 : Int32)), (3, .int (mtx u1.toNatClampNeg)), (0, .ref (ad 0)), (1, .int u1), (2, .int u2)]) hx hb zd_Mo_wordAt_179 hl (by decide) rfl (fun ls hl => ?_)
                          refine lv_iload_n hx hb zd_Mo_wordAt_181 rfl (lv_at hl 3 rfl) ?_
                          refine lv_istore (lv' := [(5, .int u1), (4, .int (-12 : Int32)), (3, .int (mtx u1.toNatClampNeg)), (0, .ref (ad 0)), (1, .int u1), (2, .int u2)]) hx hb zd_Mo_wordAt_182 hl (by decide) rfl (fun ls hl => ?_)
                          exact loop184 u1 u2 (mtx u1.toNatClampNeg) 2000 (-12 : Int32) u1 _ hf (lv_sub hl [3, 4, 5, 2, 1, 0] rfl)
                        · have hf := mp_f c_121 hf
                          refine lv_iconst (v := 0) hx hb zd_Mo_wordAt_173 (by decide) ?_
                          refine lv_goto (tgt := 179) hx hb zd_Mo_wordAt_174 (by decide) ?_
                          refine lv_istore (lv' := [(4, .int (0 : Int32)), (3, .int (mtx u1.toNatClampNeg)), (0, .ref (ad 0)), (1, .int u1), (2, .int u2)]) hx hb zd_Mo_wordAt_179 hl (by decide) rfl (fun ls hl => ?_)
                          refine lv_iload_n hx hb zd_Mo_wordAt_181 rfl (lv_at hl 3 rfl) ?_
                          refine lv_istore (lv' := [(5, .int u1), (4, .int (0 : Int32)), (3, .int (mtx u1.toNatClampNeg)), (0, .ref (ad 0)), (1, .int u1), (2, .int u2)]) hx hb zd_Mo_wordAt_182 hl (by decide) rfl (fun ls hl => ?_)
                          exact loop184 u1 u2 (mtx u1.toNatClampNeg) 2000 (0 : Int32) u1 _ hf (lv_sub hl [3, 4, 5, 2, 1, 0] rfl)
                      · have hf := mp_t c_120 hf
                        refine lv_aload_n hx hb zd_Mo_wordAt_150 rfl (lv_at hl 1 rfl) ?_
                        refine lv_iload_n hx hb zd_Mo_wordAt_151 rfl (lv_at hl 2 rfl) ?_
                        refine lv_bipush (v := 109) hx hb zd_Mo_wordAt_152 (by decide) ?_
                        refine lv_bipush (v := 97) hx hb zd_Mo_wordAt_154 (by decide) ?_
                        refine lv_bipush (v := 120) hx hb zd_Mo_wordAt_156 (by decide) ?_
                        obtain ⟨y122, hg122, hf⟩ := mp_bd hf
                        refine mp_Rz (va_runV (As := [.int u1, .int (109 : Int32), .int (97 : Int32), .int (120 : Int32)]) (rest := []) ⟨hx, hb, hml, hown, hts⟩ (zc_Mo_is l dC dI cI cJ cZ ad mgc mpn mcn msz mwc mhf mtx u1 (109 : Int32) (97 : Int32) (120 : Int32) y122 hg122) (cwV 4 hts (mp_gV hsub zq_626 zq_628 zq_19 zq_30 zq_629) rfl rfl rfl (by decide +kernel) ⟨Nat.le_of_ble_eq_true rfl, Nat.le_of_ble_eq_true rfl⟩) ⟨mp_blR, va_recv hK hP (ci := 5) (q0 := 0) rfl rfl, mp_preR hN hK (hP.sub [0, 1] rfl)⟩ rfl rfl hl.1 rfl (lv_room (Nat.le_of_ble_eq_true rfl)) zd_Mo_wordAt_158 ⟨Nat.zero_le _, Nat.zero_le _⟩) (fun hz122 => ?_)
                        refine lv_if_eq (tgt := 167) hx hb zd_Mo_wordAt_161 (by decide) (fun c_123 => ?_) (fun c_123 => ?_)
                        · have hf := mp_t c_123 hf
                          refine lv_iload_n hx hb zd_Mo_wordAt_167 rfl (lv_at hl 3 rfl) ?_
                          refine lv_bipush (v := 6) hx hb zd_Mo_wordAt_168 (by decide) ?_
                          refine lv_icmp_gt (tgt := 177) hx hb zd_Mo_wordAt_170 (by decide) (fun c_124 => ?_) (fun c_124 => ?_)
                          · have hf := mp_t c_124 hf
                            refine lv_bipush (v := -12) hx hb zd_Mo_wordAt_177 (by decide) ?_
                            refine lv_istore (lv' := [(4, .int (-12 : Int32)), (3, .int (mtx u1.toNatClampNeg)), (0, .ref (ad 0)), (1, .int u1), (2, .int u2)]) hx hb zd_Mo_wordAt_179 hl (by decide) rfl (fun ls hl => ?_)
                            refine lv_iload_n hx hb zd_Mo_wordAt_181 rfl (lv_at hl 3 rfl) ?_
                            refine lv_istore (lv' := [(5, .int u1), (4, .int (-12 : Int32)), (3, .int (mtx u1.toNatClampNeg)), (0, .ref (ad 0)), (1, .int u1), (2, .int u2)]) hx hb zd_Mo_wordAt_182 hl (by decide) rfl (fun ls hl => ?_)
                            exact loop184 u1 u2 (mtx u1.toNatClampNeg) 2000 (-12 : Int32) u1 _ hf (lv_sub hl [3, 4, 5, 2, 1, 0] rfl)
                          · have hf := mp_f c_124 hf
                            refine lv_iconst (v := 0) hx hb zd_Mo_wordAt_173 (by decide) ?_
                            refine lv_goto (tgt := 179) hx hb zd_Mo_wordAt_174 (by decide) ?_
                            refine lv_istore (lv' := [(4, .int (0 : Int32)), (3, .int (mtx u1.toNatClampNeg)), (0, .ref (ad 0)), (1, .int u1), (2, .int u2)]) hx hb zd_Mo_wordAt_179 hl (by decide) rfl (fun ls hl => ?_)
                            refine lv_iload_n hx hb zd_Mo_wordAt_181 rfl (lv_at hl 3 rfl) ?_
                            refine lv_istore (lv' := [(5, .int u1), (4, .int (0 : Int32)), (3, .int (mtx u1.toNatClampNeg)), (0, .ref (ad 0)), (1, .int u1), (2, .int u2)]) hx hb zd_Mo_wordAt_182 hl (by decide) rfl (fun ls hl => ?_)
                            exact loop184 u1 u2 (mtx u1.toNatClampNeg) 2000 (0 : Int32) u1 _ hf (lv_sub hl [3, 4, 5, 2, 1, 0] rfl)
                        · have hf := mp_f c_123 hf
                          refine lv_bipush (v := -11) hx hb zd_Mo_wordAt_164 (by decide) ?_
                          have hf := Option.some.inj hf
                          subst hf
                          exact W.iret (v := (-11 : Int32)) hx hb hr (fun t ht hW => ⟨(-11 : Int32), rfl, rfl, ht⟩) (fun q h => by cases h) zd_Mo_wordAt_166
                    · have hf := mp_f c_119 hf
                      refine lv_bipush (v := -10) hx hb zd_Mo_wordAt_142 (by decide) ?_
                      have hf := Option.some.inj hf
                      subst hf
                      exact W.iret (v := (-10 : Int32)) hx hb hr (fun t ht hW => ⟨(-10 : Int32), rfl, rfl, ht⟩) (fun q h => by cases h) zd_Mo_wordAt_144
                · have hf := mp_f c_111 hf
                  refine lv_aload_n hx hb zd_Mo_wordAt_96 rfl (lv_at hl 1 rfl) ?_
                  refine va_get (D := (dC, dI)) (ci := 5) (v := .ref (ad 12)) (C := zR_Mo) (T := zT_Mo) (N := 24) hx hb hts (fun w h => hsub w (zi_Mo w h)) hown hK hP 0 rfl rfl 14 (by decide) (hw _ zq_457) (fun _ h9 => h9) rfl zd_Mo_wordAt_97 ?_
                  refine lv_iload_n hx hb zd_Mo_wordAt_100 rfl (lv_at hl 2 rfl) ?_
                  refine lv_iconst (v := 1) hx hb zd_Mo_wordAt_101 (by decide) ?_
                  refine lv_iadd hx hb zd_Mo_wordAt_102 ?_
                  obtain ⟨h_125, hf⟩ := mp_in hf
                  refine va_iald hx hb hK hP 1 0 rfl rfl (i := (u1 + (1 : Int32))) h_125 zd_Mo_wordAt_103 ?_
                  refine lv_bipush (v := 52) hx hb zd_Mo_wordAt_104 (by decide) ?_
                  refine lv_icmp_gt (tgt := 123) hx hb zd_Mo_wordAt_106 (by decide) (fun c_126 => ?_) (fun c_126 => ?_)
                  · have hf := mp_t c_126 hf
                    refine lv_iload_n hx hb zd_Mo_wordAt_123 rfl (lv_at hl 3 rfl) ?_
                    refine lv_iconst (v := 3) hx hb zd_Mo_wordAt_124 (by decide) ?_
                    refine lv_icmp_ne (tgt := 145) hx hb zd_Mo_wordAt_125 (by decide) (fun c_127 => ?_) (fun c_127 => ?_)
                    · have hf := mp_f c_127 hf
                      refine lv_iload_n hx hb zd_Mo_wordAt_145 rfl (lv_at hl 3 rfl) ?_
                      refine lv_iconst (v := 3) hx hb zd_Mo_wordAt_146 (by decide) ?_
                      refine lv_icmp_ne (tgt := 167) hx hb zd_Mo_wordAt_147 (by decide) (fun c_128 => ?_) (fun c_128 => ?_)
                      · have hf := mp_f c_128 hf
                        refine lv_iload_n hx hb zd_Mo_wordAt_167 rfl (lv_at hl 3 rfl) ?_
                        refine lv_bipush (v := 6) hx hb zd_Mo_wordAt_168 (by decide) ?_
                        refine lv_icmp_gt (tgt := 177) hx hb zd_Mo_wordAt_170 (by decide) (fun c_129 => ?_) (fun c_129 => ?_)
                        · have hf := mp_t c_129 hf
                          refine lv_bipush (v := -12) hx hb zd_Mo_wordAt_177 (by decide) ?_
                          refine lv_istore (lv' := [(4, .int (-12 : Int32)), (3, .int (mtx u1.toNatClampNeg)), (0, .ref (ad 0)), (1, .int u1), (2, .int u2)]) hx hb zd_Mo_wordAt_179 hl (by decide) rfl (fun ls hl => ?_)
                          refine lv_iload_n hx hb zd_Mo_wordAt_181 rfl (lv_at hl 3 rfl) ?_
                          refine lv_istore (lv' := [(5, .int u1), (4, .int (-12 : Int32)), (3, .int (mtx u1.toNatClampNeg)), (0, .ref (ad 0)), (1, .int u1), (2, .int u2)]) hx hb zd_Mo_wordAt_182 hl (by decide) rfl (fun ls hl => ?_)
                          exact loop184 u1 u2 (mtx u1.toNatClampNeg) 2000 (-12 : Int32) u1 _ hf (lv_sub hl [3, 4, 5, 2, 1, 0] rfl)
                        · have hf := mp_f c_129 hf
                          refine lv_iconst (v := 0) hx hb zd_Mo_wordAt_173 (by decide) ?_
                          refine lv_goto (tgt := 179) hx hb zd_Mo_wordAt_174 (by decide) ?_
                          refine lv_istore (lv' := [(4, .int (0 : Int32)), (3, .int (mtx u1.toNatClampNeg)), (0, .ref (ad 0)), (1, .int u1), (2, .int u2)]) hx hb zd_Mo_wordAt_179 hl (by decide) rfl (fun ls hl => ?_)
                          refine lv_iload_n hx hb zd_Mo_wordAt_181 rfl (lv_at hl 3 rfl) ?_
                          refine lv_istore (lv' := [(5, .int u1), (4, .int (0 : Int32)), (3, .int (mtx u1.toNatClampNeg)), (0, .ref (ad 0)), (1, .int u1), (2, .int u2)]) hx hb zd_Mo_wordAt_182 hl (by decide) rfl (fun ls hl => ?_)
                          exact loop184 u1 u2 (mtx u1.toNatClampNeg) 2000 (0 : Int32) u1 _ hf (lv_sub hl [3, 4, 5, 2, 1, 0] rfl)
                      · have hf := mp_t c_128 hf
                        refine lv_aload_n hx hb zd_Mo_wordAt_150 rfl (lv_at hl 1 rfl) ?_
                        refine lv_iload_n hx hb zd_Mo_wordAt_151 rfl (lv_at hl 2 rfl) ?_
                        refine lv_bipush (v := 109) hx hb zd_Mo_wordAt_152 (by decide) ?_
                        refine lv_bipush (v := 97) hx hb zd_Mo_wordAt_154 (by decide) ?_
                        refine lv_bipush (v := 120) hx hb zd_Mo_wordAt_156 (by decide) ?_
                        obtain ⟨y130, hg130, hf⟩ := mp_bd hf
                        refine mp_Rz (va_runV (As := [.int u1, .int (109 : Int32), .int (97 : Int32), .int (120 : Int32)]) (rest := []) ⟨hx, hb, hml, hown, hts⟩ (zc_Mo_is l dC dI cI cJ cZ ad mgc mpn mcn msz mwc mhf mtx u1 (109 : Int32) (97 : Int32) (120 : Int32) y130 hg130) (cwV 4 hts (mp_gV hsub zq_626 zq_628 zq_19 zq_30 zq_629) rfl rfl rfl (by decide +kernel) ⟨Nat.le_of_ble_eq_true rfl, Nat.le_of_ble_eq_true rfl⟩) ⟨mp_blR, va_recv hK hP (ci := 5) (q0 := 0) rfl rfl, mp_preR hN hK (hP.sub [0, 1] rfl)⟩ rfl rfl hl.1 rfl (lv_room (Nat.le_of_ble_eq_true rfl)) zd_Mo_wordAt_158 ⟨Nat.zero_le _, Nat.zero_le _⟩) (fun hz130 => ?_)
                        refine lv_if_eq (tgt := 167) hx hb zd_Mo_wordAt_161 (by decide) (fun c_131 => ?_) (fun c_131 => ?_)
                        · have hf := mp_t c_131 hf
                          refine lv_iload_n hx hb zd_Mo_wordAt_167 rfl (lv_at hl 3 rfl) ?_
                          refine lv_bipush (v := 6) hx hb zd_Mo_wordAt_168 (by decide) ?_
                          refine lv_icmp_gt (tgt := 177) hx hb zd_Mo_wordAt_170 (by decide) (fun c_132 => ?_) (fun c_132 => ?_)
                          · have hf := mp_t c_132 hf
                            refine lv_bipush (v := -12) hx hb zd_Mo_wordAt_177 (by decide) ?_
                            refine lv_istore (lv' := [(4, .int (-12 : Int32)), (3, .int (mtx u1.toNatClampNeg)), (0, .ref (ad 0)), (1, .int u1), (2, .int u2)]) hx hb zd_Mo_wordAt_179 hl (by decide) rfl (fun ls hl => ?_)
                            refine lv_iload_n hx hb zd_Mo_wordAt_181 rfl (lv_at hl 3 rfl) ?_
                            refine lv_istore (lv' := [(5, .int u1), (4, .int (-12 : Int32)), (3, .int (mtx u1.toNatClampNeg)), (0, .ref (ad 0)), (1, .int u1), (2, .int u2)]) hx hb zd_Mo_wordAt_182 hl (by decide) rfl (fun ls hl => ?_)
                            exact loop184 u1 u2 (mtx u1.toNatClampNeg) 2000 (-12 : Int32) u1 _ hf (lv_sub hl [3, 4, 5, 2, 1, 0] rfl)
                          · have hf := mp_f c_132 hf
                            refine lv_iconst (v := 0) hx hb zd_Mo_wordAt_173 (by decide) ?_
                            refine lv_goto (tgt := 179) hx hb zd_Mo_wordAt_174 (by decide) ?_
                            refine lv_istore (lv' := [(4, .int (0 : Int32)), (3, .int (mtx u1.toNatClampNeg)), (0, .ref (ad 0)), (1, .int u1), (2, .int u2)]) hx hb zd_Mo_wordAt_179 hl (by decide) rfl (fun ls hl => ?_)
                            refine lv_iload_n hx hb zd_Mo_wordAt_181 rfl (lv_at hl 3 rfl) ?_
                            refine lv_istore (lv' := [(5, .int u1), (4, .int (0 : Int32)), (3, .int (mtx u1.toNatClampNeg)), (0, .ref (ad 0)), (1, .int u1), (2, .int u2)]) hx hb zd_Mo_wordAt_182 hl (by decide) rfl (fun ls hl => ?_)
                            exact loop184 u1 u2 (mtx u1.toNatClampNeg) 2000 (0 : Int32) u1 _ hf (lv_sub hl [3, 4, 5, 2, 1, 0] rfl)
                        · have hf := mp_f c_131 hf
                          refine lv_bipush (v := -11) hx hb zd_Mo_wordAt_164 (by decide) ?_
                          have hf := Option.some.inj hf
                          subst hf
                          exact W.iret (v := (-11 : Int32)) hx hb hr (fun t ht hW => ⟨(-11 : Int32), rfl, rfl, ht⟩) (fun q h => by cases h) zd_Mo_wordAt_166
                    · have hf := mp_t c_127 hf
                      refine lv_aload_n hx hb zd_Mo_wordAt_128 rfl (lv_at hl 1 rfl) ?_
                      refine lv_iload_n hx hb zd_Mo_wordAt_129 rfl (lv_at hl 2 rfl) ?_
                      refine lv_bipush (v := 109) hx hb zd_Mo_wordAt_130 (by decide) ?_
                      refine lv_bipush (v := 105) hx hb zd_Mo_wordAt_132 (by decide) ?_
                      refine lv_bipush (v := 110) hx hb zd_Mo_wordAt_134 (by decide) ?_
                      obtain ⟨y133, hg133, hf⟩ := mp_bd hf
                      refine mp_Rz (va_runV (As := [.int u1, .int (109 : Int32), .int (105 : Int32), .int (110 : Int32)]) (rest := []) ⟨hx, hb, hml, hown, hts⟩ (zc_Mo_is l dC dI cI cJ cZ ad mgc mpn mcn msz mwc mhf mtx u1 (109 : Int32) (105 : Int32) (110 : Int32) y133 hg133) (cwV 4 hts (mp_gV hsub zq_626 zq_628 zq_19 zq_30 zq_629) rfl rfl rfl (by decide +kernel) ⟨Nat.le_of_ble_eq_true rfl, Nat.le_of_ble_eq_true rfl⟩) ⟨mp_blR, va_recv hK hP (ci := 5) (q0 := 0) rfl rfl, mp_preR hN hK (hP.sub [0, 1] rfl)⟩ rfl rfl hl.1 rfl (lv_room (Nat.le_of_ble_eq_true rfl)) zd_Mo_wordAt_136 ⟨Nat.zero_le _, Nat.zero_le _⟩) (fun hz133 => ?_)
                      refine lv_if_eq (tgt := 145) hx hb zd_Mo_wordAt_139 (by decide) (fun c_134 => ?_) (fun c_134 => ?_)
                      · have hf := mp_t c_134 hf
                        refine lv_iload_n hx hb zd_Mo_wordAt_145 rfl (lv_at hl 3 rfl) ?_
                        refine lv_iconst (v := 3) hx hb zd_Mo_wordAt_146 (by decide) ?_
                        refine lv_icmp_ne (tgt := 167) hx hb zd_Mo_wordAt_147 (by decide) (fun c_135 => ?_) (fun c_135 => ?_)
                        · have hf := mp_f c_135 hf
                          refine lv_iload_n hx hb zd_Mo_wordAt_167 rfl (lv_at hl 3 rfl) ?_
                          refine lv_bipush (v := 6) hx hb zd_Mo_wordAt_168 (by decide) ?_
                          refine lv_icmp_gt (tgt := 177) hx hb zd_Mo_wordAt_170 (by decide) (fun c_136 => ?_) (fun c_136 => ?_)
                          · have hf := mp_t c_136 hf
                            refine lv_bipush (v := -12) hx hb zd_Mo_wordAt_177 (by decide) ?_
                            refine lv_istore (lv' := [(4, .int (-12 : Int32)), (3, .int (mtx u1.toNatClampNeg)), (0, .ref (ad 0)), (1, .int u1), (2, .int u2)]) hx hb zd_Mo_wordAt_179 hl (by decide) rfl (fun ls hl => ?_)
                            refine lv_iload_n hx hb zd_Mo_wordAt_181 rfl (lv_at hl 3 rfl) ?_
                            refine lv_istore (lv' := [(5, .int u1), (4, .int (-12 : Int32)), (3, .int (mtx u1.toNatClampNeg)), (0, .ref (ad 0)), (1, .int u1), (2, .int u2)]) hx hb zd_Mo_wordAt_182 hl (by decide) rfl (fun ls hl => ?_)
                            exact loop184 u1 u2 (mtx u1.toNatClampNeg) 2000 (-12 : Int32) u1 _ hf (lv_sub hl [3, 4, 5, 2, 1, 0] rfl)
                          · have hf := mp_f c_136 hf
                            refine lv_iconst (v := 0) hx hb zd_Mo_wordAt_173 (by decide) ?_
                            refine lv_goto (tgt := 179) hx hb zd_Mo_wordAt_174 (by decide) ?_
                            refine lv_istore (lv' := [(4, .int (0 : Int32)), (3, .int (mtx u1.toNatClampNeg)), (0, .ref (ad 0)), (1, .int u1), (2, .int u2)]) hx hb zd_Mo_wordAt_179 hl (by decide) rfl (fun ls hl => ?_)
                            refine lv_iload_n hx hb zd_Mo_wordAt_181 rfl (lv_at hl 3 rfl) ?_
                            refine lv_istore (lv' := [(5, .int u1), (4, .int (0 : Int32)), (3, .int (mtx u1.toNatClampNeg)), (0, .ref (ad 0)), (1, .int u1), (2, .int u2)]) hx hb zd_Mo_wordAt_182 hl (by decide) rfl (fun ls hl => ?_)
                            exact loop184 u1 u2 (mtx u1.toNatClampNeg) 2000 (0 : Int32) u1 _ hf (lv_sub hl [3, 4, 5, 2, 1, 0] rfl)
                        · have hf := mp_t c_135 hf
                          refine lv_aload_n hx hb zd_Mo_wordAt_150 rfl (lv_at hl 1 rfl) ?_
                          refine lv_iload_n hx hb zd_Mo_wordAt_151 rfl (lv_at hl 2 rfl) ?_
                          refine lv_bipush (v := 109) hx hb zd_Mo_wordAt_152 (by decide) ?_
                          refine lv_bipush (v := 97) hx hb zd_Mo_wordAt_154 (by decide) ?_
                          refine lv_bipush (v := 120) hx hb zd_Mo_wordAt_156 (by decide) ?_
                          obtain ⟨y137, hg137, hf⟩ := mp_bd hf
                          refine mp_Rz (va_runV (As := [.int u1, .int (109 : Int32), .int (97 : Int32), .int (120 : Int32)]) (rest := []) ⟨hx, hb, hml, hown, hts⟩ (zc_Mo_is l dC dI cI cJ cZ ad mgc mpn mcn msz mwc mhf mtx u1 (109 : Int32) (97 : Int32) (120 : Int32) y137 hg137) (cwV 4 hts (mp_gV hsub zq_626 zq_628 zq_19 zq_30 zq_629) rfl rfl rfl (by decide +kernel) ⟨Nat.le_of_ble_eq_true rfl, Nat.le_of_ble_eq_true rfl⟩) ⟨mp_blR, va_recv hK hP (ci := 5) (q0 := 0) rfl rfl, mp_preR hN hK (hP.sub [0, 1] rfl)⟩ rfl rfl hl.1 rfl (lv_room (Nat.le_of_ble_eq_true rfl)) zd_Mo_wordAt_158 ⟨Nat.zero_le _, Nat.zero_le _⟩) (fun hz137 => ?_)
                          refine lv_if_eq (tgt := 167) hx hb zd_Mo_wordAt_161 (by decide) (fun c_138 => ?_) (fun c_138 => ?_)
                          · have hf := mp_t c_138 hf
                            refine lv_iload_n hx hb zd_Mo_wordAt_167 rfl (lv_at hl 3 rfl) ?_
                            refine lv_bipush (v := 6) hx hb zd_Mo_wordAt_168 (by decide) ?_
                            refine lv_icmp_gt (tgt := 177) hx hb zd_Mo_wordAt_170 (by decide) (fun c_139 => ?_) (fun c_139 => ?_)
                            · have hf := mp_t c_139 hf
                              refine lv_bipush (v := -12) hx hb zd_Mo_wordAt_177 (by decide) ?_
                              refine lv_istore (lv' := [(4, .int (-12 : Int32)), (3, .int (mtx u1.toNatClampNeg)), (0, .ref (ad 0)), (1, .int u1), (2, .int u2)]) hx hb zd_Mo_wordAt_179 hl (by decide) rfl (fun ls hl => ?_)
                              refine lv_iload_n hx hb zd_Mo_wordAt_181 rfl (lv_at hl 3 rfl) ?_
                              refine lv_istore (lv' := [(5, .int u1), (4, .int (-12 : Int32)), (3, .int (mtx u1.toNatClampNeg)), (0, .ref (ad 0)), (1, .int u1), (2, .int u2)]) hx hb zd_Mo_wordAt_182 hl (by decide) rfl (fun ls hl => ?_)
                              exact loop184 u1 u2 (mtx u1.toNatClampNeg) 2000 (-12 : Int32) u1 _ hf (lv_sub hl [3, 4, 5, 2, 1, 0] rfl)
                            · have hf := mp_f c_139 hf
                              refine lv_iconst (v := 0) hx hb zd_Mo_wordAt_173 (by decide) ?_
                              refine lv_goto (tgt := 179) hx hb zd_Mo_wordAt_174 (by decide) ?_
                              refine lv_istore (lv' := [(4, .int (0 : Int32)), (3, .int (mtx u1.toNatClampNeg)), (0, .ref (ad 0)), (1, .int u1), (2, .int u2)]) hx hb zd_Mo_wordAt_179 hl (by decide) rfl (fun ls hl => ?_)
                              refine lv_iload_n hx hb zd_Mo_wordAt_181 rfl (lv_at hl 3 rfl) ?_
                              refine lv_istore (lv' := [(5, .int u1), (4, .int (0 : Int32)), (3, .int (mtx u1.toNatClampNeg)), (0, .ref (ad 0)), (1, .int u1), (2, .int u2)]) hx hb zd_Mo_wordAt_182 hl (by decide) rfl (fun ls hl => ?_)
                              exact loop184 u1 u2 (mtx u1.toNatClampNeg) 2000 (0 : Int32) u1 _ hf (lv_sub hl [3, 4, 5, 2, 1, 0] rfl)
                          · have hf := mp_f c_138 hf
                            refine lv_bipush (v := -11) hx hb zd_Mo_wordAt_164 (by decide) ?_
                            have hf := Option.some.inj hf
                            subst hf
                            exact W.iret (v := (-11 : Int32)) hx hb hr (fun t ht hW => ⟨(-11 : Int32), rfl, rfl, ht⟩) (fun q h => by cases h) zd_Mo_wordAt_166
                      · have hf := mp_f c_134 hf
                        refine lv_bipush (v := -10) hx hb zd_Mo_wordAt_142 (by decide) ?_
                        have hf := Option.some.inj hf
                        subst hf
                        exact W.iret (v := (-10 : Int32)) hx hb hr (fun t ht hW => ⟨(-10 : Int32), rfl, rfl, ht⟩) (fun q h => by cases h) zd_Mo_wordAt_144
                  · have hf := mp_f c_126 hf
                    refine lv_iconst (v := -1) hx hb zd_Mo_wordAt_109 (by decide) ?_
                    refine lv_aload_n hx hb zd_Mo_wordAt_110 rfl (lv_at hl 1 rfl) ?_
                    refine va_get (D := (dC, dI)) (ci := 5) (v := .ref (ad 12)) (C := zR_Mo) (T := zT_Mo) (N := 24) hx hb hts (fun w h => hsub w (zi_Mo w h)) hown hK hP 0 rfl rfl 14 (by decide) (hw _ zq_457) (fun _ h9 => h9) rfl zd_Mo_wordAt_111 ?_
                    refine lv_iload_n hx hb zd_Mo_wordAt_114 rfl (lv_at hl 2 rfl) ?_
                    refine lv_iconst (v := 1) hx hb zd_Mo_wordAt_115 (by decide) ?_
                    refine lv_iadd hx hb zd_Mo_wordAt_116 ?_
                    obtain ⟨h_140, hf⟩ := mp_in hf
                    refine va_iald hx hb hK hP 1 0 rfl rfl (i := (u1 + (1 : Int32))) h_140 zd_Mo_wordAt_117 ?_
                    refine lv_bipush (v := 48) hx hb zd_Mo_wordAt_118 (by decide) ?_
                    refine lv_isub hx hb zd_Mo_wordAt_120 ?_
                    refine lv_isub hx hb zd_Mo_wordAt_121 ?_
                    have hf := Option.some.inj hf
                    subst hf
                    exact W.iret (v := ((-1 : Int32) - ((mtx (u1 + (1 : Int32)).toNatClampNeg) - (48 : Int32)))) hx hb hr (fun t ht hW => ⟨((-1 : Int32) - ((mtx (u1 + (1 : Int32)).toNatClampNeg) - (48 : Int32))), rfl, rfl, ht⟩) (fun q h => by cases h) zd_Mo_wordAt_122
          · have hf := mp_t c_81 hf
            refine lv_iload_n hx hb zd_Mo_wordAt_36 rfl (lv_at hl 0 rfl) ?_
            refine lv_bipush (v := 110) hx hb zd_Mo_wordAt_37 (by decide) ?_
            refine lv_icmp_ne (tgt := 47) hx hb zd_Mo_wordAt_39 (by decide) (fun c_141 => ?_) (fun c_141 => ?_)
            · have hf := mp_f c_141 hf
              refine lv_iload_n hx hb zd_Mo_wordAt_47 rfl (lv_at hl 0 rfl) ?_
              refine lv_bipush (v := 43) hx hb zd_Mo_wordAt_48 (by decide) ?_
              refine lv_icmp_ne (tgt := 58) hx hb zd_Mo_wordAt_50 (by decide) (fun c_142 => ?_) (fun c_142 => ?_)
              · have hf := mp_f c_142 hf
                refine lv_iload_n hx hb zd_Mo_wordAt_58 rfl (lv_at hl 0 rfl) ?_
                refine lv_bipush (v := 45) hx hb zd_Mo_wordAt_59 (by decide) ?_
                refine lv_icmp_ne (tgt := 69) hx hb zd_Mo_wordAt_61 (by decide) (fun c_143 => ?_) (fun c_143 => ?_)
                · have hf := mp_f c_143 hf
                  refine lv_bipush (v := -9) hx hb zd_Mo_wordAt_69 (by decide) ?_
                  have hf := Option.some.inj hf
                  subst hf
                  exact W.iret (v := (-9 : Int32)) hx hb hr (fun t ht hW => ⟨(-9 : Int32), rfl, rfl, ht⟩) (fun q h => by cases h) zd_Mo_wordAt_71
                · have hf := mp_t c_143 hf
                  refine lv_bipush (v := -8) hx hb zd_Mo_wordAt_64 (by decide) ?_
                  refine lv_goto (tgt := 71) hx hb zd_Mo_wordAt_66 (by decide) ?_
                  have hf := Option.some.inj hf
                  subst hf
                  exact W.iret (v := (-8 : Int32)) hx hb hr (fun t ht hW => ⟨(-8 : Int32), rfl, rfl, ht⟩) (fun q h => by cases h) zd_Mo_wordAt_71
              · have hf := mp_t c_142 hf
                refine lv_bipush (v := -7) hx hb zd_Mo_wordAt_53 (by decide) ?_
                refine lv_goto (tgt := 71) hx hb zd_Mo_wordAt_55 (by decide) ?_
                have hf := Option.some.inj hf
                subst hf
                exact W.iret (v := (-7 : Int32)) hx hb hr (fun t ht hW => ⟨(-7 : Int32), rfl, rfl, ht⟩) (fun q h => by cases h) zd_Mo_wordAt_71
            · have hf := mp_t c_141 hf
              refine lv_bipush (v := -6) hx hb zd_Mo_wordAt_42 (by decide) ?_
              refine lv_goto (tgt := 71) hx hb zd_Mo_wordAt_44 (by decide) ?_
              have hf := Option.some.inj hf
              subst hf
              exact W.iret (v := (-6 : Int32)) hx hb hr (fun t ht hW => ⟨(-6 : Int32), rfl, rfl, ht⟩) (fun q h => by cases h) zd_Mo_wordAt_71
set_option maxHeartbeats 4000000 in
set_option maxRecDepth 100000 in
theorem zc_Mo_isOfTwo (l : Launch) (dC : Nat → ClassId) (dI : Nat → Nat → Nat) (cI cJ cZ : ClassId) (ad : Nat → Nat) (u0 : Int32) (res : Int32) (hf : zf_Mo_isOfTwo u0 = some res) : Met l zy_Mo_isOfTwo zw_Mo_isOfTwo ({ frames := 0, cells := 0, slots := 0, locals := 0 } : Room) (mp_PR (dC, dI) vwCl (mp_tys cI cJ cZ) [] [.int u0]) (vp_Si (fun r => r = res ∧ mp_b res)) 0 0 (fun _ => False) := by
  refine Met.ofW (cc := zb_Mo_isOfTwo) (maxL := 1) (ret := (some .boolean)) (by decide) rfl ?_
  intro p e s m args below meth c s₁ B hml hv
  obtain ⟨rfl, hP, hK, hN⟩ := hv
  have hx := B.exec
  have hb := B.bytes
  have hr := B.returns
  have hts := atoms_spec (ws := zw_Mo_isOfTwo) B.pre
  have hsub : ∀ w ∈ mp_tbl, w ∈ zw_Mo_isOfTwo := fun w h => List.mem_cons_of_mem _ h
  have hw : ∀ w ∈ mp_tbl, w.before _ s = true := fun w h => hts w (hsub w h)
  have hown : s.vm.findClass zR_Mo = some m.cls := findClass_of_methodNamed B.named
  have hlocks := B.notSynchronized
  have hl := lv_entry ([.int u0]) (n := 1) (Nat.le_of_ble_eq_true rfl)
  rw [lg_entry_eq]
  generalize (lg_sl ([.int u0]) ++ List.replicate (1 - (lg_sl ([.int u0])).length) Slot.unset).toArray = ls at hl ⊢
  have hl : lv_has ls 1 [(0, .int u0)] := hl
  unfold zf_Mo_isOfTwo at hf
  refine lv_iload_n hx hb zd_Mo_isOfTwo_0 rfl (lv_at hl 0 rfl) ?_
  refine lv_bipush (v := -7) hx hb zd_Mo_isOfTwo_1 (by decide) ?_
  refine lv_icmp_gt (tgt := 10) hx hb zd_Mo_isOfTwo_3 (by decide) (fun c_1 => ?_) (fun c_1 => ?_)
  · have hf := mp_t c_1 hf
    refine lv_iconst (v := 0) hx hb zd_Mo_isOfTwo_10 (by decide) ?_
    have hf := Option.some.inj hf
    subst hf
    exact W.zret (v := (0 : Int32)) hx hb hr (mp_nz (Or.inl rfl)) (fun t ht hW => ⟨(0 : Int32), rfl, ⟨rfl, (Or.inl rfl)⟩, ht⟩) (fun q h => by cases h) zd_Mo_isOfTwo_11
  · have hf := mp_f c_1 hf
    refine lv_iconst (v := 1) hx hb zd_Mo_isOfTwo_6 (by decide) ?_
    refine lv_goto (tgt := 11) hx hb zd_Mo_isOfTwo_7 (by decide) ?_
    have hf := Option.some.inj hf
    subst hf
    exact W.zret (v := (1 : Int32)) hx hb hr (mp_nz (Or.inr rfl)) (fun t ht hW => ⟨(1 : Int32), rfl, ⟨rfl, (Or.inr rfl)⟩, ht⟩) (fun q h => by cases h) zd_Mo_isOfTwo_11
