set_option maxHeartbeats 4000000 in
set_option maxRecDepth 100000 in
theorem zc_Mo_good (l : Launch) (dC : Nat → ClassId) (dI : Nat → Nat → Nat) (cI cJ cZ : ClassId) (ad : Nat → Nat) (sz : Nat) (mgc : Int32) (mpn : Int32) (mcn : Int32) (msz : Int32) (mwc : Int32) (mhf : Int32) (res : Int32 × Int32) (hf : zf_Mo_good mgc = some res) : Met l zy_Mo_good zw_Mo_good ({ frames := 0, cells := 0, slots := 0, locals := 0 } : Room) (mp_PM (dC, dI) vwCl (mp_tys cI cJ cZ) [(ad 0, .inr (5, [.int mgc, .ref (ad 1), .int mpn, .ref (ad 2), .ref (ad 3), .ref (ad 4), .ref (ad 5), .ref (ad 6), .int mcn, .ref (ad 7), .ref (ad 8), .ref (ad 9), .ref (ad 10), .ref (ad 11), .ref (ad 12), .int msz, .ref (ad 13), .int mwc, .int mhf, .ref (ad 14), .ref (ad 15), .ref (ad 16), .ref (ad 17), .ref (ad 18)]))] sz [.ref (ad 0)]) (va_Qi (fun r (_ : Unit) => r = res.1) (mp_BM (dC, dI) vwCl [(ad 0, .inr (5, [.int res.2, .ref (ad 1), .int mpn, .ref (ad 2), .ref (ad 3), .ref (ad 4), .ref (ad 5), .ref (ad 6), .int mcn, .ref (ad 7), .ref (ad 8), .ref (ad 9), .ref (ad 10), .ref (ad 11), .ref (ad 12), .int msz, .ref (ad 13), .int mwc, .int mhf, .ref (ad 14), .ref (ad 15), .ref (ad 16), .ref (ad 17), .ref (ad 18)]))] (va_A [(ad 0, .inr (5, [.int mgc, .ref (ad 1), .int mpn, .ref (ad 2), .ref (ad 3), .ref (ad 4), .ref (ad 5), .ref (ad 6), .int mcn, .ref (ad 7), .ref (ad 8), .ref (ad 9), .ref (ad 10), .ref (ad 11), .ref (ad 12), .int msz, .ref (ad 13), .int mwc, .int mhf, .ref (ad 14), .ref (ad 15), .ref (ad 16), .ref (ad 17), .ref (ad 18)]))] sz)) (va_A [(ad 0, .inr (5, [.int mgc, .ref (ad 1), .int mpn, .ref (ad 2), .ref (ad 3), .ref (ad 4), .ref (ad 5), .ref (ad 6), .int mcn, .ref (ad 7), .ref (ad 8), .ref (ad 9), .ref (ad 10), .ref (ad 11), .ref (ad 12), .int msz, .ref (ad 13), .int mwc, .int mhf, .ref (ad 14), .ref (ad 15), .ref (ad 16), .ref (ad 17), .ref (ad 18)]))] sz)) 0 0 ((va_A [(ad 0, .inr (5, [.int mgc, .ref (ad 1), .int mpn, .ref (ad 2), .ref (ad 3), .ref (ad 4), .ref (ad 5), .ref (ad 6), .int mcn, .ref (ad 7), .ref (ad 8), .ref (ad 9), .ref (ad 10), .ref (ad 11), .ref (ad 12), .int msz, .ref (ad 13), .int mwc, .int mhf, .ref (ad 14), .ref (ad 15), .ref (ad 16), .ref (ad 17), .ref (ad 18)]))] sz)) := by
  refine Met.ofW (cc := zb_Mo_good) (maxL := 1) (ret := (some .int)) (by decide) rfl ?_
  intro p e s m args below meth c s₁ B hml hv
  obtain ⟨rfl, hsz, hP, hK, hD0, hN⟩ := hv
  have hx := B.exec
  have hb := B.bytes
  have hr := B.returns
  have hts := atoms_spec (ws := zw_Mo_good) B.pre
  have hsub : ∀ w ∈ mp_tbl, w ∈ zw_Mo_good := fun w h => List.mem_cons_of_mem _ h
  have hw : ∀ w ∈ mp_tbl, w.before _ s = true := fun w h => hts w (hsub w h)
  have hown : s.vm.findClass zR_Mo = some m.cls := findClass_of_methodNamed B.named
  have hlocks := B.notSynchronized
  subst hsz
  have hD := hD0.self (sz := s.heap.size)
  generalize hAe : va_A [(ad 0, .inr (5, [.int mgc, .ref (ad 1), .int mpn, .ref (ad 2), .ref (ad 3), .ref (ad 4), .ref (ad 5), .ref (ad 6), .int mcn, .ref (ad 7), .ref (ad 8), .ref (ad 9), .ref (ad 10), .ref (ad 11), .ref (ad 12), .int msz, .ref (ad 13), .int mwc, .int mhf, .ref (ad 14), .ref (ad 15), .ref (ad 16), .ref (ad 17), .ref (ad 18)]))] s.heap.size = A at hD ⊢
  have hA : ∀ q : Nat, s.heap.size ≤ q → A q := fun q h => by rw [← hAe]; exact Or.inr h
  have hS : va_S A s.heap s.heap [] := va_S.rf
  have hP : va_P (dC, dI) vwCl [(ad 0, .inr (5, [.int mgc, .ref (ad 1), .int mpn, .ref (ad 2), .ref (ad 3), .ref (ad 4), .ref (ad 5), .ref (ad 6), .int mcn, .ref (ad 7), .ref (ad 8), .ref (ad 9), .ref (ad 10), .ref (ad 11), .ref (ad 12), .int msz, .ref (ad 13), .int mwc, .int mhf, .ref (ad 14), .ref (ad 15), .ref (ad 16), .ref (ad 17), .ref (ad 18)]))] s.heap := hP
  clear hAe hD0
  have hl := lv_entry ([.ref (ad 0)]) (n := 1) (Nat.le_of_ble_eq_true rfl)
  rw [lg_entry_eq]
  generalize (lg_sl ([.ref (ad 0)]) ++ List.replicate (1 - (lg_sl ([.ref (ad 0)])).length) Slot.unset).toArray = ls at hl ⊢
  have hl : lv_has ls 1 [(0, .ref (ad 0))] := hl
  unfold zf_Mo_good at hf
  refine lv_aload_n hx hb zd_Mo_good_0 rfl (lv_at hl 0 rfl) ?_
  refine va_get (D := (dC, dI)) (ci := 5) (v := .int mgc) (C := zR_Mo) (T := zT_Mo) (N := 24) hx hb hts (fun w h => hsub w (zi_Mo w h)) hown hK hP 0 rfl rfl 0 (by decide) (hw _ zq_443) (fun _ h9 => h9) rfl zd_Mo_good_1 ?_
  refine lv_bipush (v := 8) hx hb zd_Mo_good_4 (by decide) ?_
  refine lv_icmp_ne (tgt := 11) hx hb zd_Mo_good_6 (by decide) (fun c_1 => ?_) (fun c_1 => ?_)
  · have hf := mp_f c_1 hf
    refine lv_aload_n hx hb zd_Mo_good_11 rfl (lv_at hl 0 rfl) ?_
    refine lv_dup hx hb zd_Mo_good_12 rfl ?_
    refine va_get (D := (dC, dI)) (ci := 5) (v := .int mgc) (C := zR_Mo) (T := zT_Mo) (N := 24) hx hb hts (fun w h => hsub w (zi_Mo w h)) hown hK hP 0 rfl rfl 0 (by decide) (hw _ zq_443) (fun _ h9 => h9) rfl zd_Mo_good_13 ?_
    refine lv_iconst (v := 1) hx hb zd_Mo_good_16 (by decide) ?_
    refine lv_iadd hx hb zd_Mo_good_17 ?_
    refine va_put (D := (dC, dI)) (ci := 5) (v := .int (mgc + (1 : Int32))) (ty := .int) (C := zR_Mo) (T := zT_Mo) (N := 24) hx hb hts (fun w h => hsub w (zi_Mo w h)) zt_Mo zt_Mo_ok zn_Mo hown hK hP hD hS 0 rfl rfl 0 (by decide) (hw _ zq_443) (fun _ h9 => h9) rfl (by decide +kernel) rfl rfl (Nat.le_of_ble_eq_true rfl) zd_Mo_good_18 (fun H locs hP hD hS => ?_)
    have hP : va_P (dC, dI) vwCl [(ad 0, .inr (5, [.int (mgc + (1 : Int32)), .ref (ad 1), .int mpn, .ref (ad 2), .ref (ad 3), .ref (ad 4), .ref (ad 5), .ref (ad 6), .int mcn, .ref (ad 7), .ref (ad 8), .ref (ad 9), .ref (ad 10), .ref (ad 11), .ref (ad 12), .int msz, .ref (ad 13), .int mwc, .int mhf, .ref (ad 14), .ref (ad 15), .ref (ad 16), .ref (ad 17), .ref (ad 18)]))] H := hP
    have hD : va_D A [(ad 0, .inr (5, [.int (mgc + (1 : Int32)), .ref (ad 1), .int mpn, .ref (ad 2), .ref (ad 3), .ref (ad 4), .ref (ad 5), .ref (ad 6), .int mcn, .ref (ad 7), .ref (ad 8), .ref (ad 9), .ref (ad 10), .ref (ad 11), .ref (ad 12), .int msz, .ref (ad 13), .int mwc, .int mhf, .ref (ad 14), .ref (ad 15), .ref (ad 16), .ref (ad 17), .ref (ad 18)]))] := hD
    refine lv_aload_n hx hb zd_Mo_good_21 rfl (lv_at hl 0 rfl) ?_
    refine va_get (D := (dC, dI)) (ci := 5) (v := .int (mgc + (1 : Int32))) (C := zR_Mo) (T := zT_Mo) (N := 24) hx hb hts (fun w h => hsub w (zi_Mo w h)) hown hK hP 0 rfl rfl 0 (by decide) (hw _ zq_443) (fun _ h9 => h9) rfl zd_Mo_good_22 ?_
    refine lv_iconst (v := 1) hx hb zd_Mo_good_25 (by decide) ?_
    refine lv_isub hx hb zd_Mo_good_26 ?_
    have hf := Option.some.inj hf
    subst hf
    exact W.iret (v := ((mgc + (1 : Int32)) - (1 : Int32))) hx hb hr (fun t ht hW => ⟨⟨((mgc + (1 : Int32)) - (1 : Int32)), (), rfl, rfl, by rw [ht]; exact hP, hD⟩, hS.F ht⟩) hS.2.2 zd_Mo_good_27
  · have hf := mp_t c_1 hf
    refine lv_iconst (v := -1) hx hb zd_Mo_good_9 (by decide) ?_
    have hf := Option.some.inj hf
    subst hf
    exact W.iret (v := (-1 : Int32)) hx hb hr (fun t ht hW => ⟨⟨(-1 : Int32), (), rfl, rfl, by rw [ht]; exact hP, hD⟩, hS.F ht⟩) hS.2.2 zd_Mo_good_10
set_option maxHeartbeats 4000000 in
set_option maxRecDepth 100000 in
theorem zc_Mo_isGood (l : Launch) (dC : Nat → ClassId) (dI : Nat → Nat → Nat) (cI cJ cZ : ClassId) (ad : Nat → Nat) (mgc : Int32) (mpn : Int32) (mcn : Int32) (msz : Int32) (mwc : Int32) (mhf : Int32) (u1 : Int32) (res : Int32) (hf : zf_Mo_isGood u1 mgc = some res) : Met l zy_Mo_isGood zw_Mo_isGood ({ frames := 0, cells := 0, slots := 0, locals := 0 } : Room) (mp_PR (dC, dI) vwCl (mp_tys cI cJ cZ) [(ad 0, .inr (5, [.int mgc, .ref (ad 1), .int mpn, .ref (ad 2), .ref (ad 3), .ref (ad 4), .ref (ad 5), .ref (ad 6), .int mcn, .ref (ad 7), .ref (ad 8), .ref (ad 9), .ref (ad 10), .ref (ad 11), .ref (ad 12), .int msz, .ref (ad 13), .int mwc, .int mhf, .ref (ad 14), .ref (ad 15), .ref (ad 16), .ref (ad 17), .ref (ad 18)]))] [.ref (ad 0), .int u1]) (vp_Si (fun r => r = res ∧ mp_b res)) 0 0 (fun _ => False) := by
  refine Met.ofW (cc := zb_Mo_isGood) (maxL := 2) (ret := (some .boolean)) (by decide) rfl ?_
  intro p e s m args below meth c s₁ B hml hv
  obtain ⟨rfl, hP, hK, hN⟩ := hv
  have hx := B.exec
  have hb := B.bytes
  have hr := B.returns
  have hts := atoms_spec (ws := zw_Mo_isGood) B.pre
  have hsub : ∀ w ∈ mp_tbl, w ∈ zw_Mo_isGood := fun w h => List.mem_cons_of_mem _ h
  have hw : ∀ w ∈ mp_tbl, w.before _ s = true := fun w h => hts w (hsub w h)
  have hown : s.vm.findClass zR_Mo = some m.cls := findClass_of_methodNamed B.named
  have hlocks := B.notSynchronized
  have hl := lv_entry ([.ref (ad 0), .int u1]) (n := 2) (Nat.le_of_ble_eq_true rfl)
  rw [lg_entry_eq]
  generalize (lg_sl ([.ref (ad 0), .int u1]) ++ List.replicate (2 - (lg_sl ([.ref (ad 0), .int u1])).length) Slot.unset).toArray = ls at hl ⊢
  have hl : lv_has ls 2 [(0, .ref (ad 0)), (1, .int u1)] := hl
  unfold zf_Mo_isGood at hf
  refine lv_iload_n hx hb zd_Mo_isGood_0 rfl (lv_at hl 1 rfl) ?_
  refine lv_if_lt (tgt := 16) hx hb zd_Mo_isGood_1 (by decide) (fun c_1 => ?_) (fun c_1 => ?_)
  · have hf := mp_t c_1 hf
    refine lv_iconst (v := 0) hx hb zd_Mo_isGood_16 (by decide) ?_
    have hf := Option.some.inj hf
    subst hf
    exact W.zret (v := (0 : Int32)) hx hb hr (mp_nz (Or.inl rfl)) (fun t ht hW => ⟨(0 : Int32), rfl, ⟨rfl, (Or.inl rfl)⟩, ht⟩) (fun q h => by cases h) zd_Mo_isGood_17
  · have hf := mp_f c_1 hf
    refine lv_iload_n hx hb zd_Mo_isGood_4 rfl (lv_at hl 1 rfl) ?_
    refine lv_aload_n hx hb zd_Mo_isGood_5 rfl (lv_at hl 0 rfl) ?_
    refine va_get (D := (dC, dI)) (ci := 5) (v := .int mgc) (C := zR_Mo) (T := zT_Mo) (N := 24) hx hb hts (fun w h => hsub w (zi_Mo w h)) hown hK hP 0 rfl rfl 0 (by decide) (hw _ zq_443) (fun _ h9 => h9) rfl zd_Mo_isGood_6 ?_
    refine lv_icmp_ge (tgt := 16) hx hb zd_Mo_isGood_9 (by decide) (fun c_2 => ?_) (fun c_2 => ?_)
    · have hf := mp_t c_2 hf
      refine lv_iconst (v := 0) hx hb zd_Mo_isGood_16 (by decide) ?_
      have hf := Option.some.inj hf
      subst hf
      exact W.zret (v := (0 : Int32)) hx hb hr (mp_nz (Or.inl rfl)) (fun t ht hW => ⟨(0 : Int32), rfl, ⟨rfl, (Or.inl rfl)⟩, ht⟩) (fun q h => by cases h) zd_Mo_isGood_17
    · have hf := mp_f c_2 hf
      refine lv_iconst (v := 1) hx hb zd_Mo_isGood_12 (by decide) ?_
      refine lv_goto (tgt := 17) hx hb zd_Mo_isGood_13 (by decide) ?_
      have hf := Option.some.inj hf
      subst hf
      exact W.zret (v := (1 : Int32)) hx hb hr (mp_nz (Or.inr rfl)) (fun t ht hW => ⟨(1 : Int32), rfl, ⟨rfl, (Or.inr rfl)⟩, ht⟩) (fun q h => by cases h) zd_Mo_isGood_17
set_option maxHeartbeats 4000000 in
set_option maxRecDepth 100000 in
theorem zc_Mo_isKind (l : Launch) (dC : Nat → ClassId) (dI : Nat → Nat → Nat) (cI cJ cZ : ClassId) (ad : Nat → Nat) (u0 : Int32) (res : Int32) (hf : zf_Mo_isKind u0 = some res) : Met l zy_Mo_isKind zw_Mo_isKind ({ frames := 0, cells := 0, slots := 0, locals := 0 } : Room) (mp_PR (dC, dI) vwCl (mp_tys cI cJ cZ) [] [.int u0]) (vp_Si (fun r => r = res ∧ mp_b res)) 0 0 (fun _ => False) := by
  refine Met.ofW (cc := zb_Mo_isKind) (maxL := 1) (ret := (some .boolean)) (by decide) rfl ?_
  intro p e s m args below meth c s₁ B hml hv
  obtain ⟨rfl, hP, hK, hN⟩ := hv
  have hx := B.exec
  have hb := B.bytes
  have hr := B.returns
  have hts := atoms_spec (ws := zw_Mo_isKind) B.pre
  have hsub : ∀ w ∈ mp_tbl, w ∈ zw_Mo_isKind := fun w h => List.mem_cons_of_mem _ h
  have hw : ∀ w ∈ mp_tbl, w.before _ s = true := fun w h => hts w (hsub w h)
  have hown : s.vm.findClass zR_Mo = some m.cls := findClass_of_methodNamed B.named
  have hlocks := B.notSynchronized
  have hl := lv_entry ([.int u0]) (n := 1) (Nat.le_of_ble_eq_true rfl)
  rw [lg_entry_eq]
  generalize (lg_sl ([.int u0]) ++ List.replicate (1 - (lg_sl ([.int u0])).length) Slot.unset).toArray = ls at hl ⊢
  have hl : lv_has ls 1 [(0, .int u0)] := hl
  unfold zf_Mo_isKind at hf
  refine lv_iload_n hx hb zd_Mo_isKind_0 rfl (lv_at hl 0 rfl) ?_
  refine lv_if_lt (tgt := 13) hx hb zd_Mo_isKind_1 (by decide) (fun c_1 => ?_) (fun c_1 => ?_)
  · have hf := mp_t c_1 hf
    refine lv_iconst (v := 0) hx hb zd_Mo_isKind_13 (by decide) ?_
    have hf := Option.some.inj hf
    subst hf
    exact W.zret (v := (0 : Int32)) hx hb hr (mp_nz (Or.inl rfl)) (fun t ht hW => ⟨(0 : Int32), rfl, ⟨rfl, (Or.inl rfl)⟩, ht⟩) (fun q h => by cases h) zd_Mo_isKind_14
  · have hf := mp_f c_1 hf
    refine lv_iload_n hx hb zd_Mo_isKind_4 rfl (lv_at hl 0 rfl) ?_
    refine lv_iconst (v := 5) hx hb zd_Mo_isKind_5 (by decide) ?_
    refine lv_icmp_ge (tgt := 13) hx hb zd_Mo_isKind_6 (by decide) (fun c_2 => ?_) (fun c_2 => ?_)
    · have hf := mp_t c_2 hf
      refine lv_iconst (v := 0) hx hb zd_Mo_isKind_13 (by decide) ?_
      have hf := Option.some.inj hf
      subst hf
      exact W.zret (v := (0 : Int32)) hx hb hr (mp_nz (Or.inl rfl)) (fun t ht hW => ⟨(0 : Int32), rfl, ⟨rfl, (Or.inl rfl)⟩, ht⟩) (fun q h => by cases h) zd_Mo_isKind_14
    · have hf := mp_f c_2 hf
      refine lv_iconst (v := 1) hx hb zd_Mo_isKind_9 (by decide) ?_
      refine lv_goto (tgt := 14) hx hb zd_Mo_isKind_10 (by decide) ?_
      have hf := Option.some.inj hf
      subst hf
      exact W.zret (v := (1 : Int32)) hx hb hr (mp_nz (Or.inr rfl)) (fun t ht hW => ⟨(1 : Int32), rfl, ⟨rfl, (Or.inr rfl)⟩, ht⟩) (fun q h => by cases h) zd_Mo_isKind_14
set_option maxHeartbeats 4000000 in
set_option maxRecDepth 100000 in
theorem zc_Mo_isIn (l : Launch) (dC : Nat → ClassId) (dI : Nat → Nat → Nat) (cI cJ cZ : ClassId) (ad : Nat → Nat) (u0 : Int64) (u2 : Int64) (u4 : Int64) (res : Int32) (hf : zf_Mo_isIn u0 u2 u4 = some res) : Met l zy_Mo_isIn zw_Mo_isIn ({ frames := 0, cells := 0, slots := 0, locals := 0 } : Room) (mp_PR (dC, dI) vwCl (mp_tys cI cJ cZ) [] [.long u0, .long u2, .long u4]) (vp_Si (fun r => r = res ∧ mp_b res)) 0 0 (fun _ => False) := by
  refine Met.ofW (cc := zb_Mo_isIn) (maxL := 6) (ret := (some .boolean)) (by decide) rfl ?_
  intro p e s m args below meth c s₁ B hml hv
  obtain ⟨rfl, hP, hK, hN⟩ := hv
  have hx := B.exec
  have hb := B.bytes
  have hr := B.returns
  have hts := atoms_spec (ws := zw_Mo_isIn) B.pre
  have hsub : ∀ w ∈ mp_tbl, w ∈ zw_Mo_isIn := fun w h => List.mem_cons_of_mem _ h
  have hw : ∀ w ∈ mp_tbl, w.before _ s = true := fun w h => hts w (hsub w h)
  have hown : s.vm.findClass zR_Mo = some m.cls := findClass_of_methodNamed B.named
  have hlocks := B.notSynchronized
  have hl := lv_entry ([.long u0, .long u2, .long u4]) (n := 6) (Nat.le_of_ble_eq_true rfl)
  rw [lg_entry_eq]
  generalize (lg_sl ([.long u0, .long u2, .long u4]) ++ List.replicate (6 - (lg_sl ([.long u0, .long u2, .long u4])).length) Slot.unset).toArray = ls at hl ⊢
  have hl : lv_has ls 6 [(0, .long u0), (2, .long u2), (4, .long u4)] := hl
  unfold zf_Mo_isIn at hf
  refine lv_lload_n hx hb zd_Mo_isIn_0 rfl (lv_at hl 0 rfl) ?_
  refine lv_lload_n hx hb zd_Mo_isIn_1 rfl (lv_at hl 1 rfl) ?_
  refine W.lcmp hx hb zd_Mo_isIn_2 ?_
  refine lv_if_lt (tgt := 17) hx hb zd_Mo_isIn_3 (by decide) (fun c_1 => ?_) (fun c_1 => ?_)
  · have c_1 := (lg_cmp_lt _ _).mp c_1
    have hf := mp_t c_1 hf
    refine lv_iconst (v := 0) hx hb zd_Mo_isIn_17 (by decide) ?_
    have hf := Option.some.inj hf
    subst hf
    exact W.zret (v := (0 : Int32)) hx hb hr (mp_nz (Or.inl rfl)) (fun t ht hW => ⟨(0 : Int32), rfl, ⟨rfl, (Or.inl rfl)⟩, ht⟩) (fun q h => by cases h) zd_Mo_isIn_18
  · have c_1 := fun h9 => c_1 ((lg_cmp_lt _ _).mpr h9)
    have hf := mp_f c_1 hf
    refine lv_lload_n hx hb zd_Mo_isIn_6 rfl (lv_at hl 0 rfl) ?_
    refine lv_lload hx hb zd_Mo_isIn_7 (lv_at hl 2 rfl) ?_
    refine W.lcmp hx hb zd_Mo_isIn_9 ?_
    refine lv_if_gt (tgt := 17) hx hb zd_Mo_isIn_10 (by decide) (fun c_2 => ?_) (fun c_2 => ?_)
    · have c_2 := (lg_cmp_gt _ _).mp c_2
      have hf := mp_t c_2 hf
      refine lv_iconst (v := 0) hx hb zd_Mo_isIn_17 (by decide) ?_
      have hf := Option.some.inj hf
      subst hf
      exact W.zret (v := (0 : Int32)) hx hb hr (mp_nz (Or.inl rfl)) (fun t ht hW => ⟨(0 : Int32), rfl, ⟨rfl, (Or.inl rfl)⟩, ht⟩) (fun q h => by cases h) zd_Mo_isIn_18
    · have c_2 := fun h9 => c_2 ((lg_cmp_gt _ _).mpr h9)
      have hf := mp_f c_2 hf
      refine lv_iconst (v := 1) hx hb zd_Mo_isIn_13 (by decide) ?_
      refine lv_goto (tgt := 18) hx hb zd_Mo_isIn_14 (by decide) ?_
      have hf := Option.some.inj hf
      subst hf
      exact W.zret (v := (1 : Int32)) hx hb hr (mp_nz (Or.inr rfl)) (fun t ht hW => ⟨(1 : Int32), rfl, ⟨rfl, (Or.inr rfl)⟩, ht⟩) (fun q h => by cases h) zd_Mo_isIn_18
set_option maxHeartbeats 4000000 in
set_option maxRecDepth 100000 in
theorem zc_Mo_part (l : Launch) (dC : Nat → ClassId) (dI : Nat → Nat → Nat) (cI cJ cZ : ClassId) (ad : Nat → Nat) (sz : Nat) (mgc : Int32) (mpn : Int32) (mcn : Int32) (msz : Int32) (mwc : Int32) (mhf : Int32) (mver : Nat → Int32) (mho : Nat → Int32) (mki : Nat → Int32) (mgr : Nat → Int64) (mli : Nat → Int32) (min_ : Nat → Int32) (u1 : Int32) (u2 : Int32) (u3 : Int64) (u5 : Int32) (res : Int32 × Int32 × (Nat → Int32) × (Nat → Int32) × (Nat → Int32) × (Nat → Int64) × (Nat → Int32) × (Nat → Int32)) (hf : zf_Mo_part u1 u2 u3 u5 mgc mpn mver mho mki mgr mli min_ = some res) : Met l zy_Mo_part zw_Mo_part ({ frames := 1, cells := 0, slots := 0, locals := 25 } : Room) (mp_PM (dC, dI) vwCl (mp_tys cI cJ cZ) [(ad 0, .inr (5, [.int mgc, .ref (ad 1), .int mpn, .ref (ad 2), .ref (ad 3), .ref (ad 4), .ref (ad 5), .ref (ad 6), .int mcn, .ref (ad 7), .ref (ad 8), .ref (ad 9), .ref (ad 10), .ref (ad 11), .ref (ad 12), .int msz, .ref (ad 13), .int mwc, .int mhf, .ref (ad 14), .ref (ad 15), .ref (ad 16), .ref (ad 17), .ref (ad 18)])), (ad 1, .inl (cI, 8, .inl mver)), (ad 2, .inl (cI, 24, .inl mho)), (ad 3, .inl (cI, 24, .inl mki)), (ad 4, .inl (cJ, 24, .inr (.inl mgr))), (ad 5, .inl (cI, 24, .inl mli)), (ad 6, .inl (cI, 24, .inl min_))] sz [.ref (ad 0), .int u1, .int u2, .long u3, .int u5]) (va_Qi (fun r (_ : Unit) => r = res.1) (mp_BM (dC, dI) vwCl [(ad 0, .inr (5, [.int mgc, .ref (ad 1), .int res.2.1, .ref (ad 2), .ref (ad 3), .ref (ad 4), .ref (ad 5), .ref (ad 6), .int mcn, .ref (ad 7), .ref (ad 8), .ref (ad 9), .ref (ad 10), .ref (ad 11), .ref (ad 12), .int msz, .ref (ad 13), .int mwc, .int mhf, .ref (ad 14), .ref (ad 15), .ref (ad 16), .ref (ad 17), .ref (ad 18)])), (ad 1, .inl (cI, 8, .inl res.2.2.1)), (ad 2, .inl (cI, 24, .inl res.2.2.2.1)), (ad 3, .inl (cI, 24, .inl res.2.2.2.2.1)), (ad 4, .inl (cJ, 24, .inr (.inl res.2.2.2.2.2.1))), (ad 5, .inl (cI, 24, .inl res.2.2.2.2.2.2.1)), (ad 6, .inl (cI, 24, .inl res.2.2.2.2.2.2.2))] (va_A [(ad 0, .inr (5, [.int mgc, .ref (ad 1), .int mpn, .ref (ad 2), .ref (ad 3), .ref (ad 4), .ref (ad 5), .ref (ad 6), .int mcn, .ref (ad 7), .ref (ad 8), .ref (ad 9), .ref (ad 10), .ref (ad 11), .ref (ad 12), .int msz, .ref (ad 13), .int mwc, .int mhf, .ref (ad 14), .ref (ad 15), .ref (ad 16), .ref (ad 17), .ref (ad 18)])), (ad 1, .inl (cI, 8, .inl mver)), (ad 2, .inl (cI, 24, .inl mho)), (ad 3, .inl (cI, 24, .inl mki)), (ad 4, .inl (cJ, 24, .inr (.inl mgr))), (ad 5, .inl (cI, 24, .inl mli)), (ad 6, .inl (cI, 24, .inl min_))] sz)) (va_A [(ad 0, .inr (5, [.int mgc, .ref (ad 1), .int mpn, .ref (ad 2), .ref (ad 3), .ref (ad 4), .ref (ad 5), .ref (ad 6), .int mcn, .ref (ad 7), .ref (ad 8), .ref (ad 9), .ref (ad 10), .ref (ad 11), .ref (ad 12), .int msz, .ref (ad 13), .int mwc, .int mhf, .ref (ad 14), .ref (ad 15), .ref (ad 16), .ref (ad 17), .ref (ad 18)])), (ad 1, .inl (cI, 8, .inl mver)), (ad 2, .inl (cI, 24, .inl mho)), (ad 3, .inl (cI, 24, .inl mki)), (ad 4, .inl (cJ, 24, .inr (.inl mgr))), (ad 5, .inl (cI, 24, .inl mli)), (ad 6, .inl (cI, 24, .inl min_))] sz)) 0 0 ((va_A [(ad 0, .inr (5, [.int mgc, .ref (ad 1), .int mpn, .ref (ad 2), .ref (ad 3), .ref (ad 4), .ref (ad 5), .ref (ad 6), .int mcn, .ref (ad 7), .ref (ad 8), .ref (ad 9), .ref (ad 10), .ref (ad 11), .ref (ad 12), .int msz, .ref (ad 13), .int mwc, .int mhf, .ref (ad 14), .ref (ad 15), .ref (ad 16), .ref (ad 17), .ref (ad 18)])), (ad 1, .inl (cI, 8, .inl mver)), (ad 2, .inl (cI, 24, .inl mho)), (ad 3, .inl (cI, 24, .inl mki)), (ad 4, .inl (cJ, 24, .inr (.inl mgr))), (ad 5, .inl (cI, 24, .inl mli)), (ad 6, .inl (cI, 24, .inl min_))] sz)) := by
  refine Met.ofW (cc := zb_Mo_part) (maxL := 6) (ret := (some .int)) (by decide) rfl ?_
  intro p e s m args below meth c s₁ B hml hv
  obtain ⟨rfl, hsz, hP, hK, hD0, hN⟩ := hv
  have hx := B.exec
  have hb := B.bytes
  have hr := B.returns
  have hts := atoms_spec (ws := zw_Mo_part) B.pre
  have hsub : ∀ w ∈ mp_tbl, w ∈ zw_Mo_part := fun w h => List.mem_cons_of_mem _ h
  have hw : ∀ w ∈ mp_tbl, w.before _ s = true := fun w h => hts w (hsub w h)
  have hown : s.vm.findClass zR_Mo = some m.cls := findClass_of_methodNamed B.named
  have hlocks := B.notSynchronized
  subst hsz
  have hD := hD0.self (sz := s.heap.size)
  generalize hAe : va_A [(ad 0, .inr (5, [.int mgc, .ref (ad 1), .int mpn, .ref (ad 2), .ref (ad 3), .ref (ad 4), .ref (ad 5), .ref (ad 6), .int mcn, .ref (ad 7), .ref (ad 8), .ref (ad 9), .ref (ad 10), .ref (ad 11), .ref (ad 12), .int msz, .ref (ad 13), .int mwc, .int mhf, .ref (ad 14), .ref (ad 15), .ref (ad 16), .ref (ad 17), .ref (ad 18)])), (ad 1, .inl (cI, 8, .inl mver)), (ad 2, .inl (cI, 24, .inl mho)), (ad 3, .inl (cI, 24, .inl mki)), (ad 4, .inl (cJ, 24, .inr (.inl mgr))), (ad 5, .inl (cI, 24, .inl mli)), (ad 6, .inl (cI, 24, .inl min_))] s.heap.size = A at hD ⊢
  have hA : ∀ q : Nat, s.heap.size ≤ q → A q := fun q h => by rw [← hAe]; exact Or.inr h
  have hS : va_S A s.heap s.heap [] := va_S.rf
  have hP : va_P (dC, dI) vwCl [(ad 0, .inr (5, [.int mgc, .ref (ad 1), .int mpn, .ref (ad 2), .ref (ad 3), .ref (ad 4), .ref (ad 5), .ref (ad 6), .int mcn, .ref (ad 7), .ref (ad 8), .ref (ad 9), .ref (ad 10), .ref (ad 11), .ref (ad 12), .int msz, .ref (ad 13), .int mwc, .int mhf, .ref (ad 14), .ref (ad 15), .ref (ad 16), .ref (ad 17), .ref (ad 18)])), (ad 1, .inl (cI, 8, .inl mver)), (ad 2, .inl (cI, 24, .inl mho)), (ad 3, .inl (cI, 24, .inl mki)), (ad 4, .inl (cJ, 24, .inr (.inl mgr))), (ad 5, .inl (cI, 24, .inl mli)), (ad 6, .inl (cI, 24, .inl min_))] s.heap := hP
  clear hAe hD0
  have hl := lv_entry ([.ref (ad 0), .int u1, .int u2, .long u3, .int u5]) (n := 6) (Nat.le_of_ble_eq_true rfl)
  rw [lg_entry_eq]
  generalize (lg_sl ([.ref (ad 0), .int u1, .int u2, .long u3, .int u5]) ++ List.replicate (6 - (lg_sl ([.ref (ad 0), .int u1, .int u2, .long u3, .int u5])).length) Slot.unset).toArray = ls at hl ⊢
  have hl : lv_has ls 6 [(0, .ref (ad 0)), (1, .int u1), (2, .int u2), (3, .long u3), (5, .int u5)] := hl
  unfold zf_Mo_part at hf
  refine lv_aload_n hx hb zd_Mo_part_0 rfl (lv_at hl 0 rfl) ?_
  refine va_get (D := (dC, dI)) (ci := 5) (v := .int mpn) (C := zR_Mo) (T := zT_Mo) (N := 24) hx hb hts (fun w h => hsub w (zi_Mo w h)) hown hK hP 0 rfl rfl 2 (by decide) (hw _ zq_445) (fun _ h9 => h9) rfl zd_Mo_part_1 ?_
  refine lv_bipush (v := 24) hx hb zd_Mo_part_4 (by decide) ?_
  refine lv_icmp_eq (tgt := 48) hx hb zd_Mo_part_6 (by decide) (fun c_1 => ?_) (fun c_1 => ?_)
  · have hf := mp_t c_1 hf
    refine lv_iconst (v := -1) hx hb zd_Mo_part_48 (by decide) ?_
    have hf := Option.some.inj hf
    subst hf
    exact W.iret (v := (-1 : Int32)) hx hb hr (fun t ht hW => ⟨⟨(-1 : Int32), (), rfl, rfl, by rw [ht]; exact hP, hD⟩, hS.F ht⟩) hS.2.2 zd_Mo_part_49
  · have hf := mp_f c_1 hf
    refine lv_aload_n hx hb zd_Mo_part_9 rfl (lv_at hl 0 rfl) ?_
    refine lv_iload_n hx hb zd_Mo_part_10 rfl (lv_at hl 1 rfl) ?_
    obtain ⟨y2, hg2, hf⟩ := mp_bd hf
    refine mp_Rz (va_runV (As := [.int u1]) (rest := []) ⟨hx, hb, hml, hown, hts⟩ (zc_Mo_isGood l dC dI cI cJ cZ ad mgc mpn mcn msz mwc mhf u1 y2 hg2) (cwV 1 hts (mp_gV hsub zq_524 zq_526 zq_9 zq_30 zq_527) rfl rfl rfl (by decide +kernel) ⟨Nat.le_of_ble_eq_true rfl, Nat.le_of_ble_eq_true rfl⟩) ⟨mp_blR, va_recv hK hP (ci := 5) (q0 := 0) rfl rfl, mp_preR hN hK (hP.sub [0] rfl)⟩ rfl rfl hl.1 rfl (lv_room (Nat.le_of_ble_eq_true rfl)) zd_Mo_part_11 ⟨Nat.zero_le _, Nat.zero_le _⟩) (fun hz2 => ?_)
    refine lv_if_eq (tgt := 48) hx hb zd_Mo_part_14 (by decide) (fun c_3 => ?_) (fun c_3 => ?_)
    · have hf := mp_t c_3 hf
      refine lv_iconst (v := -1) hx hb zd_Mo_part_48 (by decide) ?_
      have hf := Option.some.inj hf
      subst hf
      exact W.iret (v := (-1 : Int32)) hx hb hr (fun t ht hW => ⟨⟨(-1 : Int32), (), rfl, rfl, by rw [ht]; exact hP, hD⟩, hS.F ht⟩) hS.2.2 zd_Mo_part_49
    · have hf := mp_f c_3 hf
      refine lv_iload_n hx hb zd_Mo_part_17 rfl (lv_at hl 2 rfl) ?_
      obtain ⟨y4, hg4, hf⟩ := mp_bd hf
      refine mp_Rz (va_runS (As := [.int u2]) (rest := []) ⟨hx, hb, hml, hown, hts⟩ (zc_Mo_isKind l dC dI cI cJ cZ ad u2 y4 hg4) (va_cwS 1 hts (mp_gS hsub zq_528 zq_529 zq_30 zq_530) rfl rfl rfl (by decide +kernel) ⟨Nat.le_of_ble_eq_true rfl, Nat.le_of_ble_eq_true rfl⟩) ⟨mp_blR, mp_preR hN hK (hP.sub [] rfl)⟩ rfl rfl hl.1 rfl (lv_room (Nat.le_of_ble_eq_true rfl)) zd_Mo_part_18 ⟨Nat.zero_le _, Nat.zero_le _⟩) (fun hz4 => ?_)
      refine lv_if_eq (tgt := 48) hx hb zd_Mo_part_21 (by decide) (fun c_5 => ?_) (fun c_5 => ?_)
      · have hf := mp_t c_5 hf
        refine lv_iconst (v := -1) hx hb zd_Mo_part_48 (by decide) ?_
        have hf := Option.some.inj hf
        subst hf
        exact W.iret (v := (-1 : Int32)) hx hb hr (fun t ht hW => ⟨⟨(-1 : Int32), (), rfl, rfl, by rw [ht]; exact hP, hD⟩, hS.F ht⟩) hS.2.2 zd_Mo_part_49
      · have hf := mp_f c_5 hf
        refine lv_lload_n hx hb zd_Mo_part_24 rfl (lv_at hl 3 rfl) ?_
        refine lv_lconst (v := 0) hx hb zd_Mo_part_25 (by decide) ?_
        refine lv_ldc2 (v := 1000000000) hx hb hown (hw _ zq_531) zd_Mo_part_26 ?_
        obtain ⟨y6, hg6, hf⟩ := mp_bd hf
        refine mp_Rz (va_runS (As := [.long u3, .long (0 : Int64), .long (1000000000 : Int64)]) (rest := []) ⟨hx, hb, hml, hown, hts⟩ (zc_Mo_isIn l dC dI cI cJ cZ ad u3 (0 : Int64) (1000000000 : Int64) y6 hg6) (va_cwS 3 hts (mp_gS hsub zq_532 zq_533 zq_30 zq_534) rfl rfl rfl (by decide +kernel) ⟨Nat.le_of_ble_eq_true rfl, Nat.le_of_ble_eq_true rfl⟩) ⟨mp_blR, mp_preR hN hK (hP.sub [] rfl)⟩ rfl rfl hl.1 rfl (lv_room (Nat.le_of_ble_eq_true rfl)) zd_Mo_part_29 ⟨Nat.zero_le _, Nat.zero_le _⟩) (fun hz6 => ?_)
        refine lv_if_eq (tgt := 48) hx hb zd_Mo_part_32 (by decide) (fun c_7 => ?_) (fun c_7 => ?_)
        · have hf := mp_t c_7 hf
          refine lv_iconst (v := -1) hx hb zd_Mo_part_48 (by decide) ?_
          have hf := Option.some.inj hf
          subst hf
          exact W.iret (v := (-1 : Int32)) hx hb hr (fun t ht hW => ⟨⟨(-1 : Int32), (), rfl, rfl, by rw [ht]; exact hP, hD⟩, hS.F ht⟩) hS.2.2 zd_Mo_part_49
        · have hf := mp_f c_7 hf
          refine lv_iload hx hb zd_Mo_part_35 (lv_at hl 4 rfl) ?_
          refine lv_i2l hx hb zd_Mo_part_37 rfl ?_
          refine lv_lconst (v := 0) hx hb zd_Mo_part_38 (by decide) ?_
          refine lv_ldc2 (v := 200) hx hb hown (hw _ zq_535) zd_Mo_part_39 ?_
          obtain ⟨y8, hg8, hf⟩ := mp_bd hf
          refine mp_Rz (va_runS (As := [.long u5.toInt64, .long (0 : Int64), .long (200 : Int64)]) (rest := []) ⟨hx, hb, hml, hown, hts⟩ (zc_Mo_isIn l dC dI cI cJ cZ ad u5.toInt64 (0 : Int64) (200 : Int64) y8 hg8) (va_cwS 3 hts (mp_gS hsub zq_532 zq_533 zq_30 zq_534) rfl rfl rfl (by decide +kernel) ⟨Nat.le_of_ble_eq_true rfl, Nat.le_of_ble_eq_true rfl⟩) ⟨mp_blR, mp_preR hN hK (hP.sub [] rfl)⟩ rfl rfl hl.1 rfl (lv_room (Nat.le_of_ble_eq_true rfl)) zd_Mo_part_42 ⟨Nat.zero_le _, Nat.zero_le _⟩) (fun hz8 => ?_)
          refine lv_if_ne (tgt := 50) hx hb zd_Mo_part_45 (by decide) (fun c_9 => ?_) (fun c_9 => ?_)
          · have hf := mp_f c_9 hf
            refine lv_aload_n hx hb zd_Mo_part_50 rfl (lv_at hl 0 rfl) ?_
            refine va_get (D := (dC, dI)) (ci := 5) (v := .ref (ad 2)) (C := zR_Mo) (T := zT_Mo) (N := 24) hx hb hts (fun w h => hsub w (zi_Mo w h)) hown hK hP 0 rfl rfl 3 (by decide) (hw _ zq_446) (fun _ h9 => h9) rfl zd_Mo_part_51 ?_
            refine lv_aload_n hx hb zd_Mo_part_54 rfl (lv_at hl 0 rfl) ?_
            refine va_get (D := (dC, dI)) (ci := 5) (v := .int mpn) (C := zR_Mo) (T := zT_Mo) (N := 24) hx hb hts (fun w h => hsub w (zi_Mo w h)) hown hK hP 0 rfl rfl 2 (by decide) (hw _ zq_445) (fun _ h9 => h9) rfl zd_Mo_part_55 ?_
            refine lv_iload_n hx hb zd_Mo_part_58 rfl (lv_at hl 1 rfl) ?_
            obtain ⟨h_10, hf⟩ := mp_in hf
            refine va_iast hx hb hK hP hD hS 2 0 rfl rfl (i := mpn) (x := u1) h_10 zd_Mo_part_59 (fun H locs hP hD hS => ?_)
            have hP : va_P (dC, dI) vwCl [(ad 0, .inr (5, [.int mgc, .ref (ad 1), .int mpn, .ref (ad 2), .ref (ad 3), .ref (ad 4), .ref (ad 5), .ref (ad 6), .int mcn, .ref (ad 7), .ref (ad 8), .ref (ad 9), .ref (ad 10), .ref (ad 11), .ref (ad 12), .int msz, .ref (ad 13), .int mwc, .int mhf, .ref (ad 14), .ref (ad 15), .ref (ad 16), .ref (ad 17), .ref (ad 18)])), (ad 1, .inl (cI, 8, .inl mver)), (ad 2, .inl (cI, 24, .inl (upd mho mpn.toNatClampNeg u1))), (ad 3, .inl (cI, 24, .inl mki)), (ad 4, .inl (cJ, 24, .inr (.inl mgr))), (ad 5, .inl (cI, 24, .inl mli)), (ad 6, .inl (cI, 24, .inl min_))] H := hP
            have hD : va_D A [(ad 0, .inr (5, [.int mgc, .ref (ad 1), .int mpn, .ref (ad 2), .ref (ad 3), .ref (ad 4), .ref (ad 5), .ref (ad 6), .int mcn, .ref (ad 7), .ref (ad 8), .ref (ad 9), .ref (ad 10), .ref (ad 11), .ref (ad 12), .int msz, .ref (ad 13), .int mwc, .int mhf, .ref (ad 14), .ref (ad 15), .ref (ad 16), .ref (ad 17), .ref (ad 18)])), (ad 1, .inl (cI, 8, .inl mver)), (ad 2, .inl (cI, 24, .inl (upd mho mpn.toNatClampNeg u1))), (ad 3, .inl (cI, 24, .inl mki)), (ad 4, .inl (cJ, 24, .inr (.inl mgr))), (ad 5, .inl (cI, 24, .inl mli)), (ad 6, .inl (cI, 24, .inl min_))] := hD
            refine lv_aload_n hx hb zd_Mo_part_60 rfl (lv_at hl 0 rfl) ?_
            refine va_get (D := (dC, dI)) (ci := 5) (v := .ref (ad 3)) (C := zR_Mo) (T := zT_Mo) (N := 24) hx hb hts (fun w h => hsub w (zi_Mo w h)) hown hK hP 0 rfl rfl 4 (by decide) (hw _ zq_447) (fun _ h9 => h9) rfl zd_Mo_part_61 ?_
            refine lv_aload_n hx hb zd_Mo_part_64 rfl (lv_at hl 0 rfl) ?_
            refine va_get (D := (dC, dI)) (ci := 5) (v := .int mpn) (C := zR_Mo) (T := zT_Mo) (N := 24) hx hb hts (fun w h => hsub w (zi_Mo w h)) hown hK hP 0 rfl rfl 2 (by decide) (hw _ zq_445) (fun _ h9 => h9) rfl zd_Mo_part_65 ?_
            refine lv_iload_n hx hb zd_Mo_part_68 rfl (lv_at hl 2 rfl) ?_
            obtain ⟨h_11, hf⟩ := mp_in hf
            refine va_iast hx hb hK hP hD hS 3 0 rfl rfl (i := mpn) (x := u2) h_11 zd_Mo_part_69 (fun H locs hP hD hS => ?_)
            have hP : va_P (dC, dI) vwCl [(ad 0, .inr (5, [.int mgc, .ref (ad 1), .int mpn, .ref (ad 2), .ref (ad 3), .ref (ad 4), .ref (ad 5), .ref (ad 6), .int mcn, .ref (ad 7), .ref (ad 8), .ref (ad 9), .ref (ad 10), .ref (ad 11), .ref (ad 12), .int msz, .ref (ad 13), .int mwc, .int mhf, .ref (ad 14), .ref (ad 15), .ref (ad 16), .ref (ad 17), .ref (ad 18)])), (ad 1, .inl (cI, 8, .inl mver)), (ad 2, .inl (cI, 24, .inl (upd mho mpn.toNatClampNeg u1))), (ad 3, .inl (cI, 24, .inl (upd mki mpn.toNatClampNeg u2))), (ad 4, .inl (cJ, 24, .inr (.inl mgr))), (ad 5, .inl (cI, 24, .inl mli)), (ad 6, .inl (cI, 24, .inl min_))] H := hP
            have hD : va_D A [(ad 0, .inr (5, [.int mgc, .ref (ad 1), .int mpn, .ref (ad 2), .ref (ad 3), .ref (ad 4), .ref (ad 5), .ref (ad 6), .int mcn, .ref (ad 7), .ref (ad 8), .ref (ad 9), .ref (ad 10), .ref (ad 11), .ref (ad 12), .int msz, .ref (ad 13), .int mwc, .int mhf, .ref (ad 14), .ref (ad 15), .ref (ad 16), .ref (ad 17), .ref (ad 18)])), (ad 1, .inl (cI, 8, .inl mver)), (ad 2, .inl (cI, 24, .inl (upd mho mpn.toNatClampNeg u1))), (ad 3, .inl (cI, 24, .inl (upd mki mpn.toNatClampNeg u2))), (ad 4, .inl (cJ, 24, .inr (.inl mgr))), (ad 5, .inl (cI, 24, .inl mli)), (ad 6, .inl (cI, 24, .inl min_))] := hD
            refine lv_aload_n hx hb zd_Mo_part_70 rfl (lv_at hl 0 rfl) ?_
            refine va_get (D := (dC, dI)) (ci := 5) (v := .ref (ad 4)) (C := zR_Mo) (T := zT_Mo) (N := 24) hx hb hts (fun w h => hsub w (zi_Mo w h)) hown hK hP 0 rfl rfl 5 (by decide) (hw _ zq_448) (fun _ h9 => h9) rfl zd_Mo_part_71 ?_
            refine lv_aload_n hx hb zd_Mo_part_74 rfl (lv_at hl 0 rfl) ?_
            refine va_get (D := (dC, dI)) (ci := 5) (v := .int mpn) (C := zR_Mo) (T := zT_Mo) (N := 24) hx hb hts (fun w h => hsub w (zi_Mo w h)) hown hK hP 0 rfl rfl 2 (by decide) (hw _ zq_445) (fun _ h9 => h9) rfl zd_Mo_part_75 ?_
            refine lv_lload_n hx hb zd_Mo_part_78 rfl (lv_at hl 3 rfl) ?_
            obtain ⟨h_12, hf⟩ := mp_in hf
            refine va_last hx hb hK hP hD hS 4 1 rfl rfl (i := mpn) (x := u3) h_12 zd_Mo_part_79 (fun H locs hP hD hS => ?_)
            have hP : va_P (dC, dI) vwCl [(ad 0, .inr (5, [.int mgc, .ref (ad 1), .int mpn, .ref (ad 2), .ref (ad 3), .ref (ad 4), .ref (ad 5), .ref (ad 6), .int mcn, .ref (ad 7), .ref (ad 8), .ref (ad 9), .ref (ad 10), .ref (ad 11), .ref (ad 12), .int msz, .ref (ad 13), .int mwc, .int mhf, .ref (ad 14), .ref (ad 15), .ref (ad 16), .ref (ad 17), .ref (ad 18)])), (ad 1, .inl (cI, 8, .inl mver)), (ad 2, .inl (cI, 24, .inl (upd mho mpn.toNatClampNeg u1))), (ad 3, .inl (cI, 24, .inl (upd mki mpn.toNatClampNeg u2))), (ad 4, .inl (cJ, 24, .inr (.inl (vp_updL mgr mpn.toNatClampNeg u3)))), (ad 5, .inl (cI, 24, .inl mli)), (ad 6, .inl (cI, 24, .inl min_))] H := hP
            have hD : va_D A [(ad 0, .inr (5, [.int mgc, .ref (ad 1), .int mpn, .ref (ad 2), .ref (ad 3), .ref (ad 4), .ref (ad 5), .ref (ad 6), .int mcn, .ref (ad 7), .ref (ad 8), .ref (ad 9), .ref (ad 10), .ref (ad 11), .ref (ad 12), .int msz, .ref (ad 13), .int mwc, .int mhf, .ref (ad 14), .ref (ad 15), .ref (ad 16), .ref (ad 17), .ref (ad 18)])), (ad 1, .inl (cI, 8, .inl mver)), (ad 2, .inl (cI, 24, .inl (upd mho mpn.toNatClampNeg u1))), (ad 3, .inl (cI, 24, .inl (upd mki mpn.toNatClampNeg u2))), (ad 4, .inl (cJ, 24, .inr (.inl (vp_updL mgr mpn.toNatClampNeg u3)))), (ad 5, .inl (cI, 24, .inl mli)), (ad 6, .inl (cI, 24, .inl min_))] := hD
            refine lv_aload_n hx hb zd_Mo_part_80 rfl (lv_at hl 0 rfl) ?_
            refine va_get (D := (dC, dI)) (ci := 5) (v := .ref (ad 5)) (C := zR_Mo) (T := zT_Mo) (N := 24) hx hb hts (fun w h => hsub w (zi_Mo w h)) hown hK hP 0 rfl rfl 6 (by decide) (hw _ zq_449) (fun _ h9 => h9) rfl zd_Mo_part_81 ?_
            refine lv_aload_n hx hb zd_Mo_part_84 rfl (lv_at hl 0 rfl) ?_
            refine va_get (D := (dC, dI)) (ci := 5) (v := .int mpn) (C := zR_Mo) (T := zT_Mo) (N := 24) hx hb hts (fun w h => hsub w (zi_Mo w h)) hown hK hP 0 rfl rfl 2 (by decide) (hw _ zq_445) (fun _ h9 => h9) rfl zd_Mo_part_85 ?_
            refine lv_iload hx hb zd_Mo_part_88 (lv_at hl 4 rfl) ?_
            obtain ⟨h_13, hf⟩ := mp_in hf
            refine va_iast hx hb hK hP hD hS 5 0 rfl rfl (i := mpn) (x := u5) h_13 zd_Mo_part_90 (fun H locs hP hD hS => ?_)
            have hP : va_P (dC, dI) vwCl [(ad 0, .inr (5, [.int mgc, .ref (ad 1), .int mpn, .ref (ad 2), .ref (ad 3), .ref (ad 4), .ref (ad 5), .ref (ad 6), .int mcn, .ref (ad 7), .ref (ad 8), .ref (ad 9), .ref (ad 10), .ref (ad 11), .ref (ad 12), .int msz, .ref (ad 13), .int mwc, .int mhf, .ref (ad 14), .ref (ad 15), .ref (ad 16), .ref (ad 17), .ref (ad 18)])), (ad 1, .inl (cI, 8, .inl mver)), (ad 2, .inl (cI, 24, .inl (upd mho mpn.toNatClampNeg u1))), (ad 3, .inl (cI, 24, .inl (upd mki mpn.toNatClampNeg u2))), (ad 4, .inl (cJ, 24, .inr (.inl (vp_updL mgr mpn.toNatClampNeg u3)))), (ad 5, .inl (cI, 24, .inl (upd mli mpn.toNatClampNeg u5))), (ad 6, .inl (cI, 24, .inl min_))] H := hP
            have hD : va_D A [(ad 0, .inr (5, [.int mgc, .ref (ad 1), .int mpn, .ref (ad 2), .ref (ad 3), .ref (ad 4), .ref (ad 5), .ref (ad 6), .int mcn, .ref (ad 7), .ref (ad 8), .ref (ad 9), .ref (ad 10), .ref (ad 11), .ref (ad 12), .int msz, .ref (ad 13), .int mwc, .int mhf, .ref (ad 14), .ref (ad 15), .ref (ad 16), .ref (ad 17), .ref (ad 18)])), (ad 1, .inl (cI, 8, .inl mver)), (ad 2, .inl (cI, 24, .inl (upd mho mpn.toNatClampNeg u1))), (ad 3, .inl (cI, 24, .inl (upd mki mpn.toNatClampNeg u2))), (ad 4, .inl (cJ, 24, .inr (.inl (vp_updL mgr mpn.toNatClampNeg u3)))), (ad 5, .inl (cI, 24, .inl (upd mli mpn.toNatClampNeg u5))), (ad 6, .inl (cI, 24, .inl min_))] := hD
            refine lv_aload_n hx hb zd_Mo_part_91 rfl (lv_at hl 0 rfl) ?_
            refine va_get (D := (dC, dI)) (ci := 5) (v := .ref (ad 6)) (C := zR_Mo) (T := zT_Mo) (N := 24) hx hb hts (fun w h => hsub w (zi_Mo w h)) hown hK hP 0 rfl rfl 7 (by decide) (hw _ zq_450) (fun _ h9 => h9) rfl zd_Mo_part_92 ?_
            refine lv_aload_n hx hb zd_Mo_part_95 rfl (lv_at hl 0 rfl) ?_
            refine va_get (D := (dC, dI)) (ci := 5) (v := .int mpn) (C := zR_Mo) (T := zT_Mo) (N := 24) hx hb hts (fun w h => hsub w (zi_Mo w h)) hown hK hP 0 rfl rfl 2 (by decide) (hw _ zq_445) (fun _ h9 => h9) rfl zd_Mo_part_96 ?_
            refine lv_iconst (v := -1) hx hb zd_Mo_part_99 (by decide) ?_
            obtain ⟨h_14, hf⟩ := mp_in hf
            refine va_iast hx hb hK hP hD hS 6 0 rfl rfl (i := mpn) (x := (-1 : Int32)) h_14 zd_Mo_part_100 (fun H locs hP hD hS => ?_)
            have hP : va_P (dC, dI) vwCl [(ad 0, .inr (5, [.int mgc, .ref (ad 1), .int mpn, .ref (ad 2), .ref (ad 3), .ref (ad 4), .ref (ad 5), .ref (ad 6), .int mcn, .ref (ad 7), .ref (ad 8), .ref (ad 9), .ref (ad 10), .ref (ad 11), .ref (ad 12), .int msz, .ref (ad 13), .int mwc, .int mhf, .ref (ad 14), .ref (ad 15), .ref (ad 16), .ref (ad 17), .ref (ad 18)])), (ad 1, .inl (cI, 8, .inl mver)), (ad 2, .inl (cI, 24, .inl (upd mho mpn.toNatClampNeg u1))), (ad 3, .inl (cI, 24, .inl (upd mki mpn.toNatClampNeg u2))), (ad 4, .inl (cJ, 24, .inr (.inl (vp_updL mgr mpn.toNatClampNeg u3)))), (ad 5, .inl (cI, 24, .inl (upd mli mpn.toNatClampNeg u5))), (ad 6, .inl (cI, 24, .inl (upd min_ mpn.toNatClampNeg (-1 : Int32))))] H := hP
            have hD : va_D A [(ad 0, .inr (5, [.int mgc, .ref (ad 1), .int mpn, .ref (ad 2), .ref (ad 3), .ref (ad 4), .ref (ad 5), .ref (ad 6), .int mcn, .ref (ad 7), .ref (ad 8), .ref (ad 9), .ref (ad 10), .ref (ad 11), .ref (ad 12), .int msz, .ref (ad 13), .int mwc, .int mhf, .ref (ad 14), .ref (ad 15), .ref (ad 16), .ref (ad 17), .ref (ad 18)])), (ad 1, .inl (cI, 8, .inl mver)), (ad 2, .inl (cI, 24, .inl (upd mho mpn.toNatClampNeg u1))), (ad 3, .inl (cI, 24, .inl (upd mki mpn.toNatClampNeg u2))), (ad 4, .inl (cJ, 24, .inr (.inl (vp_updL mgr mpn.toNatClampNeg u3)))), (ad 5, .inl (cI, 24, .inl (upd mli mpn.toNatClampNeg u5))), (ad 6, .inl (cI, 24, .inl (upd min_ mpn.toNatClampNeg (-1 : Int32))))] := hD
            refine lv_aload_n hx hb zd_Mo_part_101 rfl (lv_at hl 0 rfl) ?_
            refine lv_dup hx hb zd_Mo_part_102 rfl ?_
            refine va_get (D := (dC, dI)) (ci := 5) (v := .int mpn) (C := zR_Mo) (T := zT_Mo) (N := 24) hx hb hts (fun w h => hsub w (zi_Mo w h)) hown hK hP 0 rfl rfl 2 (by decide) (hw _ zq_445) (fun _ h9 => h9) rfl zd_Mo_part_103 ?_
            refine lv_iconst (v := 1) hx hb zd_Mo_part_106 (by decide) ?_
            refine lv_iadd hx hb zd_Mo_part_107 ?_
            refine va_put (D := (dC, dI)) (ci := 5) (v := .int (mpn + (1 : Int32))) (ty := .int) (C := zR_Mo) (T := zT_Mo) (N := 24) hx hb hts (fun w h => hsub w (zi_Mo w h)) zt_Mo zt_Mo_ok zn_Mo hown hK hP hD hS 0 rfl rfl 2 (by decide) (hw _ zq_445) (fun _ h9 => h9) rfl (by decide +kernel) rfl rfl (Nat.le_of_ble_eq_true rfl) zd_Mo_part_108 (fun H locs hP hD hS => ?_)
            have hP : va_P (dC, dI) vwCl [(ad 0, .inr (5, [.int mgc, .ref (ad 1), .int (mpn + (1 : Int32)), .ref (ad 2), .ref (ad 3), .ref (ad 4), .ref (ad 5), .ref (ad 6), .int mcn, .ref (ad 7), .ref (ad 8), .ref (ad 9), .ref (ad 10), .ref (ad 11), .ref (ad 12), .int msz, .ref (ad 13), .int mwc, .int mhf, .ref (ad 14), .ref (ad 15), .ref (ad 16), .ref (ad 17), .ref (ad 18)])), (ad 1, .inl (cI, 8, .inl mver)), (ad 2, .inl (cI, 24, .inl (upd mho mpn.toNatClampNeg u1))), (ad 3, .inl (cI, 24, .inl (upd mki mpn.toNatClampNeg u2))), (ad 4, .inl (cJ, 24, .inr (.inl (vp_updL mgr mpn.toNatClampNeg u3)))), (ad 5, .inl (cI, 24, .inl (upd mli mpn.toNatClampNeg u5))), (ad 6, .inl (cI, 24, .inl (upd min_ mpn.toNatClampNeg (-1 : Int32))))] H := hP
            have hD : va_D A [(ad 0, .inr (5, [.int mgc, .ref (ad 1), .int (mpn + (1 : Int32)), .ref (ad 2), .ref (ad 3), .ref (ad 4), .ref (ad 5), .ref (ad 6), .int mcn, .ref (ad 7), .ref (ad 8), .ref (ad 9), .ref (ad 10), .ref (ad 11), .ref (ad 12), .int msz, .ref (ad 13), .int mwc, .int mhf, .ref (ad 14), .ref (ad 15), .ref (ad 16), .ref (ad 17), .ref (ad 18)])), (ad 1, .inl (cI, 8, .inl mver)), (ad 2, .inl (cI, 24, .inl (upd mho mpn.toNatClampNeg u1))), (ad 3, .inl (cI, 24, .inl (upd mki mpn.toNatClampNeg u2))), (ad 4, .inl (cJ, 24, .inr (.inl (vp_updL mgr mpn.toNatClampNeg u3)))), (ad 5, .inl (cI, 24, .inl (upd mli mpn.toNatClampNeg u5))), (ad 6, .inl (cI, 24, .inl (upd min_ mpn.toNatClampNeg (-1 : Int32))))] := hD
            refine lv_aload_n hx hb zd_Mo_part_111 rfl (lv_at hl 0 rfl) ?_
            refine va_get (D := (dC, dI)) (ci := 5) (v := .ref (ad 1)) (C := zR_Mo) (T := zT_Mo) (N := 24) hx hb hts (fun w h => hsub w (zi_Mo w h)) hown hK hP 0 rfl rfl 1 (by decide) (hw _ zq_444) (fun _ h9 => h9) rfl zd_Mo_part_112 ?_
            refine lv_iload_n hx hb zd_Mo_part_115 rfl (lv_at hl 1 rfl) ?_
            refine lv_dup2_11 hx hb zd_Mo_part_116 rfl rfl ?_
            obtain ⟨h_15, hf⟩ := mp_in hf
            refine va_iald hx hb hK hP 1 0 rfl rfl (i := u1) h_15 zd_Mo_part_117 ?_
            refine lv_iconst (v := 1) hx hb zd_Mo_part_118 (by decide) ?_
            refine lv_iadd hx hb zd_Mo_part_119 ?_
            obtain ⟨h_16, hf⟩ := mp_in hf
            refine va_iast hx hb hK hP hD hS 1 0 rfl rfl (i := u1) (x := ((mver u1.toNatClampNeg) + (1 : Int32))) h_16 zd_Mo_part_120 (fun H locs hP hD hS => ?_)
            have hP : va_P (dC, dI) vwCl [(ad 0, .inr (5, [.int mgc, .ref (ad 1), .int (mpn + (1 : Int32)), .ref (ad 2), .ref (ad 3), .ref (ad 4), .ref (ad 5), .ref (ad 6), .int mcn, .ref (ad 7), .ref (ad 8), .ref (ad 9), .ref (ad 10), .ref (ad 11), .ref (ad 12), .int msz, .ref (ad 13), .int mwc, .int mhf, .ref (ad 14), .ref (ad 15), .ref (ad 16), .ref (ad 17), .ref (ad 18)])), (ad 1, .inl (cI, 8, .inl (upd mver u1.toNatClampNeg ((mver u1.toNatClampNeg) + (1 : Int32))))), (ad 2, .inl (cI, 24, .inl (upd mho mpn.toNatClampNeg u1))), (ad 3, .inl (cI, 24, .inl (upd mki mpn.toNatClampNeg u2))), (ad 4, .inl (cJ, 24, .inr (.inl (vp_updL mgr mpn.toNatClampNeg u3)))), (ad 5, .inl (cI, 24, .inl (upd mli mpn.toNatClampNeg u5))), (ad 6, .inl (cI, 24, .inl (upd min_ mpn.toNatClampNeg (-1 : Int32))))] H := hP
            have hD : va_D A [(ad 0, .inr (5, [.int mgc, .ref (ad 1), .int (mpn + (1 : Int32)), .ref (ad 2), .ref (ad 3), .ref (ad 4), .ref (ad 5), .ref (ad 6), .int mcn, .ref (ad 7), .ref (ad 8), .ref (ad 9), .ref (ad 10), .ref (ad 11), .ref (ad 12), .int msz, .ref (ad 13), .int mwc, .int mhf, .ref (ad 14), .ref (ad 15), .ref (ad 16), .ref (ad 17), .ref (ad 18)])), (ad 1, .inl (cI, 8, .inl (upd mver u1.toNatClampNeg ((mver u1.toNatClampNeg) + (1 : Int32))))), (ad 2, .inl (cI, 24, .inl (upd mho mpn.toNatClampNeg u1))), (ad 3, .inl (cI, 24, .inl (upd mki mpn.toNatClampNeg u2))), (ad 4, .inl (cJ, 24, .inr (.inl (vp_updL mgr mpn.toNatClampNeg u3)))), (ad 5, .inl (cI, 24, .inl (upd mli mpn.toNatClampNeg u5))), (ad 6, .inl (cI, 24, .inl (upd min_ mpn.toNatClampNeg (-1 : Int32))))] := hD
            refine lv_aload_n hx hb zd_Mo_part_121 rfl (lv_at hl 0 rfl) ?_
            refine va_get (D := (dC, dI)) (ci := 5) (v := .int (mpn + (1 : Int32))) (C := zR_Mo) (T := zT_Mo) (N := 24) hx hb hts (fun w h => hsub w (zi_Mo w h)) hown hK hP 0 rfl rfl 2 (by decide) (hw _ zq_445) (fun _ h9 => h9) rfl zd_Mo_part_122 ?_
            refine lv_iconst (v := 1) hx hb zd_Mo_part_125 (by decide) ?_
            refine lv_isub hx hb zd_Mo_part_126 ?_
            have hf := Option.some.inj hf
            subst hf
            exact W.iret (v := ((mpn + (1 : Int32)) - (1 : Int32))) hx hb hr (fun t ht hW => ⟨⟨((mpn + (1 : Int32)) - (1 : Int32)), (), rfl, rfl, by rw [ht]; exact hP, hD⟩, hS.F ht⟩) hS.2.2 zd_Mo_part_127
          · have hf := mp_t c_9 hf
            refine lv_iconst (v := -1) hx hb zd_Mo_part_48 (by decide) ?_
            have hf := Option.some.inj hf
            subst hf
            exact W.iret (v := (-1 : Int32)) hx hb hr (fun t ht hW => ⟨⟨(-1 : Int32), (), rfl, rfl, by rw [ht]; exact hP, hD⟩, hS.F ht⟩) hS.2.2 zd_Mo_part_49
set_option maxHeartbeats 4000000 in
set_option maxRecDepth 100000 in
theorem zc_Mo_isPart (l : Launch) (dC : Nat → ClassId) (dI : Nat → Nat → Nat) (cI cJ cZ : ClassId) (ad : Nat → Nat) (mgc : Int32) (mpn : Int32) (mcn : Int32) (msz : Int32) (mwc : Int32) (mhf : Int32) (u1 : Int32) (res : Int32) (hf : zf_Mo_isPart u1 mpn = some res) : Met l zy_Mo_isPart zw_Mo_isPart ({ frames := 0, cells := 0, slots := 0, locals := 0 } : Room) (mp_PR (dC, dI) vwCl (mp_tys cI cJ cZ) [(ad 0, .inr (5, [.int mgc, .ref (ad 1), .int mpn, .ref (ad 2), .ref (ad 3), .ref (ad 4), .ref (ad 5), .ref (ad 6), .int mcn, .ref (ad 7), .ref (ad 8), .ref (ad 9), .ref (ad 10), .ref (ad 11), .ref (ad 12), .int msz, .ref (ad 13), .int mwc, .int mhf, .ref (ad 14), .ref (ad 15), .ref (ad 16), .ref (ad 17), .ref (ad 18)]))] [.ref (ad 0), .int u1]) (vp_Si (fun r => r = res ∧ mp_b res)) 0 0 (fun _ => False) := by
  refine Met.ofW (cc := zb_Mo_isPart) (maxL := 2) (ret := (some .boolean)) (by decide) rfl ?_
  intro p e s m args below meth c s₁ B hml hv
  obtain ⟨rfl, hP, hK, hN⟩ := hv
  have hx := B.exec
  have hb := B.bytes
  have hr := B.returns
  have hts := atoms_spec (ws := zw_Mo_isPart) B.pre
  have hsub : ∀ w ∈ mp_tbl, w ∈ zw_Mo_isPart := fun w h => List.mem_cons_of_mem _ h
  have hw : ∀ w ∈ mp_tbl, w.before _ s = true := fun w h => hts w (hsub w h)
  have hown : s.vm.findClass zR_Mo = some m.cls := findClass_of_methodNamed B.named
  have hlocks := B.notSynchronized
  have hl := lv_entry ([.ref (ad 0), .int u1]) (n := 2) (Nat.le_of_ble_eq_true rfl)
  rw [lg_entry_eq]
  generalize (lg_sl ([.ref (ad 0), .int u1]) ++ List.replicate (2 - (lg_sl ([.ref (ad 0), .int u1])).length) Slot.unset).toArray = ls at hl ⊢
  have hl : lv_has ls 2 [(0, .ref (ad 0)), (1, .int u1)] := hl
  unfold zf_Mo_isPart at hf
  refine lv_iload_n hx hb zd_Mo_isPart_0 rfl (lv_at hl 1 rfl) ?_
  refine lv_if_lt (tgt := 16) hx hb zd_Mo_isPart_1 (by decide) (fun c_1 => ?_) (fun c_1 => ?_)
  · have hf := mp_t c_1 hf
    refine lv_iconst (v := 0) hx hb zd_Mo_isPart_16 (by decide) ?_
    have hf := Option.some.inj hf
    subst hf
    exact W.zret (v := (0 : Int32)) hx hb hr (mp_nz (Or.inl rfl)) (fun t ht hW => ⟨(0 : Int32), rfl, ⟨rfl, (Or.inl rfl)⟩, ht⟩) (fun q h => by cases h) zd_Mo_isPart_17
  · have hf := mp_f c_1 hf
    refine lv_iload_n hx hb zd_Mo_isPart_4 rfl (lv_at hl 1 rfl) ?_
    refine lv_aload_n hx hb zd_Mo_isPart_5 rfl (lv_at hl 0 rfl) ?_
    refine va_get (D := (dC, dI)) (ci := 5) (v := .int mpn) (C := zR_Mo) (T := zT_Mo) (N := 24) hx hb hts (fun w h => hsub w (zi_Mo w h)) hown hK hP 0 rfl rfl 2 (by decide) (hw _ zq_445) (fun _ h9 => h9) rfl zd_Mo_isPart_6 ?_
    refine lv_icmp_ge (tgt := 16) hx hb zd_Mo_isPart_9 (by decide) (fun c_2 => ?_) (fun c_2 => ?_)
    · have hf := mp_t c_2 hf
      refine lv_iconst (v := 0) hx hb zd_Mo_isPart_16 (by decide) ?_
      have hf := Option.some.inj hf
      subst hf
      exact W.zret (v := (0 : Int32)) hx hb hr (mp_nz (Or.inl rfl)) (fun t ht hW => ⟨(0 : Int32), rfl, ⟨rfl, (Or.inl rfl)⟩, ht⟩) (fun q h => by cases h) zd_Mo_isPart_17
    · have hf := mp_f c_2 hf
      refine lv_iconst (v := 1) hx hb zd_Mo_isPart_12 (by decide) ?_
      refine lv_goto (tgt := 17) hx hb zd_Mo_isPart_13 (by decide) ?_
      have hf := Option.some.inj hf
      subst hf
      exact W.zret (v := (1 : Int32)) hx hb hr (mp_nz (Or.inr rfl)) (fun t ht hW => ⟨(1 : Int32), rfl, ⟨rfl, (Or.inr rfl)⟩, ht⟩) (fun q h => by cases h) zd_Mo_isPart_17
set_option maxHeartbeats 4000000 in
set_option maxRecDepth 100000 in
theorem zc_Mo_inside (l : Launch) (dC : Nat → ClassId) (dI : Nat → Nat → Nat) (cI cJ cZ : ClassId) (ad : Nat → Nat) (mgc : Int32) (mpn : Int32) (mcn : Int32) (msz : Int32) (mwc : Int32) (mhf : Int32) (mho : Nat → Int32) (min_ : Nat → Int32) (u1 : Int32) (res : Int32) (hf : zf_Mo_inside u1 mpn mho min_ = some res) : Met l zy_Mo_inside zw_Mo_inside ({ frames := 0, cells := 0, slots := 0, locals := 0 } : Room) (mp_PR (dC, dI) vwCl (mp_tys cI cJ cZ) [(ad 0, .inr (5, [.int mgc, .ref (ad 1), .int mpn, .ref (ad 2), .ref (ad 3), .ref (ad 4), .ref (ad 5), .ref (ad 6), .int mcn, .ref (ad 7), .ref (ad 8), .ref (ad 9), .ref (ad 10), .ref (ad 11), .ref (ad 12), .int msz, .ref (ad 13), .int mwc, .int mhf, .ref (ad 14), .ref (ad 15), .ref (ad 16), .ref (ad 17), .ref (ad 18)])), (ad 2, .inl (cI, 24, .inl mho)), (ad 6, .inl (cI, 24, .inl min_))] [.ref (ad 0), .int u1]) (vp_Si (fun r => r = res)) 0 0 (fun _ => False) := by
  refine Met.ofW (cc := zb_Mo_inside) (maxL := 5) (ret := (some .int)) (by decide) rfl ?_
  intro p e s m args below meth c s₁ B hml hv
  obtain ⟨rfl, hP, hK, hN⟩ := hv
  have hx := B.exec
  have hb := B.bytes
  have hr := B.returns
  have hts := atoms_spec (ws := zw_Mo_inside) B.pre
  have hsub : ∀ w ∈ mp_tbl, w ∈ zw_Mo_inside := fun w h => List.mem_cons_of_mem _ h
  have hw : ∀ w ∈ mp_tbl, w.before _ s = true := fun w h => hts w (hsub w h)
  have hown : s.vm.findClass zR_Mo = some m.cls := findClass_of_methodNamed B.named
  have hlocks := B.notSynchronized
  have loop15 : ∀ (v1 : Int32) (v3 : Int32) (K6 : Int32 → Int32 → Option (Int32)) (hk6 : ∀ (v2 : Int32) (v3 : Int32) (ls : Array Slot), K6 v2 v3 = some res → lv_has ls 5 [(0, .ref (ad 0)), (1, .int v1), (2, .int v2), (3, .int v3)] → W p l e (headSpec zw_Mo_inside ({ frames := 0, cells := 0, slots := 0, locals := 0 } : Room)).room s m ([.ref (ad 0), .int u1] : List Value).toArray below meth c s.heap [] 0 0 (MQ below (vp_Si (fun r => r = res)) ([.ref (ad 0), .int u1] : List Value).toArray s 0 0 (fun _ => False)) (F0 m 6 ls [])) (n : Nat) (v2 : Int32) (v4 : Int32) (ls : Array Slot), zf_Mo_inside_L15 v1 v3 mpn mho min_ K6 n v2 v4 = some res → lv_has ls 5 [(0, .ref (ad 0)), (1, .int v1), (2, .int v2), (3, .int v3), (4, .int v4)] → W p l e (headSpec zw_Mo_inside ({ frames := 0, cells := 0, slots := 0, locals := 0 } : Room)).room s m ([.ref (ad 0), .int u1] : List Value).toArray below meth c s.heap [] 0 0 (MQ below (vp_Si (fun r => r = res)) ([.ref (ad 0), .int u1] : List Value).toArray s 0 0 (fun _ => False)) (F0 m 15 ls []) := by
    intro v1 v3 K6 hk6 n
    induction n with
    | zero => intro v2 v4 ls hf; simp [zf_Mo_inside_L15] at hf
    | succ n ih =>
      intro v2 v4 ls hf hl
      rw [zf_Mo_inside_L15] at hf
      refine lv_iload hx hb zd_Mo_inside_15 (lv_at hl 4 rfl) ?_
      refine lv_aload_n hx hb zd_Mo_inside_17 rfl (lv_at hl 0 rfl) ?_
      refine va_get (D := (dC, dI)) (ci := 5) (v := .int mpn) (C := zR_Mo) (T := zT_Mo) (N := 24) hx hb hts (fun w h => hsub w (zi_Mo w h)) hown hK hP 0 rfl rfl 2 (by decide) (hw _ zq_445) (fun _ h9 => h9) rfl zd_Mo_inside_18 ?_
      refine lv_icmp_ge (tgt := 71) hx hb zd_Mo_inside_21 (by decide) (fun c_2 => ?_) (fun c_2 => ?_)
      · have hf := mp_t c_2 hf
        refine lv_iinc (v := (v3 + (1 : Int32))) (lv' := [(3, .int (v3 + (1 : Int32))), (0, .ref (ad 0)), (1, .int v1), (2, .int v2), (4, .int v4)]) hx hb zd_Mo_inside_71 hl (k := 3) rfl rfl (by decide) rfl (fun ls hl => ?_)
        refine lv_goto (tgt := 6) hx hb zd_Mo_inside_74 (by decide) ?_
        exact hk6 v2 (v3 + (1 : Int32)) _ hf (lv_sub hl [1, 2, 3, 0] rfl)
      · have hf := mp_f c_2 hf
        refine lv_iload_n hx hb zd_Mo_inside_24 rfl (lv_at hl 2 rfl) ?_
        refine lv_iload_n hx hb zd_Mo_inside_25 rfl (lv_at hl 2 rfl) ?_
        refine lv_aload_n hx hb zd_Mo_inside_26 rfl (lv_at hl 0 rfl) ?_
        refine va_get (D := (dC, dI)) (ci := 5) (v := .ref (ad 2)) (C := zR_Mo) (T := zT_Mo) (N := 24) hx hb hts (fun w h => hsub w (zi_Mo w h)) hown hK hP 0 rfl rfl 3 (by decide) (hw _ zq_446) (fun _ h9 => h9) rfl zd_Mo_inside_27 ?_
        refine lv_iload hx hb zd_Mo_inside_30 (lv_at hl 4 rfl) ?_
        obtain ⟨h_3, hf⟩ := mp_in hf
        refine va_iald hx hb hK hP 1 0 rfl rfl (i := v4) h_3 zd_Mo_inside_32 ?_
        refine lv_ishr hx hb zd_Mo_inside_33 ?_
        refine lv_iconst (v := 1) hx hb zd_Mo_inside_34 (by decide) ?_
        refine lv_iand hx hb zd_Mo_inside_35 ?_
        refine lv_iconst (v := 1) hx hb zd_Mo_inside_36 (by decide) ?_
        refine lv_icmp_ne (tgt := 62) hx hb zd_Mo_inside_37 (by decide) (fun c_4 => ?_) (fun c_4 => ?_)
        · have hf := mp_f c_4 hf
          refine lv_iconst (v := 0) hx hb zd_Mo_inside_62 (by decide) ?_
          refine lv_ior hx hb zd_Mo_inside_63 ?_
          refine lv_istore_n (lv' := [(2, .int (v2 ||| (0 : Int32))), (0, .ref (ad 0)), (1, .int v1), (3, .int v3), (4, .int v4)]) hx hb zd_Mo_inside_64 rfl hl (by decide) rfl (fun ls hl => ?_)
          refine lv_iinc (v := (v4 + (1 : Int32))) (lv' := [(4, .int (v4 + (1 : Int32))), (2, .int (v2 ||| (0 : Int32))), (0, .ref (ad 0)), (1, .int v1), (3, .int v3)]) hx hb zd_Mo_inside_65 hl (k := 4) rfl rfl (by decide) rfl (fun ls hl => ?_)
          refine lv_goto (tgt := 15) hx hb zd_Mo_inside_68 (by decide) ?_
          exact ih (v2 ||| (0 : Int32)) (v4 + (1 : Int32)) _ hf (lv_sub hl [2, 3, 1, 4, 0] rfl)
        · have hf := mp_t c_4 hf
          refine lv_aload_n hx hb zd_Mo_inside_40 rfl (lv_at hl 0 rfl) ?_
          refine va_get (D := (dC, dI)) (ci := 5) (v := .ref (ad 6)) (C := zR_Mo) (T := zT_Mo) (N := 24) hx hb hts (fun w h => hsub w (zi_Mo w h)) hown hK hP 0 rfl rfl 7 (by decide) (hw _ zq_450) (fun _ h9 => h9) rfl zd_Mo_inside_41 ?_
          refine lv_iload hx hb zd_Mo_inside_44 (lv_at hl 4 rfl) ?_
          obtain ⟨h_5, hf⟩ := mp_in hf
          refine va_iald hx hb hK hP 2 0 rfl rfl (i := v4) h_5 zd_Mo_inside_46 ?_
          refine lv_if_lt (tgt := 62) hx hb zd_Mo_inside_47 (by decide) (fun c_6 => ?_) (fun c_6 => ?_)
          · have hf := mp_t c_6 hf
            refine lv_iconst (v := 0) hx hb zd_Mo_inside_62 (by decide) ?_
            refine lv_ior hx hb zd_Mo_inside_63 ?_
            refine lv_istore_n (lv' := [(2, .int (v2 ||| (0 : Int32))), (0, .ref (ad 0)), (1, .int v1), (3, .int v3), (4, .int v4)]) hx hb zd_Mo_inside_64 rfl hl (by decide) rfl (fun ls hl => ?_)
            refine lv_iinc (v := (v4 + (1 : Int32))) (lv' := [(4, .int (v4 + (1 : Int32))), (2, .int (v2 ||| (0 : Int32))), (0, .ref (ad 0)), (1, .int v1), (3, .int v3)]) hx hb zd_Mo_inside_65 hl (k := 4) rfl rfl (by decide) rfl (fun ls hl => ?_)
            refine lv_goto (tgt := 15) hx hb zd_Mo_inside_68 (by decide) ?_
            exact ih (v2 ||| (0 : Int32)) (v4 + (1 : Int32)) _ hf (lv_sub hl [2, 3, 1, 4, 0] rfl)
          · have hf := mp_f c_6 hf
            refine lv_iconst (v := 1) hx hb zd_Mo_inside_50 (by decide) ?_
            refine lv_aload_n hx hb zd_Mo_inside_51 rfl (lv_at hl 0 rfl) ?_
            refine va_get (D := (dC, dI)) (ci := 5) (v := .ref (ad 6)) (C := zR_Mo) (T := zT_Mo) (N := 24) hx hb hts (fun w h => hsub w (zi_Mo w h)) hown hK hP 0 rfl rfl 7 (by decide) (hw _ zq_450) (fun _ h9 => h9) rfl zd_Mo_inside_52 ?_
            refine lv_iload hx hb zd_Mo_inside_55 (lv_at hl 4 rfl) ?_
            obtain ⟨h_7, hf⟩ := mp_in hf
            refine va_iald hx hb hK hP 2 0 rfl rfl (i := v4) h_7 zd_Mo_inside_57 ?_
            refine lv_ishl hx hb zd_Mo_inside_58 ?_
            refine lv_goto (tgt := 63) hx hb zd_Mo_inside_59 (by decide) ?_
            refine lv_ior hx hb zd_Mo_inside_63 ?_
            refine lv_istore_n (lv' := [(2, .int (v2 ||| ((1 : Int32) <<< ((min_ v4.toNatClampNeg) &&& 31)))), (0, .ref (ad 0)), (1, .int v1), (3, .int v3), (4, .int v4)]) hx hb zd_Mo_inside_64 rfl hl (by decide) rfl (fun ls hl => ?_)
            refine lv_iinc (v := (v4 + (1 : Int32))) (lv' := [(4, .int (v4 + (1 : Int32))), (2, .int (v2 ||| ((1 : Int32) <<< ((min_ v4.toNatClampNeg) &&& 31)))), (0, .ref (ad 0)), (1, .int v1), (3, .int v3)]) hx hb zd_Mo_inside_65 hl (k := 4) rfl rfl (by decide) rfl (fun ls hl => ?_)
            refine lv_goto (tgt := 15) hx hb zd_Mo_inside_68 (by decide) ?_
            exact ih (v2 ||| ((1 : Int32) <<< ((min_ v4.toNatClampNeg) &&& 31))) (v4 + (1 : Int32)) _ hf (lv_sub hl [2, 3, 1, 4, 0] rfl)
  have loop6 : ∀ (v1 : Int32) (n : Nat) (v2 : Int32) (v3 : Int32) (ls : Array Slot), zf_Mo_inside_L6 v1 mpn mho min_ n v2 v3 = some res → lv_has ls 5 [(0, .ref (ad 0)), (1, .int v1), (2, .int v2), (3, .int v3)] → W p l e (headSpec zw_Mo_inside ({ frames := 0, cells := 0, slots := 0, locals := 0 } : Room)).room s m ([.ref (ad 0), .int u1] : List Value).toArray below meth c s.heap [] 0 0 (MQ below (vp_Si (fun r => r = res)) ([.ref (ad 0), .int u1] : List Value).toArray s 0 0 (fun _ => False)) (F0 m 6 ls []) := by
    intro v1 n
    induction n with
    | zero => intro v2 v3 ls hf; simp [zf_Mo_inside_L6] at hf
    | succ n ih =>
      intro v2 v3 ls hf hl
      rw [zf_Mo_inside_L6] at hf
      refine lv_iload_n hx hb zd_Mo_inside_6 rfl (lv_at hl 3 rfl) ?_
      refine lv_bipush (v := 8) hx hb zd_Mo_inside_7 (by decide) ?_
      refine lv_icmp_ge (tgt := 77) hx hb zd_Mo_inside_9 (by decide) (fun c_1 => ?_) (fun c_1 => ?_)
      · have hf := mp_t c_1 hf
        refine lv_iload_n hx hb zd_Mo_inside_77 rfl (lv_at hl 2 rfl) ?_
        have hf := Option.some.inj hf
        subst hf
        exact W.iret (v := v2) hx hb hr (fun t ht hW => ⟨v2, rfl, rfl, ht⟩) (fun q h => by cases h) zd_Mo_inside_78
      · have hf := mp_f c_1 hf
        refine lv_iconst (v := 0) hx hb zd_Mo_inside_12 (by decide) ?_
        refine lv_istore (lv' := [(4, .int (0 : Int32)), (0, .ref (ad 0)), (1, .int v1), (2, .int v2), (3, .int v3)]) hx hb zd_Mo_inside_13 hl (by decide) rfl (fun ls hl => ?_)
        exact loop15 v1 v3 (fun uv2 uv3 => zf_Mo_inside_L6 v1 mpn mho min_ n uv2 uv3) ih 2000 v2 (0 : Int32) _ hf (lv_sub hl [1, 2, 3, 4, 0] rfl)
  have hl := lv_entry ([.ref (ad 0), .int u1]) (n := 5) (Nat.le_of_ble_eq_true rfl)
  rw [lg_entry_eq]
  generalize (lg_sl ([.ref (ad 0), .int u1]) ++ List.replicate (5 - (lg_sl ([.ref (ad 0), .int u1])).length) Slot.unset).toArray = ls at hl ⊢
  have hl : lv_has ls 5 [(0, .ref (ad 0)), (1, .int u1)] := hl
  unfold zf_Mo_inside at hf
  refine lv_iconst (v := 1) hx hb zd_Mo_inside_0 (by decide) ?_
  refine lv_iload_n hx hb zd_Mo_inside_1 rfl (lv_at hl 1 rfl) ?_
  refine lv_ishl hx hb zd_Mo_inside_2 ?_
  refine lv_istore_n (lv' := [(2, .int ((1 : Int32) <<< (u1 &&& 31))), (0, .ref (ad 0)), (1, .int u1)]) hx hb zd_Mo_inside_3 rfl hl (by decide) rfl (fun ls hl => ?_)
  refine lv_iconst (v := 0) hx hb zd_Mo_inside_4 (by decide) ?_
  refine lv_istore_n (lv' := [(3, .int (0 : Int32)), (2, .int ((1 : Int32) <<< (u1 &&& 31))), (0, .ref (ad 0)), (1, .int u1)]) hx hb zd_Mo_inside_5 rfl hl (by decide) rfl (fun ls hl => ?_)
  exact loop6 u1 2000 ((1 : Int32) <<< (u1 &&& 31)) (0 : Int32) _ hf (lv_sub hl [2, 3, 1, 0] rfl)
set_option maxHeartbeats 4000000 in
set_option maxRecDepth 100000 in
theorem zc_Mo_into (l : Launch) (dC : Nat → ClassId) (dI : Nat → Nat → Nat) (cI cJ cZ : ClassId) (ad : Nat → Nat) (sz : Nat) (mgc : Int32) (mpn : Int32) (mcn : Int32) (msz : Int32) (mwc : Int32) (mhf : Int32) (mver : Nat → Int32) (mho : Nat → Int32) (min_ : Nat → Int32) (u1 : Int32) (u2 : Int32) (res : Int32 × (Nat → Int32) × (Nat → Int32)) (hf : zf_Mo_into u1 u2 mgc mpn mver mho min_ = some res) : Met l zy_Mo_into zw_Mo_into ({ frames := 1, cells := 0, slots := 0, locals := 24 } : Room) (mp_PM (dC, dI) vwCl (mp_tys cI cJ cZ) [(ad 0, .inr (5, [.int mgc, .ref (ad 1), .int mpn, .ref (ad 2), .ref (ad 3), .ref (ad 4), .ref (ad 5), .ref (ad 6), .int mcn, .ref (ad 7), .ref (ad 8), .ref (ad 9), .ref (ad 10), .ref (ad 11), .ref (ad 12), .int msz, .ref (ad 13), .int mwc, .int mhf, .ref (ad 14), .ref (ad 15), .ref (ad 16), .ref (ad 17), .ref (ad 18)])), (ad 1, .inl (cI, 8, .inl mver)), (ad 2, .inl (cI, 24, .inl mho)), (ad 6, .inl (cI, 24, .inl min_))] sz [.ref (ad 0), .int u1, .int u2]) (va_Qi (fun r (_ : Unit) => r = res.1 ∧ mp_b res.1) (mp_BM (dC, dI) vwCl [(ad 0, .inr (5, [.int mgc, .ref (ad 1), .int mpn, .ref (ad 2), .ref (ad 3), .ref (ad 4), .ref (ad 5), .ref (ad 6), .int mcn, .ref (ad 7), .ref (ad 8), .ref (ad 9), .ref (ad 10), .ref (ad 11), .ref (ad 12), .int msz, .ref (ad 13), .int mwc, .int mhf, .ref (ad 14), .ref (ad 15), .ref (ad 16), .ref (ad 17), .ref (ad 18)])), (ad 1, .inl (cI, 8, .inl res.2.1)), (ad 2, .inl (cI, 24, .inl mho)), (ad 6, .inl (cI, 24, .inl res.2.2))] (va_A [(ad 0, .inr (5, [.int mgc, .ref (ad 1), .int mpn, .ref (ad 2), .ref (ad 3), .ref (ad 4), .ref (ad 5), .ref (ad 6), .int mcn, .ref (ad 7), .ref (ad 8), .ref (ad 9), .ref (ad 10), .ref (ad 11), .ref (ad 12), .int msz, .ref (ad 13), .int mwc, .int mhf, .ref (ad 14), .ref (ad 15), .ref (ad 16), .ref (ad 17), .ref (ad 18)])), (ad 1, .inl (cI, 8, .inl mver)), (ad 2, .inl (cI, 24, .inl mho)), (ad 6, .inl (cI, 24, .inl min_))] sz)) (va_A [(ad 0, .inr (5, [.int mgc, .ref (ad 1), .int mpn, .ref (ad 2), .ref (ad 3), .ref (ad 4), .ref (ad 5), .ref (ad 6), .int mcn, .ref (ad 7), .ref (ad 8), .ref (ad 9), .ref (ad 10), .ref (ad 11), .ref (ad 12), .int msz, .ref (ad 13), .int mwc, .int mhf, .ref (ad 14), .ref (ad 15), .ref (ad 16), .ref (ad 17), .ref (ad 18)])), (ad 1, .inl (cI, 8, .inl mver)), (ad 2, .inl (cI, 24, .inl mho)), (ad 6, .inl (cI, 24, .inl min_))] sz)) 0 0 ((va_A [(ad 0, .inr (5, [.int mgc, .ref (ad 1), .int mpn, .ref (ad 2), .ref (ad 3), .ref (ad 4), .ref (ad 5), .ref (ad 6), .int mcn, .ref (ad 7), .ref (ad 8), .ref (ad 9), .ref (ad 10), .ref (ad 11), .ref (ad 12), .int msz, .ref (ad 13), .int mwc, .int mhf, .ref (ad 14), .ref (ad 15), .ref (ad 16), .ref (ad 17), .ref (ad 18)])), (ad 1, .inl (cI, 8, .inl mver)), (ad 2, .inl (cI, 24, .inl mho)), (ad 6, .inl (cI, 24, .inl min_))] sz)) := by
  refine Met.ofW (cc := zb_Mo_into) (maxL := 3) (ret := (some .boolean)) (by decide) rfl ?_
  intro p e s m args below meth c s₁ B hml hv
  obtain ⟨rfl, hsz, hP, hK, hD0, hN⟩ := hv
  have hx := B.exec
  have hb := B.bytes
  have hr := B.returns
  have hts := atoms_spec (ws := zw_Mo_into) B.pre
  have hsub : ∀ w ∈ mp_tbl, w ∈ zw_Mo_into := fun w h => List.mem_cons_of_mem _ h
  have hw : ∀ w ∈ mp_tbl, w.before _ s = true := fun w h => hts w (hsub w h)
  have hown : s.vm.findClass zR_Mo = some m.cls := findClass_of_methodNamed B.named
  have hlocks := B.notSynchronized
  subst hsz
  have hD := hD0.self (sz := s.heap.size)
  generalize hAe : va_A [(ad 0, .inr (5, [.int mgc, .ref (ad 1), .int mpn, .ref (ad 2), .ref (ad 3), .ref (ad 4), .ref (ad 5), .ref (ad 6), .int mcn, .ref (ad 7), .ref (ad 8), .ref (ad 9), .ref (ad 10), .ref (ad 11), .ref (ad 12), .int msz, .ref (ad 13), .int mwc, .int mhf, .ref (ad 14), .ref (ad 15), .ref (ad 16), .ref (ad 17), .ref (ad 18)])), (ad 1, .inl (cI, 8, .inl mver)), (ad 2, .inl (cI, 24, .inl mho)), (ad 6, .inl (cI, 24, .inl min_))] s.heap.size = A at hD ⊢
  have hA : ∀ q : Nat, s.heap.size ≤ q → A q := fun q h => by rw [← hAe]; exact Or.inr h
  have hS : va_S A s.heap s.heap [] := va_S.rf
  have hP : va_P (dC, dI) vwCl [(ad 0, .inr (5, [.int mgc, .ref (ad 1), .int mpn, .ref (ad 2), .ref (ad 3), .ref (ad 4), .ref (ad 5), .ref (ad 6), .int mcn, .ref (ad 7), .ref (ad 8), .ref (ad 9), .ref (ad 10), .ref (ad 11), .ref (ad 12), .int msz, .ref (ad 13), .int mwc, .int mhf, .ref (ad 14), .ref (ad 15), .ref (ad 16), .ref (ad 17), .ref (ad 18)])), (ad 1, .inl (cI, 8, .inl mver)), (ad 2, .inl (cI, 24, .inl mho)), (ad 6, .inl (cI, 24, .inl min_))] s.heap := hP
  clear hAe hD0
  have hl := lv_entry ([.ref (ad 0), .int u1, .int u2]) (n := 3) (Nat.le_of_ble_eq_true rfl)
  rw [lg_entry_eq]
  generalize (lg_sl ([.ref (ad 0), .int u1, .int u2]) ++ List.replicate (3 - (lg_sl ([.ref (ad 0), .int u1, .int u2])).length) Slot.unset).toArray = ls at hl ⊢
  have hl : lv_has ls 3 [(0, .ref (ad 0)), (1, .int u1), (2, .int u2)] := hl
  unfold zf_Mo_into at hf
  refine lv_aload_n hx hb zd_Mo_into_0 rfl (lv_at hl 0 rfl) ?_
  refine lv_iload_n hx hb zd_Mo_into_1 rfl (lv_at hl 1 rfl) ?_
  obtain ⟨y1, hg1, hf⟩ := mp_bd hf
  refine mp_Rz (va_runV (As := [.int u1]) (rest := []) ⟨hx, hb, hml, hown, hts⟩ (zc_Mo_isPart l dC dI cI cJ cZ ad mgc mpn mcn msz mwc mhf u1 y1 hg1) (cwV 1 hts (mp_gV hsub zq_540 zq_542 zq_10 zq_30 zq_543) rfl rfl rfl (by decide +kernel) ⟨Nat.le_of_ble_eq_true rfl, Nat.le_of_ble_eq_true rfl⟩) ⟨mp_blR, va_recv hK hP (ci := 5) (q0 := 0) rfl rfl, mp_preR hN hK (hP.sub [0] rfl)⟩ rfl rfl hl.1 rfl (lv_room (Nat.le_of_ble_eq_true rfl)) zd_Mo_into_2 ⟨Nat.zero_le _, Nat.zero_le _⟩) (fun hz1 => ?_)
  refine lv_if_eq (tgt := 43) hx hb zd_Mo_into_5 (by decide) (fun c_2 => ?_) (fun c_2 => ?_)
  · have hf := mp_t c_2 hf
    refine lv_iconst (v := 0) hx hb zd_Mo_into_43 (by decide) ?_
    have hf := Option.some.inj hf
    subst hf
    exact W.zret (v := (0 : Int32)) hx hb hr (mp_nz (Or.inl rfl)) (fun t ht hW => ⟨⟨(0 : Int32), (), rfl, ⟨rfl, (Or.inl rfl)⟩, by rw [ht]; exact hP, hD⟩, hS.F ht⟩) hS.2.2 zd_Mo_into_44
  · have hf := mp_f c_2 hf
    refine lv_aload_n hx hb zd_Mo_into_8 rfl (lv_at hl 0 rfl) ?_
    refine lv_iload_n hx hb zd_Mo_into_9 rfl (lv_at hl 2 rfl) ?_
    obtain ⟨y3, hg3, hf⟩ := mp_bd hf
    refine mp_Rz (va_runV (As := [.int u2]) (rest := []) ⟨hx, hb, hml, hown, hts⟩ (zc_Mo_isGood l dC dI cI cJ cZ ad mgc mpn mcn msz mwc mhf u2 y3 hg3) (cwV 1 hts (mp_gV hsub zq_524 zq_526 zq_9 zq_30 zq_527) rfl rfl rfl (by decide +kernel) ⟨Nat.le_of_ble_eq_true rfl, Nat.le_of_ble_eq_true rfl⟩) ⟨mp_blR, va_recv hK hP (ci := 5) (q0 := 0) rfl rfl, mp_preR hN hK (hP.sub [0] rfl)⟩ rfl rfl hl.1 rfl (lv_room (Nat.le_of_ble_eq_true rfl)) zd_Mo_into_10 ⟨Nat.zero_le _, Nat.zero_le _⟩) (fun hz3 => ?_)
    refine lv_if_eq (tgt := 43) hx hb zd_Mo_into_13 (by decide) (fun c_4 => ?_) (fun c_4 => ?_)
    · have hf := mp_t c_4 hf
      refine lv_iconst (v := 0) hx hb zd_Mo_into_43 (by decide) ?_
      have hf := Option.some.inj hf
      subst hf
      exact W.zret (v := (0 : Int32)) hx hb hr (mp_nz (Or.inl rfl)) (fun t ht hW => ⟨⟨(0 : Int32), (), rfl, ⟨rfl, (Or.inl rfl)⟩, by rw [ht]; exact hP, hD⟩, hS.F ht⟩) hS.2.2 zd_Mo_into_44
    · have hf := mp_f c_4 hf
      refine lv_aload_n hx hb zd_Mo_into_16 rfl (lv_at hl 0 rfl) ?_
      refine va_get (D := (dC, dI)) (ci := 5) (v := .ref (ad 6)) (C := zR_Mo) (T := zT_Mo) (N := 24) hx hb hts (fun w h => hsub w (zi_Mo w h)) hown hK hP 0 rfl rfl 7 (by decide) (hw _ zq_450) (fun _ h9 => h9) rfl zd_Mo_into_17 ?_
      refine lv_iload_n hx hb zd_Mo_into_20 rfl (lv_at hl 1 rfl) ?_
      obtain ⟨h_5, hf⟩ := mp_in hf
      refine va_iald hx hb hK hP 3 0 rfl rfl (i := u1) h_5 zd_Mo_into_21 ?_
      refine lv_if_ge (tgt := 43) hx hb zd_Mo_into_22 (by decide) (fun c_6 => ?_) (fun c_6 => ?_)
      · have hf := mp_t c_6 hf
        refine lv_iconst (v := 0) hx hb zd_Mo_into_43 (by decide) ?_
        have hf := Option.some.inj hf
        subst hf
        exact W.zret (v := (0 : Int32)) hx hb hr (mp_nz (Or.inl rfl)) (fun t ht hW => ⟨⟨(0 : Int32), (), rfl, ⟨rfl, (Or.inl rfl)⟩, by rw [ht]; exact hP, hD⟩, hS.F ht⟩) hS.2.2 zd_Mo_into_44
      · have hf := mp_f c_6 hf
        refine lv_aload_n hx hb zd_Mo_into_25 rfl (lv_at hl 0 rfl) ?_
        refine lv_iload_n hx hb zd_Mo_into_26 rfl (lv_at hl 2 rfl) ?_
        obtain ⟨y7, hg7, hf⟩ := mp_bd hf
        refine mp_Ri (va_runV (As := [.int u2]) (rest := []) ⟨hx, hb, hml, hown, hts⟩ (zc_Mo_inside l dC dI cI cJ cZ ad mgc mpn mcn msz mwc mhf mho min_ u2 y7 hg7) (cwV 1 hts (mp_gV hsub zq_544 zq_546 zq_11 zq_30 zq_547) rfl rfl rfl (by decide +kernel) ⟨Nat.le_of_ble_eq_true rfl, Nat.le_of_ble_eq_true rfl⟩) ⟨mp_blR, va_recv hK hP (ci := 5) (q0 := 0) rfl rfl, mp_preR hN hK (hP.sub [0, 2, 3] rfl)⟩ rfl rfl hl.1 rfl (lv_room (Nat.le_of_ble_eq_true rfl)) zd_Mo_into_27 ⟨Nat.zero_le _, Nat.zero_le _⟩) ?_
        refine lv_aload_n hx hb zd_Mo_into_30 rfl (lv_at hl 0 rfl) ?_
        refine va_get (D := (dC, dI)) (ci := 5) (v := .ref (ad 2)) (C := zR_Mo) (T := zT_Mo) (N := 24) hx hb hts (fun w h => hsub w (zi_Mo w h)) hown hK hP 0 rfl rfl 3 (by decide) (hw _ zq_446) (fun _ h9 => h9) rfl zd_Mo_into_31 ?_
        refine lv_iload_n hx hb zd_Mo_into_34 rfl (lv_at hl 1 rfl) ?_
        obtain ⟨h_8, hf⟩ := mp_in hf
        refine va_iald hx hb hK hP 2 0 rfl rfl (i := u1) h_8 zd_Mo_into_35 ?_
        refine lv_ishr hx hb zd_Mo_into_36 ?_
        refine lv_iconst (v := 1) hx hb zd_Mo_into_37 (by decide) ?_
        refine lv_iand hx hb zd_Mo_into_38 ?_
        refine lv_iconst (v := 1) hx hb zd_Mo_into_39 (by decide) ?_
        refine lv_icmp_ne (tgt := 45) hx hb zd_Mo_into_40 (by decide) (fun c_9 => ?_) (fun c_9 => ?_)
        · have hf := mp_f c_9 hf
          refine lv_aload_n hx hb zd_Mo_into_45 rfl (lv_at hl 0 rfl) ?_
          refine va_get (D := (dC, dI)) (ci := 5) (v := .ref (ad 6)) (C := zR_Mo) (T := zT_Mo) (N := 24) hx hb hts (fun w h => hsub w (zi_Mo w h)) hown hK hP 0 rfl rfl 7 (by decide) (hw _ zq_450) (fun _ h9 => h9) rfl zd_Mo_into_46 ?_
          refine lv_iload_n hx hb zd_Mo_into_49 rfl (lv_at hl 1 rfl) ?_
          refine lv_iload_n hx hb zd_Mo_into_50 rfl (lv_at hl 2 rfl) ?_
          obtain ⟨h_10, hf⟩ := mp_in hf
          refine va_iast hx hb hK hP hD hS 3 0 rfl rfl (i := u1) (x := u2) h_10 zd_Mo_into_51 (fun H locs hP hD hS => ?_)
          have hP : va_P (dC, dI) vwCl [(ad 0, .inr (5, [.int mgc, .ref (ad 1), .int mpn, .ref (ad 2), .ref (ad 3), .ref (ad 4), .ref (ad 5), .ref (ad 6), .int mcn, .ref (ad 7), .ref (ad 8), .ref (ad 9), .ref (ad 10), .ref (ad 11), .ref (ad 12), .int msz, .ref (ad 13), .int mwc, .int mhf, .ref (ad 14), .ref (ad 15), .ref (ad 16), .ref (ad 17), .ref (ad 18)])), (ad 1, .inl (cI, 8, .inl mver)), (ad 2, .inl (cI, 24, .inl mho)), (ad 6, .inl (cI, 24, .inl (upd min_ u1.toNatClampNeg u2)))] H := hP
          have hD : va_D A [(ad 0, .inr (5, [.int mgc, .ref (ad 1), .int mpn, .ref (ad 2), .ref (ad 3), .ref (ad 4), .ref (ad 5), .ref (ad 6), .int mcn, .ref (ad 7), .ref (ad 8), .ref (ad 9), .ref (ad 10), .ref (ad 11), .ref (ad 12), .int msz, .ref (ad 13), .int mwc, .int mhf, .ref (ad 14), .ref (ad 15), .ref (ad 16), .ref (ad 17), .ref (ad 18)])), (ad 1, .inl (cI, 8, .inl mver)), (ad 2, .inl (cI, 24, .inl mho)), (ad 6, .inl (cI, 24, .inl (upd min_ u1.toNatClampNeg u2)))] := hD
          refine lv_aload_n hx hb zd_Mo_into_52 rfl (lv_at hl 0 rfl) ?_
          refine va_get (D := (dC, dI)) (ci := 5) (v := .ref (ad 1)) (C := zR_Mo) (T := zT_Mo) (N := 24) hx hb hts (fun w h => hsub w (zi_Mo w h)) hown hK hP 0 rfl rfl 1 (by decide) (hw _ zq_444) (fun _ h9 => h9) rfl zd_Mo_into_53 ?_
          refine lv_aload_n hx hb zd_Mo_into_56 rfl (lv_at hl 0 rfl) ?_
          refine va_get (D := (dC, dI)) (ci := 5) (v := .ref (ad 2)) (C := zR_Mo) (T := zT_Mo) (N := 24) hx hb hts (fun w h => hsub w (zi_Mo w h)) hown hK hP 0 rfl rfl 3 (by decide) (hw _ zq_446) (fun _ h9 => h9) rfl zd_Mo_into_57 ?_
          refine lv_iload_n hx hb zd_Mo_into_60 rfl (lv_at hl 1 rfl) ?_
          obtain ⟨h_11, hf⟩ := mp_in hf
          refine va_iald hx hb hK hP 2 0 rfl rfl (i := u1) h_11 zd_Mo_into_61 ?_
          refine lv_dup2_11 hx hb zd_Mo_into_62 rfl rfl ?_
          obtain ⟨h_12, hf⟩ := mp_in hf
          refine va_iald hx hb hK hP 1 0 rfl rfl (i := (mho u1.toNatClampNeg)) h_12 zd_Mo_into_63 ?_
          refine lv_iconst (v := 1) hx hb zd_Mo_into_64 (by decide) ?_
          refine lv_iadd hx hb zd_Mo_into_65 ?_
          obtain ⟨h_13, hf⟩ := mp_in hf
          refine va_iast hx hb hK hP hD hS 1 0 rfl rfl (i := (mho u1.toNatClampNeg)) (x := ((mver (mho u1.toNatClampNeg).toNatClampNeg) + (1 : Int32))) h_13 zd_Mo_into_66 (fun H locs hP hD hS => ?_)
          have hP : va_P (dC, dI) vwCl [(ad 0, .inr (5, [.int mgc, .ref (ad 1), .int mpn, .ref (ad 2), .ref (ad 3), .ref (ad 4), .ref (ad 5), .ref (ad 6), .int mcn, .ref (ad 7), .ref (ad 8), .ref (ad 9), .ref (ad 10), .ref (ad 11), .ref (ad 12), .int msz, .ref (ad 13), .int mwc, .int mhf, .ref (ad 14), .ref (ad 15), .ref (ad 16), .ref (ad 17), .ref (ad 18)])), (ad 1, .inl (cI, 8, .inl (upd mver (mho u1.toNatClampNeg).toNatClampNeg ((mver (mho u1.toNatClampNeg).toNatClampNeg) + (1 : Int32))))), (ad 2, .inl (cI, 24, .inl mho)), (ad 6, .inl (cI, 24, .inl (upd min_ u1.toNatClampNeg u2)))] H := hP
          have hD : va_D A [(ad 0, .inr (5, [.int mgc, .ref (ad 1), .int mpn, .ref (ad 2), .ref (ad 3), .ref (ad 4), .ref (ad 5), .ref (ad 6), .int mcn, .ref (ad 7), .ref (ad 8), .ref (ad 9), .ref (ad 10), .ref (ad 11), .ref (ad 12), .int msz, .ref (ad 13), .int mwc, .int mhf, .ref (ad 14), .ref (ad 15), .ref (ad 16), .ref (ad 17), .ref (ad 18)])), (ad 1, .inl (cI, 8, .inl (upd mver (mho u1.toNatClampNeg).toNatClampNeg ((mver (mho u1.toNatClampNeg).toNatClampNeg) + (1 : Int32))))), (ad 2, .inl (cI, 24, .inl mho)), (ad 6, .inl (cI, 24, .inl (upd min_ u1.toNatClampNeg u2)))] := hD
          refine lv_iconst (v := 1) hx hb zd_Mo_into_67 (by decide) ?_
          have hf := Option.some.inj hf
          subst hf
          exact W.zret (v := (1 : Int32)) hx hb hr (mp_nz (Or.inr rfl)) (fun t ht hW => ⟨⟨(1 : Int32), (), rfl, ⟨rfl, (Or.inr rfl)⟩, by rw [ht]; exact hP, hD⟩, hS.F ht⟩) hS.2.2 zd_Mo_into_68
        · have hf := mp_t c_9 hf
          refine lv_iconst (v := 0) hx hb zd_Mo_into_43 (by decide) ?_
          have hf := Option.some.inj hf
          subst hf
          exact W.zret (v := (0 : Int32)) hx hb hr (mp_nz (Or.inl rfl)) (fun t ht hW => ⟨⟨(0 : Int32), (), rfl, ⟨rfl, (Or.inl rfl)⟩, by rw [ht]; exact hP, hD⟩, hS.F ht⟩) hS.2.2 zd_Mo_into_44
set_option maxHeartbeats 4000000 in
set_option maxRecDepth 100000 in
theorem zc_Mo_life (l : Launch) (dC : Nat → ClassId) (dI : Nat → Nat → Nat) (cI cJ cZ : ClassId) (ad : Nat → Nat) (sz : Nat) (mgc : Int32) (mpn : Int32) (mcn : Int32) (msz : Int32) (mwc : Int32) (mhf : Int32) (mver : Nat → Int32) (mho : Nat → Int32) (mli : Nat → Int32) (u1 : Int32) (u2 : Int32) (res : Int32 × (Nat → Int32) × (Nat → Int32)) (hf : zf_Mo_life u1 u2 mpn mver mho mli = some res) : Met l zy_Mo_life zw_Mo_life ({ frames := 1, cells := 0, slots := 0, locals := 25 } : Room) (mp_PM (dC, dI) vwCl (mp_tys cI cJ cZ) [(ad 0, .inr (5, [.int mgc, .ref (ad 1), .int mpn, .ref (ad 2), .ref (ad 3), .ref (ad 4), .ref (ad 5), .ref (ad 6), .int mcn, .ref (ad 7), .ref (ad 8), .ref (ad 9), .ref (ad 10), .ref (ad 11), .ref (ad 12), .int msz, .ref (ad 13), .int mwc, .int mhf, .ref (ad 14), .ref (ad 15), .ref (ad 16), .ref (ad 17), .ref (ad 18)])), (ad 1, .inl (cI, 8, .inl mver)), (ad 2, .inl (cI, 24, .inl mho)), (ad 5, .inl (cI, 24, .inl mli))] sz [.ref (ad 0), .int u1, .int u2]) (va_Qi (fun r (_ : Unit) => r = res.1 ∧ mp_b res.1) (mp_BM (dC, dI) vwCl [(ad 0, .inr (5, [.int mgc, .ref (ad 1), .int mpn, .ref (ad 2), .ref (ad 3), .ref (ad 4), .ref (ad 5), .ref (ad 6), .int mcn, .ref (ad 7), .ref (ad 8), .ref (ad 9), .ref (ad 10), .ref (ad 11), .ref (ad 12), .int msz, .ref (ad 13), .int mwc, .int mhf, .ref (ad 14), .ref (ad 15), .ref (ad 16), .ref (ad 17), .ref (ad 18)])), (ad 1, .inl (cI, 8, .inl res.2.1)), (ad 2, .inl (cI, 24, .inl mho)), (ad 5, .inl (cI, 24, .inl res.2.2))] (va_A [(ad 0, .inr (5, [.int mgc, .ref (ad 1), .int mpn, .ref (ad 2), .ref (ad 3), .ref (ad 4), .ref (ad 5), .ref (ad 6), .int mcn, .ref (ad 7), .ref (ad 8), .ref (ad 9), .ref (ad 10), .ref (ad 11), .ref (ad 12), .int msz, .ref (ad 13), .int mwc, .int mhf, .ref (ad 14), .ref (ad 15), .ref (ad 16), .ref (ad 17), .ref (ad 18)])), (ad 1, .inl (cI, 8, .inl mver)), (ad 2, .inl (cI, 24, .inl mho)), (ad 5, .inl (cI, 24, .inl mli))] sz)) (va_A [(ad 0, .inr (5, [.int mgc, .ref (ad 1), .int mpn, .ref (ad 2), .ref (ad 3), .ref (ad 4), .ref (ad 5), .ref (ad 6), .int mcn, .ref (ad 7), .ref (ad 8), .ref (ad 9), .ref (ad 10), .ref (ad 11), .ref (ad 12), .int msz, .ref (ad 13), .int mwc, .int mhf, .ref (ad 14), .ref (ad 15), .ref (ad 16), .ref (ad 17), .ref (ad 18)])), (ad 1, .inl (cI, 8, .inl mver)), (ad 2, .inl (cI, 24, .inl mho)), (ad 5, .inl (cI, 24, .inl mli))] sz)) 0 0 ((va_A [(ad 0, .inr (5, [.int mgc, .ref (ad 1), .int mpn, .ref (ad 2), .ref (ad 3), .ref (ad 4), .ref (ad 5), .ref (ad 6), .int mcn, .ref (ad 7), .ref (ad 8), .ref (ad 9), .ref (ad 10), .ref (ad 11), .ref (ad 12), .int msz, .ref (ad 13), .int mwc, .int mhf, .ref (ad 14), .ref (ad 15), .ref (ad 16), .ref (ad 17), .ref (ad 18)])), (ad 1, .inl (cI, 8, .inl mver)), (ad 2, .inl (cI, 24, .inl mho)), (ad 5, .inl (cI, 24, .inl mli))] sz)) := by
  refine Met.ofW (cc := zb_Mo_life) (maxL := 3) (ret := (some .boolean)) (by decide) rfl ?_
  intro p e s m args below meth c s₁ B hml hv
  obtain ⟨rfl, hsz, hP, hK, hD0, hN⟩ := hv
  have hx := B.exec
  have hb := B.bytes
  have hr := B.returns
  have hts := atoms_spec (ws := zw_Mo_life) B.pre
  have hsub : ∀ w ∈ mp_tbl, w ∈ zw_Mo_life := fun w h => List.mem_cons_of_mem _ h
  have hw : ∀ w ∈ mp_tbl, w.before _ s = true := fun w h => hts w (hsub w h)
  have hown : s.vm.findClass zR_Mo = some m.cls := findClass_of_methodNamed B.named
  have hlocks := B.notSynchronized
  subst hsz
  have hD := hD0.self (sz := s.heap.size)
  generalize hAe : va_A [(ad 0, .inr (5, [.int mgc, .ref (ad 1), .int mpn, .ref (ad 2), .ref (ad 3), .ref (ad 4), .ref (ad 5), .ref (ad 6), .int mcn, .ref (ad 7), .ref (ad 8), .ref (ad 9), .ref (ad 10), .ref (ad 11), .ref (ad 12), .int msz, .ref (ad 13), .int mwc, .int mhf, .ref (ad 14), .ref (ad 15), .ref (ad 16), .ref (ad 17), .ref (ad 18)])), (ad 1, .inl (cI, 8, .inl mver)), (ad 2, .inl (cI, 24, .inl mho)), (ad 5, .inl (cI, 24, .inl mli))] s.heap.size = A at hD ⊢
  have hA : ∀ q : Nat, s.heap.size ≤ q → A q := fun q h => by rw [← hAe]; exact Or.inr h
  have hS : va_S A s.heap s.heap [] := va_S.rf
  have hP : va_P (dC, dI) vwCl [(ad 0, .inr (5, [.int mgc, .ref (ad 1), .int mpn, .ref (ad 2), .ref (ad 3), .ref (ad 4), .ref (ad 5), .ref (ad 6), .int mcn, .ref (ad 7), .ref (ad 8), .ref (ad 9), .ref (ad 10), .ref (ad 11), .ref (ad 12), .int msz, .ref (ad 13), .int mwc, .int mhf, .ref (ad 14), .ref (ad 15), .ref (ad 16), .ref (ad 17), .ref (ad 18)])), (ad 1, .inl (cI, 8, .inl mver)), (ad 2, .inl (cI, 24, .inl mho)), (ad 5, .inl (cI, 24, .inl mli))] s.heap := hP
  clear hAe hD0
  have hl := lv_entry ([.ref (ad 0), .int u1, .int u2]) (n := 3) (Nat.le_of_ble_eq_true rfl)
  rw [lg_entry_eq]
  generalize (lg_sl ([.ref (ad 0), .int u1, .int u2]) ++ List.replicate (3 - (lg_sl ([.ref (ad 0), .int u1, .int u2])).length) Slot.unset).toArray = ls at hl ⊢
  have hl : lv_has ls 3 [(0, .ref (ad 0)), (1, .int u1), (2, .int u2)] := hl
  unfold zf_Mo_life at hf
  refine lv_aload_n hx hb zd_Mo_life_0 rfl (lv_at hl 0 rfl) ?_
  refine lv_iload_n hx hb zd_Mo_life_1 rfl (lv_at hl 1 rfl) ?_
  obtain ⟨y1, hg1, hf⟩ := mp_bd hf
  refine mp_Rz (va_runV (As := [.int u1]) (rest := []) ⟨hx, hb, hml, hown, hts⟩ (zc_Mo_isPart l dC dI cI cJ cZ ad mgc mpn mcn msz mwc mhf u1 y1 hg1) (cwV 1 hts (mp_gV hsub zq_540 zq_542 zq_10 zq_30 zq_543) rfl rfl rfl (by decide +kernel) ⟨Nat.le_of_ble_eq_true rfl, Nat.le_of_ble_eq_true rfl⟩) ⟨mp_blR, va_recv hK hP (ci := 5) (q0 := 0) rfl rfl, mp_preR hN hK (hP.sub [0] rfl)⟩ rfl rfl hl.1 rfl (lv_room (Nat.le_of_ble_eq_true rfl)) zd_Mo_life_2 ⟨Nat.zero_le _, Nat.zero_le _⟩) (fun hz1 => ?_)
  refine lv_if_eq (tgt := 20) hx hb zd_Mo_life_5 (by decide) (fun c_2 => ?_) (fun c_2 => ?_)
  · have hf := mp_t c_2 hf
    refine lv_iconst (v := 0) hx hb zd_Mo_life_20 (by decide) ?_
    have hf := Option.some.inj hf
    subst hf
    exact W.zret (v := (0 : Int32)) hx hb hr (mp_nz (Or.inl rfl)) (fun t ht hW => ⟨⟨(0 : Int32), (), rfl, ⟨rfl, (Or.inl rfl)⟩, by rw [ht]; exact hP, hD⟩, hS.F ht⟩) hS.2.2 zd_Mo_life_21
  · have hf := mp_f c_2 hf
    refine lv_iload_n hx hb zd_Mo_life_8 rfl (lv_at hl 2 rfl) ?_
    refine lv_i2l hx hb zd_Mo_life_9 rfl ?_
    refine lv_lconst (v := 0) hx hb zd_Mo_life_10 (by decide) ?_
    refine lv_ldc2 (v := 200) hx hb hown (hw _ zq_535) zd_Mo_life_11 ?_
    obtain ⟨y3, hg3, hf⟩ := mp_bd hf
    refine mp_Rz (va_runS (As := [.long u2.toInt64, .long (0 : Int64), .long (200 : Int64)]) (rest := []) ⟨hx, hb, hml, hown, hts⟩ (zc_Mo_isIn l dC dI cI cJ cZ ad u2.toInt64 (0 : Int64) (200 : Int64) y3 hg3) (va_cwS 3 hts (mp_gS hsub zq_532 zq_533 zq_30 zq_534) rfl rfl rfl (by decide +kernel) ⟨Nat.le_of_ble_eq_true rfl, Nat.le_of_ble_eq_true rfl⟩) ⟨mp_blR, mp_preR hN hK (hP.sub [] rfl)⟩ rfl rfl hl.1 rfl (lv_room (Nat.le_of_ble_eq_true rfl)) zd_Mo_life_14 ⟨Nat.zero_le _, Nat.zero_le _⟩) (fun hz3 => ?_)
    refine lv_if_ne (tgt := 22) hx hb zd_Mo_life_17 (by decide) (fun c_4 => ?_) (fun c_4 => ?_)
    · have hf := mp_f c_4 hf
      refine lv_aload_n hx hb zd_Mo_life_22 rfl (lv_at hl 0 rfl) ?_
      refine va_get (D := (dC, dI)) (ci := 5) (v := .ref (ad 5)) (C := zR_Mo) (T := zT_Mo) (N := 24) hx hb hts (fun w h => hsub w (zi_Mo w h)) hown hK hP 0 rfl rfl 6 (by decide) (hw _ zq_449) (fun _ h9 => h9) rfl zd_Mo_life_23 ?_
      refine lv_iload_n hx hb zd_Mo_life_26 rfl (lv_at hl 1 rfl) ?_
      refine lv_iload_n hx hb zd_Mo_life_27 rfl (lv_at hl 2 rfl) ?_
      obtain ⟨h_5, hf⟩ := mp_in hf
      refine va_iast hx hb hK hP hD hS 3 0 rfl rfl (i := u1) (x := u2) h_5 zd_Mo_life_28 (fun H locs hP hD hS => ?_)
      have hP : va_P (dC, dI) vwCl [(ad 0, .inr (5, [.int mgc, .ref (ad 1), .int mpn, .ref (ad 2), .ref (ad 3), .ref (ad 4), .ref (ad 5), .ref (ad 6), .int mcn, .ref (ad 7), .ref (ad 8), .ref (ad 9), .ref (ad 10), .ref (ad 11), .ref (ad 12), .int msz, .ref (ad 13), .int mwc, .int mhf, .ref (ad 14), .ref (ad 15), .ref (ad 16), .ref (ad 17), .ref (ad 18)])), (ad 1, .inl (cI, 8, .inl mver)), (ad 2, .inl (cI, 24, .inl mho)), (ad 5, .inl (cI, 24, .inl (upd mli u1.toNatClampNeg u2)))] H := hP
      have hD : va_D A [(ad 0, .inr (5, [.int mgc, .ref (ad 1), .int mpn, .ref (ad 2), .ref (ad 3), .ref (ad 4), .ref (ad 5), .ref (ad 6), .int mcn, .ref (ad 7), .ref (ad 8), .ref (ad 9), .ref (ad 10), .ref (ad 11), .ref (ad 12), .int msz, .ref (ad 13), .int mwc, .int mhf, .ref (ad 14), .ref (ad 15), .ref (ad 16), .ref (ad 17), .ref (ad 18)])), (ad 1, .inl (cI, 8, .inl mver)), (ad 2, .inl (cI, 24, .inl mho)), (ad 5, .inl (cI, 24, .inl (upd mli u1.toNatClampNeg u2)))] := hD
      refine lv_aload_n hx hb zd_Mo_life_29 rfl (lv_at hl 0 rfl) ?_
      refine va_get (D := (dC, dI)) (ci := 5) (v := .ref (ad 1)) (C := zR_Mo) (T := zT_Mo) (N := 24) hx hb hts (fun w h => hsub w (zi_Mo w h)) hown hK hP 0 rfl rfl 1 (by decide) (hw _ zq_444) (fun _ h9 => h9) rfl zd_Mo_life_30 ?_
      refine lv_aload_n hx hb zd_Mo_life_33 rfl (lv_at hl 0 rfl) ?_
      refine va_get (D := (dC, dI)) (ci := 5) (v := .ref (ad 2)) (C := zR_Mo) (T := zT_Mo) (N := 24) hx hb hts (fun w h => hsub w (zi_Mo w h)) hown hK hP 0 rfl rfl 3 (by decide) (hw _ zq_446) (fun _ h9 => h9) rfl zd_Mo_life_34 ?_
      refine lv_iload_n hx hb zd_Mo_life_37 rfl (lv_at hl 1 rfl) ?_
      obtain ⟨h_6, hf⟩ := mp_in hf
      refine va_iald hx hb hK hP 2 0 rfl rfl (i := u1) h_6 zd_Mo_life_38 ?_
      refine lv_dup2_11 hx hb zd_Mo_life_39 rfl rfl ?_
      obtain ⟨h_7, hf⟩ := mp_in hf
      refine va_iald hx hb hK hP 1 0 rfl rfl (i := (mho u1.toNatClampNeg)) h_7 zd_Mo_life_40 ?_
      refine lv_iconst (v := 1) hx hb zd_Mo_life_41 (by decide) ?_
      refine lv_iadd hx hb zd_Mo_life_42 ?_
      obtain ⟨h_8, hf⟩ := mp_in hf
      refine va_iast hx hb hK hP hD hS 1 0 rfl rfl (i := (mho u1.toNatClampNeg)) (x := ((mver (mho u1.toNatClampNeg).toNatClampNeg) + (1 : Int32))) h_8 zd_Mo_life_43 (fun H locs hP hD hS => ?_)
      have hP : va_P (dC, dI) vwCl [(ad 0, .inr (5, [.int mgc, .ref (ad 1), .int mpn, .ref (ad 2), .ref (ad 3), .ref (ad 4), .ref (ad 5), .ref (ad 6), .int mcn, .ref (ad 7), .ref (ad 8), .ref (ad 9), .ref (ad 10), .ref (ad 11), .ref (ad 12), .int msz, .ref (ad 13), .int mwc, .int mhf, .ref (ad 14), .ref (ad 15), .ref (ad 16), .ref (ad 17), .ref (ad 18)])), (ad 1, .inl (cI, 8, .inl (upd mver (mho u1.toNatClampNeg).toNatClampNeg ((mver (mho u1.toNatClampNeg).toNatClampNeg) + (1 : Int32))))), (ad 2, .inl (cI, 24, .inl mho)), (ad 5, .inl (cI, 24, .inl (upd mli u1.toNatClampNeg u2)))] H := hP
      have hD : va_D A [(ad 0, .inr (5, [.int mgc, .ref (ad 1), .int mpn, .ref (ad 2), .ref (ad 3), .ref (ad 4), .ref (ad 5), .ref (ad 6), .int mcn, .ref (ad 7), .ref (ad 8), .ref (ad 9), .ref (ad 10), .ref (ad 11), .ref (ad 12), .int msz, .ref (ad 13), .int mwc, .int mhf, .ref (ad 14), .ref (ad 15), .ref (ad 16), .ref (ad 17), .ref (ad 18)])), (ad 1, .inl (cI, 8, .inl (upd mver (mho u1.toNatClampNeg).toNatClampNeg ((mver (mho u1.toNatClampNeg).toNatClampNeg) + (1 : Int32))))), (ad 2, .inl (cI, 24, .inl mho)), (ad 5, .inl (cI, 24, .inl (upd mli u1.toNatClampNeg u2)))] := hD
      refine lv_iconst (v := 1) hx hb zd_Mo_life_44 (by decide) ?_
      have hf := Option.some.inj hf
      subst hf
      exact W.zret (v := (1 : Int32)) hx hb hr (mp_nz (Or.inr rfl)) (fun t ht hW => ⟨⟨(1 : Int32), (), rfl, ⟨rfl, (Or.inr rfl)⟩, by rw [ht]; exact hP, hD⟩, hS.F ht⟩) hS.2.2 zd_Mo_life_45
    · have hf := mp_t c_4 hf
      refine lv_iconst (v := 0) hx hb zd_Mo_life_20 (by decide) ?_
      have hf := Option.some.inj hf
      subst hf
      exact W.zret (v := (0 : Int32)) hx hb hr (mp_nz (Or.inl rfl)) (fun t ht hW => ⟨⟨(0 : Int32), (), rfl, ⟨rfl, (Or.inl rfl)⟩, by rw [ht]; exact hP, hD⟩, hS.F ht⟩) hS.2.2 zd_Mo_life_21
set_option maxHeartbeats 4000000 in
set_option maxRecDepth 100000 in
theorem zc_Mo_add (l : Launch) (dC : Nat → ClassId) (dI : Nat → Nat → Nat) (cI cJ cZ : ClassId) (ad : Nat → Nat) (sz : Nat) (mgc : Int32) (mpn : Int32) (mcn : Int32) (msz : Int32) (mwc : Int32) (mhf : Int32) (mcp : Nat → Int32) (mcd : Nat → Int64) (mck : Nat → Int32) (mcg : Nat → Int64) (u1 : Int32) (u2 : Int64) (u4 : Int32) (u5 : Int64) (res : Int32 × (Nat → Int32) × (Nat → Int64) × (Nat → Int32) × (Nat → Int64)) (hf : zf_Mo_add u1 u2 u4 u5 mcn mcp mcd mck mcg = some res) : Met l zy_Mo_add zw_Mo_add ({ frames := 0, cells := 0, slots := 0, locals := 0 } : Room) (mp_PM (dC, dI) vwCl (mp_tys cI cJ cZ) [(ad 0, .inr (5, [.int mgc, .ref (ad 1), .int mpn, .ref (ad 2), .ref (ad 3), .ref (ad 4), .ref (ad 5), .ref (ad 6), .int mcn, .ref (ad 7), .ref (ad 8), .ref (ad 9), .ref (ad 10), .ref (ad 11), .ref (ad 12), .int msz, .ref (ad 13), .int mwc, .int mhf, .ref (ad 14), .ref (ad 15), .ref (ad 16), .ref (ad 17), .ref (ad 18)])), (ad 7, .inl (cI, 20, .inl mcp)), (ad 8, .inl (cJ, 20, .inr (.inl mcd))), (ad 9, .inl (cI, 20, .inl mck)), (ad 10, .inl (cJ, 20, .inr (.inl mcg)))] sz [.ref (ad 0), .int u1, .long u2, .int u4, .long u5]) (va_Qv (fun (_ : Unit) => True) (mp_BM (dC, dI) vwCl [(ad 0, .inr (5, [.int mgc, .ref (ad 1), .int mpn, .ref (ad 2), .ref (ad 3), .ref (ad 4), .ref (ad 5), .ref (ad 6), .int res.1, .ref (ad 7), .ref (ad 8), .ref (ad 9), .ref (ad 10), .ref (ad 11), .ref (ad 12), .int msz, .ref (ad 13), .int mwc, .int mhf, .ref (ad 14), .ref (ad 15), .ref (ad 16), .ref (ad 17), .ref (ad 18)])), (ad 7, .inl (cI, 20, .inl res.2.1)), (ad 8, .inl (cJ, 20, .inr (.inl res.2.2.1))), (ad 9, .inl (cI, 20, .inl res.2.2.2.1)), (ad 10, .inl (cJ, 20, .inr (.inl res.2.2.2.2)))] (va_A [(ad 0, .inr (5, [.int mgc, .ref (ad 1), .int mpn, .ref (ad 2), .ref (ad 3), .ref (ad 4), .ref (ad 5), .ref (ad 6), .int mcn, .ref (ad 7), .ref (ad 8), .ref (ad 9), .ref (ad 10), .ref (ad 11), .ref (ad 12), .int msz, .ref (ad 13), .int mwc, .int mhf, .ref (ad 14), .ref (ad 15), .ref (ad 16), .ref (ad 17), .ref (ad 18)])), (ad 7, .inl (cI, 20, .inl mcp)), (ad 8, .inl (cJ, 20, .inr (.inl mcd))), (ad 9, .inl (cI, 20, .inl mck)), (ad 10, .inl (cJ, 20, .inr (.inl mcg)))] sz)) (va_A [(ad 0, .inr (5, [.int mgc, .ref (ad 1), .int mpn, .ref (ad 2), .ref (ad 3), .ref (ad 4), .ref (ad 5), .ref (ad 6), .int mcn, .ref (ad 7), .ref (ad 8), .ref (ad 9), .ref (ad 10), .ref (ad 11), .ref (ad 12), .int msz, .ref (ad 13), .int mwc, .int mhf, .ref (ad 14), .ref (ad 15), .ref (ad 16), .ref (ad 17), .ref (ad 18)])), (ad 7, .inl (cI, 20, .inl mcp)), (ad 8, .inl (cJ, 20, .inr (.inl mcd))), (ad 9, .inl (cI, 20, .inl mck)), (ad 10, .inl (cJ, 20, .inr (.inl mcg)))] sz)) 0 0 ((va_A [(ad 0, .inr (5, [.int mgc, .ref (ad 1), .int mpn, .ref (ad 2), .ref (ad 3), .ref (ad 4), .ref (ad 5), .ref (ad 6), .int mcn, .ref (ad 7), .ref (ad 8), .ref (ad 9), .ref (ad 10), .ref (ad 11), .ref (ad 12), .int msz, .ref (ad 13), .int mwc, .int mhf, .ref (ad 14), .ref (ad 15), .ref (ad 16), .ref (ad 17), .ref (ad 18)])), (ad 7, .inl (cI, 20, .inl mcp)), (ad 8, .inl (cJ, 20, .inr (.inl mcd))), (ad 9, .inl (cI, 20, .inl mck)), (ad 10, .inl (cJ, 20, .inr (.inl mcg)))] sz)) := by
  refine Met.ofW (cc := zb_Mo_add) (maxL := 7) (ret := none) (by decide) rfl ?_
  intro p e s m args below meth c s₁ B hml hv
  obtain ⟨rfl, hsz, hP, hK, hD0, hN⟩ := hv
  have hx := B.exec
  have hb := B.bytes
  have hr := B.returns
  have hts := atoms_spec (ws := zw_Mo_add) B.pre
  have hsub : ∀ w ∈ mp_tbl, w ∈ zw_Mo_add := fun w h => List.mem_cons_of_mem _ h
  have hw : ∀ w ∈ mp_tbl, w.before _ s = true := fun w h => hts w (hsub w h)
  have hown : s.vm.findClass zR_Mo = some m.cls := findClass_of_methodNamed B.named
  have hlocks := B.notSynchronized
  subst hsz
  have hD := hD0.self (sz := s.heap.size)
  generalize hAe : va_A [(ad 0, .inr (5, [.int mgc, .ref (ad 1), .int mpn, .ref (ad 2), .ref (ad 3), .ref (ad 4), .ref (ad 5), .ref (ad 6), .int mcn, .ref (ad 7), .ref (ad 8), .ref (ad 9), .ref (ad 10), .ref (ad 11), .ref (ad 12), .int msz, .ref (ad 13), .int mwc, .int mhf, .ref (ad 14), .ref (ad 15), .ref (ad 16), .ref (ad 17), .ref (ad 18)])), (ad 7, .inl (cI, 20, .inl mcp)), (ad 8, .inl (cJ, 20, .inr (.inl mcd))), (ad 9, .inl (cI, 20, .inl mck)), (ad 10, .inl (cJ, 20, .inr (.inl mcg)))] s.heap.size = A at hD ⊢
  have hA : ∀ q : Nat, s.heap.size ≤ q → A q := fun q h => by rw [← hAe]; exact Or.inr h
  have hS : va_S A s.heap s.heap [] := va_S.rf
  have hP : va_P (dC, dI) vwCl [(ad 0, .inr (5, [.int mgc, .ref (ad 1), .int mpn, .ref (ad 2), .ref (ad 3), .ref (ad 4), .ref (ad 5), .ref (ad 6), .int mcn, .ref (ad 7), .ref (ad 8), .ref (ad 9), .ref (ad 10), .ref (ad 11), .ref (ad 12), .int msz, .ref (ad 13), .int mwc, .int mhf, .ref (ad 14), .ref (ad 15), .ref (ad 16), .ref (ad 17), .ref (ad 18)])), (ad 7, .inl (cI, 20, .inl mcp)), (ad 8, .inl (cJ, 20, .inr (.inl mcd))), (ad 9, .inl (cI, 20, .inl mck)), (ad 10, .inl (cJ, 20, .inr (.inl mcg)))] s.heap := hP
  clear hAe hD0
  have hl := lv_entry ([.ref (ad 0), .int u1, .long u2, .int u4, .long u5]) (n := 7) (Nat.le_of_ble_eq_true rfl)
  rw [lg_entry_eq]
  generalize (lg_sl ([.ref (ad 0), .int u1, .long u2, .int u4, .long u5]) ++ List.replicate (7 - (lg_sl ([.ref (ad 0), .int u1, .long u2, .int u4, .long u5])).length) Slot.unset).toArray = ls at hl ⊢
  have hl : lv_has ls 7 [(0, .ref (ad 0)), (1, .int u1), (2, .long u2), (4, .int u4), (5, .long u5)] := hl
  unfold zf_Mo_add at hf
  refine lv_aload_n hx hb zd_Mo_add_0 rfl (lv_at hl 0 rfl) ?_
  refine va_get (D := (dC, dI)) (ci := 5) (v := .ref (ad 7)) (C := zR_Mo) (T := zT_Mo) (N := 24) hx hb hts (fun w h => hsub w (zi_Mo w h)) hown hK hP 0 rfl rfl 9 (by decide) (hw _ zq_452) (fun _ h9 => h9) rfl zd_Mo_add_1 ?_
  refine lv_aload_n hx hb zd_Mo_add_4 rfl (lv_at hl 0 rfl) ?_
  refine va_get (D := (dC, dI)) (ci := 5) (v := .int mcn) (C := zR_Mo) (T := zT_Mo) (N := 24) hx hb hts (fun w h => hsub w (zi_Mo w h)) hown hK hP 0 rfl rfl 8 (by decide) (hw _ zq_451) (fun _ h9 => h9) rfl zd_Mo_add_5 ?_
  refine lv_iload_n hx hb zd_Mo_add_8 rfl (lv_at hl 1 rfl) ?_
  obtain ⟨h_1, hf⟩ := mp_in hf
  refine va_iast hx hb hK hP hD hS 1 0 rfl rfl (i := mcn) (x := u1) h_1 zd_Mo_add_9 (fun H locs hP hD hS => ?_)
  have hP : va_P (dC, dI) vwCl [(ad 0, .inr (5, [.int mgc, .ref (ad 1), .int mpn, .ref (ad 2), .ref (ad 3), .ref (ad 4), .ref (ad 5), .ref (ad 6), .int mcn, .ref (ad 7), .ref (ad 8), .ref (ad 9), .ref (ad 10), .ref (ad 11), .ref (ad 12), .int msz, .ref (ad 13), .int mwc, .int mhf, .ref (ad 14), .ref (ad 15), .ref (ad 16), .ref (ad 17), .ref (ad 18)])), (ad 7, .inl (cI, 20, .inl (upd mcp mcn.toNatClampNeg u1))), (ad 8, .inl (cJ, 20, .inr (.inl mcd))), (ad 9, .inl (cI, 20, .inl mck)), (ad 10, .inl (cJ, 20, .inr (.inl mcg)))] H := hP
  have hD : va_D A [(ad 0, .inr (5, [.int mgc, .ref (ad 1), .int mpn, .ref (ad 2), .ref (ad 3), .ref (ad 4), .ref (ad 5), .ref (ad 6), .int mcn, .ref (ad 7), .ref (ad 8), .ref (ad 9), .ref (ad 10), .ref (ad 11), .ref (ad 12), .int msz, .ref (ad 13), .int mwc, .int mhf, .ref (ad 14), .ref (ad 15), .ref (ad 16), .ref (ad 17), .ref (ad 18)])), (ad 7, .inl (cI, 20, .inl (upd mcp mcn.toNatClampNeg u1))), (ad 8, .inl (cJ, 20, .inr (.inl mcd))), (ad 9, .inl (cI, 20, .inl mck)), (ad 10, .inl (cJ, 20, .inr (.inl mcg)))] := hD
  refine lv_aload_n hx hb zd_Mo_add_10 rfl (lv_at hl 0 rfl) ?_
  refine va_get (D := (dC, dI)) (ci := 5) (v := .ref (ad 8)) (C := zR_Mo) (T := zT_Mo) (N := 24) hx hb hts (fun w h => hsub w (zi_Mo w h)) hown hK hP 0 rfl rfl 10 (by decide) (hw _ zq_453) (fun _ h9 => h9) rfl zd_Mo_add_11 ?_
  refine lv_aload_n hx hb zd_Mo_add_14 rfl (lv_at hl 0 rfl) ?_
  refine va_get (D := (dC, dI)) (ci := 5) (v := .int mcn) (C := zR_Mo) (T := zT_Mo) (N := 24) hx hb hts (fun w h => hsub w (zi_Mo w h)) hown hK hP 0 rfl rfl 8 (by decide) (hw _ zq_451) (fun _ h9 => h9) rfl zd_Mo_add_15 ?_
  refine lv_lload_n hx hb zd_Mo_add_18 rfl (lv_at hl 2 rfl) ?_
  obtain ⟨h_2, hf⟩ := mp_in hf
  refine va_last hx hb hK hP hD hS 2 1 rfl rfl (i := mcn) (x := u2) h_2 zd_Mo_add_19 (fun H locs hP hD hS => ?_)
  have hP : va_P (dC, dI) vwCl [(ad 0, .inr (5, [.int mgc, .ref (ad 1), .int mpn, .ref (ad 2), .ref (ad 3), .ref (ad 4), .ref (ad 5), .ref (ad 6), .int mcn, .ref (ad 7), .ref (ad 8), .ref (ad 9), .ref (ad 10), .ref (ad 11), .ref (ad 12), .int msz, .ref (ad 13), .int mwc, .int mhf, .ref (ad 14), .ref (ad 15), .ref (ad 16), .ref (ad 17), .ref (ad 18)])), (ad 7, .inl (cI, 20, .inl (upd mcp mcn.toNatClampNeg u1))), (ad 8, .inl (cJ, 20, .inr (.inl (vp_updL mcd mcn.toNatClampNeg u2)))), (ad 9, .inl (cI, 20, .inl mck)), (ad 10, .inl (cJ, 20, .inr (.inl mcg)))] H := hP
  have hD : va_D A [(ad 0, .inr (5, [.int mgc, .ref (ad 1), .int mpn, .ref (ad 2), .ref (ad 3), .ref (ad 4), .ref (ad 5), .ref (ad 6), .int mcn, .ref (ad 7), .ref (ad 8), .ref (ad 9), .ref (ad 10), .ref (ad 11), .ref (ad 12), .int msz, .ref (ad 13), .int mwc, .int mhf, .ref (ad 14), .ref (ad 15), .ref (ad 16), .ref (ad 17), .ref (ad 18)])), (ad 7, .inl (cI, 20, .inl (upd mcp mcn.toNatClampNeg u1))), (ad 8, .inl (cJ, 20, .inr (.inl (vp_updL mcd mcn.toNatClampNeg u2)))), (ad 9, .inl (cI, 20, .inl mck)), (ad 10, .inl (cJ, 20, .inr (.inl mcg)))] := hD
  refine lv_aload_n hx hb zd_Mo_add_20 rfl (lv_at hl 0 rfl) ?_
  refine va_get (D := (dC, dI)) (ci := 5) (v := .ref (ad 9)) (C := zR_Mo) (T := zT_Mo) (N := 24) hx hb hts (fun w h => hsub w (zi_Mo w h)) hown hK hP 0 rfl rfl 11 (by decide) (hw _ zq_454) (fun _ h9 => h9) rfl zd_Mo_add_21 ?_
  refine lv_aload_n hx hb zd_Mo_add_24 rfl (lv_at hl 0 rfl) ?_
  refine va_get (D := (dC, dI)) (ci := 5) (v := .int mcn) (C := zR_Mo) (T := zT_Mo) (N := 24) hx hb hts (fun w h => hsub w (zi_Mo w h)) hown hK hP 0 rfl rfl 8 (by decide) (hw _ zq_451) (fun _ h9 => h9) rfl zd_Mo_add_25 ?_
  refine lv_iload hx hb zd_Mo_add_28 (lv_at hl 3 rfl) ?_
  obtain ⟨h_3, hf⟩ := mp_in hf
  refine va_iast hx hb hK hP hD hS 3 0 rfl rfl (i := mcn) (x := u4) h_3 zd_Mo_add_30 (fun H locs hP hD hS => ?_)
  have hP : va_P (dC, dI) vwCl [(ad 0, .inr (5, [.int mgc, .ref (ad 1), .int mpn, .ref (ad 2), .ref (ad 3), .ref (ad 4), .ref (ad 5), .ref (ad 6), .int mcn, .ref (ad 7), .ref (ad 8), .ref (ad 9), .ref (ad 10), .ref (ad 11), .ref (ad 12), .int msz, .ref (ad 13), .int mwc, .int mhf, .ref (ad 14), .ref (ad 15), .ref (ad 16), .ref (ad 17), .ref (ad 18)])), (ad 7, .inl (cI, 20, .inl (upd mcp mcn.toNatClampNeg u1))), (ad 8, .inl (cJ, 20, .inr (.inl (vp_updL mcd mcn.toNatClampNeg u2)))), (ad 9, .inl (cI, 20, .inl (upd mck mcn.toNatClampNeg u4))), (ad 10, .inl (cJ, 20, .inr (.inl mcg)))] H := hP
  have hD : va_D A [(ad 0, .inr (5, [.int mgc, .ref (ad 1), .int mpn, .ref (ad 2), .ref (ad 3), .ref (ad 4), .ref (ad 5), .ref (ad 6), .int mcn, .ref (ad 7), .ref (ad 8), .ref (ad 9), .ref (ad 10), .ref (ad 11), .ref (ad 12), .int msz, .ref (ad 13), .int mwc, .int mhf, .ref (ad 14), .ref (ad 15), .ref (ad 16), .ref (ad 17), .ref (ad 18)])), (ad 7, .inl (cI, 20, .inl (upd mcp mcn.toNatClampNeg u1))), (ad 8, .inl (cJ, 20, .inr (.inl (vp_updL mcd mcn.toNatClampNeg u2)))), (ad 9, .inl (cI, 20, .inl (upd mck mcn.toNatClampNeg u4))), (ad 10, .inl (cJ, 20, .inr (.inl mcg)))] := hD
  refine lv_aload_n hx hb zd_Mo_add_31 rfl (lv_at hl 0 rfl) ?_
  refine va_get (D := (dC, dI)) (ci := 5) (v := .ref (ad 10)) (C := zR_Mo) (T := zT_Mo) (N := 24) hx hb hts (fun w h => hsub w (zi_Mo w h)) hown hK hP 0 rfl rfl 12 (by decide) (hw _ zq_455) (fun _ h9 => h9) rfl zd_Mo_add_32 ?_
  refine lv_aload_n hx hb zd_Mo_add_35 rfl (lv_at hl 0 rfl) ?_
  refine va_get (D := (dC, dI)) (ci := 5) (v := .int mcn) (C := zR_Mo) (T := zT_Mo) (N := 24) hx hb hts (fun w h => hsub w (zi_Mo w h)) hown hK hP 0 rfl rfl 8 (by decide) (hw _ zq_451) (fun _ h9 => h9) rfl zd_Mo_add_36 ?_
  refine lv_lload hx hb zd_Mo_add_39 (lv_at hl 4 rfl) ?_
  obtain ⟨h_4, hf⟩ := mp_in hf
  refine va_last hx hb hK hP hD hS 4 1 rfl rfl (i := mcn) (x := u5) h_4 zd_Mo_add_41 (fun H locs hP hD hS => ?_)
  have hP : va_P (dC, dI) vwCl [(ad 0, .inr (5, [.int mgc, .ref (ad 1), .int mpn, .ref (ad 2), .ref (ad 3), .ref (ad 4), .ref (ad 5), .ref (ad 6), .int mcn, .ref (ad 7), .ref (ad 8), .ref (ad 9), .ref (ad 10), .ref (ad 11), .ref (ad 12), .int msz, .ref (ad 13), .int mwc, .int mhf, .ref (ad 14), .ref (ad 15), .ref (ad 16), .ref (ad 17), .ref (ad 18)])), (ad 7, .inl (cI, 20, .inl (upd mcp mcn.toNatClampNeg u1))), (ad 8, .inl (cJ, 20, .inr (.inl (vp_updL mcd mcn.toNatClampNeg u2)))), (ad 9, .inl (cI, 20, .inl (upd mck mcn.toNatClampNeg u4))), (ad 10, .inl (cJ, 20, .inr (.inl (vp_updL mcg mcn.toNatClampNeg u5))))] H := hP
  have hD : va_D A [(ad 0, .inr (5, [.int mgc, .ref (ad 1), .int mpn, .ref (ad 2), .ref (ad 3), .ref (ad 4), .ref (ad 5), .ref (ad 6), .int mcn, .ref (ad 7), .ref (ad 8), .ref (ad 9), .ref (ad 10), .ref (ad 11), .ref (ad 12), .int msz, .ref (ad 13), .int mwc, .int mhf, .ref (ad 14), .ref (ad 15), .ref (ad 16), .ref (ad 17), .ref (ad 18)])), (ad 7, .inl (cI, 20, .inl (upd mcp mcn.toNatClampNeg u1))), (ad 8, .inl (cJ, 20, .inr (.inl (vp_updL mcd mcn.toNatClampNeg u2)))), (ad 9, .inl (cI, 20, .inl (upd mck mcn.toNatClampNeg u4))), (ad 10, .inl (cJ, 20, .inr (.inl (vp_updL mcg mcn.toNatClampNeg u5))))] := hD
  refine lv_aload_n hx hb zd_Mo_add_42 rfl (lv_at hl 0 rfl) ?_
  refine lv_dup hx hb zd_Mo_add_43 rfl ?_
  refine va_get (D := (dC, dI)) (ci := 5) (v := .int mcn) (C := zR_Mo) (T := zT_Mo) (N := 24) hx hb hts (fun w h => hsub w (zi_Mo w h)) hown hK hP 0 rfl rfl 8 (by decide) (hw _ zq_451) (fun _ h9 => h9) rfl zd_Mo_add_44 ?_
  refine lv_iconst (v := 1) hx hb zd_Mo_add_47 (by decide) ?_
  refine lv_iadd hx hb zd_Mo_add_48 ?_
  refine va_put (D := (dC, dI)) (ci := 5) (v := .int (mcn + (1 : Int32))) (ty := .int) (C := zR_Mo) (T := zT_Mo) (N := 24) hx hb hts (fun w h => hsub w (zi_Mo w h)) zt_Mo zt_Mo_ok zn_Mo hown hK hP hD hS 0 rfl rfl 8 (by decide) (hw _ zq_451) (fun _ h9 => h9) rfl (by decide +kernel) rfl rfl (Nat.le_of_ble_eq_true rfl) zd_Mo_add_49 (fun H locs hP hD hS => ?_)
  have hP : va_P (dC, dI) vwCl [(ad 0, .inr (5, [.int mgc, .ref (ad 1), .int mpn, .ref (ad 2), .ref (ad 3), .ref (ad 4), .ref (ad 5), .ref (ad 6), .int (mcn + (1 : Int32)), .ref (ad 7), .ref (ad 8), .ref (ad 9), .ref (ad 10), .ref (ad 11), .ref (ad 12), .int msz, .ref (ad 13), .int mwc, .int mhf, .ref (ad 14), .ref (ad 15), .ref (ad 16), .ref (ad 17), .ref (ad 18)])), (ad 7, .inl (cI, 20, .inl (upd mcp mcn.toNatClampNeg u1))), (ad 8, .inl (cJ, 20, .inr (.inl (vp_updL mcd mcn.toNatClampNeg u2)))), (ad 9, .inl (cI, 20, .inl (upd mck mcn.toNatClampNeg u4))), (ad 10, .inl (cJ, 20, .inr (.inl (vp_updL mcg mcn.toNatClampNeg u5))))] H := hP
  have hD : va_D A [(ad 0, .inr (5, [.int mgc, .ref (ad 1), .int mpn, .ref (ad 2), .ref (ad 3), .ref (ad 4), .ref (ad 5), .ref (ad 6), .int (mcn + (1 : Int32)), .ref (ad 7), .ref (ad 8), .ref (ad 9), .ref (ad 10), .ref (ad 11), .ref (ad 12), .int msz, .ref (ad 13), .int mwc, .int mhf, .ref (ad 14), .ref (ad 15), .ref (ad 16), .ref (ad 17), .ref (ad 18)])), (ad 7, .inl (cI, 20, .inl (upd mcp mcn.toNatClampNeg u1))), (ad 8, .inl (cJ, 20, .inr (.inl (vp_updL mcd mcn.toNatClampNeg u2)))), (ad 9, .inl (cI, 20, .inl (upd mck mcn.toNatClampNeg u4))), (ad 10, .inl (cJ, 20, .inr (.inl (vp_updL mcg mcn.toNatClampNeg u5))))] := hD
  have hf := Option.some.inj hf
  subst hf
  exact W.vret hx hb hr (fun t ht hW => ⟨⟨(), rfl, trivial, by rw [ht]; exact hP, hD⟩, hS.F ht⟩) hS.2.2 zd_Mo_add_52
set_option maxHeartbeats 4000000 in
set_option maxRecDepth 100000 in
theorem zc_Mo_change (l : Launch) (dC : Nat → ClassId) (dI : Nat → Nat → Nat) (cI cJ cZ : ClassId) (ad : Nat → Nat) (sz : Nat) (mgc : Int32) (mpn : Int32) (mcn : Int32) (msz : Int32) (mwc : Int32) (mhf : Int32) (mver : Nat → Int32) (mho : Nat → Int32) (mcp : Nat → Int32) (mcd : Nat → Int64) (mck : Nat → Int32) (mcg : Nat → Int64) (u1 : Int32) (u2 : Int64) (u4 : Int32) (u5 : Int64) (res : Int32 × Int32 × (Nat → Int32) × (Nat → Int32) × (Nat → Int64) × (Nat → Int32) × (Nat → Int64)) (hf : zf_Mo_change u1 u2 u4 u5 mpn mcn mver mho mcp mcd mck mcg = some res) : Met l zy_Mo_change zw_Mo_change ({ frames := 1, cells := 0, slots := 0, locals := 26 } : Room) (mp_PM (dC, dI) vwCl (mp_tys cI cJ cZ) [(ad 0, .inr (5, [.int mgc, .ref (ad 1), .int mpn, .ref (ad 2), .ref (ad 3), .ref (ad 4), .ref (ad 5), .ref (ad 6), .int mcn, .ref (ad 7), .ref (ad 8), .ref (ad 9), .ref (ad 10), .ref (ad 11), .ref (ad 12), .int msz, .ref (ad 13), .int mwc, .int mhf, .ref (ad 14), .ref (ad 15), .ref (ad 16), .ref (ad 17), .ref (ad 18)])), (ad 1, .inl (cI, 8, .inl mver)), (ad 2, .inl (cI, 24, .inl mho)), (ad 7, .inl (cI, 20, .inl mcp)), (ad 8, .inl (cJ, 20, .inr (.inl mcd))), (ad 9, .inl (cI, 20, .inl mck)), (ad 10, .inl (cJ, 20, .inr (.inl mcg)))] sz [.ref (ad 0), .int u1, .long u2, .int u4, .long u5]) (va_Qi (fun r (_ : Unit) => r = res.1 ∧ mp_b res.1) (mp_BM (dC, dI) vwCl [(ad 0, .inr (5, [.int mgc, .ref (ad 1), .int mpn, .ref (ad 2), .ref (ad 3), .ref (ad 4), .ref (ad 5), .ref (ad 6), .int res.2.1, .ref (ad 7), .ref (ad 8), .ref (ad 9), .ref (ad 10), .ref (ad 11), .ref (ad 12), .int msz, .ref (ad 13), .int mwc, .int mhf, .ref (ad 14), .ref (ad 15), .ref (ad 16), .ref (ad 17), .ref (ad 18)])), (ad 1, .inl (cI, 8, .inl res.2.2.1)), (ad 2, .inl (cI, 24, .inl mho)), (ad 7, .inl (cI, 20, .inl res.2.2.2.1)), (ad 8, .inl (cJ, 20, .inr (.inl res.2.2.2.2.1))), (ad 9, .inl (cI, 20, .inl res.2.2.2.2.2.1)), (ad 10, .inl (cJ, 20, .inr (.inl res.2.2.2.2.2.2)))] (va_A [(ad 0, .inr (5, [.int mgc, .ref (ad 1), .int mpn, .ref (ad 2), .ref (ad 3), .ref (ad 4), .ref (ad 5), .ref (ad 6), .int mcn, .ref (ad 7), .ref (ad 8), .ref (ad 9), .ref (ad 10), .ref (ad 11), .ref (ad 12), .int msz, .ref (ad 13), .int mwc, .int mhf, .ref (ad 14), .ref (ad 15), .ref (ad 16), .ref (ad 17), .ref (ad 18)])), (ad 1, .inl (cI, 8, .inl mver)), (ad 2, .inl (cI, 24, .inl mho)), (ad 7, .inl (cI, 20, .inl mcp)), (ad 8, .inl (cJ, 20, .inr (.inl mcd))), (ad 9, .inl (cI, 20, .inl mck)), (ad 10, .inl (cJ, 20, .inr (.inl mcg)))] sz)) (va_A [(ad 0, .inr (5, [.int mgc, .ref (ad 1), .int mpn, .ref (ad 2), .ref (ad 3), .ref (ad 4), .ref (ad 5), .ref (ad 6), .int mcn, .ref (ad 7), .ref (ad 8), .ref (ad 9), .ref (ad 10), .ref (ad 11), .ref (ad 12), .int msz, .ref (ad 13), .int mwc, .int mhf, .ref (ad 14), .ref (ad 15), .ref (ad 16), .ref (ad 17), .ref (ad 18)])), (ad 1, .inl (cI, 8, .inl mver)), (ad 2, .inl (cI, 24, .inl mho)), (ad 7, .inl (cI, 20, .inl mcp)), (ad 8, .inl (cJ, 20, .inr (.inl mcd))), (ad 9, .inl (cI, 20, .inl mck)), (ad 10, .inl (cJ, 20, .inr (.inl mcg)))] sz)) 0 0 ((va_A [(ad 0, .inr (5, [.int mgc, .ref (ad 1), .int mpn, .ref (ad 2), .ref (ad 3), .ref (ad 4), .ref (ad 5), .ref (ad 6), .int mcn, .ref (ad 7), .ref (ad 8), .ref (ad 9), .ref (ad 10), .ref (ad 11), .ref (ad 12), .int msz, .ref (ad 13), .int mwc, .int mhf, .ref (ad 14), .ref (ad 15), .ref (ad 16), .ref (ad 17), .ref (ad 18)])), (ad 1, .inl (cI, 8, .inl mver)), (ad 2, .inl (cI, 24, .inl mho)), (ad 7, .inl (cI, 20, .inl mcp)), (ad 8, .inl (cJ, 20, .inr (.inl mcd))), (ad 9, .inl (cI, 20, .inl mck)), (ad 10, .inl (cJ, 20, .inr (.inl mcg)))] sz)) := by
  refine Met.ofW (cc := zb_Mo_change) (maxL := 7) (ret := (some .boolean)) (by decide) rfl ?_
  intro p e s m args below meth c s₁ B hml hv
  obtain ⟨rfl, hsz, hP, hK, hD0, hN⟩ := hv
  have hx := B.exec
  have hb := B.bytes
  have hr := B.returns
  have hts := atoms_spec (ws := zw_Mo_change) B.pre
  have hsub : ∀ w ∈ mp_tbl, w ∈ zw_Mo_change := fun w h => List.mem_cons_of_mem _ h
  have hw : ∀ w ∈ mp_tbl, w.before _ s = true := fun w h => hts w (hsub w h)
  have hown : s.vm.findClass zR_Mo = some m.cls := findClass_of_methodNamed B.named
  have hlocks := B.notSynchronized
  subst hsz
  have hD := hD0.self (sz := s.heap.size)
  generalize hAe : va_A [(ad 0, .inr (5, [.int mgc, .ref (ad 1), .int mpn, .ref (ad 2), .ref (ad 3), .ref (ad 4), .ref (ad 5), .ref (ad 6), .int mcn, .ref (ad 7), .ref (ad 8), .ref (ad 9), .ref (ad 10), .ref (ad 11), .ref (ad 12), .int msz, .ref (ad 13), .int mwc, .int mhf, .ref (ad 14), .ref (ad 15), .ref (ad 16), .ref (ad 17), .ref (ad 18)])), (ad 1, .inl (cI, 8, .inl mver)), (ad 2, .inl (cI, 24, .inl mho)), (ad 7, .inl (cI, 20, .inl mcp)), (ad 8, .inl (cJ, 20, .inr (.inl mcd))), (ad 9, .inl (cI, 20, .inl mck)), (ad 10, .inl (cJ, 20, .inr (.inl mcg)))] s.heap.size = A at hD ⊢
  have hA : ∀ q : Nat, s.heap.size ≤ q → A q := fun q h => by rw [← hAe]; exact Or.inr h
  have hS : va_S A s.heap s.heap [] := va_S.rf
  have hP : va_P (dC, dI) vwCl [(ad 0, .inr (5, [.int mgc, .ref (ad 1), .int mpn, .ref (ad 2), .ref (ad 3), .ref (ad 4), .ref (ad 5), .ref (ad 6), .int mcn, .ref (ad 7), .ref (ad 8), .ref (ad 9), .ref (ad 10), .ref (ad 11), .ref (ad 12), .int msz, .ref (ad 13), .int mwc, .int mhf, .ref (ad 14), .ref (ad 15), .ref (ad 16), .ref (ad 17), .ref (ad 18)])), (ad 1, .inl (cI, 8, .inl mver)), (ad 2, .inl (cI, 24, .inl mho)), (ad 7, .inl (cI, 20, .inl mcp)), (ad 8, .inl (cJ, 20, .inr (.inl mcd))), (ad 9, .inl (cI, 20, .inl mck)), (ad 10, .inl (cJ, 20, .inr (.inl mcg)))] s.heap := hP
  clear hAe hD0
  have hl := lv_entry ([.ref (ad 0), .int u1, .long u2, .int u4, .long u5]) (n := 7) (Nat.le_of_ble_eq_true rfl)
  rw [lg_entry_eq]
  generalize (lg_sl ([.ref (ad 0), .int u1, .long u2, .int u4, .long u5]) ++ List.replicate (7 - (lg_sl ([.ref (ad 0), .int u1, .long u2, .int u4, .long u5])).length) Slot.unset).toArray = ls at hl ⊢
  have hl : lv_has ls 7 [(0, .ref (ad 0)), (1, .int u1), (2, .long u2), (4, .int u4), (5, .long u5)] := hl
  unfold zf_Mo_change at hf
  refine lv_aload_n hx hb zd_Mo_change_0 rfl (lv_at hl 0 rfl) ?_
  refine va_get (D := (dC, dI)) (ci := 5) (v := .int mcn) (C := zR_Mo) (T := zT_Mo) (N := 24) hx hb hts (fun w h => hsub w (zi_Mo w h)) hown hK hP 0 rfl rfl 8 (by decide) (hw _ zq_451) (fun _ h9 => h9) rfl zd_Mo_change_1 ?_
  refine lv_bipush (v := 20) hx hb zd_Mo_change_4 (by decide) ?_
  refine lv_icmp_eq (tgt := 48) hx hb zd_Mo_change_6 (by decide) (fun c_1 => ?_) (fun c_1 => ?_)
  · have hf := mp_t c_1 hf
    refine lv_iconst (v := 0) hx hb zd_Mo_change_48 (by decide) ?_
    have hf := Option.some.inj hf
    subst hf
    exact W.zret (v := (0 : Int32)) hx hb hr (mp_nz (Or.inl rfl)) (fun t ht hW => ⟨⟨(0 : Int32), (), rfl, ⟨rfl, (Or.inl rfl)⟩, by rw [ht]; exact hP, hD⟩, hS.F ht⟩) hS.2.2 zd_Mo_change_49
  · have hf := mp_f c_1 hf
    refine lv_aload_n hx hb zd_Mo_change_9 rfl (lv_at hl 0 rfl) ?_
    refine lv_iload_n hx hb zd_Mo_change_10 rfl (lv_at hl 1 rfl) ?_
    obtain ⟨y2, hg2, hf⟩ := mp_bd hf
    refine mp_Rz (va_runV (As := [.int u1]) (rest := []) ⟨hx, hb, hml, hown, hts⟩ (zc_Mo_isPart l dC dI cI cJ cZ ad mgc mpn mcn msz mwc mhf u1 y2 hg2) (cwV 1 hts (mp_gV hsub zq_540 zq_542 zq_10 zq_30 zq_543) rfl rfl rfl (by decide +kernel) ⟨Nat.le_of_ble_eq_true rfl, Nat.le_of_ble_eq_true rfl⟩) ⟨mp_blR, va_recv hK hP (ci := 5) (q0 := 0) rfl rfl, mp_preR hN hK (hP.sub [0] rfl)⟩ rfl rfl hl.1 rfl (lv_room (Nat.le_of_ble_eq_true rfl)) zd_Mo_change_11 ⟨Nat.zero_le _, Nat.zero_le _⟩) (fun hz2 => ?_)
    refine lv_if_eq (tgt := 48) hx hb zd_Mo_change_14 (by decide) (fun c_3 => ?_) (fun c_3 => ?_)
    · have hf := mp_t c_3 hf
      refine lv_iconst (v := 0) hx hb zd_Mo_change_48 (by decide) ?_
      have hf := Option.some.inj hf
      subst hf
      exact W.zret (v := (0 : Int32)) hx hb hr (mp_nz (Or.inl rfl)) (fun t ht hW => ⟨⟨(0 : Int32), (), rfl, ⟨rfl, (Or.inl rfl)⟩, by rw [ht]; exact hP, hD⟩, hS.F ht⟩) hS.2.2 zd_Mo_change_49
    · have hf := mp_f c_3 hf
      refine lv_lload_n hx hb zd_Mo_change_17 rfl (lv_at hl 2 rfl) ?_
      refine lv_lconst (v := 0) hx hb zd_Mo_change_18 (by decide) ?_
      refine lv_ldc2 (v := 100000) hx hb hown (hw _ zq_556) zd_Mo_change_19 ?_
      obtain ⟨y4, hg4, hf⟩ := mp_bd hf
      refine mp_Rz (va_runS (As := [.long u2, .long (0 : Int64), .long (100000 : Int64)]) (rest := []) ⟨hx, hb, hml, hown, hts⟩ (zc_Mo_isIn l dC dI cI cJ cZ ad u2 (0 : Int64) (100000 : Int64) y4 hg4) (va_cwS 3 hts (mp_gS hsub zq_532 zq_533 zq_30 zq_534) rfl rfl rfl (by decide +kernel) ⟨Nat.le_of_ble_eq_true rfl, Nat.le_of_ble_eq_true rfl⟩) ⟨mp_blR, mp_preR hN hK (hP.sub [] rfl)⟩ rfl rfl hl.1 rfl (lv_room (Nat.le_of_ble_eq_true rfl)) zd_Mo_change_22 ⟨Nat.zero_le _, Nat.zero_le _⟩) (fun hz4 => ?_)
      refine lv_if_eq (tgt := 48) hx hb zd_Mo_change_25 (by decide) (fun c_5 => ?_) (fun c_5 => ?_)
      · have hf := mp_t c_5 hf
        refine lv_iconst (v := 0) hx hb zd_Mo_change_48 (by decide) ?_
        have hf := Option.some.inj hf
        subst hf
        exact W.zret (v := (0 : Int32)) hx hb hr (mp_nz (Or.inl rfl)) (fun t ht hW => ⟨⟨(0 : Int32), (), rfl, ⟨rfl, (Or.inl rfl)⟩, by rw [ht]; exact hP, hD⟩, hS.F ht⟩) hS.2.2 zd_Mo_change_49
      · have hf := mp_f c_5 hf
        refine lv_iload hx hb zd_Mo_change_28 (lv_at hl 3 rfl) ?_
        obtain ⟨y6, hg6, hf⟩ := mp_bd hf
        refine mp_Rz (va_runS (As := [.int u4]) (rest := []) ⟨hx, hb, hml, hown, hts⟩ (zc_Mo_isKind l dC dI cI cJ cZ ad u4 y6 hg6) (va_cwS 1 hts (mp_gS hsub zq_528 zq_529 zq_30 zq_530) rfl rfl rfl (by decide +kernel) ⟨Nat.le_of_ble_eq_true rfl, Nat.le_of_ble_eq_true rfl⟩) ⟨mp_blR, mp_preR hN hK (hP.sub [] rfl)⟩ rfl rfl hl.1 rfl (lv_room (Nat.le_of_ble_eq_true rfl)) zd_Mo_change_30 ⟨Nat.zero_le _, Nat.zero_le _⟩) (fun hz6 => ?_)
        refine lv_if_eq (tgt := 48) hx hb zd_Mo_change_33 (by decide) (fun c_7 => ?_) (fun c_7 => ?_)
        · have hf := mp_t c_7 hf
          refine lv_iconst (v := 0) hx hb zd_Mo_change_48 (by decide) ?_
          have hf := Option.some.inj hf
          subst hf
          exact W.zret (v := (0 : Int32)) hx hb hr (mp_nz (Or.inl rfl)) (fun t ht hW => ⟨⟨(0 : Int32), (), rfl, ⟨rfl, (Or.inl rfl)⟩, by rw [ht]; exact hP, hD⟩, hS.F ht⟩) hS.2.2 zd_Mo_change_49
        · have hf := mp_f c_7 hf
          refine lv_lload hx hb zd_Mo_change_36 (lv_at hl 4 rfl) ?_
          refine lv_lconst (v := 0) hx hb zd_Mo_change_38 (by decide) ?_
          refine lv_ldc2 (v := 1000000000) hx hb hown (hw _ zq_531) zd_Mo_change_39 ?_
          obtain ⟨y8, hg8, hf⟩ := mp_bd hf
          refine mp_Rz (va_runS (As := [.long u5, .long (0 : Int64), .long (1000000000 : Int64)]) (rest := []) ⟨hx, hb, hml, hown, hts⟩ (zc_Mo_isIn l dC dI cI cJ cZ ad u5 (0 : Int64) (1000000000 : Int64) y8 hg8) (va_cwS 3 hts (mp_gS hsub zq_532 zq_533 zq_30 zq_534) rfl rfl rfl (by decide +kernel) ⟨Nat.le_of_ble_eq_true rfl, Nat.le_of_ble_eq_true rfl⟩) ⟨mp_blR, mp_preR hN hK (hP.sub [] rfl)⟩ rfl rfl hl.1 rfl (lv_room (Nat.le_of_ble_eq_true rfl)) zd_Mo_change_42 ⟨Nat.zero_le _, Nat.zero_le _⟩) (fun hz8 => ?_)
          refine lv_if_ne (tgt := 50) hx hb zd_Mo_change_45 (by decide) (fun c_9 => ?_) (fun c_9 => ?_)
          · have hf := mp_f c_9 hf
            refine lv_aload_n hx hb zd_Mo_change_50 rfl (lv_at hl 0 rfl) ?_
            refine lv_iload_n hx hb zd_Mo_change_51 rfl (lv_at hl 1 rfl) ?_
            refine lv_lload_n hx hb zd_Mo_change_52 rfl (lv_at hl 2 rfl) ?_
            refine lv_iload hx hb zd_Mo_change_53 (lv_at hl 3 rfl) ?_
            refine lv_lload hx hb zd_Mo_change_55 (lv_at hl 4 rfl) ?_
            obtain ⟨y10, hg10, hf⟩ := mp_bd hf
            refine mp_Mv (wr := [(ad 1, .inl (cI, 8, .inl mver)), (ad 2, .inl (cI, 24, .inl mho))]) (va_runV (As := [.int u1, .long u2, .int u4, .long u5]) (rest := []) ⟨hx, hb, hml, hown, hts⟩ (zc_Mo_add l dC dI cI cJ cZ ad _ mgc mpn mcn msz mwc mhf mcp mcd mck mcg u1 u2 u4 u5 y10 hg10) (cwV 4 hts (mp_gV hsub zq_557 zq_559 zq_12 zq_30 zq_560) rfl rfl rfl (by decide +kernel) ⟨Nat.le_of_ble_eq_true rfl, Nat.le_of_ble_eq_true rfl⟩) ⟨mp_blM, va_recv hK hP (ci := 5) (q0 := 0) rfl rfl, mp_preM hN hK (hP.sub [0, 3, 4, 5, 6] rfl) (hD.sub [0, 3, 4, 5, 6] (by decide) rfl)⟩ rfl rfl hl.1 rfl (lv_room (Nat.le_of_ble_eq_true rfl)) zd_Mo_change_57 ⟨Nat.zero_le _, Nat.zero_le _⟩) hP hD hS hA [0, 3, 4, 5, 6] [1, 2] rfl rfl (by decide) (by decide) (fun H locs hP hD hS => ?_)
            have hP : va_P (dC, dI) vwCl [(ad 1, .inl (cI, 8, .inl mver)), (ad 2, .inl (cI, 24, .inl mho)), (ad 0, .inr (5, [.int mgc, .ref (ad 1), .int mpn, .ref (ad 2), .ref (ad 3), .ref (ad 4), .ref (ad 5), .ref (ad 6), .int y10.1, .ref (ad 7), .ref (ad 8), .ref (ad 9), .ref (ad 10), .ref (ad 11), .ref (ad 12), .int msz, .ref (ad 13), .int mwc, .int mhf, .ref (ad 14), .ref (ad 15), .ref (ad 16), .ref (ad 17), .ref (ad 18)])), (ad 7, .inl (cI, 20, .inl y10.2.1)), (ad 8, .inl (cJ, 20, .inr (.inl y10.2.2.1))), (ad 9, .inl (cI, 20, .inl y10.2.2.2.1)), (ad 10, .inl (cJ, 20, .inr (.inl y10.2.2.2.2)))] H := hP
            have hD : va_D A [(ad 1, .inl (cI, 8, .inl mver)), (ad 2, .inl (cI, 24, .inl mho)), (ad 0, .inr (5, [.int mgc, .ref (ad 1), .int mpn, .ref (ad 2), .ref (ad 3), .ref (ad 4), .ref (ad 5), .ref (ad 6), .int y10.1, .ref (ad 7), .ref (ad 8), .ref (ad 9), .ref (ad 10), .ref (ad 11), .ref (ad 12), .int msz, .ref (ad 13), .int mwc, .int mhf, .ref (ad 14), .ref (ad 15), .ref (ad 16), .ref (ad 17), .ref (ad 18)])), (ad 7, .inl (cI, 20, .inl y10.2.1)), (ad 8, .inl (cJ, 20, .inr (.inl y10.2.2.1))), (ad 9, .inl (cI, 20, .inl y10.2.2.2.1)), (ad 10, .inl (cJ, 20, .inr (.inl y10.2.2.2.2)))] := hD
            refine lv_aload_n hx hb zd_Mo_change_60 rfl (lv_at hl 0 rfl) ?_
            refine va_get (D := (dC, dI)) (ci := 5) (v := .ref (ad 1)) (C := zR_Mo) (T := zT_Mo) (N := 24) hx hb hts (fun w h => hsub w (zi_Mo w h)) hown hK hP 2 rfl rfl 1 (by decide) (hw _ zq_444) (fun _ h9 => h9) rfl zd_Mo_change_61 ?_
            refine lv_aload_n hx hb zd_Mo_change_64 rfl (lv_at hl 0 rfl) ?_
            refine va_get (D := (dC, dI)) (ci := 5) (v := .ref (ad 2)) (C := zR_Mo) (T := zT_Mo) (N := 24) hx hb hts (fun w h => hsub w (zi_Mo w h)) hown hK hP 2 rfl rfl 3 (by decide) (hw _ zq_446) (fun _ h9 => h9) rfl zd_Mo_change_65 ?_
            refine lv_iload_n hx hb zd_Mo_change_68 rfl (lv_at hl 1 rfl) ?_
            obtain ⟨h_11, hf⟩ := mp_in hf
            refine va_iald hx hb hK hP 1 0 rfl rfl (i := u1) h_11 zd_Mo_change_69 ?_
            refine lv_dup2_11 hx hb zd_Mo_change_70 rfl rfl ?_
            obtain ⟨h_12, hf⟩ := mp_in hf
            refine va_iald hx hb hK hP 0 0 rfl rfl (i := (mho u1.toNatClampNeg)) h_12 zd_Mo_change_71 ?_
            refine lv_iconst (v := 1) hx hb zd_Mo_change_72 (by decide) ?_
            refine lv_iadd hx hb zd_Mo_change_73 ?_
            obtain ⟨h_13, hf⟩ := mp_in hf
            refine va_iast hx hb hK hP hD hS 0 0 rfl rfl (i := (mho u1.toNatClampNeg)) (x := ((mver (mho u1.toNatClampNeg).toNatClampNeg) + (1 : Int32))) h_13 zd_Mo_change_74 (fun H locs hP hD hS => ?_)
            have hP : va_P (dC, dI) vwCl [(ad 1, .inl (cI, 8, .inl (upd mver (mho u1.toNatClampNeg).toNatClampNeg ((mver (mho u1.toNatClampNeg).toNatClampNeg) + (1 : Int32))))), (ad 2, .inl (cI, 24, .inl mho)), (ad 0, .inr (5, [.int mgc, .ref (ad 1), .int mpn, .ref (ad 2), .ref (ad 3), .ref (ad 4), .ref (ad 5), .ref (ad 6), .int y10.1, .ref (ad 7), .ref (ad 8), .ref (ad 9), .ref (ad 10), .ref (ad 11), .ref (ad 12), .int msz, .ref (ad 13), .int mwc, .int mhf, .ref (ad 14), .ref (ad 15), .ref (ad 16), .ref (ad 17), .ref (ad 18)])), (ad 7, .inl (cI, 20, .inl y10.2.1)), (ad 8, .inl (cJ, 20, .inr (.inl y10.2.2.1))), (ad 9, .inl (cI, 20, .inl y10.2.2.2.1)), (ad 10, .inl (cJ, 20, .inr (.inl y10.2.2.2.2)))] H := hP
            have hD : va_D A [(ad 1, .inl (cI, 8, .inl (upd mver (mho u1.toNatClampNeg).toNatClampNeg ((mver (mho u1.toNatClampNeg).toNatClampNeg) + (1 : Int32))))), (ad 2, .inl (cI, 24, .inl mho)), (ad 0, .inr (5, [.int mgc, .ref (ad 1), .int mpn, .ref (ad 2), .ref (ad 3), .ref (ad 4), .ref (ad 5), .ref (ad 6), .int y10.1, .ref (ad 7), .ref (ad 8), .ref (ad 9), .ref (ad 10), .ref (ad 11), .ref (ad 12), .int msz, .ref (ad 13), .int mwc, .int mhf, .ref (ad 14), .ref (ad 15), .ref (ad 16), .ref (ad 17), .ref (ad 18)])), (ad 7, .inl (cI, 20, .inl y10.2.1)), (ad 8, .inl (cJ, 20, .inr (.inl y10.2.2.1))), (ad 9, .inl (cI, 20, .inl y10.2.2.2.1)), (ad 10, .inl (cJ, 20, .inr (.inl y10.2.2.2.2)))] := hD
            refine lv_iconst (v := 1) hx hb zd_Mo_change_75 (by decide) ?_
            have hf := Option.some.inj hf
            subst hf
            have hP := hP.sub (ws' := [(ad 0, .inr (5, [.int mgc, .ref (ad 1), .int mpn, .ref (ad 2), .ref (ad 3), .ref (ad 4), .ref (ad 5), .ref (ad 6), .int y10.1, .ref (ad 7), .ref (ad 8), .ref (ad 9), .ref (ad 10), .ref (ad 11), .ref (ad 12), .int msz, .ref (ad 13), .int mwc, .int mhf, .ref (ad 14), .ref (ad 15), .ref (ad 16), .ref (ad 17), .ref (ad 18)])), (ad 1, .inl (cI, 8, .inl (upd mver (mho u1.toNatClampNeg).toNatClampNeg ((mver (mho u1.toNatClampNeg).toNatClampNeg) + (1 : Int32))))), (ad 2, .inl (cI, 24, .inl mho)), (ad 7, .inl (cI, 20, .inl y10.2.1)), (ad 8, .inl (cJ, 20, .inr (.inl y10.2.2.1))), (ad 9, .inl (cI, 20, .inl y10.2.2.2.1)), (ad 10, .inl (cJ, 20, .inr (.inl y10.2.2.2.2)))]) [2, 0, 1, 3, 4, 5, 6] rfl
            have hD := hD.sub (ws' := [(ad 0, .inr (5, [.int mgc, .ref (ad 1), .int mpn, .ref (ad 2), .ref (ad 3), .ref (ad 4), .ref (ad 5), .ref (ad 6), .int y10.1, .ref (ad 7), .ref (ad 8), .ref (ad 9), .ref (ad 10), .ref (ad 11), .ref (ad 12), .int msz, .ref (ad 13), .int mwc, .int mhf, .ref (ad 14), .ref (ad 15), .ref (ad 16), .ref (ad 17), .ref (ad 18)])), (ad 1, .inl (cI, 8, .inl (upd mver (mho u1.toNatClampNeg).toNatClampNeg ((mver (mho u1.toNatClampNeg).toNatClampNeg) + (1 : Int32))))), (ad 2, .inl (cI, 24, .inl mho)), (ad 7, .inl (cI, 20, .inl y10.2.1)), (ad 8, .inl (cJ, 20, .inr (.inl y10.2.2.1))), (ad 9, .inl (cI, 20, .inl y10.2.2.2.1)), (ad 10, .inl (cJ, 20, .inr (.inl y10.2.2.2.2)))]) [2, 0, 1, 3, 4, 5, 6] (by decide) rfl
            exact W.zret (v := (1 : Int32)) hx hb hr (mp_nz (Or.inr rfl)) (fun t ht hW => ⟨⟨(1 : Int32), (), rfl, ⟨rfl, (Or.inr rfl)⟩, by rw [ht]; exact hP, hD⟩, hS.F ht⟩) hS.2.2 zd_Mo_change_76
          · have hf := mp_t c_9 hf
            refine lv_iconst (v := 0) hx hb zd_Mo_change_48 (by decide) ?_
            have hf := Option.some.inj hf
            subst hf
            exact W.zret (v := (0 : Int32)) hx hb hr (mp_nz (Or.inl rfl)) (fun t ht hW => ⟨⟨(0 : Int32), (), rfl, ⟨rfl, (Or.inl rfl)⟩, by rw [ht]; exact hP, hD⟩, hS.F ht⟩) hS.2.2 zd_Mo_change_49
set_option maxHeartbeats 4000000 in
set_option maxRecDepth 100000 in
theorem zc_Mo_changeOf (l : Launch) (dC : Nat → ClassId) (dI : Nat → Nat → Nat) (cI cJ cZ : ClassId) (ad : Nat → Nat) (mgc : Int32) (mpn : Int32) (mcn : Int32) (msz : Int32) (mwc : Int32) (mhf : Int32) (mcp : Nat → Int32) (mcd : Nat → Int64) (u1 : Int32) (u2 : Int64) (res : Int32) (hf : zf_Mo_changeOf u1 u2 mcn mcp mcd = some res) : Met l zy_Mo_changeOf zw_Mo_changeOf ({ frames := 0, cells := 0, slots := 0, locals := 0 } : Room) (mp_PR (dC, dI) vwCl (mp_tys cI cJ cZ) [(ad 0, .inr (5, [.int mgc, .ref (ad 1), .int mpn, .ref (ad 2), .ref (ad 3), .ref (ad 4), .ref (ad 5), .ref (ad 6), .int mcn, .ref (ad 7), .ref (ad 8), .ref (ad 9), .ref (ad 10), .ref (ad 11), .ref (ad 12), .int msz, .ref (ad 13), .int mwc, .int mhf, .ref (ad 14), .ref (ad 15), .ref (ad 16), .ref (ad 17), .ref (ad 18)])), (ad 7, .inl (cI, 20, .inl mcp)), (ad 8, .inl (cJ, 20, .inr (.inl mcd)))] [.ref (ad 0), .int u1, .long u2]) (vp_Si (fun r => r = res)) 0 0 (fun _ => False) := by
  refine Met.ofW (cc := zb_Mo_changeOf) (maxL := 7) (ret := (some .int)) (by decide) rfl ?_
  intro p e s m args below meth c s₁ B hml hv
  obtain ⟨rfl, hP, hK, hN⟩ := hv
  have hx := B.exec
  have hb := B.bytes
  have hr := B.returns
  have hts := atoms_spec (ws := zw_Mo_changeOf) B.pre
  have hsub : ∀ w ∈ mp_tbl, w ∈ zw_Mo_changeOf := fun w h => List.mem_cons_of_mem _ h
  have hw : ∀ w ∈ mp_tbl, w.before _ s = true := fun w h => hts w (hsub w h)
  have hown : s.vm.findClass zR_Mo = some m.cls := findClass_of_methodNamed B.named
  have hlocks := B.notSynchronized
  have loop6 : ∀ (v1 : Int32) (v2 : Int64) (n : Nat) (v4 : Int32) (v5 : Int32) (ls : Array Slot), zf_Mo_changeOf_L6 v1 v2 mcn mcp mcd n v4 v5 = some res → lv_has ls 7 [(0, .ref (ad 0)), (1, .int v1), (2, .long v2), (4, .int v4), (5, .int v5)] → W p l e (headSpec zw_Mo_changeOf ({ frames := 0, cells := 0, slots := 0, locals := 0 } : Room)).room s m ([.ref (ad 0), .int u1, .long u2] : List Value).toArray below meth c s.heap [] 0 0 (MQ below (vp_Si (fun r => r = res)) ([.ref (ad 0), .int u1, .long u2] : List Value).toArray s 0 0 (fun _ => False)) (F0 m 6 ls []) := by
    intro v1 v2 n
    induction n with
    | zero => intro v4 v5 ls hf; simp [zf_Mo_changeOf_L6] at hf
    | succ n ih =>
      intro v4 v5 ls hf hl
      rw [zf_Mo_changeOf_L6] at hf
      refine lv_iload hx hb zd_Mo_changeOf_6 (lv_at hl 4 rfl) ?_
      refine lv_aload_n hx hb zd_Mo_changeOf_8 rfl (lv_at hl 0 rfl) ?_
      refine va_get (D := (dC, dI)) (ci := 5) (v := .int mcn) (C := zR_Mo) (T := zT_Mo) (N := 24) hx hb hts (fun w h => hsub w (zi_Mo w h)) hown hK hP 0 rfl rfl 8 (by decide) (hw _ zq_451) (fun _ h9 => h9) rfl zd_Mo_changeOf_9 ?_
      refine lv_icmp_ge (tgt := 88) hx hb zd_Mo_changeOf_12 (by decide) (fun c_1 => ?_) (fun c_1 => ?_)
      · have hf := mp_t c_1 hf
        refine lv_iload hx hb zd_Mo_changeOf_88 (lv_at hl 3 rfl) ?_
        have hf := Option.some.inj hf
        subst hf
        exact W.iret (v := v4) hx hb hr (fun t ht hW => ⟨v4, rfl, rfl, ht⟩) (fun q h => by cases h) zd_Mo_changeOf_90
      · have hf := mp_f c_1 hf
        refine lv_aload_n hx hb zd_Mo_changeOf_15 rfl (lv_at hl 0 rfl) ?_
        refine va_get (D := (dC, dI)) (ci := 5) (v := .ref (ad 7)) (C := zR_Mo) (T := zT_Mo) (N := 24) hx hb hts (fun w h => hsub w (zi_Mo w h)) hown hK hP 0 rfl rfl 9 (by decide) (hw _ zq_452) (fun _ h9 => h9) rfl zd_Mo_changeOf_16 ?_
        refine lv_iload hx hb zd_Mo_changeOf_19 (lv_at hl 4 rfl) ?_
        obtain ⟨h_2, hf⟩ := mp_in hf
        refine va_iald hx hb hK hP 1 0 rfl rfl (i := v5) h_2 zd_Mo_changeOf_21 ?_
        refine lv_iload_n hx hb zd_Mo_changeOf_22 rfl (lv_at hl 1 rfl) ?_
        refine lv_icmp_ne (tgt := 42) hx hb zd_Mo_changeOf_23 (by decide) (fun c_3 => ?_) (fun c_3 => ?_)
        · have hf := mp_f c_3 hf
          refine lv_iconst (v := 0) hx hb zd_Mo_changeOf_42 (by decide) ?_
          refine lv_istore (lv' := [(6, .int (0 : Int32)), (0, .ref (ad 0)), (1, .int v1), (2, .long v2), (4, .int v4), (5, .int v5)]) hx hb zd_Mo_changeOf_43 hl (by decide) rfl (fun ls hl => ?_)
          refine lv_iload hx hb zd_Mo_changeOf_45 (lv_at hl 0 rfl) ?_
          refine lv_if_eq (tgt := 78) hx hb zd_Mo_changeOf_47 (by decide) (fun c_4 => ?_) (fun c_4 => ?_)
          · have hf := mp_t c_4 hf
            refine lv_iload hx hb zd_Mo_changeOf_78 (lv_at hl 4 rfl) ?_
            refine lv_istore (lv' := [(4, .int v4), (6, .int (0 : Int32)), (0, .ref (ad 0)), (1, .int v1), (2, .long v2), (5, .int v5)]) hx hb zd_Mo_changeOf_80 hl (by decide) rfl (fun ls hl => ?_)
            refine lv_iinc (v := (v5 + (1 : Int32))) (lv' := [(5, .int (v5 + (1 : Int32))), (4, .int v4), (6, .int (0 : Int32)), (0, .ref (ad 0)), (1, .int v1), (2, .long v2)]) hx hb zd_Mo_changeOf_82 hl (k := 5) rfl rfl (by decide) rfl (fun ls hl => ?_)
            refine lv_goto (tgt := 6) hx hb zd_Mo_changeOf_85 (by decide) ?_
            exact ih v4 (v5 + (1 : Int32)) _ hf (lv_sub hl [3, 4, 5, 1, 0] rfl)
          · have hf := mp_f c_4 hf
            refine lv_iload hx hb zd_Mo_changeOf_50 (lv_at hl 4 rfl) ?_
            refine lv_if_lt (tgt := 73) hx hb zd_Mo_changeOf_52 (by decide) (fun c_5 => ?_) (fun c_5 => ?_)
            · have hf := mp_t c_5 hf
              refine lv_iload hx hb zd_Mo_changeOf_73 (lv_at hl 5 rfl) ?_
              refine lv_goto (tgt := 80) hx hb zd_Mo_changeOf_75 (by decide) ?_
              refine lv_istore (lv' := [(4, .int v5), (6, .int (0 : Int32)), (0, .ref (ad 0)), (1, .int v1), (2, .long v2), (5, .int v5)]) hx hb zd_Mo_changeOf_80 hl (by decide) rfl (fun ls hl => ?_)
              refine lv_iinc (v := (v5 + (1 : Int32))) (lv' := [(5, .int (v5 + (1 : Int32))), (4, .int v5), (6, .int (0 : Int32)), (0, .ref (ad 0)), (1, .int v1), (2, .long v2)]) hx hb zd_Mo_changeOf_82 hl (k := 5) rfl rfl (by decide) rfl (fun ls hl => ?_)
              refine lv_goto (tgt := 6) hx hb zd_Mo_changeOf_85 (by decide) ?_
              exact ih v5 (v5 + (1 : Int32)) _ hf (lv_sub hl [3, 4, 5, 1, 0] rfl)
            · have hf := mp_f c_5 hf
              refine lv_aload_n hx hb zd_Mo_changeOf_55 rfl (lv_at hl 1 rfl) ?_
              refine va_get (D := (dC, dI)) (ci := 5) (v := .ref (ad 8)) (C := zR_Mo) (T := zT_Mo) (N := 24) hx hb hts (fun w h => hsub w (zi_Mo w h)) hown hK hP 0 rfl rfl 10 (by decide) (hw _ zq_453) (fun _ h9 => h9) rfl zd_Mo_changeOf_56 ?_
              refine lv_iload hx hb zd_Mo_changeOf_59 (lv_at hl 5 rfl) ?_
              obtain ⟨h_6, hf⟩ := mp_in hf
              refine va_lald hx hb hK hP 2 1 rfl rfl (i := v5) h_6 zd_Mo_changeOf_61 ?_
              refine lv_aload_n hx hb zd_Mo_changeOf_62 rfl (lv_at hl 1 rfl) ?_
              refine va_get (D := (dC, dI)) (ci := 5) (v := .ref (ad 8)) (C := zR_Mo) (T := zT_Mo) (N := 24) hx hb hts (fun w h => hsub w (zi_Mo w h)) hown hK hP 0 rfl rfl 10 (by decide) (hw _ zq_453) (fun _ h9 => h9) rfl zd_Mo_changeOf_63 ?_
              refine lv_iload hx hb zd_Mo_changeOf_66 (lv_at hl 4 rfl) ?_
              obtain ⟨h_7, hf⟩ := mp_in hf
              refine va_lald hx hb hK hP 2 1 rfl rfl (i := v4) h_7 zd_Mo_changeOf_68 ?_
              refine W.lcmp hx hb zd_Mo_changeOf_69 ?_
              refine lv_if_lt (tgt := 78) hx hb zd_Mo_changeOf_70 (by decide) (fun c_8 => ?_) (fun c_8 => ?_)
              · have c_8 := (lg_cmp_lt _ _).mp c_8
                have hf := mp_t c_8 hf
                refine lv_iload hx hb zd_Mo_changeOf_78 (lv_at hl 4 rfl) ?_
                refine lv_istore (lv' := [(4, .int v4), (6, .int (0 : Int32)), (0, .ref (ad 0)), (1, .int v1), (2, .long v2), (5, .int v5)]) hx hb zd_Mo_changeOf_80 hl (by decide) rfl (fun ls hl => ?_)
                refine lv_iinc (v := (v5 + (1 : Int32))) (lv' := [(5, .int (v5 + (1 : Int32))), (4, .int v4), (6, .int (0 : Int32)), (0, .ref (ad 0)), (1, .int v1), (2, .long v2)]) hx hb zd_Mo_changeOf_82 hl (k := 5) rfl rfl (by decide) rfl (fun ls hl => ?_)
                refine lv_goto (tgt := 6) hx hb zd_Mo_changeOf_85 (by decide) ?_
                exact ih v4 (v5 + (1 : Int32)) _ hf (lv_sub hl [3, 4, 5, 1, 0] rfl)
              · have c_8 := fun h9 => c_8 ((lg_cmp_lt _ _).mpr h9)
                have hf := mp_f c_8 hf
                refine lv_iload hx hb zd_Mo_changeOf_73 (lv_at hl 5 rfl) ?_
                refine lv_goto (tgt := 80) hx hb zd_Mo_changeOf_75 (by decide) ?_
                refine lv_istore (lv' := [(4, .int v5), (6, .int (0 : Int32)), (0, .ref (ad 0)), (1, .int v1), (2, .long v2), (5, .int v5)]) hx hb zd_Mo_changeOf_80 hl (by decide) rfl (fun ls hl => ?_)
                refine lv_iinc (v := (v5 + (1 : Int32))) (lv' := [(5, .int (v5 + (1 : Int32))), (4, .int v5), (6, .int (0 : Int32)), (0, .ref (ad 0)), (1, .int v1), (2, .long v2)]) hx hb zd_Mo_changeOf_82 hl (k := 5) rfl rfl (by decide) rfl (fun ls hl => ?_)
                refine lv_goto (tgt := 6) hx hb zd_Mo_changeOf_85 (by decide) ?_
                exact ih v5 (v5 + (1 : Int32)) _ hf (lv_sub hl [3, 4, 5, 1, 0] rfl)
        · have hf := mp_t c_3 hf
          refine lv_aload_n hx hb zd_Mo_changeOf_26 rfl (lv_at hl 0 rfl) ?_
          refine va_get (D := (dC, dI)) (ci := 5) (v := .ref (ad 8)) (C := zR_Mo) (T := zT_Mo) (N := 24) hx hb hts (fun w h => hsub w (zi_Mo w h)) hown hK hP 0 rfl rfl 10 (by decide) (hw _ zq_453) (fun _ h9 => h9) rfl zd_Mo_changeOf_27 ?_
          refine lv_iload hx hb zd_Mo_changeOf_30 (lv_at hl 4 rfl) ?_
          obtain ⟨h_9, hf⟩ := mp_in hf
          refine va_lald hx hb hK hP 2 1 rfl rfl (i := v5) h_9 zd_Mo_changeOf_32 ?_
          refine lv_lload_n hx hb zd_Mo_changeOf_33 rfl (lv_at hl 2 rfl) ?_
          refine W.lcmp hx hb zd_Mo_changeOf_34 ?_
          refine lv_if_gt (tgt := 42) hx hb zd_Mo_changeOf_35 (by decide) (fun c_10 => ?_) (fun c_10 => ?_)
          · have c_10 := (lg_cmp_gt _ _).mp c_10
            have hf := mp_t c_10 hf
            refine lv_iconst (v := 0) hx hb zd_Mo_changeOf_42 (by decide) ?_
            refine lv_istore (lv' := [(6, .int (0 : Int32)), (0, .ref (ad 0)), (1, .int v1), (2, .long v2), (4, .int v4), (5, .int v5)]) hx hb zd_Mo_changeOf_43 hl (by decide) rfl (fun ls hl => ?_)
            refine lv_iload hx hb zd_Mo_changeOf_45 (lv_at hl 0 rfl) ?_
            refine lv_if_eq (tgt := 78) hx hb zd_Mo_changeOf_47 (by decide) (fun c_11 => ?_) (fun c_11 => ?_)
            · have hf := mp_t c_11 hf
              refine lv_iload hx hb zd_Mo_changeOf_78 (lv_at hl 4 rfl) ?_
              refine lv_istore (lv' := [(4, .int v4), (6, .int (0 : Int32)), (0, .ref (ad 0)), (1, .int v1), (2, .long v2), (5, .int v5)]) hx hb zd_Mo_changeOf_80 hl (by decide) rfl (fun ls hl => ?_)
              refine lv_iinc (v := (v5 + (1 : Int32))) (lv' := [(5, .int (v5 + (1 : Int32))), (4, .int v4), (6, .int (0 : Int32)), (0, .ref (ad 0)), (1, .int v1), (2, .long v2)]) hx hb zd_Mo_changeOf_82 hl (k := 5) rfl rfl (by decide) rfl (fun ls hl => ?_)
              refine lv_goto (tgt := 6) hx hb zd_Mo_changeOf_85 (by decide) ?_
              exact ih v4 (v5 + (1 : Int32)) _ hf (lv_sub hl [3, 4, 5, 1, 0] rfl)
            · have hf := mp_f c_11 hf
              refine lv_iload hx hb zd_Mo_changeOf_50 (lv_at hl 4 rfl) ?_
              refine lv_if_lt (tgt := 73) hx hb zd_Mo_changeOf_52 (by decide) (fun c_12 => ?_) (fun c_12 => ?_)
              · have hf := mp_t c_12 hf
                refine lv_iload hx hb zd_Mo_changeOf_73 (lv_at hl 5 rfl) ?_
                refine lv_goto (tgt := 80) hx hb zd_Mo_changeOf_75 (by decide) ?_
                refine lv_istore (lv' := [(4, .int v5), (6, .int (0 : Int32)), (0, .ref (ad 0)), (1, .int v1), (2, .long v2), (5, .int v5)]) hx hb zd_Mo_changeOf_80 hl (by decide) rfl (fun ls hl => ?_)
                refine lv_iinc (v := (v5 + (1 : Int32))) (lv' := [(5, .int (v5 + (1 : Int32))), (4, .int v5), (6, .int (0 : Int32)), (0, .ref (ad 0)), (1, .int v1), (2, .long v2)]) hx hb zd_Mo_changeOf_82 hl (k := 5) rfl rfl (by decide) rfl (fun ls hl => ?_)
                refine lv_goto (tgt := 6) hx hb zd_Mo_changeOf_85 (by decide) ?_
                exact ih v5 (v5 + (1 : Int32)) _ hf (lv_sub hl [3, 4, 5, 1, 0] rfl)
              · have hf := mp_f c_12 hf
                refine lv_aload_n hx hb zd_Mo_changeOf_55 rfl (lv_at hl 1 rfl) ?_
                refine va_get (D := (dC, dI)) (ci := 5) (v := .ref (ad 8)) (C := zR_Mo) (T := zT_Mo) (N := 24) hx hb hts (fun w h => hsub w (zi_Mo w h)) hown hK hP 0 rfl rfl 10 (by decide) (hw _ zq_453) (fun _ h9 => h9) rfl zd_Mo_changeOf_56 ?_
                refine lv_iload hx hb zd_Mo_changeOf_59 (lv_at hl 5 rfl) ?_
                obtain ⟨h_13, hf⟩ := mp_in hf
                refine va_lald hx hb hK hP 2 1 rfl rfl (i := v5) h_13 zd_Mo_changeOf_61 ?_
                refine lv_aload_n hx hb zd_Mo_changeOf_62 rfl (lv_at hl 1 rfl) ?_
                refine va_get (D := (dC, dI)) (ci := 5) (v := .ref (ad 8)) (C := zR_Mo) (T := zT_Mo) (N := 24) hx hb hts (fun w h => hsub w (zi_Mo w h)) hown hK hP 0 rfl rfl 10 (by decide) (hw _ zq_453) (fun _ h9 => h9) rfl zd_Mo_changeOf_63 ?_
                refine lv_iload hx hb zd_Mo_changeOf_66 (lv_at hl 4 rfl) ?_
                obtain ⟨h_14, hf⟩ := mp_in hf
                refine va_lald hx hb hK hP 2 1 rfl rfl (i := v4) h_14 zd_Mo_changeOf_68 ?_
                refine W.lcmp hx hb zd_Mo_changeOf_69 ?_
                refine lv_if_lt (tgt := 78) hx hb zd_Mo_changeOf_70 (by decide) (fun c_15 => ?_) (fun c_15 => ?_)
                · have c_15 := (lg_cmp_lt _ _).mp c_15
                  have hf := mp_t c_15 hf
                  refine lv_iload hx hb zd_Mo_changeOf_78 (lv_at hl 4 rfl) ?_
                  refine lv_istore (lv' := [(4, .int v4), (6, .int (0 : Int32)), (0, .ref (ad 0)), (1, .int v1), (2, .long v2), (5, .int v5)]) hx hb zd_Mo_changeOf_80 hl (by decide) rfl (fun ls hl => ?_)
                  refine lv_iinc (v := (v5 + (1 : Int32))) (lv' := [(5, .int (v5 + (1 : Int32))), (4, .int v4), (6, .int (0 : Int32)), (0, .ref (ad 0)), (1, .int v1), (2, .long v2)]) hx hb zd_Mo_changeOf_82 hl (k := 5) rfl rfl (by decide) rfl (fun ls hl => ?_)
                  refine lv_goto (tgt := 6) hx hb zd_Mo_changeOf_85 (by decide) ?_
                  exact ih v4 (v5 + (1 : Int32)) _ hf (lv_sub hl [3, 4, 5, 1, 0] rfl)
                · have c_15 := fun h9 => c_15 ((lg_cmp_lt _ _).mpr h9)
                  have hf := mp_f c_15 hf
                  refine lv_iload hx hb zd_Mo_changeOf_73 (lv_at hl 5 rfl) ?_
                  refine lv_goto (tgt := 80) hx hb zd_Mo_changeOf_75 (by decide) ?_
                  refine lv_istore (lv' := [(4, .int v5), (6, .int (0 : Int32)), (0, .ref (ad 0)), (1, .int v1), (2, .long v2), (5, .int v5)]) hx hb zd_Mo_changeOf_80 hl (by decide) rfl (fun ls hl => ?_)
                  refine lv_iinc (v := (v5 + (1 : Int32))) (lv' := [(5, .int (v5 + (1 : Int32))), (4, .int v5), (6, .int (0 : Int32)), (0, .ref (ad 0)), (1, .int v1), (2, .long v2)]) hx hb zd_Mo_changeOf_82 hl (k := 5) rfl rfl (by decide) rfl (fun ls hl => ?_)
                  refine lv_goto (tgt := 6) hx hb zd_Mo_changeOf_85 (by decide) ?_
                  exact ih v5 (v5 + (1 : Int32)) _ hf (lv_sub hl [3, 4, 5, 1, 0] rfl)
          · have c_10 := fun h9 => c_10 ((lg_cmp_gt _ _).mpr h9)
            have hf := mp_f c_10 hf
            refine lv_iconst (v := 1) hx hb zd_Mo_changeOf_38 (by decide) ?_
            refine lv_goto (tgt := 43) hx hb zd_Mo_changeOf_39 (by decide) ?_
            refine lv_istore (lv' := [(6, .int (1 : Int32)), (0, .ref (ad 0)), (1, .int v1), (2, .long v2), (4, .int v4), (5, .int v5)]) hx hb zd_Mo_changeOf_43 hl (by decide) rfl (fun ls hl => ?_)
            refine lv_iload hx hb zd_Mo_changeOf_45 (lv_at hl 0 rfl) ?_
            refine lv_if_eq (tgt := 78) hx hb zd_Mo_changeOf_47 (by decide) (fun c_16 => ?_) (fun c_16 => ?_)
            · have hf := mp_t c_16 hf
              refine lv_iload hx hb zd_Mo_changeOf_78 (lv_at hl 4 rfl) ?_
              refine lv_istore (lv' := [(4, .int v4), (6, .int (1 : Int32)), (0, .ref (ad 0)), (1, .int v1), (2, .long v2), (5, .int v5)]) hx hb zd_Mo_changeOf_80 hl (by decide) rfl (fun ls hl => ?_)
              refine lv_iinc (v := (v5 + (1 : Int32))) (lv' := [(5, .int (v5 + (1 : Int32))), (4, .int v4), (6, .int (1 : Int32)), (0, .ref (ad 0)), (1, .int v1), (2, .long v2)]) hx hb zd_Mo_changeOf_82 hl (k := 5) rfl rfl (by decide) rfl (fun ls hl => ?_)
              refine lv_goto (tgt := 6) hx hb zd_Mo_changeOf_85 (by decide) ?_
              exact ih v4 (v5 + (1 : Int32)) _ hf (lv_sub hl [3, 4, 5, 1, 0] rfl)
            · have hf := mp_f c_16 hf
              refine lv_iload hx hb zd_Mo_changeOf_50 (lv_at hl 4 rfl) ?_
              refine lv_if_lt (tgt := 73) hx hb zd_Mo_changeOf_52 (by decide) (fun c_17 => ?_) (fun c_17 => ?_)
              · have hf := mp_t c_17 hf
                refine lv_iload hx hb zd_Mo_changeOf_73 (lv_at hl 5 rfl) ?_
                refine lv_goto (tgt := 80) hx hb zd_Mo_changeOf_75 (by decide) ?_
                refine lv_istore (lv' := [(4, .int v5), (6, .int (1 : Int32)), (0, .ref (ad 0)), (1, .int v1), (2, .long v2), (5, .int v5)]) hx hb zd_Mo_changeOf_80 hl (by decide) rfl (fun ls hl => ?_)
                refine lv_iinc (v := (v5 + (1 : Int32))) (lv' := [(5, .int (v5 + (1 : Int32))), (4, .int v5), (6, .int (1 : Int32)), (0, .ref (ad 0)), (1, .int v1), (2, .long v2)]) hx hb zd_Mo_changeOf_82 hl (k := 5) rfl rfl (by decide) rfl (fun ls hl => ?_)
                refine lv_goto (tgt := 6) hx hb zd_Mo_changeOf_85 (by decide) ?_
                exact ih v5 (v5 + (1 : Int32)) _ hf (lv_sub hl [3, 4, 5, 1, 0] rfl)
              · have hf := mp_f c_17 hf
                refine lv_aload_n hx hb zd_Mo_changeOf_55 rfl (lv_at hl 1 rfl) ?_
                refine va_get (D := (dC, dI)) (ci := 5) (v := .ref (ad 8)) (C := zR_Mo) (T := zT_Mo) (N := 24) hx hb hts (fun w h => hsub w (zi_Mo w h)) hown hK hP 0 rfl rfl 10 (by decide) (hw _ zq_453) (fun _ h9 => h9) rfl zd_Mo_changeOf_56 ?_
                refine lv_iload hx hb zd_Mo_changeOf_59 (lv_at hl 5 rfl) ?_
                obtain ⟨h_18, hf⟩ := mp_in hf
                refine va_lald hx hb hK hP 2 1 rfl rfl (i := v5) h_18 zd_Mo_changeOf_61 ?_
                refine lv_aload_n hx hb zd_Mo_changeOf_62 rfl (lv_at hl 1 rfl) ?_
                refine va_get (D := (dC, dI)) (ci := 5) (v := .ref (ad 8)) (C := zR_Mo) (T := zT_Mo) (N := 24) hx hb hts (fun w h => hsub w (zi_Mo w h)) hown hK hP 0 rfl rfl 10 (by decide) (hw _ zq_453) (fun _ h9 => h9) rfl zd_Mo_changeOf_63 ?_
                refine lv_iload hx hb zd_Mo_changeOf_66 (lv_at hl 4 rfl) ?_
                obtain ⟨h_19, hf⟩ := mp_in hf
                refine va_lald hx hb hK hP 2 1 rfl rfl (i := v4) h_19 zd_Mo_changeOf_68 ?_
                refine W.lcmp hx hb zd_Mo_changeOf_69 ?_
                refine lv_if_lt (tgt := 78) hx hb zd_Mo_changeOf_70 (by decide) (fun c_20 => ?_) (fun c_20 => ?_)
                · have c_20 := (lg_cmp_lt _ _).mp c_20
                  have hf := mp_t c_20 hf
                  refine lv_iload hx hb zd_Mo_changeOf_78 (lv_at hl 4 rfl) ?_
                  refine lv_istore (lv' := [(4, .int v4), (6, .int (1 : Int32)), (0, .ref (ad 0)), (1, .int v1), (2, .long v2), (5, .int v5)]) hx hb zd_Mo_changeOf_80 hl (by decide) rfl (fun ls hl => ?_)
                  refine lv_iinc (v := (v5 + (1 : Int32))) (lv' := [(5, .int (v5 + (1 : Int32))), (4, .int v4), (6, .int (1 : Int32)), (0, .ref (ad 0)), (1, .int v1), (2, .long v2)]) hx hb zd_Mo_changeOf_82 hl (k := 5) rfl rfl (by decide) rfl (fun ls hl => ?_)
                  refine lv_goto (tgt := 6) hx hb zd_Mo_changeOf_85 (by decide) ?_
                  exact ih v4 (v5 + (1 : Int32)) _ hf (lv_sub hl [3, 4, 5, 1, 0] rfl)
                · have c_20 := fun h9 => c_20 ((lg_cmp_lt _ _).mpr h9)
                  have hf := mp_f c_20 hf
                  refine lv_iload hx hb zd_Mo_changeOf_73 (lv_at hl 5 rfl) ?_
                  refine lv_goto (tgt := 80) hx hb zd_Mo_changeOf_75 (by decide) ?_
                  refine lv_istore (lv' := [(4, .int v5), (6, .int (1 : Int32)), (0, .ref (ad 0)), (1, .int v1), (2, .long v2), (5, .int v5)]) hx hb zd_Mo_changeOf_80 hl (by decide) rfl (fun ls hl => ?_)
                  refine lv_iinc (v := (v5 + (1 : Int32))) (lv' := [(5, .int (v5 + (1 : Int32))), (4, .int v5), (6, .int (1 : Int32)), (0, .ref (ad 0)), (1, .int v1), (2, .long v2)]) hx hb zd_Mo_changeOf_82 hl (k := 5) rfl rfl (by decide) rfl (fun ls hl => ?_)
                  refine lv_goto (tgt := 6) hx hb zd_Mo_changeOf_85 (by decide) ?_
                  exact ih v5 (v5 + (1 : Int32)) _ hf (lv_sub hl [3, 4, 5, 1, 0] rfl)
  have hl := lv_entry ([.ref (ad 0), .int u1, .long u2]) (n := 7) (Nat.le_of_ble_eq_true rfl)
  rw [lg_entry_eq]
  generalize (lg_sl ([.ref (ad 0), .int u1, .long u2]) ++ List.replicate (7 - (lg_sl ([.ref (ad 0), .int u1, .long u2])).length) Slot.unset).toArray = ls at hl ⊢
  have hl : lv_has ls 7 [(0, .ref (ad 0)), (1, .int u1), (2, .long u2)] := hl
  unfold zf_Mo_changeOf at hf
  refine lv_iconst (v := -1) hx hb zd_Mo_changeOf_0 (by decide) ?_
  refine lv_istore (lv' := [(4, .int (-1 : Int32)), (0, .ref (ad 0)), (1, .int u1), (2, .long u2)]) hx hb zd_Mo_changeOf_1 hl (by decide) rfl (fun ls hl => ?_)
  refine lv_iconst (v := 0) hx hb zd_Mo_changeOf_3 (by decide) ?_
  refine lv_istore (lv' := [(5, .int (0 : Int32)), (4, .int (-1 : Int32)), (0, .ref (ad 0)), (1, .int u1), (2, .long u2)]) hx hb zd_Mo_changeOf_4 hl (by decide) rfl (fun ls hl => ?_)
  exact loop6 u1 u2 2000 (-1 : Int32) (0 : Int32) _ hf (lv_sub hl [2, 3, 4, 1, 0] rfl)
set_option maxHeartbeats 4000000 in
set_option maxRecDepth 100000 in
theorem zc_Mo_kindOn (l : Launch) (dC : Nat → ClassId) (dI : Nat → Nat → Nat) (cI cJ cZ : ClassId) (ad : Nat → Nat) (mgc : Int32) (mpn : Int32) (mcn : Int32) (msz : Int32) (mwc : Int32) (mhf : Int32) (mki : Nat → Int32) (mcp : Nat → Int32) (mcd : Nat → Int64) (mck : Nat → Int32) (u1 : Int32) (u2 : Int64) (res : Int32) (hf : zf_Mo_kindOn u1 u2 mcn mki mcp mcd mck = some res) : Met l zy_Mo_kindOn zw_Mo_kindOn ({ frames := 1, cells := 0, slots := 0, locals := 26 } : Room) (mp_PR (dC, dI) vwCl (mp_tys cI cJ cZ) [(ad 0, .inr (5, [.int mgc, .ref (ad 1), .int mpn, .ref (ad 2), .ref (ad 3), .ref (ad 4), .ref (ad 5), .ref (ad 6), .int mcn, .ref (ad 7), .ref (ad 8), .ref (ad 9), .ref (ad 10), .ref (ad 11), .ref (ad 12), .int msz, .ref (ad 13), .int mwc, .int mhf, .ref (ad 14), .ref (ad 15), .ref (ad 16), .ref (ad 17), .ref (ad 18)])), (ad 3, .inl (cI, 24, .inl mki)), (ad 7, .inl (cI, 20, .inl mcp)), (ad 8, .inl (cJ, 20, .inr (.inl mcd))), (ad 9, .inl (cI, 20, .inl mck))] [.ref (ad 0), .int u1, .long u2]) (vp_Si (fun r => r = res)) 0 0 (fun _ => False) := by
  refine Met.ofW (cc := zb_Mo_kindOn) (maxL := 5) (ret := (some .int)) (by decide) rfl ?_
  intro p e s m args below meth c s₁ B hml hv
  obtain ⟨rfl, hP, hK, hN⟩ := hv
  have hx := B.exec
  have hb := B.bytes
  have hr := B.returns
  have hts := atoms_spec (ws := zw_Mo_kindOn) B.pre
  have hsub : ∀ w ∈ mp_tbl, w ∈ zw_Mo_kindOn := fun w h => List.mem_cons_of_mem _ h
  have hw : ∀ w ∈ mp_tbl, w.before _ s = true := fun w h => hts w (hsub w h)
  have hown : s.vm.findClass zR_Mo = some m.cls := findClass_of_methodNamed B.named
  have hlocks := B.notSynchronized
  have hl := lv_entry ([.ref (ad 0), .int u1, .long u2]) (n := 5) (Nat.le_of_ble_eq_true rfl)
  rw [lg_entry_eq]
  generalize (lg_sl ([.ref (ad 0), .int u1, .long u2]) ++ List.replicate (5 - (lg_sl ([.ref (ad 0), .int u1, .long u2])).length) Slot.unset).toArray = ls at hl ⊢
  have hl : lv_has ls 5 [(0, .ref (ad 0)), (1, .int u1), (2, .long u2)] := hl
  unfold zf_Mo_kindOn at hf
  refine lv_aload_n hx hb zd_Mo_kindOn_0 rfl (lv_at hl 0 rfl) ?_
  refine lv_iload_n hx hb zd_Mo_kindOn_1 rfl (lv_at hl 1 rfl) ?_
  refine lv_lload_n hx hb zd_Mo_kindOn_2 rfl (lv_at hl 2 rfl) ?_
  obtain ⟨y1, hg1, hf⟩ := mp_bd hf
  refine mp_Ri (va_runV (As := [.int u1, .long u2]) (rest := []) ⟨hx, hb, hml, hown, hts⟩ (zc_Mo_changeOf l dC dI cI cJ cZ ad mgc mpn mcn msz mwc mhf mcp mcd u1 u2 y1 hg1) (cwV 2 hts (mp_gV hsub zq_578 zq_580 zq_15 zq_30 zq_581) rfl rfl rfl (by decide +kernel) ⟨Nat.le_of_ble_eq_true rfl, Nat.le_of_ble_eq_true rfl⟩) ⟨mp_blR, va_recv hK hP (ci := 5) (q0 := 0) rfl rfl, mp_preR hN hK (hP.sub [0, 2, 3] rfl)⟩ rfl rfl hl.1 rfl (lv_room (Nat.le_of_ble_eq_true rfl)) zd_Mo_kindOn_3 ⟨Nat.zero_le _, Nat.zero_le _⟩) ?_
  refine lv_istore (lv' := [(4, .int y1), (0, .ref (ad 0)), (1, .int u1), (2, .long u2)]) hx hb zd_Mo_kindOn_6 hl (by decide) rfl (fun ls hl => ?_)
  refine lv_iload hx hb zd_Mo_kindOn_8 (lv_at hl 0 rfl) ?_
  refine lv_if_ge (tgt := 22) hx hb zd_Mo_kindOn_10 (by decide) (fun c_2 => ?_) (fun c_2 => ?_)
  · have hf := mp_t c_2 hf
    refine lv_aload_n hx hb zd_Mo_kindOn_22 rfl (lv_at hl 1 rfl) ?_
    refine va_get (D := (dC, dI)) (ci := 5) (v := .ref (ad 9)) (C := zR_Mo) (T := zT_Mo) (N := 24) hx hb hts (fun w h => hsub w (zi_Mo w h)) hown hK hP 0 rfl rfl 11 (by decide) (hw _ zq_454) (fun _ h9 => h9) rfl zd_Mo_kindOn_23 ?_
    refine lv_iload hx hb zd_Mo_kindOn_26 (lv_at hl 0 rfl) ?_
    obtain ⟨h_3, hf⟩ := mp_in hf
    refine va_iald hx hb hK hP 4 0 rfl rfl (i := y1) h_3 zd_Mo_kindOn_28 ?_
    have hf := Option.some.inj hf
    subst hf
    exact W.iret (v := (mck y1.toNatClampNeg)) hx hb hr (fun t ht hW => ⟨(mck y1.toNatClampNeg), rfl, rfl, ht⟩) (fun q h => by cases h) zd_Mo_kindOn_29
  · have hf := mp_f c_2 hf
    refine lv_aload_n hx hb zd_Mo_kindOn_13 rfl (lv_at hl 1 rfl) ?_
    refine va_get (D := (dC, dI)) (ci := 5) (v := .ref (ad 3)) (C := zR_Mo) (T := zT_Mo) (N := 24) hx hb hts (fun w h => hsub w (zi_Mo w h)) hown hK hP 0 rfl rfl 4 (by decide) (hw _ zq_447) (fun _ h9 => h9) rfl zd_Mo_kindOn_14 ?_
    refine lv_iload_n hx hb zd_Mo_kindOn_17 rfl (lv_at hl 2 rfl) ?_
    obtain ⟨h_4, hf⟩ := mp_in hf
    refine va_iald hx hb hK hP 1 0 rfl rfl (i := u1) h_4 zd_Mo_kindOn_18 ?_
    refine lv_goto (tgt := 29) hx hb zd_Mo_kindOn_19 (by decide) ?_
    have hf := Option.some.inj hf
    subst hf
    exact W.iret (v := (mki u1.toNatClampNeg)) hx hb hr (fun t ht hW => ⟨(mki u1.toNatClampNeg), rfl, rfl, ht⟩) (fun q h => by cases h) zd_Mo_kindOn_29
set_option maxHeartbeats 4000000 in
set_option maxRecDepth 100000 in
theorem zc_Mo_gramsOn (l : Launch) (dC : Nat → ClassId) (dI : Nat → Nat → Nat) (cI cJ cZ : ClassId) (ad : Nat → Nat) (mgc : Int32) (mpn : Int32) (mcn : Int32) (msz : Int32) (mwc : Int32) (mhf : Int32) (mgr : Nat → Int64) (mcp : Nat → Int32) (mcd : Nat → Int64) (mcg : Nat → Int64) (u1 : Int32) (u2 : Int64) (res : Int64) (hf : zf_Mo_gramsOn u1 u2 mcn mgr mcp mcd mcg = some res) : Met l zy_Mo_gramsOn zw_Mo_gramsOn ({ frames := 1, cells := 0, slots := 0, locals := 26 } : Room) (mp_PR (dC, dI) vwCl (mp_tys cI cJ cZ) [(ad 0, .inr (5, [.int mgc, .ref (ad 1), .int mpn, .ref (ad 2), .ref (ad 3), .ref (ad 4), .ref (ad 5), .ref (ad 6), .int mcn, .ref (ad 7), .ref (ad 8), .ref (ad 9), .ref (ad 10), .ref (ad 11), .ref (ad 12), .int msz, .ref (ad 13), .int mwc, .int mhf, .ref (ad 14), .ref (ad 15), .ref (ad 16), .ref (ad 17), .ref (ad 18)])), (ad 4, .inl (cJ, 24, .inr (.inl mgr))), (ad 7, .inl (cI, 20, .inl mcp)), (ad 8, .inl (cJ, 20, .inr (.inl mcd))), (ad 10, .inl (cJ, 20, .inr (.inl mcg)))] [.ref (ad 0), .int u1, .long u2]) (vp_Sl (fun r => r = res)) 0 0 (fun _ => False) := by
  refine Met.ofW (cc := zb_Mo_gramsOn) (maxL := 5) (ret := (some .long)) (by decide) rfl ?_
  intro p e s m args below meth c s₁ B hml hv
  obtain ⟨rfl, hP, hK, hN⟩ := hv
  have hx := B.exec
  have hb := B.bytes
  have hr := B.returns
  have hts := atoms_spec (ws := zw_Mo_gramsOn) B.pre
  have hsub : ∀ w ∈ mp_tbl, w ∈ zw_Mo_gramsOn := fun w h => List.mem_cons_of_mem _ h
  have hw : ∀ w ∈ mp_tbl, w.before _ s = true := fun w h => hts w (hsub w h)
  have hown : s.vm.findClass zR_Mo = some m.cls := findClass_of_methodNamed B.named
  have hlocks := B.notSynchronized
  have hl := lv_entry ([.ref (ad 0), .int u1, .long u2]) (n := 5) (Nat.le_of_ble_eq_true rfl)
  rw [lg_entry_eq]
  generalize (lg_sl ([.ref (ad 0), .int u1, .long u2]) ++ List.replicate (5 - (lg_sl ([.ref (ad 0), .int u1, .long u2])).length) Slot.unset).toArray = ls at hl ⊢
  have hl : lv_has ls 5 [(0, .ref (ad 0)), (1, .int u1), (2, .long u2)] := hl
  unfold zf_Mo_gramsOn at hf
  refine lv_aload_n hx hb zd_Mo_gramsOn_0 rfl (lv_at hl 0 rfl) ?_
  refine lv_iload_n hx hb zd_Mo_gramsOn_1 rfl (lv_at hl 1 rfl) ?_
  refine lv_lload_n hx hb zd_Mo_gramsOn_2 rfl (lv_at hl 2 rfl) ?_
  obtain ⟨y1, hg1, hf⟩ := mp_bd hf
  refine mp_Ri (va_runV (As := [.int u1, .long u2]) (rest := []) ⟨hx, hb, hml, hown, hts⟩ (zc_Mo_changeOf l dC dI cI cJ cZ ad mgc mpn mcn msz mwc mhf mcp mcd u1 u2 y1 hg1) (cwV 2 hts (mp_gV hsub zq_578 zq_580 zq_15 zq_30 zq_581) rfl rfl rfl (by decide +kernel) ⟨Nat.le_of_ble_eq_true rfl, Nat.le_of_ble_eq_true rfl⟩) ⟨mp_blR, va_recv hK hP (ci := 5) (q0 := 0) rfl rfl, mp_preR hN hK (hP.sub [0, 2, 3] rfl)⟩ rfl rfl hl.1 rfl (lv_room (Nat.le_of_ble_eq_true rfl)) zd_Mo_gramsOn_3 ⟨Nat.zero_le _, Nat.zero_le _⟩) ?_
  refine lv_istore (lv' := [(4, .int y1), (0, .ref (ad 0)), (1, .int u1), (2, .long u2)]) hx hb zd_Mo_gramsOn_6 hl (by decide) rfl (fun ls hl => ?_)
  refine lv_iload hx hb zd_Mo_gramsOn_8 (lv_at hl 0 rfl) ?_
  refine lv_if_ge (tgt := 22) hx hb zd_Mo_gramsOn_10 (by decide) (fun c_2 => ?_) (fun c_2 => ?_)
  · have hf := mp_t c_2 hf
    refine lv_aload_n hx hb zd_Mo_gramsOn_22 rfl (lv_at hl 1 rfl) ?_
    refine va_get (D := (dC, dI)) (ci := 5) (v := .ref (ad 10)) (C := zR_Mo) (T := zT_Mo) (N := 24) hx hb hts (fun w h => hsub w (zi_Mo w h)) hown hK hP 0 rfl rfl 12 (by decide) (hw _ zq_455) (fun _ h9 => h9) rfl zd_Mo_gramsOn_23 ?_
    refine lv_iload hx hb zd_Mo_gramsOn_26 (lv_at hl 0 rfl) ?_
    obtain ⟨h_3, hf⟩ := mp_in hf
    refine va_lald hx hb hK hP 4 1 rfl rfl (i := y1) h_3 zd_Mo_gramsOn_28 ?_
    have hf := Option.some.inj hf
    subst hf
    exact W.lret (v := (mcg y1.toNatClampNeg)) hx hb hr (fun t ht hW => ⟨(mcg y1.toNatClampNeg), rfl, rfl, ht⟩) (fun q h => by cases h) zd_Mo_gramsOn_29
  · have hf := mp_f c_2 hf
    refine lv_aload_n hx hb zd_Mo_gramsOn_13 rfl (lv_at hl 1 rfl) ?_
    refine va_get (D := (dC, dI)) (ci := 5) (v := .ref (ad 4)) (C := zR_Mo) (T := zT_Mo) (N := 24) hx hb hts (fun w h => hsub w (zi_Mo w h)) hown hK hP 0 rfl rfl 5 (by decide) (hw _ zq_448) (fun _ h9 => h9) rfl zd_Mo_gramsOn_14 ?_
    refine lv_iload_n hx hb zd_Mo_gramsOn_17 rfl (lv_at hl 2 rfl) ?_
    obtain ⟨h_4, hf⟩ := mp_in hf
    refine va_lald hx hb hK hP 1 1 rfl rfl (i := u1) h_4 zd_Mo_gramsOn_18 ?_
    refine lv_goto (tgt := 29) hx hb zd_Mo_gramsOn_19 (by decide) ?_
    have hf := Option.some.inj hf
    subst hf
    exact W.lret (v := (mgr u1.toNatClampNeg)) hx hb hr (fun t ht hW => ⟨(mgr u1.toNatClampNeg), rfl, rfl, ht⟩) (fun q h => by cases h) zd_Mo_gramsOn_29
