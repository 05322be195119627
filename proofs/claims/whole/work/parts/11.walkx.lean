set_option maxHeartbeats 4000000 in
set_option maxRecDepth 100000 in
theorem zc_MP_change (l : Launch) (dC : Nat → ClassId) (dI : Nat → Nat → Nat) (cI cJ cZ : ClassId) (ad : Nat → Nat) (sz : Nat) (xgc : Int32) (xver : Nat → Int32) (xpn : Int32) (xpo : Nat → Int32) (xcn : Int32) (xcp : Nat → Int32) (xcd : Nat → Int64) (xck : Nat → Int32) (xcg : Nat → Int64) (u1 : Int32) (u2 : Int64) (u4 : Int32) (u5 : Int64) (res : Int32 × (Nat → Int32) × Int32 × (Nat → Int32) × (Nat → Int64) × (Nat → Int32) × (Nat → Int64)) (hf : zf_MP_change u1 u2 u4 u5 xver xpn xpo xcn xcp xcd xck xcg = some res) : Met l zy_MP_change zw_MP_change ({ frames := 2, cells := 0, slots := 0, locals := 46 } : Room) (mp_PM (dC, dI) vwCl (mp_tys cI cJ cZ) [(ad 0, .inr (4, [.ref (ad 1), .ref (ad 2), .ref (ad 3), .ref (ad 4), .ref (ad 5), .ref (ad 6), .int xgc])), (ad 1, .inl (cI, 8, .inl xver)), (ad 3, .inr (3, [.ref (ad 7), .ref (ad 8), .ref (ad 9), .ref (ad 10), .ref (ad 11), .ref (ad 12), .int xpn])), (ad 7, .inl (cI, 24, .inl xpo)), (ad 12, .inr (0, [.ref (ad 13), .ref (ad 14), .ref (ad 15), .ref (ad 16), .int xcn])), (ad 13, .inl (cI, 20, .inl xcp)), (ad 14, .inl (cJ, 20, .inr (.inl xcd))), (ad 15, .inl (cI, 20, .inl xck)), (ad 16, .inl (cJ, 20, .inr (.inl xcg)))] sz [.ref (ad 0), .int u1, .long u2, .int u4, .long u5]) (va_Qi (fun r (_ : Unit) => r = res.1 ∧ mp_b res.1) (mp_BM (dC, dI) vwCl [(ad 0, .inr (4, [.ref (ad 1), .ref (ad 2), .ref (ad 3), .ref (ad 4), .ref (ad 5), .ref (ad 6), .int xgc])), (ad 1, .inl (cI, 8, .inl res.2.1)), (ad 3, .inr (3, [.ref (ad 7), .ref (ad 8), .ref (ad 9), .ref (ad 10), .ref (ad 11), .ref (ad 12), .int xpn])), (ad 7, .inl (cI, 24, .inl xpo)), (ad 12, .inr (0, [.ref (ad 13), .ref (ad 14), .ref (ad 15), .ref (ad 16), .int res.2.2.1])), (ad 13, .inl (cI, 20, .inl res.2.2.2.1)), (ad 14, .inl (cJ, 20, .inr (.inl res.2.2.2.2.1))), (ad 15, .inl (cI, 20, .inl res.2.2.2.2.2.1)), (ad 16, .inl (cJ, 20, .inr (.inl res.2.2.2.2.2.2)))] (va_A [(ad 0, .inr (4, [.ref (ad 1), .ref (ad 2), .ref (ad 3), .ref (ad 4), .ref (ad 5), .ref (ad 6), .int xgc])), (ad 1, .inl (cI, 8, .inl xver)), (ad 3, .inr (3, [.ref (ad 7), .ref (ad 8), .ref (ad 9), .ref (ad 10), .ref (ad 11), .ref (ad 12), .int xpn])), (ad 7, .inl (cI, 24, .inl xpo)), (ad 12, .inr (0, [.ref (ad 13), .ref (ad 14), .ref (ad 15), .ref (ad 16), .int xcn])), (ad 13, .inl (cI, 20, .inl xcp)), (ad 14, .inl (cJ, 20, .inr (.inl xcd))), (ad 15, .inl (cI, 20, .inl xck)), (ad 16, .inl (cJ, 20, .inr (.inl xcg)))] sz)) (va_A [(ad 0, .inr (4, [.ref (ad 1), .ref (ad 2), .ref (ad 3), .ref (ad 4), .ref (ad 5), .ref (ad 6), .int xgc])), (ad 1, .inl (cI, 8, .inl xver)), (ad 3, .inr (3, [.ref (ad 7), .ref (ad 8), .ref (ad 9), .ref (ad 10), .ref (ad 11), .ref (ad 12), .int xpn])), (ad 7, .inl (cI, 24, .inl xpo)), (ad 12, .inr (0, [.ref (ad 13), .ref (ad 14), .ref (ad 15), .ref (ad 16), .int xcn])), (ad 13, .inl (cI, 20, .inl xcp)), (ad 14, .inl (cJ, 20, .inr (.inl xcd))), (ad 15, .inl (cI, 20, .inl xck)), (ad 16, .inl (cJ, 20, .inr (.inl xcg)))] sz)) 0 0 ((va_A [(ad 0, .inr (4, [.ref (ad 1), .ref (ad 2), .ref (ad 3), .ref (ad 4), .ref (ad 5), .ref (ad 6), .int xgc])), (ad 1, .inl (cI, 8, .inl xver)), (ad 3, .inr (3, [.ref (ad 7), .ref (ad 8), .ref (ad 9), .ref (ad 10), .ref (ad 11), .ref (ad 12), .int xpn])), (ad 7, .inl (cI, 24, .inl xpo)), (ad 12, .inr (0, [.ref (ad 13), .ref (ad 14), .ref (ad 15), .ref (ad 16), .int xcn])), (ad 13, .inl (cI, 20, .inl xcp)), (ad 14, .inl (cJ, 20, .inr (.inl xcd))), (ad 15, .inl (cI, 20, .inl xck)), (ad 16, .inl (cJ, 20, .inr (.inl xcg)))] sz)) := by
  refine Met.ofW (cc := zb_MP_change) (maxL := 7) (ret := (some .boolean)) (by decide) rfl ?_
  intro p e s m args below meth c s₁ B hml hv
  obtain ⟨rfl, hsz, hP, hK, hD0, hN⟩ := hv
  have hx := B.exec
  have hb := B.bytes
  have hr := B.returns
  have hts := atoms_spec (ws := zw_MP_change) B.pre
  have hsub : ∀ w ∈ mp_tbl, w ∈ zw_MP_change := fun w h => List.mem_cons_of_mem _ h
  have hw : ∀ w ∈ mp_tbl, w.before _ s = true := fun w h => hts w (hsub w h)
  have hown : s.vm.findClass zR_MP = some m.cls := findClass_of_methodNamed B.named
  have hlocks := B.notSynchronized
  subst hsz
  have hD := hD0.self (sz := s.heap.size)
  generalize hAe : va_A [(ad 0, .inr (4, [.ref (ad 1), .ref (ad 2), .ref (ad 3), .ref (ad 4), .ref (ad 5), .ref (ad 6), .int xgc])), (ad 1, .inl (cI, 8, .inl xver)), (ad 3, .inr (3, [.ref (ad 7), .ref (ad 8), .ref (ad 9), .ref (ad 10), .ref (ad 11), .ref (ad 12), .int xpn])), (ad 7, .inl (cI, 24, .inl xpo)), (ad 12, .inr (0, [.ref (ad 13), .ref (ad 14), .ref (ad 15), .ref (ad 16), .int xcn])), (ad 13, .inl (cI, 20, .inl xcp)), (ad 14, .inl (cJ, 20, .inr (.inl xcd))), (ad 15, .inl (cI, 20, .inl xck)), (ad 16, .inl (cJ, 20, .inr (.inl xcg)))] s.heap.size = A at hD ⊢
  have hA : ∀ q : Nat, s.heap.size ≤ q → A q := fun q h => by rw [← hAe]; exact Or.inr h
  have hS : va_S A s.heap s.heap [] := va_S.rf
  have hP : va_P (dC, dI) vwCl [(ad 0, .inr (4, [.ref (ad 1), .ref (ad 2), .ref (ad 3), .ref (ad 4), .ref (ad 5), .ref (ad 6), .int xgc])), (ad 1, .inl (cI, 8, .inl xver)), (ad 3, .inr (3, [.ref (ad 7), .ref (ad 8), .ref (ad 9), .ref (ad 10), .ref (ad 11), .ref (ad 12), .int xpn])), (ad 7, .inl (cI, 24, .inl xpo)), (ad 12, .inr (0, [.ref (ad 13), .ref (ad 14), .ref (ad 15), .ref (ad 16), .int xcn])), (ad 13, .inl (cI, 20, .inl xcp)), (ad 14, .inl (cJ, 20, .inr (.inl xcd))), (ad 15, .inl (cI, 20, .inl xck)), (ad 16, .inl (cJ, 20, .inr (.inl xcg)))] s.heap := hP
  clear hAe hD0
  have hl := lv_entry ([.ref (ad 0), .int u1, .long u2, .int u4, .long u5]) (n := 7) (Nat.le_of_ble_eq_true rfl)
  rw [lg_entry_eq]
  generalize (lg_sl ([.ref (ad 0), .int u1, .long u2, .int u4, .long u5]) ++ List.replicate (7 - (lg_sl ([.ref (ad 0), .int u1, .long u2, .int u4, .long u5])).length) Slot.unset).toArray = ls at hl ⊢
  have hl : lv_has ls 7 [(0, .ref (ad 0)), (1, .int u1), (2, .long u2), (4, .int u4), (5, .long u5)] := hl
  unfold zf_MP_change at hf
  refine lv_aload_n hx hb zd_MP_change_0 rfl (lv_at hl 0 rfl) ?_
  refine va_get (D := (dC, dI)) (ci := 4) (v := .ref (ad 3)) (C := zR_MP) (T := zT_MP) (N := 7) hx hb hts (fun w h => hsub w (zi_MP w h)) hown hK hP 0 rfl rfl 2 (by decide) (hw _ zq_154) (fun _ h9 => h9) rfl zd_MP_change_1 ?_
  refine va_get (D := (dC, dI)) (ci := 3) (v := .ref (ad 12)) (C := zR_Pa) (T := zT_Pa) (N := 7) hx hb hts (fun w h => hsub w (zi_Pa w h)) hown hK hP 2 rfl rfl 5 (by decide) (hw _ zq_86) (fun _ h9 => h9) rfl zd_MP_change_4 ?_
  obtain ⟨y1, hg1, hf⟩ := mp_bd hf
  refine mp_Rz (va_runV (As := []) (rest := []) ⟨hx, hb, hml, hown, hts⟩ (zc_Ch_isFull l dC dI cI cJ cZ ad xcn y1 hg1) (cwV 0 hts (mp_gV hsub zq_236 zq_237 zq_238 zq_27 zq_239) rfl rfl rfl (by decide +kernel) ⟨Nat.le_of_ble_eq_true rfl, Nat.le_of_ble_eq_true rfl⟩) ⟨mp_blR, va_recv hK hP (ci := 0) (q0 := 4) rfl rfl, mp_preR hN hK (hP.sub [4] rfl)⟩ rfl rfl hl.1 rfl (lv_room (Nat.le_of_ble_eq_true rfl)) zd_MP_change_7 ⟨Nat.zero_le _, Nat.zero_le _⟩) (fun hz1 => ?_)
  refine lv_if_ne (tgt := 41) hx hb zd_MP_change_10 (by decide) (fun c_2 => ?_) (fun c_2 => ?_)
  · have hf := mp_f c_2 hf
    refine lv_iconst (v := 0) hx hb zd_MP_change_41 (by decide) ?_
    have hf := Option.some.inj hf
    subst hf
    exact W.zret (v := (0 : Int32)) hx hb hr (mp_nz (Or.inl rfl)) (fun t ht hW => ⟨⟨(0 : Int32), (), rfl, ⟨rfl, (Or.inl rfl)⟩, by rw [ht]; exact hP, hD⟩, hS.F ht⟩) hS.2.2 zd_MP_change_42
  · have hf := mp_t c_2 hf
    refine lv_aload_n hx hb zd_MP_change_13 rfl (lv_at hl 0 rfl) ?_
    refine va_get (D := (dC, dI)) (ci := 4) (v := .ref (ad 3)) (C := zR_MP) (T := zT_MP) (N := 7) hx hb hts (fun w h => hsub w (zi_MP w h)) hown hK hP 0 rfl rfl 2 (by decide) (hw _ zq_154) (fun _ h9 => h9) rfl zd_MP_change_14 ?_
    refine lv_iload_n hx hb zd_MP_change_17 rfl (lv_at hl 1 rfl) ?_
    obtain ⟨y3, hg3, hf⟩ := mp_bd hf
    refine mp_Rz (va_runV (As := [.int u1]) (rest := []) ⟨hx, hb, hml, hown, hts⟩ (zc_Pa_has l dC dI cI cJ cZ ad xpn u1 y3 hg3) (cwV 1 hts (mp_gV hsub zq_209 zq_210 zq_211 zq_26 zq_212) rfl rfl rfl (by decide +kernel) ⟨Nat.le_of_ble_eq_true rfl, Nat.le_of_ble_eq_true rfl⟩) ⟨mp_blR, va_recv hK hP (ci := 3) (q0 := 2) rfl rfl, mp_preR hN hK (hP.sub [2] rfl)⟩ rfl rfl hl.1 rfl (lv_room (Nat.le_of_ble_eq_true rfl)) zd_MP_change_18 ⟨Nat.zero_le _, Nat.zero_le _⟩) (fun hz3 => ?_)
    refine lv_if_eq (tgt := 41) hx hb zd_MP_change_21 (by decide) (fun c_4 => ?_) (fun c_4 => ?_)
    · have hf := mp_t c_4 hf
      refine lv_iconst (v := 0) hx hb zd_MP_change_41 (by decide) ?_
      have hf := Option.some.inj hf
      subst hf
      exact W.zret (v := (0 : Int32)) hx hb hr (mp_nz (Or.inl rfl)) (fun t ht hW => ⟨⟨(0 : Int32), (), rfl, ⟨rfl, (Or.inl rfl)⟩, by rw [ht]; exact hP, hD⟩, hS.F ht⟩) hS.2.2 zd_MP_change_42
    · have hf := mp_f c_4 hf
      refine lv_lload_n hx hb zd_MP_change_24 rfl (lv_at hl 2 rfl) ?_
      obtain ⟨y5, hg5, hf⟩ := mp_bd hf
      refine mp_Rz (va_runS (As := [.long u2]) (rest := []) ⟨hx, hb, hml, hown, hts⟩ (zc_MP_isDay l dC dI cI cJ cZ ad u2 y5 hg5) (va_cwS 1 hts (mp_gS hsub zq_240 zq_241 zq_25 zq_242) rfl rfl rfl (by decide +kernel) ⟨Nat.le_of_ble_eq_true rfl, Nat.le_of_ble_eq_true rfl⟩) ⟨mp_blR, mp_preR hN hK (hP.sub [] rfl)⟩ rfl rfl hl.1 rfl (lv_room (Nat.le_of_ble_eq_true rfl)) zd_MP_change_25 ⟨Nat.zero_le _, Nat.zero_le _⟩) (fun hz5 => ?_)
      refine lv_if_eq (tgt := 41) hx hb zd_MP_change_28 (by decide) (fun c_6 => ?_) (fun c_6 => ?_)
      · have hf := mp_t c_6 hf
        refine lv_iconst (v := 0) hx hb zd_MP_change_41 (by decide) ?_
        have hf := Option.some.inj hf
        subst hf
        exact W.zret (v := (0 : Int32)) hx hb hr (mp_nz (Or.inl rfl)) (fun t ht hW => ⟨⟨(0 : Int32), (), rfl, ⟨rfl, (Or.inl rfl)⟩, by rw [ht]; exact hP, hD⟩, hS.F ht⟩) hS.2.2 zd_MP_change_42
      · have hf := mp_f c_6 hf
        refine lv_iload hx hb zd_MP_change_31 (lv_at hl 3 rfl) ?_
        refine lv_lload hx hb zd_MP_change_33 (lv_at hl 4 rfl) ?_
        obtain ⟨y7, hg7, hf⟩ := mp_bd hf
        refine mp_Rz (va_runS (As := [.int u4, .long u5]) (rest := []) ⟨hx, hb, hml, hown, hts⟩ (zc_MP_isMaterial l dC dI cI cJ cZ ad u4 u5 y7 hg7) (va_cwS 2 hts (mp_gS hsub zq_190 zq_191 zq_25 zq_192) rfl rfl rfl (by decide +kernel) ⟨Nat.le_of_ble_eq_true rfl, Nat.le_of_ble_eq_true rfl⟩) ⟨mp_blR, mp_preR hN hK (hP.sub [] rfl)⟩ rfl rfl hl.1 rfl (lv_room (Nat.le_of_ble_eq_true rfl)) zd_MP_change_35 ⟨Nat.zero_le _, Nat.zero_le _⟩) (fun hz7 => ?_)
        refine lv_if_ne (tgt := 43) hx hb zd_MP_change_38 (by decide) (fun c_8 => ?_) (fun c_8 => ?_)
        · have hf := mp_f c_8 hf
          refine lv_aload_n hx hb zd_MP_change_43 rfl (lv_at hl 0 rfl) ?_
          refine va_get (D := (dC, dI)) (ci := 4) (v := .ref (ad 3)) (C := zR_MP) (T := zT_MP) (N := 7) hx hb hts (fun w h => hsub w (zi_MP w h)) hown hK hP 0 rfl rfl 2 (by decide) (hw _ zq_154) (fun _ h9 => h9) rfl zd_MP_change_44 ?_
          refine va_get (D := (dC, dI)) (ci := 3) (v := .ref (ad 12)) (C := zR_Pa) (T := zT_Pa) (N := 7) hx hb hts (fun w h => hsub w (zi_Pa w h)) hown hK hP 2 rfl rfl 5 (by decide) (hw _ zq_86) (fun _ h9 => h9) rfl zd_MP_change_47 ?_
          refine lv_iload_n hx hb zd_MP_change_50 rfl (lv_at hl 1 rfl) ?_
          refine lv_lload_n hx hb zd_MP_change_51 rfl (lv_at hl 2 rfl) ?_
          refine lv_iload hx hb zd_MP_change_52 (lv_at hl 3 rfl) ?_
          refine lv_lload hx hb zd_MP_change_54 (lv_at hl 4 rfl) ?_
          obtain ⟨y9, hg9, hf⟩ := mp_bd hf
          refine mp_Mv (wr := [(ad 0, .inr (4, [.ref (ad 1), .ref (ad 2), .ref (ad 3), .ref (ad 4), .ref (ad 5), .ref (ad 6), .int xgc])), (ad 1, .inl (cI, 8, .inl xver)), (ad 3, .inr (3, [.ref (ad 7), .ref (ad 8), .ref (ad 9), .ref (ad 10), .ref (ad 11), .ref (ad 12), .int xpn])), (ad 7, .inl (cI, 24, .inl xpo))]) (va_runV (As := [.int u1, .long u2, .int u4, .long u5]) (rest := []) ⟨hx, hb, hml, hown, hts⟩ (zc_Ch_add l dC dI cI cJ cZ ad _ xcn xcp xcd xck xcg u1 u2 u4 u5 y9 hg9) (cwV 4 hts (mp_gV hsub zq_244 zq_245 zq_246 zq_27 zq_247) rfl rfl rfl (by decide +kernel) ⟨Nat.le_of_ble_eq_true rfl, Nat.le_of_ble_eq_true rfl⟩) ⟨mp_blM, va_recv hK hP (ci := 0) (q0 := 4) rfl rfl, mp_preM hN hK (hP.sub [4, 5, 6, 7, 8] rfl) (hD.sub [4, 5, 6, 7, 8] (by decide) rfl)⟩ rfl rfl hl.1 rfl (lv_room (Nat.le_of_ble_eq_true rfl)) zd_MP_change_56 ⟨Nat.zero_le _, Nat.zero_le _⟩) hP hD hS hA [4, 5, 6, 7, 8] [0, 1, 2, 3] rfl rfl (by decide) (by decide) (fun H locs hP hD hS => ?_)
          have hP : va_P (dC, dI) vwCl [(ad 0, .inr (4, [.ref (ad 1), .ref (ad 2), .ref (ad 3), .ref (ad 4), .ref (ad 5), .ref (ad 6), .int xgc])), (ad 1, .inl (cI, 8, .inl xver)), (ad 3, .inr (3, [.ref (ad 7), .ref (ad 8), .ref (ad 9), .ref (ad 10), .ref (ad 11), .ref (ad 12), .int xpn])), (ad 7, .inl (cI, 24, .inl xpo)), (ad 12, .inr (0, [.ref (ad 13), .ref (ad 14), .ref (ad 15), .ref (ad 16), .int y9.1])), (ad 13, .inl (cI, 20, .inl y9.2.1)), (ad 14, .inl (cJ, 20, .inr (.inl y9.2.2.1))), (ad 15, .inl (cI, 20, .inl y9.2.2.2.1)), (ad 16, .inl (cJ, 20, .inr (.inl y9.2.2.2.2)))] H := hP
          have hD : va_D A [(ad 0, .inr (4, [.ref (ad 1), .ref (ad 2), .ref (ad 3), .ref (ad 4), .ref (ad 5), .ref (ad 6), .int xgc])), (ad 1, .inl (cI, 8, .inl xver)), (ad 3, .inr (3, [.ref (ad 7), .ref (ad 8), .ref (ad 9), .ref (ad 10), .ref (ad 11), .ref (ad 12), .int xpn])), (ad 7, .inl (cI, 24, .inl xpo)), (ad 12, .inr (0, [.ref (ad 13), .ref (ad 14), .ref (ad 15), .ref (ad 16), .int y9.1])), (ad 13, .inl (cI, 20, .inl y9.2.1)), (ad 14, .inl (cJ, 20, .inr (.inl y9.2.2.1))), (ad 15, .inl (cI, 20, .inl y9.2.2.2.1)), (ad 16, .inl (cJ, 20, .inr (.inl y9.2.2.2.2)))] := hD
          refine lv_aload_n hx hb zd_MP_change_59 rfl (lv_at hl 0 rfl) ?_
          refine va_get (D := (dC, dI)) (ci := 4) (v := .ref (ad 1)) (C := zR_MP) (T := zT_MP) (N := 7) hx hb hts (fun w h => hsub w (zi_MP w h)) hown hK hP 0 rfl rfl 0 (by decide) (hw _ zq_152) (fun _ h9 => h9) rfl zd_MP_change_60 ?_
          refine lv_aload_n hx hb zd_MP_change_63 rfl (lv_at hl 0 rfl) ?_
          refine va_get (D := (dC, dI)) (ci := 4) (v := .ref (ad 3)) (C := zR_MP) (T := zT_MP) (N := 7) hx hb hts (fun w h => hsub w (zi_MP w h)) hown hK hP 0 rfl rfl 2 (by decide) (hw _ zq_154) (fun _ h9 => h9) rfl zd_MP_change_64 ?_
          refine va_get (D := (dC, dI)) (ci := 3) (v := .ref (ad 7)) (C := zR_Pa) (T := zT_Pa) (N := 7) hx hb hts (fun w h => hsub w (zi_Pa w h)) hown hK hP 2 rfl rfl 0 (by decide) (hw _ zq_76) (fun _ h9 => h9) rfl zd_MP_change_67 ?_
          refine lv_iload_n hx hb zd_MP_change_70 rfl (lv_at hl 1 rfl) ?_
          obtain ⟨h_10, hf⟩ := mp_in hf
          refine va_iald hx hb hK hP 3 0 rfl rfl (i := u1) h_10 zd_MP_change_71 ?_
          refine lv_dup2_11 hx hb zd_MP_change_72 rfl rfl ?_
          obtain ⟨h_11, hf⟩ := mp_in hf
          refine va_iald hx hb hK hP 1 0 rfl rfl (i := (xpo u1.toNatClampNeg)) h_11 zd_MP_change_73 ?_
          refine lv_iconst (v := 1) hx hb zd_MP_change_74 (by decide) ?_
          refine lv_iadd hx hb zd_MP_change_75 ?_
          obtain ⟨h_12, hf⟩ := mp_in hf
          refine va_iast hx hb hK hP hD hS 1 0 rfl rfl (i := (xpo u1.toNatClampNeg)) (x := ((xver (xpo u1.toNatClampNeg).toNatClampNeg) + (1 : Int32))) h_12 zd_MP_change_76 (fun H locs hP hD hS => ?_)
          have hP : va_P (dC, dI) vwCl [(ad 0, .inr (4, [.ref (ad 1), .ref (ad 2), .ref (ad 3), .ref (ad 4), .ref (ad 5), .ref (ad 6), .int xgc])), (ad 1, .inl (cI, 8, .inl (upd xver (xpo u1.toNatClampNeg).toNatClampNeg ((xver (xpo u1.toNatClampNeg).toNatClampNeg) + (1 : Int32))))), (ad 3, .inr (3, [.ref (ad 7), .ref (ad 8), .ref (ad 9), .ref (ad 10), .ref (ad 11), .ref (ad 12), .int xpn])), (ad 7, .inl (cI, 24, .inl xpo)), (ad 12, .inr (0, [.ref (ad 13), .ref (ad 14), .ref (ad 15), .ref (ad 16), .int y9.1])), (ad 13, .inl (cI, 20, .inl y9.2.1)), (ad 14, .inl (cJ, 20, .inr (.inl y9.2.2.1))), (ad 15, .inl (cI, 20, .inl y9.2.2.2.1)), (ad 16, .inl (cJ, 20, .inr (.inl y9.2.2.2.2)))] H := hP
          have hD : va_D A [(ad 0, .inr (4, [.ref (ad 1), .ref (ad 2), .ref (ad 3), .ref (ad 4), .ref (ad 5), .ref (ad 6), .int xgc])), (ad 1, .inl (cI, 8, .inl (upd xver (xpo u1.toNatClampNeg).toNatClampNeg ((xver (xpo u1.toNatClampNeg).toNatClampNeg) + (1 : Int32))))), (ad 3, .inr (3, [.ref (ad 7), .ref (ad 8), .ref (ad 9), .ref (ad 10), .ref (ad 11), .ref (ad 12), .int xpn])), (ad 7, .inl (cI, 24, .inl xpo)), (ad 12, .inr (0, [.ref (ad 13), .ref (ad 14), .ref (ad 15), .ref (ad 16), .int y9.1])), (ad 13, .inl (cI, 20, .inl y9.2.1)), (ad 14, .inl (cJ, 20, .inr (.inl y9.2.2.1))), (ad 15, .inl (cI, 20, .inl y9.2.2.2.1)), (ad 16, .inl (cJ, 20, .inr (.inl y9.2.2.2.2)))] := hD
          refine lv_iconst (v := 1) hx hb zd_MP_change_77 (by decide) ?_
          have hf := Option.some.inj hf
          subst hf
          exact W.zret (v := (1 : Int32)) hx hb hr (mp_nz (Or.inr rfl)) (fun t ht hW => ⟨⟨(1 : Int32), (), rfl, ⟨rfl, (Or.inr rfl)⟩, by rw [ht]; exact hP, hD⟩, hS.F ht⟩) hS.2.2 zd_MP_change_78
        · have hf := mp_t c_8 hf
          refine lv_iconst (v := 0) hx hb zd_MP_change_41 (by decide) ?_
          have hf := Option.some.inj hf
          subst hf
          exact W.zret (v := (0 : Int32)) hx hb hr (mp_nz (Or.inl rfl)) (fun t ht hW => ⟨⟨(0 : Int32), (), rfl, ⟨rfl, (Or.inl rfl)⟩, by rw [ht]; exact hP, hD⟩, hS.F ht⟩) hS.2.2 zd_MP_change_42
set_option maxHeartbeats 4000000 in
set_option maxRecDepth 100000 in
theorem zc_Ch_countingOn (l : Launch) (dC : Nat → ClassId) (dI : Nat → Nat → Nat) (cI cJ cZ : ClassId) (ad : Nat → Nat) (xcn : Int32) (xcp : Nat → Int32) (xcd : Nat → Int64) (u1 : Int32) (u2 : Int64) (res : Int32) (hf : zf_Ch_countingOn u1 u2 xcn xcp xcd = some res) : Met l zy_Ch_countingOn zw_Ch_countingOn ({ frames := 0, cells := 0, slots := 0, locals := 0 } : Room) (mp_PR (dC, dI) vwCl (mp_tys cI cJ cZ) [(ad 12, .inr (0, [.ref (ad 13), .ref (ad 14), .ref (ad 15), .ref (ad 16), .int xcn])), (ad 13, .inl (cI, 20, .inl xcp)), (ad 14, .inl (cJ, 20, .inr (.inl xcd)))] [.ref (ad 12), .int u1, .long u2]) (vp_Si (fun r => r = res)) 0 0 (fun _ => False) := by
  refine Met.ofW (cc := zb_Ch_countingOn) (maxL := 6) (ret := (some .int)) (by decide) rfl ?_
  intro p e s m args below meth c s₁ B hml hv
  obtain ⟨rfl, hP, hK, hN⟩ := hv
  have hx := B.exec
  have hb := B.bytes
  have hr := B.returns
  have hts := atoms_spec (ws := zw_Ch_countingOn) B.pre
  have hsub : ∀ w ∈ mp_tbl, w ∈ zw_Ch_countingOn := fun w h => List.mem_cons_of_mem _ h
  have hw : ∀ w ∈ mp_tbl, w.before _ s = true := fun w h => hts w (hsub w h)
  have hown : s.vm.findClass zR_Ch = some m.cls := findClass_of_methodNamed B.named
  have hlocks := B.notSynchronized
  have loop6 : ∀ (v1 : Int32) (v2 : Int64) (n : Nat) (v4 : Int32) (v5 : Int32) (ls : Array Slot), zf_Ch_countingOn_L6 v1 v2 xcn xcp xcd n v4 v5 = some res → lv_has ls 6 [(0, .ref (ad 12)), (1, .int v1), (2, .long v2), (4, .int v4), (5, .int v5)] → W p l e (headSpec zw_Ch_countingOn ({ frames := 0, cells := 0, slots := 0, locals := 0 } : Room)).room s m ([.ref (ad 12), .int u1, .long u2] : List Value).toArray below meth c s.heap [] 0 0 (MQ below (vp_Si (fun r => r = res)) ([.ref (ad 12), .int u1, .long u2] : List Value).toArray s 0 0 (fun _ => False)) (F0 m 6 ls []) := by
    intro v1 v2 n
    induction n with
    | zero => intro v4 v5 ls hf; simp [zf_Ch_countingOn_L6] at hf
    | succ n ih =>
      intro v4 v5 ls hf hl
      rw [zf_Ch_countingOn_L6] at hf
      refine lv_iload hx hb zd_Ch_countingOn_6 (lv_at hl 4 rfl) ?_
      refine lv_aload_n hx hb zd_Ch_countingOn_8 rfl (lv_at hl 0 rfl) ?_
      refine va_get (D := (dC, dI)) (ci := 0) (v := .int xcn) (C := zR_Ch) (T := zT_Ch) (N := 5) hx hb hts (fun w h => hsub w (zi_Ch w h)) hown hK hP 0 rfl rfl 4 (by decide) (hw _ zq_60) (fun _ h9 => h9) rfl zd_Ch_countingOn_9 ?_
      refine lv_icmp_ge (tgt := 72) hx hb zd_Ch_countingOn_12 (by decide) (fun c_1 => ?_) (fun c_1 => ?_)
      · have hf := mp_t c_1 hf
        refine lv_iload hx hb zd_Ch_countingOn_72 (lv_at hl 3 rfl) ?_
        have hf := Option.some.inj hf
        subst hf
        exact W.iret (v := v4) hx hb hr (fun t ht hW => ⟨v4, rfl, rfl, ht⟩) (fun q h => by cases h) zd_Ch_countingOn_74
      · have hf := mp_f c_1 hf
        refine lv_aload_n hx hb zd_Ch_countingOn_15 rfl (lv_at hl 0 rfl) ?_
        refine va_get (D := (dC, dI)) (ci := 0) (v := .ref (ad 13)) (C := zR_Ch) (T := zT_Ch) (N := 5) hx hb hts (fun w h => hsub w (zi_Ch w h)) hown hK hP 0 rfl rfl 0 (by decide) (hw _ zq_54) (fun _ h9 => h9) rfl zd_Ch_countingOn_16 ?_
        refine lv_iload hx hb zd_Ch_countingOn_19 (lv_at hl 4 rfl) ?_
        obtain ⟨h_2, hf⟩ := mp_in hf
        refine va_iald hx hb hK hP 1 0 rfl rfl (i := v5) h_2 zd_Ch_countingOn_21 ?_
        refine lv_iload_n hx hb zd_Ch_countingOn_22 rfl (lv_at hl 1 rfl) ?_
        refine lv_icmp_ne (tgt := 66) hx hb zd_Ch_countingOn_23 (by decide) (fun c_3 => ?_) (fun c_3 => ?_)
        · have hf := mp_f c_3 hf
          refine lv_iinc (v := (v5 + (1 : Int32))) (lv' := [(5, .int (v5 + (1 : Int32))), (0, .ref (ad 12)), (1, .int v1), (2, .long v2), (4, .int v4)]) hx hb zd_Ch_countingOn_66 hl (k := 4) rfl rfl (by decide) rfl (fun ls hl => ?_)
          refine lv_goto (tgt := 6) hx hb zd_Ch_countingOn_69 (by decide) ?_
          exact ih v4 (v5 + (1 : Int32)) _ hf (lv_sub hl [1, 2, 3, 4, 0] rfl)
        · have hf := mp_t c_3 hf
          refine lv_aload_n hx hb zd_Ch_countingOn_26 rfl (lv_at hl 0 rfl) ?_
          refine va_get (D := (dC, dI)) (ci := 0) (v := .ref (ad 14)) (C := zR_Ch) (T := zT_Ch) (N := 5) hx hb hts (fun w h => hsub w (zi_Ch w h)) hown hK hP 0 rfl rfl 1 (by decide) (hw _ zq_55) (fun _ h9 => h9) rfl zd_Ch_countingOn_27 ?_
          refine lv_iload hx hb zd_Ch_countingOn_30 (lv_at hl 4 rfl) ?_
          obtain ⟨h_4, hf⟩ := mp_in hf
          refine va_lald hx hb hK hP 2 1 rfl rfl (i := v5) h_4 zd_Ch_countingOn_32 ?_
          refine lv_lload_n hx hb zd_Ch_countingOn_33 rfl (lv_at hl 2 rfl) ?_
          refine W.lcmp hx hb zd_Ch_countingOn_34 ?_
          refine lv_if_gt (tgt := 66) hx hb zd_Ch_countingOn_35 (by decide) (fun c_5 => ?_) (fun c_5 => ?_)
          · have c_5 := (lg_cmp_gt _ _).mp c_5
            have hf := mp_t c_5 hf
            refine lv_iinc (v := (v5 + (1 : Int32))) (lv' := [(5, .int (v5 + (1 : Int32))), (0, .ref (ad 12)), (1, .int v1), (2, .long v2), (4, .int v4)]) hx hb zd_Ch_countingOn_66 hl (k := 4) rfl rfl (by decide) rfl (fun ls hl => ?_)
            refine lv_goto (tgt := 6) hx hb zd_Ch_countingOn_69 (by decide) ?_
            exact ih v4 (v5 + (1 : Int32)) _ hf (lv_sub hl [1, 2, 3, 4, 0] rfl)
          · have c_5 := fun h9 => c_5 ((lg_cmp_gt _ _).mpr h9)
            have hf := mp_f c_5 hf
            refine lv_iload hx hb zd_Ch_countingOn_38 (lv_at hl 3 rfl) ?_
            refine lv_iconst (v := -1) hx hb zd_Ch_countingOn_40 (by decide) ?_
            refine lv_icmp_eq (tgt := 62) hx hb zd_Ch_countingOn_41 (by decide) (fun c_6 => ?_) (fun c_6 => ?_)
            · have hf := mp_t c_6 hf
              refine lv_iload hx hb zd_Ch_countingOn_62 (lv_at hl 4 rfl) ?_
              refine lv_istore (lv' := [(4, .int v5), (0, .ref (ad 12)), (1, .int v1), (2, .long v2), (5, .int v5)]) hx hb zd_Ch_countingOn_64 hl (by decide) rfl (fun ls hl => ?_)
              refine lv_iinc (v := (v5 + (1 : Int32))) (lv' := [(5, .int (v5 + (1 : Int32))), (4, .int v5), (0, .ref (ad 12)), (1, .int v1), (2, .long v2)]) hx hb zd_Ch_countingOn_66 hl (k := 4) rfl rfl (by decide) rfl (fun ls hl => ?_)
              refine lv_goto (tgt := 6) hx hb zd_Ch_countingOn_69 (by decide) ?_
              exact ih v5 (v5 + (1 : Int32)) _ hf (lv_sub hl [2, 3, 4, 1, 0] rfl)
            · have hf := mp_f c_6 hf
              refine lv_aload_n hx hb zd_Ch_countingOn_44 rfl (lv_at hl 0 rfl) ?_
              refine va_get (D := (dC, dI)) (ci := 0) (v := .ref (ad 14)) (C := zR_Ch) (T := zT_Ch) (N := 5) hx hb hts (fun w h => hsub w (zi_Ch w h)) hown hK hP 0 rfl rfl 1 (by decide) (hw _ zq_55) (fun _ h9 => h9) rfl zd_Ch_countingOn_45 ?_
              refine lv_iload hx hb zd_Ch_countingOn_48 (lv_at hl 4 rfl) ?_
              obtain ⟨h_7, hf⟩ := mp_in hf
              refine va_lald hx hb hK hP 2 1 rfl rfl (i := v5) h_7 zd_Ch_countingOn_50 ?_
              refine lv_aload_n hx hb zd_Ch_countingOn_51 rfl (lv_at hl 0 rfl) ?_
              refine va_get (D := (dC, dI)) (ci := 0) (v := .ref (ad 14)) (C := zR_Ch) (T := zT_Ch) (N := 5) hx hb hts (fun w h => hsub w (zi_Ch w h)) hown hK hP 0 rfl rfl 1 (by decide) (hw _ zq_55) (fun _ h9 => h9) rfl zd_Ch_countingOn_52 ?_
              refine lv_iload hx hb zd_Ch_countingOn_55 (lv_at hl 3 rfl) ?_
              obtain ⟨h_8, hf⟩ := mp_in hf
              refine va_lald hx hb hK hP 2 1 rfl rfl (i := v4) h_8 zd_Ch_countingOn_57 ?_
              refine W.lcmp hx hb zd_Ch_countingOn_58 ?_
              refine lv_if_lt (tgt := 66) hx hb zd_Ch_countingOn_59 (by decide) (fun c_9 => ?_) (fun c_9 => ?_)
              · have c_9 := (lg_cmp_lt _ _).mp c_9
                have hf := mp_t c_9 hf
                refine lv_iinc (v := (v5 + (1 : Int32))) (lv' := [(5, .int (v5 + (1 : Int32))), (0, .ref (ad 12)), (1, .int v1), (2, .long v2), (4, .int v4)]) hx hb zd_Ch_countingOn_66 hl (k := 4) rfl rfl (by decide) rfl (fun ls hl => ?_)
                refine lv_goto (tgt := 6) hx hb zd_Ch_countingOn_69 (by decide) ?_
                exact ih v4 (v5 + (1 : Int32)) _ hf (lv_sub hl [1, 2, 3, 4, 0] rfl)
              · have c_9 := fun h9 => c_9 ((lg_cmp_lt _ _).mpr h9)
                have hf := mp_f c_9 hf
                refine lv_iload hx hb zd_Ch_countingOn_62 (lv_at hl 4 rfl) ?_
                refine lv_istore (lv' := [(4, .int v5), (0, .ref (ad 12)), (1, .int v1), (2, .long v2), (5, .int v5)]) hx hb zd_Ch_countingOn_64 hl (by decide) rfl (fun ls hl => ?_)
                refine lv_iinc (v := (v5 + (1 : Int32))) (lv' := [(5, .int (v5 + (1 : Int32))), (4, .int v5), (0, .ref (ad 12)), (1, .int v1), (2, .long v2)]) hx hb zd_Ch_countingOn_66 hl (k := 4) rfl rfl (by decide) rfl (fun ls hl => ?_)
                refine lv_goto (tgt := 6) hx hb zd_Ch_countingOn_69 (by decide) ?_
                exact ih v5 (v5 + (1 : Int32)) _ hf (lv_sub hl [2, 3, 4, 1, 0] rfl)
  have hl := lv_entry ([.ref (ad 12), .int u1, .long u2]) (n := 6) (Nat.le_of_ble_eq_true rfl)
  rw [lg_entry_eq]
  generalize (lg_sl ([.ref (ad 12), .int u1, .long u2]) ++ List.replicate (6 - (lg_sl ([.ref (ad 12), .int u1, .long u2])).length) Slot.unset).toArray = ls at hl ⊢
  have hl : lv_has ls 6 [(0, .ref (ad 12)), (1, .int u1), (2, .long u2)] := hl
  unfold zf_Ch_countingOn at hf
  refine lv_iconst (v := -1) hx hb zd_Ch_countingOn_0 (by decide) ?_
  refine lv_istore (lv' := [(4, .int (-1 : Int32)), (0, .ref (ad 12)), (1, .int u1), (2, .long u2)]) hx hb zd_Ch_countingOn_1 hl (by decide) rfl (fun ls hl => ?_)
  refine lv_iconst (v := 0) hx hb zd_Ch_countingOn_3 (by decide) ?_
  refine lv_istore (lv' := [(5, .int (0 : Int32)), (4, .int (-1 : Int32)), (0, .ref (ad 12)), (1, .int u1), (2, .long u2)]) hx hb zd_Ch_countingOn_4 hl (by decide) rfl (fun ls hl => ?_)
  exact loop6 u1 u2 2000 (-1 : Int32) (0 : Int32) _ hf (lv_sub hl [2, 3, 4, 1, 0] rfl)
set_option maxHeartbeats 4000000 in
set_option maxRecDepth 100000 in
theorem zc_Pa_gramsOn (l : Launch) (dC : Nat → ClassId) (dI : Nat → Nat → Nat) (cI cJ cZ : ClassId) (ad : Nat → Nat) (xpn : Int32) (xpg : Nat → Int64) (xcn : Int32) (xcp : Nat → Int32) (xcd : Nat → Int64) (xcg : Nat → Int64) (u1 : Int32) (u2 : Int64) (res : Int64) (hf : zf_Pa_gramsOn u1 u2 xpg xcn xcp xcd xcg = some res) : Met l zy_Pa_gramsOn zw_Pa_gramsOn ({ frames := 1, cells := 0, slots := 0, locals := 25 } : Room) (mp_PR (dC, dI) vwCl (mp_tys cI cJ cZ) [(ad 3, .inr (3, [.ref (ad 7), .ref (ad 8), .ref (ad 9), .ref (ad 10), .ref (ad 11), .ref (ad 12), .int xpn])), (ad 9, .inl (cJ, 24, .inr (.inl xpg))), (ad 12, .inr (0, [.ref (ad 13), .ref (ad 14), .ref (ad 15), .ref (ad 16), .int xcn])), (ad 13, .inl (cI, 20, .inl xcp)), (ad 14, .inl (cJ, 20, .inr (.inl xcd))), (ad 16, .inl (cJ, 20, .inr (.inl xcg)))] [.ref (ad 3), .int u1, .long u2]) (vp_Sl (fun r => r = res)) 0 0 (fun _ => False) := by
  refine Met.ofW (cc := zb_Pa_gramsOn) (maxL := 5) (ret := (some .long)) (by decide) rfl ?_
  intro p e s m args below meth c s₁ B hml hv
  obtain ⟨rfl, hP, hK, hN⟩ := hv
  have hx := B.exec
  have hb := B.bytes
  have hr := B.returns
  have hts := atoms_spec (ws := zw_Pa_gramsOn) B.pre
  have hsub : ∀ w ∈ mp_tbl, w ∈ zw_Pa_gramsOn := fun w h => List.mem_cons_of_mem _ h
  have hw : ∀ w ∈ mp_tbl, w.before _ s = true := fun w h => hts w (hsub w h)
  have hown : s.vm.findClass zR_Pa = some m.cls := findClass_of_methodNamed B.named
  have hlocks := B.notSynchronized
  have hl := lv_entry ([.ref (ad 3), .int u1, .long u2]) (n := 5) (Nat.le_of_ble_eq_true rfl)
  rw [lg_entry_eq]
  generalize (lg_sl ([.ref (ad 3), .int u1, .long u2]) ++ List.replicate (5 - (lg_sl ([.ref (ad 3), .int u1, .long u2])).length) Slot.unset).toArray = ls at hl ⊢
  have hl : lv_has ls 5 [(0, .ref (ad 3)), (1, .int u1), (2, .long u2)] := hl
  unfold zf_Pa_gramsOn at hf
  refine lv_aload_n hx hb zd_Pa_gramsOn_0 rfl (lv_at hl 0 rfl) ?_
  refine va_get (D := (dC, dI)) (ci := 3) (v := .ref (ad 12)) (C := zR_Pa) (T := zT_Pa) (N := 7) hx hb hts (fun w h => hsub w (zi_Pa w h)) hown hK hP 0 rfl rfl 5 (by decide) (hw _ zq_85) (fun _ h9 => h9) rfl zd_Pa_gramsOn_1 ?_
  refine lv_iload_n hx hb zd_Pa_gramsOn_4 rfl (lv_at hl 1 rfl) ?_
  refine lv_lload_n hx hb zd_Pa_gramsOn_5 rfl (lv_at hl 2 rfl) ?_
  obtain ⟨y1, hg1, hf⟩ := mp_bd hf
  refine mp_Ri (va_runV (As := [.int u1, .long u2]) (rest := []) ⟨hx, hb, hml, hown, hts⟩ (zc_Ch_countingOn l dC dI cI cJ cZ ad xcn xcp xcd u1 u2 y1 hg1) (cwV 2 hts (mp_gV hsub zq_270 zq_271 zq_272 zq_27 zq_273) rfl rfl rfl (by decide +kernel) ⟨Nat.le_of_ble_eq_true rfl, Nat.le_of_ble_eq_true rfl⟩) ⟨mp_blR, va_recv hK hP (ci := 0) (q0 := 2) rfl rfl, mp_preR hN hK (hP.sub [2, 3, 4] rfl)⟩ rfl rfl hl.1 rfl (lv_room (Nat.le_of_ble_eq_true rfl)) zd_Pa_gramsOn_6 ⟨Nat.zero_le _, Nat.zero_le _⟩) ?_
  refine lv_istore (lv' := [(4, .int y1), (0, .ref (ad 3)), (1, .int u1), (2, .long u2)]) hx hb zd_Pa_gramsOn_9 hl (by decide) rfl (fun ls hl => ?_)
  refine lv_iload hx hb zd_Pa_gramsOn_11 (lv_at hl 0 rfl) ?_
  refine lv_iconst (v := -1) hx hb zd_Pa_gramsOn_13 (by decide) ?_
  refine lv_icmp_ne (tgt := 26) hx hb zd_Pa_gramsOn_14 (by decide) (fun c_2 => ?_) (fun c_2 => ?_)
  · have hf := mp_f c_2 hf
    refine lv_aload_n hx hb zd_Pa_gramsOn_26 rfl (lv_at hl 1 rfl) ?_
    refine va_get (D := (dC, dI)) (ci := 3) (v := .ref (ad 12)) (C := zR_Pa) (T := zT_Pa) (N := 7) hx hb hts (fun w h => hsub w (zi_Pa w h)) hown hK hP 0 rfl rfl 5 (by decide) (hw _ zq_85) (fun _ h9 => h9) rfl zd_Pa_gramsOn_27 ?_
    refine va_get (D := (dC, dI)) (ci := 0) (v := .ref (ad 16)) (C := zR_Ch) (T := zT_Ch) (N := 5) hx hb hts (fun w h => hsub w (zi_Ch w h)) hown hK hP 2 rfl rfl 3 (by decide) (hw _ zq_59) (fun _ h9 => h9) rfl zd_Pa_gramsOn_30 ?_
    refine lv_iload hx hb zd_Pa_gramsOn_33 (lv_at hl 0 rfl) ?_
    obtain ⟨h_3, hf⟩ := mp_in hf
    refine va_lald hx hb hK hP 5 1 rfl rfl (i := y1) h_3 zd_Pa_gramsOn_35 ?_
    have hf := Option.some.inj hf
    subst hf
    exact W.lret (v := (xcg y1.toNatClampNeg)) hx hb hr (fun t ht hW => ⟨(xcg y1.toNatClampNeg), rfl, rfl, ht⟩) (fun q h => by cases h) zd_Pa_gramsOn_36
  · have hf := mp_t c_2 hf
    refine lv_aload_n hx hb zd_Pa_gramsOn_17 rfl (lv_at hl 1 rfl) ?_
    refine va_get (D := (dC, dI)) (ci := 3) (v := .ref (ad 9)) (C := zR_Pa) (T := zT_Pa) (N := 7) hx hb hts (fun w h => hsub w (zi_Pa w h)) hown hK hP 0 rfl rfl 2 (by decide) (hw _ zq_79) (fun _ h9 => h9) rfl zd_Pa_gramsOn_18 ?_
    refine lv_iload_n hx hb zd_Pa_gramsOn_21 rfl (lv_at hl 2 rfl) ?_
    obtain ⟨h_4, hf⟩ := mp_in hf
    refine va_lald hx hb hK hP 1 1 rfl rfl (i := u1) h_4 zd_Pa_gramsOn_22 ?_
    refine lv_goto (tgt := 36) hx hb zd_Pa_gramsOn_23 (by decide) ?_
    have hf := Option.some.inj hf
    subst hf
    exact W.lret (v := (xpg u1.toNatClampNeg)) hx hb hr (fun t ht hW => ⟨(xpg u1.toNatClampNeg), rfl, rfl, ht⟩) (fun q h => by cases h) zd_Pa_gramsOn_36
set_option maxHeartbeats 4000000 in
set_option maxRecDepth 100000 in
theorem zc_Pa_kindOn (l : Launch) (dC : Nat → ClassId) (dI : Nat → Nat → Nat) (cI cJ cZ : ClassId) (ad : Nat → Nat) (xpn : Int32) (xpk : Nat → Int32) (xcn : Int32) (xcp : Nat → Int32) (xcd : Nat → Int64) (xck : Nat → Int32) (u1 : Int32) (u2 : Int64) (res : Int32) (hf : zf_Pa_kindOn u1 u2 xpk xcn xcp xcd xck = some res) : Met l zy_Pa_kindOn zw_Pa_kindOn ({ frames := 1, cells := 0, slots := 0, locals := 25 } : Room) (mp_PR (dC, dI) vwCl (mp_tys cI cJ cZ) [(ad 3, .inr (3, [.ref (ad 7), .ref (ad 8), .ref (ad 9), .ref (ad 10), .ref (ad 11), .ref (ad 12), .int xpn])), (ad 8, .inl (cI, 24, .inl xpk)), (ad 12, .inr (0, [.ref (ad 13), .ref (ad 14), .ref (ad 15), .ref (ad 16), .int xcn])), (ad 13, .inl (cI, 20, .inl xcp)), (ad 14, .inl (cJ, 20, .inr (.inl xcd))), (ad 15, .inl (cI, 20, .inl xck))] [.ref (ad 3), .int u1, .long u2]) (vp_Si (fun r => r = res)) 0 0 (fun _ => False) := by
  refine Met.ofW (cc := zb_Pa_kindOn) (maxL := 5) (ret := (some .int)) (by decide) rfl ?_
  intro p e s m args below meth c s₁ B hml hv
  obtain ⟨rfl, hP, hK, hN⟩ := hv
  have hx := B.exec
  have hb := B.bytes
  have hr := B.returns
  have hts := atoms_spec (ws := zw_Pa_kindOn) B.pre
  have hsub : ∀ w ∈ mp_tbl, w ∈ zw_Pa_kindOn := fun w h => List.mem_cons_of_mem _ h
  have hw : ∀ w ∈ mp_tbl, w.before _ s = true := fun w h => hts w (hsub w h)
  have hown : s.vm.findClass zR_Pa = some m.cls := findClass_of_methodNamed B.named
  have hlocks := B.notSynchronized
  have hl := lv_entry ([.ref (ad 3), .int u1, .long u2]) (n := 5) (Nat.le_of_ble_eq_true rfl)
  rw [lg_entry_eq]
  generalize (lg_sl ([.ref (ad 3), .int u1, .long u2]) ++ List.replicate (5 - (lg_sl ([.ref (ad 3), .int u1, .long u2])).length) Slot.unset).toArray = ls at hl ⊢
  have hl : lv_has ls 5 [(0, .ref (ad 3)), (1, .int u1), (2, .long u2)] := hl
  unfold zf_Pa_kindOn at hf
  refine lv_aload_n hx hb zd_Pa_kindOn_0 rfl (lv_at hl 0 rfl) ?_
  refine va_get (D := (dC, dI)) (ci := 3) (v := .ref (ad 12)) (C := zR_Pa) (T := zT_Pa) (N := 7) hx hb hts (fun w h => hsub w (zi_Pa w h)) hown hK hP 0 rfl rfl 5 (by decide) (hw _ zq_85) (fun _ h9 => h9) rfl zd_Pa_kindOn_1 ?_
  refine lv_iload_n hx hb zd_Pa_kindOn_4 rfl (lv_at hl 1 rfl) ?_
  refine lv_lload_n hx hb zd_Pa_kindOn_5 rfl (lv_at hl 2 rfl) ?_
  obtain ⟨y1, hg1, hf⟩ := mp_bd hf
  refine mp_Ri (va_runV (As := [.int u1, .long u2]) (rest := []) ⟨hx, hb, hml, hown, hts⟩ (zc_Ch_countingOn l dC dI cI cJ cZ ad xcn xcp xcd u1 u2 y1 hg1) (cwV 2 hts (mp_gV hsub zq_270 zq_271 zq_272 zq_27 zq_273) rfl rfl rfl (by decide +kernel) ⟨Nat.le_of_ble_eq_true rfl, Nat.le_of_ble_eq_true rfl⟩) ⟨mp_blR, va_recv hK hP (ci := 0) (q0 := 2) rfl rfl, mp_preR hN hK (hP.sub [2, 3, 4] rfl)⟩ rfl rfl hl.1 rfl (lv_room (Nat.le_of_ble_eq_true rfl)) zd_Pa_kindOn_6 ⟨Nat.zero_le _, Nat.zero_le _⟩) ?_
  refine lv_istore (lv' := [(4, .int y1), (0, .ref (ad 3)), (1, .int u1), (2, .long u2)]) hx hb zd_Pa_kindOn_9 hl (by decide) rfl (fun ls hl => ?_)
  refine lv_iload hx hb zd_Pa_kindOn_11 (lv_at hl 0 rfl) ?_
  refine lv_iconst (v := -1) hx hb zd_Pa_kindOn_13 (by decide) ?_
  refine lv_icmp_ne (tgt := 26) hx hb zd_Pa_kindOn_14 (by decide) (fun c_2 => ?_) (fun c_2 => ?_)
  · have hf := mp_f c_2 hf
    refine lv_aload_n hx hb zd_Pa_kindOn_26 rfl (lv_at hl 1 rfl) ?_
    refine va_get (D := (dC, dI)) (ci := 3) (v := .ref (ad 12)) (C := zR_Pa) (T := zT_Pa) (N := 7) hx hb hts (fun w h => hsub w (zi_Pa w h)) hown hK hP 0 rfl rfl 5 (by decide) (hw _ zq_85) (fun _ h9 => h9) rfl zd_Pa_kindOn_27 ?_
    refine va_get (D := (dC, dI)) (ci := 0) (v := .ref (ad 15)) (C := zR_Ch) (T := zT_Ch) (N := 5) hx hb hts (fun w h => hsub w (zi_Ch w h)) hown hK hP 2 rfl rfl 2 (by decide) (hw _ zq_57) (fun _ h9 => h9) rfl zd_Pa_kindOn_30 ?_
    refine lv_iload hx hb zd_Pa_kindOn_33 (lv_at hl 0 rfl) ?_
    obtain ⟨h_3, hf⟩ := mp_in hf
    refine va_iald hx hb hK hP 5 0 rfl rfl (i := y1) h_3 zd_Pa_kindOn_35 ?_
    have hf := Option.some.inj hf
    subst hf
    exact W.iret (v := (xck y1.toNatClampNeg)) hx hb hr (fun t ht hW => ⟨(xck y1.toNatClampNeg), rfl, rfl, ht⟩) (fun q h => by cases h) zd_Pa_kindOn_36
  · have hf := mp_t c_2 hf
    refine lv_aload_n hx hb zd_Pa_kindOn_17 rfl (lv_at hl 1 rfl) ?_
    refine va_get (D := (dC, dI)) (ci := 3) (v := .ref (ad 8)) (C := zR_Pa) (T := zT_Pa) (N := 7) hx hb hts (fun w h => hsub w (zi_Pa w h)) hown hK hP 0 rfl rfl 1 (by decide) (hw _ zq_78) (fun _ h9 => h9) rfl zd_Pa_kindOn_18 ?_
    refine lv_iload_n hx hb zd_Pa_kindOn_21 rfl (lv_at hl 2 rfl) ?_
    obtain ⟨h_4, hf⟩ := mp_in hf
    refine va_iald hx hb hK hP 1 0 rfl rfl (i := u1) h_4 zd_Pa_kindOn_22 ?_
    refine lv_goto (tgt := 36) hx hb zd_Pa_kindOn_23 (by decide) ?_
    have hf := Option.some.inj hf
    subst hf
    exact W.iret (v := (xpk u1.toNatClampNeg)) hx hb hr (fun t ht hW => ⟨(xpk u1.toNatClampNeg), rfl, rfl, ht⟩) (fun q h => by cases h) zd_Pa_kindOn_36
set_option maxHeartbeats 4000000 in
set_option maxRecDepth 100000 in
theorem zc_Ne_sumByTimes (l : Launch) (dC : Nat → ClassId) (dI : Nat → Nat → Nat) (cI cJ cZ : ClassId) (ad : Nat → Nat) (sz : Nat) (xpn : Int32) (xsm : Nat → Int64) (xpo : Nat → Int32) (xpk : Nat → Int32) (xpg : Nat → Int64) (xcn : Int32) (xcp : Nat → Int32) (xcd : Nat → Int64) (xck : Nat → Int32) (xcg : Nat → Int64) (xnt : Nat → Int64) (u2 : Int64) (res : (Nat → Int64)) (hf : zf_Ne_sumByTimes u2 xpn xsm xpo xpk xpg xcn xcp xcd xck xcg xnt = some res) : Met l zy_Ne_sumByTimes zw_Ne_sumByTimes ({ frames := 2, cells := 0, slots := 0, locals := 49 } : Room) (mp_PM (dC, dI) vwCl (mp_tys cI cJ cZ) [(ad 3, .inr (3, [.ref (ad 7), .ref (ad 8), .ref (ad 9), .ref (ad 10), .ref (ad 11), .ref (ad 12), .int xpn])), (ad 4, .inr (2, [.ref (ad 17), .ref (ad 18), .ref (ad 19)])), (ad 6, .inl (cJ, 5, .inr (.inl xsm))), (ad 7, .inl (cI, 24, .inl xpo)), (ad 8, .inl (cI, 24, .inl xpk)), (ad 9, .inl (cJ, 24, .inr (.inl xpg))), (ad 12, .inr (0, [.ref (ad 13), .ref (ad 14), .ref (ad 15), .ref (ad 16), .int xcn])), (ad 13, .inl (cI, 20, .inl xcp)), (ad 14, .inl (cJ, 20, .inr (.inl xcd))), (ad 15, .inl (cI, 20, .inl xck)), (ad 16, .inl (cJ, 20, .inr (.inl xcg))), (ad 17, .inl (cJ, 8, .inr (.inl xnt)))] sz [.ref (ad 4), .ref (ad 3), .long u2, .ref (ad 6)]) (va_Qv (fun (_ : Unit) => True) (mp_BM (dC, dI) vwCl [(ad 3, .inr (3, [.ref (ad 7), .ref (ad 8), .ref (ad 9), .ref (ad 10), .ref (ad 11), .ref (ad 12), .int xpn])), (ad 4, .inr (2, [.ref (ad 17), .ref (ad 18), .ref (ad 19)])), (ad 6, .inl (cJ, 5, .inr (.inl res))), (ad 7, .inl (cI, 24, .inl xpo)), (ad 8, .inl (cI, 24, .inl xpk)), (ad 9, .inl (cJ, 24, .inr (.inl xpg))), (ad 12, .inr (0, [.ref (ad 13), .ref (ad 14), .ref (ad 15), .ref (ad 16), .int xcn])), (ad 13, .inl (cI, 20, .inl xcp)), (ad 14, .inl (cJ, 20, .inr (.inl xcd))), (ad 15, .inl (cI, 20, .inl xck)), (ad 16, .inl (cJ, 20, .inr (.inl xcg))), (ad 17, .inl (cJ, 8, .inr (.inl xnt)))] (va_A [(ad 3, .inr (3, [.ref (ad 7), .ref (ad 8), .ref (ad 9), .ref (ad 10), .ref (ad 11), .ref (ad 12), .int xpn])), (ad 4, .inr (2, [.ref (ad 17), .ref (ad 18), .ref (ad 19)])), (ad 6, .inl (cJ, 5, .inr (.inl xsm))), (ad 7, .inl (cI, 24, .inl xpo)), (ad 8, .inl (cI, 24, .inl xpk)), (ad 9, .inl (cJ, 24, .inr (.inl xpg))), (ad 12, .inr (0, [.ref (ad 13), .ref (ad 14), .ref (ad 15), .ref (ad 16), .int xcn])), (ad 13, .inl (cI, 20, .inl xcp)), (ad 14, .inl (cJ, 20, .inr (.inl xcd))), (ad 15, .inl (cI, 20, .inl xck)), (ad 16, .inl (cJ, 20, .inr (.inl xcg))), (ad 17, .inl (cJ, 8, .inr (.inl xnt)))] sz)) (va_A [(ad 3, .inr (3, [.ref (ad 7), .ref (ad 8), .ref (ad 9), .ref (ad 10), .ref (ad 11), .ref (ad 12), .int xpn])), (ad 4, .inr (2, [.ref (ad 17), .ref (ad 18), .ref (ad 19)])), (ad 6, .inl (cJ, 5, .inr (.inl xsm))), (ad 7, .inl (cI, 24, .inl xpo)), (ad 8, .inl (cI, 24, .inl xpk)), (ad 9, .inl (cJ, 24, .inr (.inl xpg))), (ad 12, .inr (0, [.ref (ad 13), .ref (ad 14), .ref (ad 15), .ref (ad 16), .int xcn])), (ad 13, .inl (cI, 20, .inl xcp)), (ad 14, .inl (cJ, 20, .inr (.inl xcd))), (ad 15, .inl (cI, 20, .inl xck)), (ad 16, .inl (cJ, 20, .inr (.inl xcg))), (ad 17, .inl (cJ, 8, .inr (.inl xnt)))] sz)) 0 0 ((va_A [(ad 3, .inr (3, [.ref (ad 7), .ref (ad 8), .ref (ad 9), .ref (ad 10), .ref (ad 11), .ref (ad 12), .int xpn])), (ad 4, .inr (2, [.ref (ad 17), .ref (ad 18), .ref (ad 19)])), (ad 6, .inl (cJ, 5, .inr (.inl xsm))), (ad 7, .inl (cI, 24, .inl xpo)), (ad 8, .inl (cI, 24, .inl xpk)), (ad 9, .inl (cJ, 24, .inr (.inl xpg))), (ad 12, .inr (0, [.ref (ad 13), .ref (ad 14), .ref (ad 15), .ref (ad 16), .int xcn])), (ad 13, .inl (cI, 20, .inl xcp)), (ad 14, .inl (cJ, 20, .inr (.inl xcd))), (ad 15, .inl (cI, 20, .inl xck)), (ad 16, .inl (cJ, 20, .inr (.inl xcg))), (ad 17, .inl (cJ, 8, .inr (.inl xnt)))] sz)) := by
  refine Met.ofW (cc := zb_Ne_sumByTimes) (maxL := 8) (ret := none) (by decide) rfl ?_
  intro p e s m args below meth c s₁ B hml hv
  obtain ⟨rfl, hsz, hP, hK, hD0, hN⟩ := hv
  have hx := B.exec
  have hb := B.bytes
  have hr := B.returns
  have hts := atoms_spec (ws := zw_Ne_sumByTimes) B.pre
  have hsub : ∀ w ∈ mp_tbl, w ∈ zw_Ne_sumByTimes := fun w h => List.mem_cons_of_mem _ h
  have hw : ∀ w ∈ mp_tbl, w.before _ s = true := fun w h => hts w (hsub w h)
  have hown : s.vm.findClass zR_Ne = some m.cls := findClass_of_methodNamed B.named
  have hlocks := B.notSynchronized
  subst hsz
  have hD := hD0.self (sz := s.heap.size)
  generalize hAe : va_A [(ad 3, .inr (3, [.ref (ad 7), .ref (ad 8), .ref (ad 9), .ref (ad 10), .ref (ad 11), .ref (ad 12), .int xpn])), (ad 4, .inr (2, [.ref (ad 17), .ref (ad 18), .ref (ad 19)])), (ad 6, .inl (cJ, 5, .inr (.inl xsm))), (ad 7, .inl (cI, 24, .inl xpo)), (ad 8, .inl (cI, 24, .inl xpk)), (ad 9, .inl (cJ, 24, .inr (.inl xpg))), (ad 12, .inr (0, [.ref (ad 13), .ref (ad 14), .ref (ad 15), .ref (ad 16), .int xcn])), (ad 13, .inl (cI, 20, .inl xcp)), (ad 14, .inl (cJ, 20, .inr (.inl xcd))), (ad 15, .inl (cI, 20, .inl xck)), (ad 16, .inl (cJ, 20, .inr (.inl xcg))), (ad 17, .inl (cJ, 8, .inr (.inl xnt)))] s.heap.size = A at hD ⊢
  have hA : ∀ q : Nat, s.heap.size ≤ q → A q := fun q h => by rw [← hAe]; exact Or.inr h
  have hS : va_S A s.heap s.heap [] := va_S.rf
  have hP : va_P (dC, dI) vwCl [(ad 3, .inr (3, [.ref (ad 7), .ref (ad 8), .ref (ad 9), .ref (ad 10), .ref (ad 11), .ref (ad 12), .int xpn])), (ad 4, .inr (2, [.ref (ad 17), .ref (ad 18), .ref (ad 19)])), (ad 6, .inl (cJ, 5, .inr (.inl xsm))), (ad 7, .inl (cI, 24, .inl xpo)), (ad 8, .inl (cI, 24, .inl xpk)), (ad 9, .inl (cJ, 24, .inr (.inl xpg))), (ad 12, .inr (0, [.ref (ad 13), .ref (ad 14), .ref (ad 15), .ref (ad 16), .int xcn])), (ad 13, .inl (cI, 20, .inl xcp)), (ad 14, .inl (cJ, 20, .inr (.inl xcd))), (ad 15, .inl (cI, 20, .inl xck)), (ad 16, .inl (cJ, 20, .inr (.inl xcg))), (ad 17, .inl (cJ, 8, .inr (.inl xnt)))] s.heap := hP
  clear hAe hD0
  have loop9 : ∀ (v2 : Int64) (n : Nat) (v5 : Int32) (xsm : Nat → Int64) (H : Heap) (locs : List Loc) (ls : Array Slot), zf_Ne_sumByTimes_L9 v2 xpn xpo xpk xpg xcn xcp xcd xck xcg xnt n v5 xsm = some res → va_P (dC, dI) vwCl [(ad 3, .inr (3, [.ref (ad 7), .ref (ad 8), .ref (ad 9), .ref (ad 10), .ref (ad 11), .ref (ad 12), .int xpn])), (ad 4, .inr (2, [.ref (ad 17), .ref (ad 18), .ref (ad 19)])), (ad 6, .inl (cJ, 5, .inr (.inl xsm))), (ad 7, .inl (cI, 24, .inl xpo)), (ad 8, .inl (cI, 24, .inl xpk)), (ad 9, .inl (cJ, 24, .inr (.inl xpg))), (ad 12, .inr (0, [.ref (ad 13), .ref (ad 14), .ref (ad 15), .ref (ad 16), .int xcn])), (ad 13, .inl (cI, 20, .inl xcp)), (ad 14, .inl (cJ, 20, .inr (.inl xcd))), (ad 15, .inl (cI, 20, .inl xck)), (ad 16, .inl (cJ, 20, .inr (.inl xcg))), (ad 17, .inl (cJ, 8, .inr (.inl xnt)))] H → va_D A [(ad 3, .inr (3, [.ref (ad 7), .ref (ad 8), .ref (ad 9), .ref (ad 10), .ref (ad 11), .ref (ad 12), .int xpn])), (ad 4, .inr (2, [.ref (ad 17), .ref (ad 18), .ref (ad 19)])), (ad 6, .inl (cJ, 5, .inr (.inl xsm))), (ad 7, .inl (cI, 24, .inl xpo)), (ad 8, .inl (cI, 24, .inl xpk)), (ad 9, .inl (cJ, 24, .inr (.inl xpg))), (ad 12, .inr (0, [.ref (ad 13), .ref (ad 14), .ref (ad 15), .ref (ad 16), .int xcn])), (ad 13, .inl (cI, 20, .inl xcp)), (ad 14, .inl (cJ, 20, .inr (.inl xcd))), (ad 15, .inl (cI, 20, .inl xck)), (ad 16, .inl (cJ, 20, .inr (.inl xcg))), (ad 17, .inl (cJ, 8, .inr (.inl xnt)))] → va_S A s.heap H locs → lv_has ls 8 [(0, .ref (ad 4)), (1, .ref (ad 3)), (2, .long v2), (4, .ref (ad 6)), (5, .int v5)] → W p l e (headSpec zw_Ne_sumByTimes ({ frames := 2, cells := 0, slots := 0, locals := 49 } : Room)).room s m ([.ref (ad 4), .ref (ad 3), .long u2, .ref (ad 6)] : List Value).toArray below meth c H locs 0 0 (MQ below (va_Qv (fun (_ : Unit) => True) (mp_BM (dC, dI) vwCl [(ad 3, .inr (3, [.ref (ad 7), .ref (ad 8), .ref (ad 9), .ref (ad 10), .ref (ad 11), .ref (ad 12), .int xpn])), (ad 4, .inr (2, [.ref (ad 17), .ref (ad 18), .ref (ad 19)])), (ad 6, .inl (cJ, 5, .inr (.inl res))), (ad 7, .inl (cI, 24, .inl xpo)), (ad 8, .inl (cI, 24, .inl xpk)), (ad 9, .inl (cJ, 24, .inr (.inl xpg))), (ad 12, .inr (0, [.ref (ad 13), .ref (ad 14), .ref (ad 15), .ref (ad 16), .int xcn])), (ad 13, .inl (cI, 20, .inl xcp)), (ad 14, .inl (cJ, 20, .inr (.inl xcd))), (ad 15, .inl (cI, 20, .inl xck)), (ad 16, .inl (cJ, 20, .inr (.inl xcg))), (ad 17, .inl (cJ, 8, .inr (.inl xnt)))] A) A) ([.ref (ad 4), .ref (ad 3), .long u2, .ref (ad 6)] : List Value).toArray s 0 0 (A)) (F0 m 9 ls []) := by
    intro v2 n
    induction n with
    | zero => intro v5 xsm H locs ls hf; simp [zf_Ne_sumByTimes_L9] at hf
    | succ n ih =>
      intro v5 xsm H locs ls hf hP hD hS hl
      rw [zf_Ne_sumByTimes_L9] at hf
      refine lv_iload hx hb zd_Ne_sumByTimes_9 (lv_at hl 4 rfl) ?_
      refine lv_aload_n hx hb zd_Ne_sumByTimes_11 rfl (lv_at hl 1 rfl) ?_
      refine va_get (D := (dC, dI)) (ci := 3) (v := .int xpn) (C := zR_Pa) (T := zT_Pa) (N := 7) hx hb hts (fun w h => hsub w (zi_Pa w h)) hown hK hP 0 rfl rfl 6 (by decide) (hw _ zq_88) (fun _ h9 => h9) rfl zd_Ne_sumByTimes_12 ?_
      refine lv_icmp_ge (tgt := 61) hx hb zd_Ne_sumByTimes_15 (by decide) (fun c_2 => ?_) (fun c_2 => ?_)
      · have hf := mp_t c_2 hf
        have hf := Option.some.inj hf
        subst hf
        exact W.vret hx hb hr (fun t ht hW => ⟨⟨(), rfl, trivial, by rw [ht]; exact hP, hD⟩, hS.F ht⟩) hS.2.2 zd_Ne_sumByTimes_61
      · have hf := mp_f c_2 hf
        refine lv_aload_n hx hb zd_Ne_sumByTimes_18 rfl (lv_at hl 1 rfl) ?_
        refine lv_iload hx hb zd_Ne_sumByTimes_19 (lv_at hl 4 rfl) ?_
        refine lv_lload_n hx hb zd_Ne_sumByTimes_21 rfl (lv_at hl 2 rfl) ?_
        obtain ⟨y3, hg3, hf⟩ := mp_bd hf
        refine mp_Rl (va_runV (As := [.int v5, .long v2]) (rest := []) ⟨hx, hb, hml, hown, hts⟩ (zc_Pa_gramsOn l dC dI cI cJ cZ ad xpn xpg xcn xcp xcd xcg v5 v2 y3 hg3) (cwV 2 hts (mp_gV hsub zq_266 zq_267 zq_268 zq_26 zq_269) rfl rfl rfl (by decide +kernel) ⟨Nat.le_of_ble_eq_true rfl, Nat.le_of_ble_eq_true rfl⟩) ⟨mp_blR, va_recv hK hP (ci := 3) (q0 := 0) rfl rfl, mp_preR hN hK (hP.sub [0, 5, 6, 7, 8, 10] rfl)⟩ rfl rfl hl.1 rfl (lv_room (Nat.le_of_ble_eq_true rfl)) zd_Ne_sumByTimes_22 ⟨Nat.zero_le _, Nat.zero_le _⟩) ?_
        refine lv_lstore (lv' := [(6, .long y3), (0, .ref (ad 4)), (1, .ref (ad 3)), (2, .long v2), (4, .ref (ad 6)), (5, .int v5)]) hx hb zd_Ne_sumByTimes_25 hl (by decide) rfl (fun ls hl => ?_)
        refine lv_aload hx hb zd_Ne_sumByTimes_27 (lv_at hl 4 rfl) ?_
        refine lv_aload_n hx hb zd_Ne_sumByTimes_29 rfl (lv_at hl 2 rfl) ?_
        refine lv_iload hx hb zd_Ne_sumByTimes_30 (lv_at hl 5 rfl) ?_
        refine lv_lload_n hx hb zd_Ne_sumByTimes_32 rfl (lv_at hl 3 rfl) ?_
        obtain ⟨y4, hg4, hf⟩ := mp_bd hf
        refine mp_Ri (va_runV (As := [.int v5, .long v2]) (rest := [.ref (ad 6)]) ⟨hx, hb, hml, hown, hts⟩ (zc_Pa_kindOn l dC dI cI cJ cZ ad xpn xpk xcn xcp xcd xck v5 v2 y4 hg4) (cwV 2 hts (mp_gV hsub zq_274 zq_275 zq_276 zq_26 zq_277) rfl rfl rfl (by decide +kernel) ⟨Nat.le_of_ble_eq_true rfl, Nat.le_of_ble_eq_true rfl⟩) ⟨mp_blR, va_recv hK hP (ci := 3) (q0 := 0) rfl rfl, mp_preR hN hK (hP.sub [0, 4, 6, 7, 8, 9] rfl)⟩ rfl rfl hl.1 rfl (lv_room (Nat.le_of_ble_eq_true rfl)) zd_Ne_sumByTimes_33 ⟨Nat.zero_le _, Nat.zero_le _⟩) ?_
        refine lv_dup2_11 hx hb zd_Ne_sumByTimes_36 rfl rfl ?_
        obtain ⟨h_5, hf⟩ := mp_in hf
        refine va_lald hx hb hK hP 2 1 rfl rfl (i := y4) h_5 zd_Ne_sumByTimes_37 ?_
        refine lv_aload_n hx hb zd_Ne_sumByTimes_38 rfl (lv_at hl 1 rfl) ?_
        refine va_get (D := (dC, dI)) (ci := 2) (v := .ref (ad 17)) (C := zR_Ne) (T := zT_Ne) (N := 3) hx hb hts (fun w h => hsub w (zi_Ne w h)) hown hK hP 1 rfl rfl 0 (by decide) (hw _ zq_111) (fun _ h9 => h9) rfl zd_Ne_sumByTimes_39 ?_
        refine lv_aload_n hx hb zd_Ne_sumByTimes_42 rfl (lv_at hl 2 rfl) ?_
        refine va_get (D := (dC, dI)) (ci := 3) (v := .ref (ad 7)) (C := zR_Pa) (T := zT_Pa) (N := 7) hx hb hts (fun w h => hsub w (zi_Pa w h)) hown hK hP 0 rfl rfl 0 (by decide) (hw _ zq_77) (fun _ h9 => h9) rfl zd_Ne_sumByTimes_43 ?_
        refine lv_iload hx hb zd_Ne_sumByTimes_46 (lv_at hl 5 rfl) ?_
        obtain ⟨h_6, hf⟩ := mp_in hf
        refine va_iald hx hb hK hP 3 0 rfl rfl (i := v5) h_6 zd_Ne_sumByTimes_48 ?_
        obtain ⟨h_7, hf⟩ := mp_in hf
        refine va_lald hx hb hK hP 11 1 rfl rfl (i := (xpo v5.toNatClampNeg)) h_7 zd_Ne_sumByTimes_49 ?_
        refine lv_lload hx hb zd_Ne_sumByTimes_50 (lv_at hl 0 rfl) ?_
        refine lv_lmul hx hb zd_Ne_sumByTimes_52 ?_
        refine lv_ladd hx hb zd_Ne_sumByTimes_53 ?_
        obtain ⟨h_8, hf⟩ := mp_in hf
        refine va_last hx hb hK hP hD hS 2 1 rfl rfl (i := y4) (x := ((xsm y4.toNatClampNeg) + ((xnt (xpo v5.toNatClampNeg).toNatClampNeg) * y3))) h_8 zd_Ne_sumByTimes_54 (fun H locs hP hD hS => ?_)
        have hP : va_P (dC, dI) vwCl [(ad 3, .inr (3, [.ref (ad 7), .ref (ad 8), .ref (ad 9), .ref (ad 10), .ref (ad 11), .ref (ad 12), .int xpn])), (ad 4, .inr (2, [.ref (ad 17), .ref (ad 18), .ref (ad 19)])), (ad 6, .inl (cJ, 5, .inr (.inl (vp_updL xsm y4.toNatClampNeg ((xsm y4.toNatClampNeg) + ((xnt (xpo v5.toNatClampNeg).toNatClampNeg) * y3)))))), (ad 7, .inl (cI, 24, .inl xpo)), (ad 8, .inl (cI, 24, .inl xpk)), (ad 9, .inl (cJ, 24, .inr (.inl xpg))), (ad 12, .inr (0, [.ref (ad 13), .ref (ad 14), .ref (ad 15), .ref (ad 16), .int xcn])), (ad 13, .inl (cI, 20, .inl xcp)), (ad 14, .inl (cJ, 20, .inr (.inl xcd))), (ad 15, .inl (cI, 20, .inl xck)), (ad 16, .inl (cJ, 20, .inr (.inl xcg))), (ad 17, .inl (cJ, 8, .inr (.inl xnt)))] H := hP
        have hD : va_D A [(ad 3, .inr (3, [.ref (ad 7), .ref (ad 8), .ref (ad 9), .ref (ad 10), .ref (ad 11), .ref (ad 12), .int xpn])), (ad 4, .inr (2, [.ref (ad 17), .ref (ad 18), .ref (ad 19)])), (ad 6, .inl (cJ, 5, .inr (.inl (vp_updL xsm y4.toNatClampNeg ((xsm y4.toNatClampNeg) + ((xnt (xpo v5.toNatClampNeg).toNatClampNeg) * y3)))))), (ad 7, .inl (cI, 24, .inl xpo)), (ad 8, .inl (cI, 24, .inl xpk)), (ad 9, .inl (cJ, 24, .inr (.inl xpg))), (ad 12, .inr (0, [.ref (ad 13), .ref (ad 14), .ref (ad 15), .ref (ad 16), .int xcn])), (ad 13, .inl (cI, 20, .inl xcp)), (ad 14, .inl (cJ, 20, .inr (.inl xcd))), (ad 15, .inl (cI, 20, .inl xck)), (ad 16, .inl (cJ, 20, .inr (.inl xcg))), (ad 17, .inl (cJ, 8, .inr (.inl xnt)))] := hD
        refine lv_iinc (v := (v5 + (1 : Int32))) (lv' := [(5, .int (v5 + (1 : Int32))), (6, .long y3), (0, .ref (ad 4)), (1, .ref (ad 3)), (2, .long v2), (4, .ref (ad 6))]) hx hb zd_Ne_sumByTimes_55 hl (k := 5) rfl rfl (by decide) rfl (fun ls hl => ?_)
        refine lv_goto (tgt := 9) hx hb zd_Ne_sumByTimes_58 (by decide) ?_
        exact ih (v5 + (1 : Int32)) (vp_updL xsm y4.toNatClampNeg ((xsm y4.toNatClampNeg) + ((xnt (xpo v5.toNatClampNeg).toNatClampNeg) * y3))) _ _ _ hf hP hD hS (lv_sub hl [2, 3, 4, 5, 0] rfl)
  have hl := lv_entry ([.ref (ad 4), .ref (ad 3), .long u2, .ref (ad 6)]) (n := 8) (Nat.le_of_ble_eq_true rfl)
  rw [lg_entry_eq]
  generalize (lg_sl ([.ref (ad 4), .ref (ad 3), .long u2, .ref (ad 6)]) ++ List.replicate (8 - (lg_sl ([.ref (ad 4), .ref (ad 3), .long u2, .ref (ad 6)])).length) Slot.unset).toArray = ls at hl ⊢
  have hl : lv_has ls 8 [(0, .ref (ad 4)), (1, .ref (ad 3)), (2, .long u2), (4, .ref (ad 6))] := hl
  unfold zf_Ne_sumByTimes at hf
  refine lv_aload hx hb zd_Ne_sumByTimes_0 (lv_at hl 3 rfl) ?_
  refine lv_lconst (v := 0) hx hb zd_Ne_sumByTimes_2 (by decide) ?_
  obtain ⟨y1, hg1, hf⟩ := mp_bd hf
  refine mp_Mv (wr := [(ad 3, .inr (3, [.ref (ad 7), .ref (ad 8), .ref (ad 9), .ref (ad 10), .ref (ad 11), .ref (ad 12), .int xpn])), (ad 4, .inr (2, [.ref (ad 17), .ref (ad 18), .ref (ad 19)])), (ad 7, .inl (cI, 24, .inl xpo)), (ad 8, .inl (cI, 24, .inl xpk)), (ad 9, .inl (cJ, 24, .inr (.inl xpg))), (ad 12, .inr (0, [.ref (ad 13), .ref (ad 14), .ref (ad 15), .ref (ad 16), .int xcn])), (ad 13, .inl (cI, 20, .inl xcp)), (ad 14, .inl (cJ, 20, .inr (.inl xcd))), (ad 15, .inl (cI, 20, .inl xck)), (ad 16, .inl (cJ, 20, .inr (.inl xcg))), (ad 17, .inl (cJ, 8, .inr (.inl xnt)))]) (va_runS (As := [.ref (ad 6), .long (0 : Int64)]) (rest := []) ⟨hx, hb, hml, hown, hts⟩ (zc_Ja_fill l dC dI cI cJ cZ (ad 6) 5 _ xsm (0 : Int64) y1 hg1) (va_cwS 2 hts (mp_gS hsub zq_221 zq_222 zq_31 zq_223) rfl rfl rfl (by decide +kernel) ⟨Nat.le_of_ble_eq_true rfl, Nat.le_of_ble_eq_true rfl⟩) ⟨mp_blM, mp_preM hN hK (hP.sub [2] rfl) (hD.sub [2] (by decide) rfl)⟩ rfl rfl hl.1 rfl (lv_room (Nat.le_of_ble_eq_true rfl)) zd_Ne_sumByTimes_3 ⟨Nat.zero_le _, Nat.zero_le _⟩) hP hD hS hA [2] [0, 1, 3, 4, 5, 6, 7, 8, 9, 10, 11] rfl rfl (by decide) (by decide) (fun H locs hP hD hS => ?_)
  have hP : va_P (dC, dI) vwCl [(ad 3, .inr (3, [.ref (ad 7), .ref (ad 8), .ref (ad 9), .ref (ad 10), .ref (ad 11), .ref (ad 12), .int xpn])), (ad 4, .inr (2, [.ref (ad 17), .ref (ad 18), .ref (ad 19)])), (ad 7, .inl (cI, 24, .inl xpo)), (ad 8, .inl (cI, 24, .inl xpk)), (ad 9, .inl (cJ, 24, .inr (.inl xpg))), (ad 12, .inr (0, [.ref (ad 13), .ref (ad 14), .ref (ad 15), .ref (ad 16), .int xcn])), (ad 13, .inl (cI, 20, .inl xcp)), (ad 14, .inl (cJ, 20, .inr (.inl xcd))), (ad 15, .inl (cI, 20, .inl xck)), (ad 16, .inl (cJ, 20, .inr (.inl xcg))), (ad 17, .inl (cJ, 8, .inr (.inl xnt))), (ad 6, .inl (cJ, 5, .inr (.inl y1)))] H := hP
  have hD : va_D A [(ad 3, .inr (3, [.ref (ad 7), .ref (ad 8), .ref (ad 9), .ref (ad 10), .ref (ad 11), .ref (ad 12), .int xpn])), (ad 4, .inr (2, [.ref (ad 17), .ref (ad 18), .ref (ad 19)])), (ad 7, .inl (cI, 24, .inl xpo)), (ad 8, .inl (cI, 24, .inl xpk)), (ad 9, .inl (cJ, 24, .inr (.inl xpg))), (ad 12, .inr (0, [.ref (ad 13), .ref (ad 14), .ref (ad 15), .ref (ad 16), .int xcn])), (ad 13, .inl (cI, 20, .inl xcp)), (ad 14, .inl (cJ, 20, .inr (.inl xcd))), (ad 15, .inl (cI, 20, .inl xck)), (ad 16, .inl (cJ, 20, .inr (.inl xcg))), (ad 17, .inl (cJ, 8, .inr (.inl xnt))), (ad 6, .inl (cJ, 5, .inr (.inl y1)))] := hD
  refine lv_iconst (v := 0) hx hb zd_Ne_sumByTimes_6 (by decide) ?_
  refine lv_istore (lv' := [(5, .int (0 : Int32)), (0, .ref (ad 4)), (1, .ref (ad 3)), (2, .long u2), (4, .ref (ad 6))]) hx hb zd_Ne_sumByTimes_7 hl (by decide) rfl (fun ls hl => ?_)
  exact loop9 u2 2000 (0 : Int32) y1 _ _ _ hf (hP.sub [0, 1, 11, 2, 3, 4, 5, 6, 7, 8, 9, 10] rfl) (hD.sub [0, 1, 11, 2, 3, 4, 5, 6, 7, 8, 9, 10] (by decide) rfl) hS (lv_sub hl [1, 2, 3, 4, 0] rfl)
set_option maxHeartbeats 4000000 in
set_option maxRecDepth 100000 in
theorem zc_Ne_sumWithin (l : Launch) (dC : Nat → ClassId) (dI : Nat → Nat → Nat) (cI cJ cZ : ClassId) (ad : Nat → Nat) (sz : Nat) (xpn : Int32) (xsm : Nat → Int64) (xpo : Nat → Int32) (xpk : Nat → Int32) (xpg : Nat → Int64) (xpi : Nat → Int32) (xcn : Int32) (xcp : Nat → Int32) (xcd : Nat → Int64) (xck : Nat → Int32) (xcg : Nat → Int64) (xnt : Nat → Int64) (xnl : Nat → Int64) (xnd : Nat → Int64) (u2 : Int32) (u3 : Int64) (res : (Nat → Int64) × (Nat → Int64) × (Nat → Int64) × (Nat → Int64)) (hf : zf_Ne_sumWithin u2 u3 xpn xsm xpo xpk xpg xpi xcn xcp xcd xck xcg xnt xnl xnd = some res) : Met l zy_Ne_sumWithin zw_Ne_sumWithin ({ frames := 3, cells := 0, slots := 0, locals := 76 } : Room) (mp_PM (dC, dI) vwCl (mp_tys cI cJ cZ) [(ad 3, .inr (3, [.ref (ad 7), .ref (ad 8), .ref (ad 9), .ref (ad 10), .ref (ad 11), .ref (ad 12), .int xpn])), (ad 4, .inr (2, [.ref (ad 17), .ref (ad 18), .ref (ad 19)])), (ad 6, .inl (cJ, 5, .inr (.inl xsm))), (ad 7, .inl (cI, 24, .inl xpo)), (ad 8, .inl (cI, 24, .inl xpk)), (ad 9, .inl (cJ, 24, .inr (.inl xpg))), (ad 11, .inl (cI, 24, .inl xpi)), (ad 12, .inr (0, [.ref (ad 13), .ref (ad 14), .ref (ad 15), .ref (ad 16), .int xcn])), (ad 13, .inl (cI, 20, .inl xcp)), (ad 14, .inl (cJ, 20, .inr (.inl xcd))), (ad 15, .inl (cI, 20, .inl xck)), (ad 16, .inl (cJ, 20, .inr (.inl xcg))), (ad 17, .inl (cJ, 8, .inr (.inl xnt))), (ad 18, .inl (cJ, 8, .inr (.inl xnl))), (ad 19, .inl (cJ, 8, .inr (.inl xnd)))] sz [.ref (ad 4), .ref (ad 3), .int u2, .long u3, .ref (ad 6)]) (va_Qv (fun (_ : Unit) => True) (mp_BM (dC, dI) vwCl [(ad 3, .inr (3, [.ref (ad 7), .ref (ad 8), .ref (ad 9), .ref (ad 10), .ref (ad 11), .ref (ad 12), .int xpn])), (ad 4, .inr (2, [.ref (ad 17), .ref (ad 18), .ref (ad 19)])), (ad 6, .inl (cJ, 5, .inr (.inl res.1))), (ad 7, .inl (cI, 24, .inl xpo)), (ad 8, .inl (cI, 24, .inl xpk)), (ad 9, .inl (cJ, 24, .inr (.inl xpg))), (ad 11, .inl (cI, 24, .inl xpi)), (ad 12, .inr (0, [.ref (ad 13), .ref (ad 14), .ref (ad 15), .ref (ad 16), .int xcn])), (ad 13, .inl (cI, 20, .inl xcp)), (ad 14, .inl (cJ, 20, .inr (.inl xcd))), (ad 15, .inl (cI, 20, .inl xck)), (ad 16, .inl (cJ, 20, .inr (.inl xcg))), (ad 17, .inl (cJ, 8, .inr (.inl res.2.1))), (ad 18, .inl (cJ, 8, .inr (.inl res.2.2.1))), (ad 19, .inl (cJ, 8, .inr (.inl res.2.2.2)))] (va_A [(ad 3, .inr (3, [.ref (ad 7), .ref (ad 8), .ref (ad 9), .ref (ad 10), .ref (ad 11), .ref (ad 12), .int xpn])), (ad 4, .inr (2, [.ref (ad 17), .ref (ad 18), .ref (ad 19)])), (ad 6, .inl (cJ, 5, .inr (.inl xsm))), (ad 7, .inl (cI, 24, .inl xpo)), (ad 8, .inl (cI, 24, .inl xpk)), (ad 9, .inl (cJ, 24, .inr (.inl xpg))), (ad 11, .inl (cI, 24, .inl xpi)), (ad 12, .inr (0, [.ref (ad 13), .ref (ad 14), .ref (ad 15), .ref (ad 16), .int xcn])), (ad 13, .inl (cI, 20, .inl xcp)), (ad 14, .inl (cJ, 20, .inr (.inl xcd))), (ad 15, .inl (cI, 20, .inl xck)), (ad 16, .inl (cJ, 20, .inr (.inl xcg))), (ad 17, .inl (cJ, 8, .inr (.inl xnt))), (ad 18, .inl (cJ, 8, .inr (.inl xnl))), (ad 19, .inl (cJ, 8, .inr (.inl xnd)))] sz)) (va_A [(ad 3, .inr (3, [.ref (ad 7), .ref (ad 8), .ref (ad 9), .ref (ad 10), .ref (ad 11), .ref (ad 12), .int xpn])), (ad 4, .inr (2, [.ref (ad 17), .ref (ad 18), .ref (ad 19)])), (ad 6, .inl (cJ, 5, .inr (.inl xsm))), (ad 7, .inl (cI, 24, .inl xpo)), (ad 8, .inl (cI, 24, .inl xpk)), (ad 9, .inl (cJ, 24, .inr (.inl xpg))), (ad 11, .inl (cI, 24, .inl xpi)), (ad 12, .inr (0, [.ref (ad 13), .ref (ad 14), .ref (ad 15), .ref (ad 16), .int xcn])), (ad 13, .inl (cI, 20, .inl xcp)), (ad 14, .inl (cJ, 20, .inr (.inl xcd))), (ad 15, .inl (cI, 20, .inl xck)), (ad 16, .inl (cJ, 20, .inr (.inl xcg))), (ad 17, .inl (cJ, 8, .inr (.inl xnt))), (ad 18, .inl (cJ, 8, .inr (.inl xnl))), (ad 19, .inl (cJ, 8, .inr (.inl xnd)))] sz)) 0 0 ((va_A [(ad 3, .inr (3, [.ref (ad 7), .ref (ad 8), .ref (ad 9), .ref (ad 10), .ref (ad 11), .ref (ad 12), .int xpn])), (ad 4, .inr (2, [.ref (ad 17), .ref (ad 18), .ref (ad 19)])), (ad 6, .inl (cJ, 5, .inr (.inl xsm))), (ad 7, .inl (cI, 24, .inl xpo)), (ad 8, .inl (cI, 24, .inl xpk)), (ad 9, .inl (cJ, 24, .inr (.inl xpg))), (ad 11, .inl (cI, 24, .inl xpi)), (ad 12, .inr (0, [.ref (ad 13), .ref (ad 14), .ref (ad 15), .ref (ad 16), .int xcn])), (ad 13, .inl (cI, 20, .inl xcp)), (ad 14, .inl (cJ, 20, .inr (.inl xcd))), (ad 15, .inl (cI, 20, .inl xck)), (ad 16, .inl (cJ, 20, .inr (.inl xcg))), (ad 17, .inl (cJ, 8, .inr (.inl xnt))), (ad 18, .inl (cJ, 8, .inr (.inl xnl))), (ad 19, .inl (cJ, 8, .inr (.inl xnd)))] sz)) := by
  refine Met.ofW (cc := zb_Ne_sumWithin) (maxL := 6) (ret := none) (by decide) rfl ?_
  intro p e s m args below meth c s₁ B hml hv
  obtain ⟨rfl, hsz, hP, hK, hD0, hN⟩ := hv
  have hx := B.exec
  have hb := B.bytes
  have hr := B.returns
  have hts := atoms_spec (ws := zw_Ne_sumWithin) B.pre
  have hsub : ∀ w ∈ mp_tbl, w ∈ zw_Ne_sumWithin := fun w h => List.mem_cons_of_mem _ h
  have hw : ∀ w ∈ mp_tbl, w.before _ s = true := fun w h => hts w (hsub w h)
  have hown : s.vm.findClass zR_Ne = some m.cls := findClass_of_methodNamed B.named
  have hlocks := B.notSynchronized
  subst hsz
  have hD := hD0.self (sz := s.heap.size)
  generalize hAe : va_A [(ad 3, .inr (3, [.ref (ad 7), .ref (ad 8), .ref (ad 9), .ref (ad 10), .ref (ad 11), .ref (ad 12), .int xpn])), (ad 4, .inr (2, [.ref (ad 17), .ref (ad 18), .ref (ad 19)])), (ad 6, .inl (cJ, 5, .inr (.inl xsm))), (ad 7, .inl (cI, 24, .inl xpo)), (ad 8, .inl (cI, 24, .inl xpk)), (ad 9, .inl (cJ, 24, .inr (.inl xpg))), (ad 11, .inl (cI, 24, .inl xpi)), (ad 12, .inr (0, [.ref (ad 13), .ref (ad 14), .ref (ad 15), .ref (ad 16), .int xcn])), (ad 13, .inl (cI, 20, .inl xcp)), (ad 14, .inl (cJ, 20, .inr (.inl xcd))), (ad 15, .inl (cI, 20, .inl xck)), (ad 16, .inl (cJ, 20, .inr (.inl xcg))), (ad 17, .inl (cJ, 8, .inr (.inl xnt))), (ad 18, .inl (cJ, 8, .inr (.inl xnl))), (ad 19, .inl (cJ, 8, .inr (.inl xnd)))] s.heap.size = A at hD ⊢
  have hA : ∀ q : Nat, s.heap.size ≤ q → A q := fun q h => by rw [← hAe]; exact Or.inr h
  have hS : va_S A s.heap s.heap [] := va_S.rf
  have hP : va_P (dC, dI) vwCl [(ad 3, .inr (3, [.ref (ad 7), .ref (ad 8), .ref (ad 9), .ref (ad 10), .ref (ad 11), .ref (ad 12), .int xpn])), (ad 4, .inr (2, [.ref (ad 17), .ref (ad 18), .ref (ad 19)])), (ad 6, .inl (cJ, 5, .inr (.inl xsm))), (ad 7, .inl (cI, 24, .inl xpo)), (ad 8, .inl (cI, 24, .inl xpk)), (ad 9, .inl (cJ, 24, .inr (.inl xpg))), (ad 11, .inl (cI, 24, .inl xpi)), (ad 12, .inr (0, [.ref (ad 13), .ref (ad 14), .ref (ad 15), .ref (ad 16), .int xcn])), (ad 13, .inl (cI, 20, .inl xcp)), (ad 14, .inl (cJ, 20, .inr (.inl xcd))), (ad 15, .inl (cI, 20, .inl xck)), (ad 16, .inl (cJ, 20, .inr (.inl xcg))), (ad 17, .inl (cJ, 8, .inr (.inl xnt))), (ad 18, .inl (cJ, 8, .inr (.inl xnl))), (ad 19, .inl (cJ, 8, .inr (.inl xnd)))] s.heap := hP
  clear hAe hD0
  have hl := lv_entry ([.ref (ad 4), .ref (ad 3), .int u2, .long u3, .ref (ad 6)]) (n := 6) (Nat.le_of_ble_eq_true rfl)
  rw [lg_entry_eq]
  generalize (lg_sl ([.ref (ad 4), .ref (ad 3), .int u2, .long u3, .ref (ad 6)]) ++ List.replicate (6 - (lg_sl ([.ref (ad 4), .ref (ad 3), .int u2, .long u3, .ref (ad 6)])).length) Slot.unset).toArray = ls at hl ⊢
  have hl : lv_has ls 6 [(0, .ref (ad 4)), (1, .ref (ad 3)), (2, .int u2), (3, .long u3), (5, .ref (ad 6))] := hl
  unfold zf_Ne_sumWithin at hf
  refine lv_aload_n hx hb zd_Ne_sumWithin_0 rfl (lv_at hl 0 rfl) ?_
  refine lv_aload_n hx hb zd_Ne_sumWithin_1 rfl (lv_at hl 1 rfl) ?_
  refine lv_iload_n hx hb zd_Ne_sumWithin_2 rfl (lv_at hl 2 rfl) ?_
  obtain ⟨y1, hg1, hf⟩ := mp_bd hf
  refine mp_Mv (wr := [(ad 6, .inl (cJ, 5, .inr (.inl xsm))), (ad 8, .inl (cI, 24, .inl xpk)), (ad 9, .inl (cJ, 24, .inr (.inl xpg))), (ad 12, .inr (0, [.ref (ad 13), .ref (ad 14), .ref (ad 15), .ref (ad 16), .int xcn])), (ad 13, .inl (cI, 20, .inl xcp)), (ad 14, .inl (cJ, 20, .inr (.inl xcd))), (ad 15, .inl (cI, 20, .inl xck)), (ad 16, .inl (cJ, 20, .inr (.inl xcg)))]) (va_runV (As := [.ref (ad 3), .int u2]) (rest := []) ⟨hx, hb, hml, hown, hts⟩ (zc_Ne_countWithin l dC dI cI cJ cZ ad _ xpn xpo xpi xnt xnl xnd u2 y1 hg1) (cwV 2 hts (mp_gV hsub zq_217 zq_219 zq_1 zq_28 zq_220) rfl rfl rfl (by decide +kernel) ⟨Nat.le_of_ble_eq_true rfl, Nat.le_of_ble_eq_true rfl⟩) ⟨mp_blM, va_recv hK hP (ci := 2) (q0 := 1) rfl rfl, mp_preM hN hK (hP.sub [0, 1, 3, 6, 12, 13, 14] rfl) (hD.sub [0, 1, 3, 6, 12, 13, 14] (by decide) rfl)⟩ rfl rfl hl.1 rfl (lv_room (Nat.le_of_ble_eq_true rfl)) zd_Ne_sumWithin_3 ⟨Nat.zero_le _, Nat.zero_le _⟩) hP hD hS hA [0, 1, 3, 6, 12, 13, 14] [2, 4, 5, 7, 8, 9, 10, 11] rfl rfl (by decide) (by decide) (fun H locs hP hD hS => ?_)
  have hP : va_P (dC, dI) vwCl [(ad 6, .inl (cJ, 5, .inr (.inl xsm))), (ad 8, .inl (cI, 24, .inl xpk)), (ad 9, .inl (cJ, 24, .inr (.inl xpg))), (ad 12, .inr (0, [.ref (ad 13), .ref (ad 14), .ref (ad 15), .ref (ad 16), .int xcn])), (ad 13, .inl (cI, 20, .inl xcp)), (ad 14, .inl (cJ, 20, .inr (.inl xcd))), (ad 15, .inl (cI, 20, .inl xck)), (ad 16, .inl (cJ, 20, .inr (.inl xcg))), (ad 3, .inr (3, [.ref (ad 7), .ref (ad 8), .ref (ad 9), .ref (ad 10), .ref (ad 11), .ref (ad 12), .int xpn])), (ad 4, .inr (2, [.ref (ad 17), .ref (ad 18), .ref (ad 19)])), (ad 7, .inl (cI, 24, .inl xpo)), (ad 11, .inl (cI, 24, .inl xpi)), (ad 17, .inl (cJ, 8, .inr (.inl y1.1))), (ad 18, .inl (cJ, 8, .inr (.inl y1.2.1))), (ad 19, .inl (cJ, 8, .inr (.inl y1.2.2)))] H := hP
  have hD : va_D A [(ad 6, .inl (cJ, 5, .inr (.inl xsm))), (ad 8, .inl (cI, 24, .inl xpk)), (ad 9, .inl (cJ, 24, .inr (.inl xpg))), (ad 12, .inr (0, [.ref (ad 13), .ref (ad 14), .ref (ad 15), .ref (ad 16), .int xcn])), (ad 13, .inl (cI, 20, .inl xcp)), (ad 14, .inl (cJ, 20, .inr (.inl xcd))), (ad 15, .inl (cI, 20, .inl xck)), (ad 16, .inl (cJ, 20, .inr (.inl xcg))), (ad 3, .inr (3, [.ref (ad 7), .ref (ad 8), .ref (ad 9), .ref (ad 10), .ref (ad 11), .ref (ad 12), .int xpn])), (ad 4, .inr (2, [.ref (ad 17), .ref (ad 18), .ref (ad 19)])), (ad 7, .inl (cI, 24, .inl xpo)), (ad 11, .inl (cI, 24, .inl xpi)), (ad 17, .inl (cJ, 8, .inr (.inl y1.1))), (ad 18, .inl (cJ, 8, .inr (.inl y1.2.1))), (ad 19, .inl (cJ, 8, .inr (.inl y1.2.2)))] := hD
  refine lv_aload_n hx hb zd_Ne_sumWithin_6 rfl (lv_at hl 0 rfl) ?_
  refine lv_aload_n hx hb zd_Ne_sumWithin_7 rfl (lv_at hl 1 rfl) ?_
  refine lv_lload_n hx hb zd_Ne_sumWithin_8 rfl (lv_at hl 3 rfl) ?_
  refine lv_aload hx hb zd_Ne_sumWithin_9 (lv_at hl 4 rfl) ?_
  obtain ⟨y2, hg2, hf⟩ := mp_bd hf
  refine mp_Mv (wr := [(ad 11, .inl (cI, 24, .inl xpi)), (ad 18, .inl (cJ, 8, .inr (.inl y1.2.1))), (ad 19, .inl (cJ, 8, .inr (.inl y1.2.2)))]) (va_runV (As := [.ref (ad 3), .long u3, .ref (ad 6)]) (rest := []) ⟨hx, hb, hml, hown, hts⟩ (zc_Ne_sumByTimes l dC dI cI cJ cZ ad _ xpn xsm xpo xpk xpg xcn xcp xcd xck xcg y1.1 u3 y2 hg2) (cwV 3 hts (mp_gV hsub zq_262 zq_264 zq_3 zq_28 zq_265) rfl rfl rfl (by decide +kernel) ⟨Nat.le_of_ble_eq_true rfl, Nat.le_of_ble_eq_true rfl⟩) ⟨mp_blM, va_recv hK hP (ci := 2) (q0 := 9) rfl rfl, mp_preM hN hK (hP.sub [8, 9, 0, 10, 1, 2, 3, 4, 5, 6, 7, 12] rfl) (hD.sub [8, 9, 0, 10, 1, 2, 3, 4, 5, 6, 7, 12] (by decide) rfl)⟩ rfl rfl hl.1 rfl (lv_room (Nat.le_of_ble_eq_true rfl)) zd_Ne_sumWithin_11 ⟨Nat.zero_le _, Nat.zero_le _⟩) hP hD hS hA [8, 9, 0, 10, 1, 2, 3, 4, 5, 6, 7, 12] [11, 13, 14] rfl rfl (by decide) (by decide) (fun H locs hP hD hS => ?_)
  have hP : va_P (dC, dI) vwCl [(ad 11, .inl (cI, 24, .inl xpi)), (ad 18, .inl (cJ, 8, .inr (.inl y1.2.1))), (ad 19, .inl (cJ, 8, .inr (.inl y1.2.2))), (ad 3, .inr (3, [.ref (ad 7), .ref (ad 8), .ref (ad 9), .ref (ad 10), .ref (ad 11), .ref (ad 12), .int xpn])), (ad 4, .inr (2, [.ref (ad 17), .ref (ad 18), .ref (ad 19)])), (ad 6, .inl (cJ, 5, .inr (.inl y2))), (ad 7, .inl (cI, 24, .inl xpo)), (ad 8, .inl (cI, 24, .inl xpk)), (ad 9, .inl (cJ, 24, .inr (.inl xpg))), (ad 12, .inr (0, [.ref (ad 13), .ref (ad 14), .ref (ad 15), .ref (ad 16), .int xcn])), (ad 13, .inl (cI, 20, .inl xcp)), (ad 14, .inl (cJ, 20, .inr (.inl xcd))), (ad 15, .inl (cI, 20, .inl xck)), (ad 16, .inl (cJ, 20, .inr (.inl xcg))), (ad 17, .inl (cJ, 8, .inr (.inl y1.1)))] H := hP
  have hD : va_D A [(ad 11, .inl (cI, 24, .inl xpi)), (ad 18, .inl (cJ, 8, .inr (.inl y1.2.1))), (ad 19, .inl (cJ, 8, .inr (.inl y1.2.2))), (ad 3, .inr (3, [.ref (ad 7), .ref (ad 8), .ref (ad 9), .ref (ad 10), .ref (ad 11), .ref (ad 12), .int xpn])), (ad 4, .inr (2, [.ref (ad 17), .ref (ad 18), .ref (ad 19)])), (ad 6, .inl (cJ, 5, .inr (.inl y2))), (ad 7, .inl (cI, 24, .inl xpo)), (ad 8, .inl (cI, 24, .inl xpk)), (ad 9, .inl (cJ, 24, .inr (.inl xpg))), (ad 12, .inr (0, [.ref (ad 13), .ref (ad 14), .ref (ad 15), .ref (ad 16), .int xcn])), (ad 13, .inl (cI, 20, .inl xcp)), (ad 14, .inl (cJ, 20, .inr (.inl xcd))), (ad 15, .inl (cI, 20, .inl xck)), (ad 16, .inl (cJ, 20, .inr (.inl xcg))), (ad 17, .inl (cJ, 8, .inr (.inl y1.1)))] := hD
  have hf := Option.some.inj hf
  subst hf
  have hP := hP.sub (ws' := [(ad 3, .inr (3, [.ref (ad 7), .ref (ad 8), .ref (ad 9), .ref (ad 10), .ref (ad 11), .ref (ad 12), .int xpn])), (ad 4, .inr (2, [.ref (ad 17), .ref (ad 18), .ref (ad 19)])), (ad 6, .inl (cJ, 5, .inr (.inl y2))), (ad 7, .inl (cI, 24, .inl xpo)), (ad 8, .inl (cI, 24, .inl xpk)), (ad 9, .inl (cJ, 24, .inr (.inl xpg))), (ad 11, .inl (cI, 24, .inl xpi)), (ad 12, .inr (0, [.ref (ad 13), .ref (ad 14), .ref (ad 15), .ref (ad 16), .int xcn])), (ad 13, .inl (cI, 20, .inl xcp)), (ad 14, .inl (cJ, 20, .inr (.inl xcd))), (ad 15, .inl (cI, 20, .inl xck)), (ad 16, .inl (cJ, 20, .inr (.inl xcg))), (ad 17, .inl (cJ, 8, .inr (.inl y1.1))), (ad 18, .inl (cJ, 8, .inr (.inl y1.2.1))), (ad 19, .inl (cJ, 8, .inr (.inl y1.2.2)))]) [3, 4, 5, 6, 7, 8, 0, 9, 10, 11, 12, 13, 14, 1, 2] rfl
  have hD := hD.sub (ws' := [(ad 3, .inr (3, [.ref (ad 7), .ref (ad 8), .ref (ad 9), .ref (ad 10), .ref (ad 11), .ref (ad 12), .int xpn])), (ad 4, .inr (2, [.ref (ad 17), .ref (ad 18), .ref (ad 19)])), (ad 6, .inl (cJ, 5, .inr (.inl y2))), (ad 7, .inl (cI, 24, .inl xpo)), (ad 8, .inl (cI, 24, .inl xpk)), (ad 9, .inl (cJ, 24, .inr (.inl xpg))), (ad 11, .inl (cI, 24, .inl xpi)), (ad 12, .inr (0, [.ref (ad 13), .ref (ad 14), .ref (ad 15), .ref (ad 16), .int xcn])), (ad 13, .inl (cI, 20, .inl xcp)), (ad 14, .inl (cJ, 20, .inr (.inl xcd))), (ad 15, .inl (cI, 20, .inl xck)), (ad 16, .inl (cJ, 20, .inr (.inl xcg))), (ad 17, .inl (cJ, 8, .inr (.inl y1.1))), (ad 18, .inl (cJ, 8, .inr (.inl y1.2.1))), (ad 19, .inl (cJ, 8, .inr (.inl y1.2.2)))]) [3, 4, 5, 6, 7, 8, 0, 9, 10, 11, 12, 13, 14, 1, 2] (by decide) rfl
  exact W.vret hx hb hr (fun t ht hW => ⟨⟨(), rfl, trivial, by rw [ht]; exact hP, hD⟩, hS.F ht⟩) hS.2.2 zd_Ne_sumWithin_14
set_option maxHeartbeats 4000000 in
set_option maxRecDepth 100000 in
theorem zc_MP_totalOn (l : Launch) (dC : Nat → ClassId) (dI : Nat → Nat → Nat) (cI cJ cZ : ClassId) (ad : Nat → Nat) (sz : Nat) (xgc : Int32) (xpn : Int32) (xsm : Nat → Int64) (xpo : Nat → Int32) (xpk : Nat → Int32) (xpg : Nat → Int64) (xpi : Nat → Int32) (xcn : Int32) (xcp : Nat → Int32) (xcd : Nat → Int64) (xck : Nat → Int32) (xcg : Nat → Int64) (xnt : Nat → Int64) (xnl : Nat → Int64) (xnd : Nat → Int64) (u1 : Int32) (u2 : Int32) (u3 : Int64) (res : Int64 × (Nat → Int64) × (Nat → Int64) × (Nat → Int64) × (Nat → Int64)) (hf : zf_MP_totalOn u1 u2 u3 xgc xpn xsm xpo xpk xpg xpi xcn xcp xcd xck xcg xnt xnl xnd = some res) : Met l zy_MP_totalOn zw_MP_totalOn ({ frames := 4, cells := 0, slots := 0, locals := 101 } : Room) (mp_PM (dC, dI) vwCl (mp_tys cI cJ cZ) [(ad 0, .inr (4, [.ref (ad 1), .ref (ad 2), .ref (ad 3), .ref (ad 4), .ref (ad 5), .ref (ad 6), .int xgc])), (ad 3, .inr (3, [.ref (ad 7), .ref (ad 8), .ref (ad 9), .ref (ad 10), .ref (ad 11), .ref (ad 12), .int xpn])), (ad 4, .inr (2, [.ref (ad 17), .ref (ad 18), .ref (ad 19)])), (ad 6, .inl (cJ, 5, .inr (.inl xsm))), (ad 7, .inl (cI, 24, .inl xpo)), (ad 8, .inl (cI, 24, .inl xpk)), (ad 9, .inl (cJ, 24, .inr (.inl xpg))), (ad 11, .inl (cI, 24, .inl xpi)), (ad 12, .inr (0, [.ref (ad 13), .ref (ad 14), .ref (ad 15), .ref (ad 16), .int xcn])), (ad 13, .inl (cI, 20, .inl xcp)), (ad 14, .inl (cJ, 20, .inr (.inl xcd))), (ad 15, .inl (cI, 20, .inl xck)), (ad 16, .inl (cJ, 20, .inr (.inl xcg))), (ad 17, .inl (cJ, 8, .inr (.inl xnt))), (ad 18, .inl (cJ, 8, .inr (.inl xnl))), (ad 19, .inl (cJ, 8, .inr (.inl xnd)))] sz [.ref (ad 0), .int u1, .int u2, .long u3]) (va_Ql (fun r (_ : Unit) => r = res.1) (mp_BM (dC, dI) vwCl [(ad 0, .inr (4, [.ref (ad 1), .ref (ad 2), .ref (ad 3), .ref (ad 4), .ref (ad 5), .ref (ad 6), .int xgc])), (ad 3, .inr (3, [.ref (ad 7), .ref (ad 8), .ref (ad 9), .ref (ad 10), .ref (ad 11), .ref (ad 12), .int xpn])), (ad 4, .inr (2, [.ref (ad 17), .ref (ad 18), .ref (ad 19)])), (ad 6, .inl (cJ, 5, .inr (.inl res.2.1))), (ad 7, .inl (cI, 24, .inl xpo)), (ad 8, .inl (cI, 24, .inl xpk)), (ad 9, .inl (cJ, 24, .inr (.inl xpg))), (ad 11, .inl (cI, 24, .inl xpi)), (ad 12, .inr (0, [.ref (ad 13), .ref (ad 14), .ref (ad 15), .ref (ad 16), .int xcn])), (ad 13, .inl (cI, 20, .inl xcp)), (ad 14, .inl (cJ, 20, .inr (.inl xcd))), (ad 15, .inl (cI, 20, .inl xck)), (ad 16, .inl (cJ, 20, .inr (.inl xcg))), (ad 17, .inl (cJ, 8, .inr (.inl res.2.2.1))), (ad 18, .inl (cJ, 8, .inr (.inl res.2.2.2.1))), (ad 19, .inl (cJ, 8, .inr (.inl res.2.2.2.2)))] (va_A [(ad 0, .inr (4, [.ref (ad 1), .ref (ad 2), .ref (ad 3), .ref (ad 4), .ref (ad 5), .ref (ad 6), .int xgc])), (ad 3, .inr (3, [.ref (ad 7), .ref (ad 8), .ref (ad 9), .ref (ad 10), .ref (ad 11), .ref (ad 12), .int xpn])), (ad 4, .inr (2, [.ref (ad 17), .ref (ad 18), .ref (ad 19)])), (ad 6, .inl (cJ, 5, .inr (.inl xsm))), (ad 7, .inl (cI, 24, .inl xpo)), (ad 8, .inl (cI, 24, .inl xpk)), (ad 9, .inl (cJ, 24, .inr (.inl xpg))), (ad 11, .inl (cI, 24, .inl xpi)), (ad 12, .inr (0, [.ref (ad 13), .ref (ad 14), .ref (ad 15), .ref (ad 16), .int xcn])), (ad 13, .inl (cI, 20, .inl xcp)), (ad 14, .inl (cJ, 20, .inr (.inl xcd))), (ad 15, .inl (cI, 20, .inl xck)), (ad 16, .inl (cJ, 20, .inr (.inl xcg))), (ad 17, .inl (cJ, 8, .inr (.inl xnt))), (ad 18, .inl (cJ, 8, .inr (.inl xnl))), (ad 19, .inl (cJ, 8, .inr (.inl xnd)))] sz)) (va_A [(ad 0, .inr (4, [.ref (ad 1), .ref (ad 2), .ref (ad 3), .ref (ad 4), .ref (ad 5), .ref (ad 6), .int xgc])), (ad 3, .inr (3, [.ref (ad 7), .ref (ad 8), .ref (ad 9), .ref (ad 10), .ref (ad 11), .ref (ad 12), .int xpn])), (ad 4, .inr (2, [.ref (ad 17), .ref (ad 18), .ref (ad 19)])), (ad 6, .inl (cJ, 5, .inr (.inl xsm))), (ad 7, .inl (cI, 24, .inl xpo)), (ad 8, .inl (cI, 24, .inl xpk)), (ad 9, .inl (cJ, 24, .inr (.inl xpg))), (ad 11, .inl (cI, 24, .inl xpi)), (ad 12, .inr (0, [.ref (ad 13), .ref (ad 14), .ref (ad 15), .ref (ad 16), .int xcn])), (ad 13, .inl (cI, 20, .inl xcp)), (ad 14, .inl (cJ, 20, .inr (.inl xcd))), (ad 15, .inl (cI, 20, .inl xck)), (ad 16, .inl (cJ, 20, .inr (.inl xcg))), (ad 17, .inl (cJ, 8, .inr (.inl xnt))), (ad 18, .inl (cJ, 8, .inr (.inl xnl))), (ad 19, .inl (cJ, 8, .inr (.inl xnd)))] sz)) 0 0 ((va_A [(ad 0, .inr (4, [.ref (ad 1), .ref (ad 2), .ref (ad 3), .ref (ad 4), .ref (ad 5), .ref (ad 6), .int xgc])), (ad 3, .inr (3, [.ref (ad 7), .ref (ad 8), .ref (ad 9), .ref (ad 10), .ref (ad 11), .ref (ad 12), .int xpn])), (ad 4, .inr (2, [.ref (ad 17), .ref (ad 18), .ref (ad 19)])), (ad 6, .inl (cJ, 5, .inr (.inl xsm))), (ad 7, .inl (cI, 24, .inl xpo)), (ad 8, .inl (cI, 24, .inl xpk)), (ad 9, .inl (cJ, 24, .inr (.inl xpg))), (ad 11, .inl (cI, 24, .inl xpi)), (ad 12, .inr (0, [.ref (ad 13), .ref (ad 14), .ref (ad 15), .ref (ad 16), .int xcn])), (ad 13, .inl (cI, 20, .inl xcp)), (ad 14, .inl (cJ, 20, .inr (.inl xcd))), (ad 15, .inl (cI, 20, .inl xck)), (ad 16, .inl (cJ, 20, .inr (.inl xcg))), (ad 17, .inl (cJ, 8, .inr (.inl xnt))), (ad 18, .inl (cJ, 8, .inr (.inl xnl))), (ad 19, .inl (cJ, 8, .inr (.inl xnd)))] sz)) := by
  refine Met.ofW (cc := zb_MP_totalOn) (maxL := 5) (ret := (some .long)) (by decide) rfl ?_
  intro p e s m args below meth c s₁ B hml hv
  obtain ⟨rfl, hsz, hP, hK, hD0, hN⟩ := hv
  have hx := B.exec
  have hb := B.bytes
  have hr := B.returns
  have hts := atoms_spec (ws := zw_MP_totalOn) B.pre
  have hsub : ∀ w ∈ mp_tbl, w ∈ zw_MP_totalOn := fun w h => List.mem_cons_of_mem _ h
  have hw : ∀ w ∈ mp_tbl, w.before _ s = true := fun w h => hts w (hsub w h)
  have hown : s.vm.findClass zR_MP = some m.cls := findClass_of_methodNamed B.named
  have hlocks := B.notSynchronized
  subst hsz
  have hD := hD0.self (sz := s.heap.size)
  generalize hAe : va_A [(ad 0, .inr (4, [.ref (ad 1), .ref (ad 2), .ref (ad 3), .ref (ad 4), .ref (ad 5), .ref (ad 6), .int xgc])), (ad 3, .inr (3, [.ref (ad 7), .ref (ad 8), .ref (ad 9), .ref (ad 10), .ref (ad 11), .ref (ad 12), .int xpn])), (ad 4, .inr (2, [.ref (ad 17), .ref (ad 18), .ref (ad 19)])), (ad 6, .inl (cJ, 5, .inr (.inl xsm))), (ad 7, .inl (cI, 24, .inl xpo)), (ad 8, .inl (cI, 24, .inl xpk)), (ad 9, .inl (cJ, 24, .inr (.inl xpg))), (ad 11, .inl (cI, 24, .inl xpi)), (ad 12, .inr (0, [.ref (ad 13), .ref (ad 14), .ref (ad 15), .ref (ad 16), .int xcn])), (ad 13, .inl (cI, 20, .inl xcp)), (ad 14, .inl (cJ, 20, .inr (.inl xcd))), (ad 15, .inl (cI, 20, .inl xck)), (ad 16, .inl (cJ, 20, .inr (.inl xcg))), (ad 17, .inl (cJ, 8, .inr (.inl xnt))), (ad 18, .inl (cJ, 8, .inr (.inl xnl))), (ad 19, .inl (cJ, 8, .inr (.inl xnd)))] s.heap.size = A at hD ⊢
  have hA : ∀ q : Nat, s.heap.size ≤ q → A q := fun q h => by rw [← hAe]; exact Or.inr h
  have hS : va_S A s.heap s.heap [] := va_S.rf
  have hP : va_P (dC, dI) vwCl [(ad 0, .inr (4, [.ref (ad 1), .ref (ad 2), .ref (ad 3), .ref (ad 4), .ref (ad 5), .ref (ad 6), .int xgc])), (ad 3, .inr (3, [.ref (ad 7), .ref (ad 8), .ref (ad 9), .ref (ad 10), .ref (ad 11), .ref (ad 12), .int xpn])), (ad 4, .inr (2, [.ref (ad 17), .ref (ad 18), .ref (ad 19)])), (ad 6, .inl (cJ, 5, .inr (.inl xsm))), (ad 7, .inl (cI, 24, .inl xpo)), (ad 8, .inl (cI, 24, .inl xpk)), (ad 9, .inl (cJ, 24, .inr (.inl xpg))), (ad 11, .inl (cI, 24, .inl xpi)), (ad 12, .inr (0, [.ref (ad 13), .ref (ad 14), .ref (ad 15), .ref (ad 16), .int xcn])), (ad 13, .inl (cI, 20, .inl xcp)), (ad 14, .inl (cJ, 20, .inr (.inl xcd))), (ad 15, .inl (cI, 20, .inl xck)), (ad 16, .inl (cJ, 20, .inr (.inl xcg))), (ad 17, .inl (cJ, 8, .inr (.inl xnt))), (ad 18, .inl (cJ, 8, .inr (.inl xnl))), (ad 19, .inl (cJ, 8, .inr (.inl xnd)))] s.heap := hP
  clear hAe hD0
  have hl := lv_entry ([.ref (ad 0), .int u1, .int u2, .long u3]) (n := 5) (Nat.le_of_ble_eq_true rfl)
  rw [lg_entry_eq]
  generalize (lg_sl ([.ref (ad 0), .int u1, .int u2, .long u3]) ++ List.replicate (5 - (lg_sl ([.ref (ad 0), .int u1, .int u2, .long u3])).length) Slot.unset).toArray = ls at hl ⊢
  have hl : lv_has ls 5 [(0, .ref (ad 0)), (1, .int u1), (2, .int u2), (3, .long u3)] := hl
  unfold zf_MP_totalOn at hf
  refine lv_aload_n hx hb zd_MP_totalOn_0 rfl (lv_at hl 0 rfl) ?_
  refine lv_iload_n hx hb zd_MP_totalOn_1 rfl (lv_at hl 1 rfl) ?_
  obtain ⟨y1, hg1, hf⟩ := mp_bd hf
  refine mp_Rz (va_runV (As := [.int u1]) (rest := []) ⟨hx, hb, hml, hown, hts⟩ (zc_MP_isGood l dC dI cI cJ cZ ad xgc u1 y1 hg1) (cwV 1 hts (mp_gV hsub zq_186 zq_188 zq_0 zq_25 zq_189) rfl rfl rfl (by decide +kernel) ⟨Nat.le_of_ble_eq_true rfl, Nat.le_of_ble_eq_true rfl⟩) ⟨mp_blR, va_recv hK hP (ci := 4) (q0 := 0) rfl rfl, mp_preR hN hK (hP.sub [0] rfl)⟩ rfl rfl hl.1 rfl (lv_room (Nat.le_of_ble_eq_true rfl)) zd_MP_totalOn_2 ⟨Nat.zero_le _, Nat.zero_le _⟩) (fun hz1 => ?_)
  refine lv_if_eq (tgt := 22) hx hb zd_MP_totalOn_5 (by decide) (fun c_2 => ?_) (fun c_2 => ?_)
  · have hf := mp_t c_2 hf
    refine lv_ldc2 (v := -1) hx hb hown (hw _ zq_257) zd_MP_totalOn_22 ?_
    have hf := Option.some.inj hf
    subst hf
    exact W.lret (v := (-1 : Int64)) hx hb hr (fun t ht hW => ⟨⟨(-1 : Int64), (), rfl, rfl, by rw [ht]; exact hP, hD⟩, hS.F ht⟩) hS.2.2 zd_MP_totalOn_25
  · have hf := mp_f c_2 hf
    refine lv_iload_n hx hb zd_MP_totalOn_8 rfl (lv_at hl 2 rfl) ?_
    obtain ⟨y3, hg3, hf⟩ := mp_bd hf
    refine mp_Rz (va_runS (As := [.int u2]) (rest := []) ⟨hx, hb, hml, hown, hts⟩ (zc_MP_isKind l dC dI cI cJ cZ ad u2 y3 hg3) (va_cwS 1 hts (mp_gS hsub zq_193 zq_194 zq_25 zq_195) rfl rfl rfl (by decide +kernel) ⟨Nat.le_of_ble_eq_true rfl, Nat.le_of_ble_eq_true rfl⟩) ⟨mp_blR, mp_preR hN hK (hP.sub [] rfl)⟩ rfl rfl hl.1 rfl (lv_room (Nat.le_of_ble_eq_true rfl)) zd_MP_totalOn_9 ⟨Nat.zero_le _, Nat.zero_le _⟩) (fun hz3 => ?_)
    refine lv_if_eq (tgt := 22) hx hb zd_MP_totalOn_12 (by decide) (fun c_4 => ?_) (fun c_4 => ?_)
    · have hf := mp_t c_4 hf
      refine lv_ldc2 (v := -1) hx hb hown (hw _ zq_257) zd_MP_totalOn_22 ?_
      have hf := Option.some.inj hf
      subst hf
      exact W.lret (v := (-1 : Int64)) hx hb hr (fun t ht hW => ⟨⟨(-1 : Int64), (), rfl, rfl, by rw [ht]; exact hP, hD⟩, hS.F ht⟩) hS.2.2 zd_MP_totalOn_25
    · have hf := mp_f c_4 hf
      refine lv_lload_n hx hb zd_MP_totalOn_15 rfl (lv_at hl 3 rfl) ?_
      obtain ⟨y5, hg5, hf⟩ := mp_bd hf
      refine mp_Rz (va_runS (As := [.long u3]) (rest := []) ⟨hx, hb, hml, hown, hts⟩ (zc_MP_isDay l dC dI cI cJ cZ ad u3 y5 hg5) (va_cwS 1 hts (mp_gS hsub zq_240 zq_241 zq_25 zq_242) rfl rfl rfl (by decide +kernel) ⟨Nat.le_of_ble_eq_true rfl, Nat.le_of_ble_eq_true rfl⟩) ⟨mp_blR, mp_preR hN hK (hP.sub [] rfl)⟩ rfl rfl hl.1 rfl (lv_room (Nat.le_of_ble_eq_true rfl)) zd_MP_totalOn_16 ⟨Nat.zero_le _, Nat.zero_le _⟩) (fun hz5 => ?_)
      refine lv_if_ne (tgt := 26) hx hb zd_MP_totalOn_19 (by decide) (fun c_6 => ?_) (fun c_6 => ?_)
      · have hf := mp_f c_6 hf
        refine lv_aload_n hx hb zd_MP_totalOn_26 rfl (lv_at hl 0 rfl) ?_
        refine va_get (D := (dC, dI)) (ci := 4) (v := .ref (ad 4)) (C := zR_MP) (T := zT_MP) (N := 7) hx hb hts (fun w h => hsub w (zi_MP w h)) hown hK hP 0 rfl rfl 3 (by decide) (hw _ zq_155) (fun _ h9 => h9) rfl zd_MP_totalOn_27 ?_
        refine lv_aload_n hx hb zd_MP_totalOn_30 rfl (lv_at hl 0 rfl) ?_
        refine va_get (D := (dC, dI)) (ci := 4) (v := .ref (ad 3)) (C := zR_MP) (T := zT_MP) (N := 7) hx hb hts (fun w h => hsub w (zi_MP w h)) hown hK hP 0 rfl rfl 2 (by decide) (hw _ zq_154) (fun _ h9 => h9) rfl zd_MP_totalOn_31 ?_
        refine lv_iload_n hx hb zd_MP_totalOn_34 rfl (lv_at hl 1 rfl) ?_
        refine lv_lload_n hx hb zd_MP_totalOn_35 rfl (lv_at hl 3 rfl) ?_
        refine lv_aload_n hx hb zd_MP_totalOn_36 rfl (lv_at hl 0 rfl) ?_
        refine va_get (D := (dC, dI)) (ci := 4) (v := .ref (ad 6)) (C := zR_MP) (T := zT_MP) (N := 7) hx hb hts (fun w h => hsub w (zi_MP w h)) hown hK hP 0 rfl rfl 5 (by decide) (hw _ zq_157) (fun _ h9 => h9) rfl zd_MP_totalOn_37 ?_
        obtain ⟨y7, hg7, hf⟩ := mp_bd hf
        refine mp_Mv (wr := [(ad 0, .inr (4, [.ref (ad 1), .ref (ad 2), .ref (ad 3), .ref (ad 4), .ref (ad 5), .ref (ad 6), .int xgc]))]) (va_runV (As := [.ref (ad 3), .int u1, .long u3, .ref (ad 6)]) (rest := []) ⟨hx, hb, hml, hown, hts⟩ (zc_Ne_sumWithin l dC dI cI cJ cZ ad _ xpn xsm xpo xpk xpg xpi xcn xcp xcd xck xcg xnt xnl xnd u1 u3 y7 hg7) (cwV 4 hts (mp_gV hsub zq_258 zq_259 zq_260 zq_28 zq_261) rfl rfl rfl (by decide +kernel) ⟨Nat.le_of_ble_eq_true rfl, Nat.le_of_ble_eq_true rfl⟩) ⟨mp_blM, va_recv hK hP (ci := 2) (q0 := 2) rfl rfl, mp_preM hN hK (hP.sub [1, 2, 3, 4, 5, 6, 7, 8, 9, 10, 11, 12, 13, 14, 15] rfl) (hD.sub [1, 2, 3, 4, 5, 6, 7, 8, 9, 10, 11, 12, 13, 14, 15] (by decide) rfl)⟩ rfl rfl hl.1 rfl (lv_room (Nat.le_of_ble_eq_true rfl)) zd_MP_totalOn_40 ⟨Nat.zero_le _, Nat.zero_le _⟩) hP hD hS hA [1, 2, 3, 4, 5, 6, 7, 8, 9, 10, 11, 12, 13, 14, 15] [0] rfl rfl (by decide) (by decide) (fun H locs hP hD hS => ?_)
        have hP : va_P (dC, dI) vwCl [(ad 0, .inr (4, [.ref (ad 1), .ref (ad 2), .ref (ad 3), .ref (ad 4), .ref (ad 5), .ref (ad 6), .int xgc])), (ad 3, .inr (3, [.ref (ad 7), .ref (ad 8), .ref (ad 9), .ref (ad 10), .ref (ad 11), .ref (ad 12), .int xpn])), (ad 4, .inr (2, [.ref (ad 17), .ref (ad 18), .ref (ad 19)])), (ad 6, .inl (cJ, 5, .inr (.inl y7.1))), (ad 7, .inl (cI, 24, .inl xpo)), (ad 8, .inl (cI, 24, .inl xpk)), (ad 9, .inl (cJ, 24, .inr (.inl xpg))), (ad 11, .inl (cI, 24, .inl xpi)), (ad 12, .inr (0, [.ref (ad 13), .ref (ad 14), .ref (ad 15), .ref (ad 16), .int xcn])), (ad 13, .inl (cI, 20, .inl xcp)), (ad 14, .inl (cJ, 20, .inr (.inl xcd))), (ad 15, .inl (cI, 20, .inl xck)), (ad 16, .inl (cJ, 20, .inr (.inl xcg))), (ad 17, .inl (cJ, 8, .inr (.inl y7.2.1))), (ad 18, .inl (cJ, 8, .inr (.inl y7.2.2.1))), (ad 19, .inl (cJ, 8, .inr (.inl y7.2.2.2)))] H := hP
        have hD : va_D A [(ad 0, .inr (4, [.ref (ad 1), .ref (ad 2), .ref (ad 3), .ref (ad 4), .ref (ad 5), .ref (ad 6), .int xgc])), (ad 3, .inr (3, [.ref (ad 7), .ref (ad 8), .ref (ad 9), .ref (ad 10), .ref (ad 11), .ref (ad 12), .int xpn])), (ad 4, .inr (2, [.ref (ad 17), .ref (ad 18), .ref (ad 19)])), (ad 6, .inl (cJ, 5, .inr (.inl y7.1))), (ad 7, .inl (cI, 24, .inl xpo)), (ad 8, .inl (cI, 24, .inl xpk)), (ad 9, .inl (cJ, 24, .inr (.inl xpg))), (ad 11, .inl (cI, 24, .inl xpi)), (ad 12, .inr (0, [.ref (ad 13), .ref (ad 14), .ref (ad 15), .ref (ad 16), .int xcn])), (ad 13, .inl (cI, 20, .inl xcp)), (ad 14, .inl (cJ, 20, .inr (.inl xcd))), (ad 15, .inl (cI, 20, .inl xck)), (ad 16, .inl (cJ, 20, .inr (.inl xcg))), (ad 17, .inl (cJ, 8, .inr (.inl y7.2.1))), (ad 18, .inl (cJ, 8, .inr (.inl y7.2.2.1))), (ad 19, .inl (cJ, 8, .inr (.inl y7.2.2.2)))] := hD
        refine lv_aload_n hx hb zd_MP_totalOn_43 rfl (lv_at hl 0 rfl) ?_
        refine va_get (D := (dC, dI)) (ci := 4) (v := .ref (ad 6)) (C := zR_MP) (T := zT_MP) (N := 7) hx hb hts (fun w h => hsub w (zi_MP w h)) hown hK hP 0 rfl rfl 5 (by decide) (hw _ zq_157) (fun _ h9 => h9) rfl zd_MP_totalOn_44 ?_
        refine lv_iload_n hx hb zd_MP_totalOn_47 rfl (lv_at hl 2 rfl) ?_
        obtain ⟨h_8, hf⟩ := mp_in hf
        refine va_lald hx hb hK hP 3 1 rfl rfl (i := u2) h_8 zd_MP_totalOn_48 ?_
        have hf := Option.some.inj hf
        subst hf
        exact W.lret (v := (y7.1 u2.toNatClampNeg)) hx hb hr (fun t ht hW => ⟨⟨(y7.1 u2.toNatClampNeg), (), rfl, rfl, by rw [ht]; exact hP, hD⟩, hS.F ht⟩) hS.2.2 zd_MP_totalOn_49
      · have hf := mp_t c_6 hf
        refine lv_ldc2 (v := -1) hx hb hown (hw _ zq_257) zd_MP_totalOn_22 ?_
        have hf := Option.some.inj hf
        subst hf
        exact W.lret (v := (-1 : Int64)) hx hb hr (fun t ht hW => ⟨⟨(-1 : Int64), (), rfl, rfl, by rw [ht]; exact hP, hD⟩, hS.F ht⟩) hS.2.2 zd_MP_totalOn_25
set_option maxHeartbeats 4000000 in
set_option maxRecDepth 100000 in
theorem zc_MP_total (l : Launch) (dC : Nat → ClassId) (dI : Nat → Nat → Nat) (cI cJ cZ : ClassId) (ad : Nat → Nat) (sz : Nat) (xgc : Int32) (xpn : Int32) (xsm : Nat → Int64) (xpo : Nat → Int32) (xpk : Nat → Int32) (xpg : Nat → Int64) (xpi : Nat → Int32) (xcn : Int32) (xcp : Nat → Int32) (xcd : Nat → Int64) (xck : Nat → Int32) (xcg : Nat → Int64) (xnt : Nat → Int64) (xnl : Nat → Int64) (xnd : Nat → Int64) (u1 : Int32) (u2 : Int32) (res : Int64 × (Nat → Int64) × (Nat → Int64) × (Nat → Int64) × (Nat → Int64)) (hf : zf_MP_total u1 u2 xgc xpn xsm xpo xpk xpg xpi xcn xcp xcd xck xcg xnt xnl xnd = some res) : Met l zy_MP_total zw_MP_total ({ frames := 5, cells := 0, slots := 0, locals := 125 } : Room) (mp_PM (dC, dI) vwCl (mp_tys cI cJ cZ) [(ad 0, .inr (4, [.ref (ad 1), .ref (ad 2), .ref (ad 3), .ref (ad 4), .ref (ad 5), .ref (ad 6), .int xgc])), (ad 3, .inr (3, [.ref (ad 7), .ref (ad 8), .ref (ad 9), .ref (ad 10), .ref (ad 11), .ref (ad 12), .int xpn])), (ad 4, .inr (2, [.ref (ad 17), .ref (ad 18), .ref (ad 19)])), (ad 6, .inl (cJ, 5, .inr (.inl xsm))), (ad 7, .inl (cI, 24, .inl xpo)), (ad 8, .inl (cI, 24, .inl xpk)), (ad 9, .inl (cJ, 24, .inr (.inl xpg))), (ad 11, .inl (cI, 24, .inl xpi)), (ad 12, .inr (0, [.ref (ad 13), .ref (ad 14), .ref (ad 15), .ref (ad 16), .int xcn])), (ad 13, .inl (cI, 20, .inl xcp)), (ad 14, .inl (cJ, 20, .inr (.inl xcd))), (ad 15, .inl (cI, 20, .inl xck)), (ad 16, .inl (cJ, 20, .inr (.inl xcg))), (ad 17, .inl (cJ, 8, .inr (.inl xnt))), (ad 18, .inl (cJ, 8, .inr (.inl xnl))), (ad 19, .inl (cJ, 8, .inr (.inl xnd)))] sz [.ref (ad 0), .int u1, .int u2]) (va_Ql (fun r (_ : Unit) => r = res.1) (mp_BM (dC, dI) vwCl [(ad 0, .inr (4, [.ref (ad 1), .ref (ad 2), .ref (ad 3), .ref (ad 4), .ref (ad 5), .ref (ad 6), .int xgc])), (ad 3, .inr (3, [.ref (ad 7), .ref (ad 8), .ref (ad 9), .ref (ad 10), .ref (ad 11), .ref (ad 12), .int xpn])), (ad 4, .inr (2, [.ref (ad 17), .ref (ad 18), .ref (ad 19)])), (ad 6, .inl (cJ, 5, .inr (.inl res.2.1))), (ad 7, .inl (cI, 24, .inl xpo)), (ad 8, .inl (cI, 24, .inl xpk)), (ad 9, .inl (cJ, 24, .inr (.inl xpg))), (ad 11, .inl (cI, 24, .inl xpi)), (ad 12, .inr (0, [.ref (ad 13), .ref (ad 14), .ref (ad 15), .ref (ad 16), .int xcn])), (ad 13, .inl (cI, 20, .inl xcp)), (ad 14, .inl (cJ, 20, .inr (.inl xcd))), (ad 15, .inl (cI, 20, .inl xck)), (ad 16, .inl (cJ, 20, .inr (.inl xcg))), (ad 17, .inl (cJ, 8, .inr (.inl res.2.2.1))), (ad 18, .inl (cJ, 8, .inr (.inl res.2.2.2.1))), (ad 19, .inl (cJ, 8, .inr (.inl res.2.2.2.2)))] (va_A [(ad 0, .inr (4, [.ref (ad 1), .ref (ad 2), .ref (ad 3), .ref (ad 4), .ref (ad 5), .ref (ad 6), .int xgc])), (ad 3, .inr (3, [.ref (ad 7), .ref (ad 8), .ref (ad 9), .ref (ad 10), .ref (ad 11), .ref (ad 12), .int xpn])), (ad 4, .inr (2, [.ref (ad 17), .ref (ad 18), .ref (ad 19)])), (ad 6, .inl (cJ, 5, .inr (.inl xsm))), (ad 7, .inl (cI, 24, .inl xpo)), (ad 8, .inl (cI, 24, .inl xpk)), (ad 9, .inl (cJ, 24, .inr (.inl xpg))), (ad 11, .inl (cI, 24, .inl xpi)), (ad 12, .inr (0, [.ref (ad 13), .ref (ad 14), .ref (ad 15), .ref (ad 16), .int xcn])), (ad 13, .inl (cI, 20, .inl xcp)), (ad 14, .inl (cJ, 20, .inr (.inl xcd))), (ad 15, .inl (cI, 20, .inl xck)), (ad 16, .inl (cJ, 20, .inr (.inl xcg))), (ad 17, .inl (cJ, 8, .inr (.inl xnt))), (ad 18, .inl (cJ, 8, .inr (.inl xnl))), (ad 19, .inl (cJ, 8, .inr (.inl xnd)))] sz)) (va_A [(ad 0, .inr (4, [.ref (ad 1), .ref (ad 2), .ref (ad 3), .ref (ad 4), .ref (ad 5), .ref (ad 6), .int xgc])), (ad 3, .inr (3, [.ref (ad 7), .ref (ad 8), .ref (ad 9), .ref (ad 10), .ref (ad 11), .ref (ad 12), .int xpn])), (ad 4, .inr (2, [.ref (ad 17), .ref (ad 18), .ref (ad 19)])), (ad 6, .inl (cJ, 5, .inr (.inl xsm))), (ad 7, .inl (cI, 24, .inl xpo)), (ad 8, .inl (cI, 24, .inl xpk)), (ad 9, .inl (cJ, 24, .inr (.inl xpg))), (ad 11, .inl (cI, 24, .inl xpi)), (ad 12, .inr (0, [.ref (ad 13), .ref (ad 14), .ref (ad 15), .ref (ad 16), .int xcn])), (ad 13, .inl (cI, 20, .inl xcp)), (ad 14, .inl (cJ, 20, .inr (.inl xcd))), (ad 15, .inl (cI, 20, .inl xck)), (ad 16, .inl (cJ, 20, .inr (.inl xcg))), (ad 17, .inl (cJ, 8, .inr (.inl xnt))), (ad 18, .inl (cJ, 8, .inr (.inl xnl))), (ad 19, .inl (cJ, 8, .inr (.inl xnd)))] sz)) 0 0 ((va_A [(ad 0, .inr (4, [.ref (ad 1), .ref (ad 2), .ref (ad 3), .ref (ad 4), .ref (ad 5), .ref (ad 6), .int xgc])), (ad 3, .inr (3, [.ref (ad 7), .ref (ad 8), .ref (ad 9), .ref (ad 10), .ref (ad 11), .ref (ad 12), .int xpn])), (ad 4, .inr (2, [.ref (ad 17), .ref (ad 18), .ref (ad 19)])), (ad 6, .inl (cJ, 5, .inr (.inl xsm))), (ad 7, .inl (cI, 24, .inl xpo)), (ad 8, .inl (cI, 24, .inl xpk)), (ad 9, .inl (cJ, 24, .inr (.inl xpg))), (ad 11, .inl (cI, 24, .inl xpi)), (ad 12, .inr (0, [.ref (ad 13), .ref (ad 14), .ref (ad 15), .ref (ad 16), .int xcn])), (ad 13, .inl (cI, 20, .inl xcp)), (ad 14, .inl (cJ, 20, .inr (.inl xcd))), (ad 15, .inl (cI, 20, .inl xck)), (ad 16, .inl (cJ, 20, .inr (.inl xcg))), (ad 17, .inl (cJ, 8, .inr (.inl xnt))), (ad 18, .inl (cJ, 8, .inr (.inl xnl))), (ad 19, .inl (cJ, 8, .inr (.inl xnd)))] sz)) := by
  refine Met.ofW (cc := zb_MP_total) (maxL := 3) (ret := (some .long)) (by decide) rfl ?_
  intro p e s m args below meth c s₁ B hml hv
  obtain ⟨rfl, hsz, hP, hK, hD0, hN⟩ := hv
  have hx := B.exec
  have hb := B.bytes
  have hr := B.returns
  have hts := atoms_spec (ws := zw_MP_total) B.pre
  have hsub : ∀ w ∈ mp_tbl, w ∈ zw_MP_total := fun w h => List.mem_cons_of_mem _ h
  have hw : ∀ w ∈ mp_tbl, w.before _ s = true := fun w h => hts w (hsub w h)
  have hown : s.vm.findClass zR_MP = some m.cls := findClass_of_methodNamed B.named
  have hlocks := B.notSynchronized
  subst hsz
  have hD := hD0.self (sz := s.heap.size)
  generalize hAe : va_A [(ad 0, .inr (4, [.ref (ad 1), .ref (ad 2), .ref (ad 3), .ref (ad 4), .ref (ad 5), .ref (ad 6), .int xgc])), (ad 3, .inr (3, [.ref (ad 7), .ref (ad 8), .ref (ad 9), .ref (ad 10), .ref (ad 11), .ref (ad 12), .int xpn])), (ad 4, .inr (2, [.ref (ad 17), .ref (ad 18), .ref (ad 19)])), (ad 6, .inl (cJ, 5, .inr (.inl xsm))), (ad 7, .inl (cI, 24, .inl xpo)), (ad 8, .inl (cI, 24, .inl xpk)), (ad 9, .inl (cJ, 24, .inr (.inl xpg))), (ad 11, .inl (cI, 24, .inl xpi)), (ad 12, .inr (0, [.ref (ad 13), .ref (ad 14), .ref (ad 15), .ref (ad 16), .int xcn])), (ad 13, .inl (cI, 20, .inl xcp)), (ad 14, .inl (cJ, 20, .inr (.inl xcd))), (ad 15, .inl (cI, 20, .inl xck)), (ad 16, .inl (cJ, 20, .inr (.inl xcg))), (ad 17, .inl (cJ, 8, .inr (.inl xnt))), (ad 18, .inl (cJ, 8, .inr (.inl xnl))), (ad 19, .inl (cJ, 8, .inr (.inl xnd)))] s.heap.size = A at hD ⊢
  have hA : ∀ q : Nat, s.heap.size ≤ q → A q := fun q h => by rw [← hAe]; exact Or.inr h
  have hS : va_S A s.heap s.heap [] := va_S.rf
  have hP : va_P (dC, dI) vwCl [(ad 0, .inr (4, [.ref (ad 1), .ref (ad 2), .ref (ad 3), .ref (ad 4), .ref (ad 5), .ref (ad 6), .int xgc])), (ad 3, .inr (3, [.ref (ad 7), .ref (ad 8), .ref (ad 9), .ref (ad 10), .ref (ad 11), .ref (ad 12), .int xpn])), (ad 4, .inr (2, [.ref (ad 17), .ref (ad 18), .ref (ad 19)])), (ad 6, .inl (cJ, 5, .inr (.inl xsm))), (ad 7, .inl (cI, 24, .inl xpo)), (ad 8, .inl (cI, 24, .inl xpk)), (ad 9, .inl (cJ, 24, .inr (.inl xpg))), (ad 11, .inl (cI, 24, .inl xpi)), (ad 12, .inr (0, [.ref (ad 13), .ref (ad 14), .ref (ad 15), .ref (ad 16), .int xcn])), (ad 13, .inl (cI, 20, .inl xcp)), (ad 14, .inl (cJ, 20, .inr (.inl xcd))), (ad 15, .inl (cI, 20, .inl xck)), (ad 16, .inl (cJ, 20, .inr (.inl xcg))), (ad 17, .inl (cJ, 8, .inr (.inl xnt))), (ad 18, .inl (cJ, 8, .inr (.inl xnl))), (ad 19, .inl (cJ, 8, .inr (.inl xnd)))] s.heap := hP
  clear hAe hD0
  have hl := lv_entry ([.ref (ad 0), .int u1, .int u2]) (n := 3) (Nat.le_of_ble_eq_true rfl)
  rw [lg_entry_eq]
  generalize (lg_sl ([.ref (ad 0), .int u1, .int u2]) ++ List.replicate (3 - (lg_sl ([.ref (ad 0), .int u1, .int u2])).length) Slot.unset).toArray = ls at hl ⊢
  have hl : lv_has ls 3 [(0, .ref (ad 0)), (1, .int u1), (2, .int u2)] := hl
  unfold zf_MP_total at hf
  refine lv_aload_n hx hb zd_MP_total_0 rfl (lv_at hl 0 rfl) ?_
  refine lv_iload_n hx hb zd_MP_total_1 rfl (lv_at hl 1 rfl) ?_
  refine lv_iload_n hx hb zd_MP_total_2 rfl (lv_at hl 2 rfl) ?_
  refine lv_ldc2 (v := 100000) hx hb hown (hw _ zq_243) zd_MP_total_3 ?_
  obtain ⟨y1, hg1, hf⟩ := mp_bd hf
  refine mp_Ml (wr := []) (va_runV (As := [.int u1, .int u2, .long (100000 : Int64)]) (rest := []) ⟨hx, hb, hml, hown, hts⟩ (zc_MP_totalOn l dC dI cI cJ cZ ad _ xgc xpn xsm xpo xpk xpg xpi xcn xcp xcd xck xcg xnt xnl xnd u1 u2 (100000 : Int64) y1 hg1) (cwV 3 hts (mp_gV hsub zq_253 zq_254 zq_255 zq_25 zq_256) rfl rfl rfl (by decide +kernel) ⟨Nat.le_of_ble_eq_true rfl, Nat.le_of_ble_eq_true rfl⟩) ⟨mp_blM, va_recv hK hP (ci := 4) (q0 := 0) rfl rfl, mp_preM hN hK (hP.sub [0, 1, 2, 3, 4, 5, 6, 7, 8, 9, 10, 11, 12, 13, 14, 15] rfl) (hD.sub [0, 1, 2, 3, 4, 5, 6, 7, 8, 9, 10, 11, 12, 13, 14, 15] (by decide) rfl)⟩ rfl rfl hl.1 rfl (lv_room (Nat.le_of_ble_eq_true rfl)) zd_MP_total_6 ⟨Nat.zero_le _, Nat.zero_le _⟩) hP hD hS hA [0, 1, 2, 3, 4, 5, 6, 7, 8, 9, 10, 11, 12, 13, 14, 15] [] rfl rfl (by decide) (by decide) (fun H locs hP hD hS => ?_)
  have hP : va_P (dC, dI) vwCl [(ad 0, .inr (4, [.ref (ad 1), .ref (ad 2), .ref (ad 3), .ref (ad 4), .ref (ad 5), .ref (ad 6), .int xgc])), (ad 3, .inr (3, [.ref (ad 7), .ref (ad 8), .ref (ad 9), .ref (ad 10), .ref (ad 11), .ref (ad 12), .int xpn])), (ad 4, .inr (2, [.ref (ad 17), .ref (ad 18), .ref (ad 19)])), (ad 6, .inl (cJ, 5, .inr (.inl y1.2.1))), (ad 7, .inl (cI, 24, .inl xpo)), (ad 8, .inl (cI, 24, .inl xpk)), (ad 9, .inl (cJ, 24, .inr (.inl xpg))), (ad 11, .inl (cI, 24, .inl xpi)), (ad 12, .inr (0, [.ref (ad 13), .ref (ad 14), .ref (ad 15), .ref (ad 16), .int xcn])), (ad 13, .inl (cI, 20, .inl xcp)), (ad 14, .inl (cJ, 20, .inr (.inl xcd))), (ad 15, .inl (cI, 20, .inl xck)), (ad 16, .inl (cJ, 20, .inr (.inl xcg))), (ad 17, .inl (cJ, 8, .inr (.inl y1.2.2.1))), (ad 18, .inl (cJ, 8, .inr (.inl y1.2.2.2.1))), (ad 19, .inl (cJ, 8, .inr (.inl y1.2.2.2.2)))] H := hP
  have hD : va_D A [(ad 0, .inr (4, [.ref (ad 1), .ref (ad 2), .ref (ad 3), .ref (ad 4), .ref (ad 5), .ref (ad 6), .int xgc])), (ad 3, .inr (3, [.ref (ad 7), .ref (ad 8), .ref (ad 9), .ref (ad 10), .ref (ad 11), .ref (ad 12), .int xpn])), (ad 4, .inr (2, [.ref (ad 17), .ref (ad 18), .ref (ad 19)])), (ad 6, .inl (cJ, 5, .inr (.inl y1.2.1))), (ad 7, .inl (cI, 24, .inl xpo)), (ad 8, .inl (cI, 24, .inl xpk)), (ad 9, .inl (cJ, 24, .inr (.inl xpg))), (ad 11, .inl (cI, 24, .inl xpi)), (ad 12, .inr (0, [.ref (ad 13), .ref (ad 14), .ref (ad 15), .ref (ad 16), .int xcn])), (ad 13, .inl (cI, 20, .inl xcp)), (ad 14, .inl (cJ, 20, .inr (.inl xcd))), (ad 15, .inl (cI, 20, .inl xck)), (ad 16, .inl (cJ, 20, .inr (.inl xcg))), (ad 17, .inl (cJ, 8, .inr (.inl y1.2.2.1))), (ad 18, .inl (cJ, 8, .inr (.inl y1.2.2.2.1))), (ad 19, .inl (cJ, 8, .inr (.inl y1.2.2.2.2)))] := hD
  have hf := Option.some.inj hf
  subst hf
  exact W.lret (v := y1.1) hx hb hr (fun t ht hW => ⟨⟨y1.1, (), rfl, rfl, by rw [ht]; exact hP, hD⟩, hS.F ht⟩) hS.2.2 zd_MP_total_9
set_option maxHeartbeats 4000000 in
set_option maxRecDepth 100000 in
theorem zc_MP_frees (l : Launch) (dC : Nat → ClassId) (dI : Nat → Nat → Nat) (cI cJ cZ : ClassId) (ad : Nat → Nat) (xgc : Int32) (xpn : Int32) (xpk : Nat → Int32) (xpg : Nat → Int64) (xpl : Nat → Int32) (xcn : Int32) (xcp : Nat → Int32) (xcd : Nat → Int64) (xck : Nat → Int32) (xcg : Nat → Int64) (u1 : Int32) (u2 : Int32) (res : Int64) (hf : zf_MP_frees u1 u2 xpn xpk xpg xpl xcn xcp xcd xck xcg = some res) : Met l zy_MP_frees zw_MP_frees ({ frames := 2, cells := 0, slots := 0, locals := 49 } : Room) (mp_PR (dC, dI) vwCl (mp_tys cI cJ cZ) [(ad 0, .inr (4, [.ref (ad 1), .ref (ad 2), .ref (ad 3), .ref (ad 4), .ref (ad 5), .ref (ad 6), .int xgc])), (ad 3, .inr (3, [.ref (ad 7), .ref (ad 8), .ref (ad 9), .ref (ad 10), .ref (ad 11), .ref (ad 12), .int xpn])), (ad 8, .inl (cI, 24, .inl xpk)), (ad 9, .inl (cJ, 24, .inr (.inl xpg))), (ad 10, .inl (cI, 24, .inl xpl)), (ad 12, .inr (0, [.ref (ad 13), .ref (ad 14), .ref (ad 15), .ref (ad 16), .int xcn])), (ad 13, .inl (cI, 20, .inl xcp)), (ad 14, .inl (cJ, 20, .inr (.inl xcd))), (ad 15, .inl (cI, 20, .inl xck)), (ad 16, .inl (cJ, 20, .inr (.inl xcg)))] [.ref (ad 0), .int u1, .int u2]) (vp_Sl (fun r => r = res)) 0 0 (fun _ => False) := by
  refine Met.ofW (cc := zb_MP_frees) (maxL := 6) (ret := (some .long)) (by decide) rfl ?_
  intro p e s m args below meth c s₁ B hml hv
  obtain ⟨rfl, hP, hK, hN⟩ := hv
  have hx := B.exec
  have hb := B.bytes
  have hr := B.returns
  have hts := atoms_spec (ws := zw_MP_frees) B.pre
  have hsub : ∀ w ∈ mp_tbl, w ∈ zw_MP_frees := fun w h => List.mem_cons_of_mem _ h
  have hw : ∀ w ∈ mp_tbl, w.before _ s = true := fun w h => hts w (hsub w h)
  have hown : s.vm.findClass zR_MP = some m.cls := findClass_of_methodNamed B.named
  have hlocks := B.notSynchronized
  have loop23 : ∀ (v1 : Int32) (v2 : Int32) (n : Nat) (v3 : Int64) (v5 : Int32) (ls : Array Slot), zf_MP_frees_L23 v1 v2 xpn xpk xpg xpl xcn xcp xcd xck xcg n v3 v5 = some res → lv_has ls 6 [(0, .ref (ad 0)), (1, .int v1), (2, .int v2), (3, .long v3), (5, .int v5)] → W p l e (headSpec zw_MP_frees ({ frames := 2, cells := 0, slots := 0, locals := 49 } : Room)).room s m ([.ref (ad 0), .int u1, .int u2] : List Value).toArray below meth c s.heap [] 0 0 (MQ below (vp_Sl (fun r => r = res)) ([.ref (ad 0), .int u1, .int u2] : List Value).toArray s 0 0 (fun _ => False)) (F0 m 23 ls []) := by
    intro v1 v2 n
    induction n with
    | zero => intro v3 v5 ls hf; simp [zf_MP_frees_L23] at hf
    | succ n ih =>
      intro v3 v5 ls hf hl
      rw [zf_MP_frees_L23] at hf
      refine lv_iload hx hb zd_MP_frees_23 (lv_at hl 4 rfl) ?_
      refine lv_aload_n hx hb zd_MP_frees_25 rfl (lv_at hl 0 rfl) ?_
      refine va_get (D := (dC, dI)) (ci := 4) (v := .ref (ad 3)) (C := zR_MP) (T := zT_MP) (N := 7) hx hb hts (fun w h => hsub w (zi_MP w h)) hown hK hP 0 rfl rfl 2 (by decide) (hw _ zq_154) (fun _ h9 => h9) rfl zd_MP_frees_26 ?_
      refine va_get (D := (dC, dI)) (ci := 3) (v := .int xpn) (C := zR_Pa) (T := zT_Pa) (N := 7) hx hb hts (fun w h => hsub w (zi_Pa w h)) hown hK hP 1 rfl rfl 6 (by decide) (hw _ zq_89) (fun _ h9 => h9) rfl zd_MP_frees_29 ?_
      refine lv_icmp_ge (tgt := 86) hx hb zd_MP_frees_32 (by decide) (fun c_5 => ?_) (fun c_5 => ?_)
      · have hf := mp_t c_5 hf
        refine lv_lload_n hx hb zd_MP_frees_86 rfl (lv_at hl 3 rfl) ?_
        have hf := Option.some.inj hf
        subst hf
        exact W.lret (v := v3) hx hb hr (fun t ht hW => ⟨v3, rfl, rfl, ht⟩) (fun q h => by cases h) zd_MP_frees_87
      · have hf := mp_f c_5 hf
        refine lv_aload_n hx hb zd_MP_frees_35 rfl (lv_at hl 0 rfl) ?_
        refine va_get (D := (dC, dI)) (ci := 4) (v := .ref (ad 3)) (C := zR_MP) (T := zT_MP) (N := 7) hx hb hts (fun w h => hsub w (zi_MP w h)) hown hK hP 0 rfl rfl 2 (by decide) (hw _ zq_154) (fun _ h9 => h9) rfl zd_MP_frees_36 ?_
        refine va_get (D := (dC, dI)) (ci := 3) (v := .ref (ad 10)) (C := zR_Pa) (T := zT_Pa) (N := 7) hx hb hts (fun w h => hsub w (zi_Pa w h)) hown hK hP 1 rfl rfl 3 (by decide) (hw _ zq_81) (fun _ h9 => h9) rfl zd_MP_frees_39 ?_
        refine lv_iload hx hb zd_MP_frees_42 (lv_at hl 4 rfl) ?_
        obtain ⟨h_6, hf⟩ := mp_in hf
        refine va_iald hx hb hK hP 4 0 rfl rfl (i := v5) h_6 zd_MP_frees_44 ?_
        refine lv_iload_n hx hb zd_MP_frees_45 rfl (lv_at hl 2 rfl) ?_
        refine lv_icmp_ne (tgt := 80) hx hb zd_MP_frees_46 (by decide) (fun c_7 => ?_) (fun c_7 => ?_)
        · have hf := mp_f c_7 hf
          refine lv_iinc (v := (v5 + (1 : Int32))) (lv' := [(5, .int (v5 + (1 : Int32))), (0, .ref (ad 0)), (1, .int v1), (2, .int v2), (3, .long v3)]) hx hb zd_MP_frees_80 hl (k := 4) rfl rfl (by decide) rfl (fun ls hl => ?_)
          refine lv_goto (tgt := 23) hx hb zd_MP_frees_83 (by decide) ?_
          exact ih v3 (v5 + (1 : Int32)) _ hf (lv_sub hl [1, 2, 3, 4, 0] rfl)
        · have hf := mp_t c_7 hf
          refine lv_aload_n hx hb zd_MP_frees_49 rfl (lv_at hl 0 rfl) ?_
          refine va_get (D := (dC, dI)) (ci := 4) (v := .ref (ad 3)) (C := zR_MP) (T := zT_MP) (N := 7) hx hb hts (fun w h => hsub w (zi_MP w h)) hown hK hP 0 rfl rfl 2 (by decide) (hw _ zq_154) (fun _ h9 => h9) rfl zd_MP_frees_50 ?_
          refine lv_iload hx hb zd_MP_frees_53 (lv_at hl 4 rfl) ?_
          refine lv_ldc2 (v := 100000) hx hb hown (hw _ zq_243) zd_MP_frees_55 ?_
          obtain ⟨y8, hg8, hf⟩ := mp_bd hf
          refine mp_Ri (va_runV (As := [.int v5, .long (100000 : Int64)]) (rest := []) ⟨hx, hb, hml, hown, hts⟩ (zc_Pa_kindOn l dC dI cI cJ cZ ad xpn xpk xcn xcp xcd xck v5 (100000 : Int64) y8 hg8) (cwV 2 hts (mp_gV hsub zq_283 zq_275 zq_276 zq_26 zq_277) rfl rfl rfl (by decide +kernel) ⟨Nat.le_of_ble_eq_true rfl, Nat.le_of_ble_eq_true rfl⟩) ⟨mp_blR, va_recv hK hP (ci := 3) (q0 := 1) rfl rfl, mp_preR hN hK (hP.sub [1, 2, 5, 6, 7, 8] rfl)⟩ rfl rfl hl.1 rfl (lv_room (Nat.le_of_ble_eq_true rfl)) zd_MP_frees_58 ⟨Nat.zero_le _, Nat.zero_le _⟩) ?_
          refine lv_iload_n hx hb zd_MP_frees_61 rfl (lv_at hl 1 rfl) ?_
          refine lv_icmp_ne (tgt := 80) hx hb zd_MP_frees_62 (by decide) (fun c_9 => ?_) (fun c_9 => ?_)
          · have hf := mp_f c_9 hf
            refine lv_iinc (v := (v5 + (1 : Int32))) (lv' := [(5, .int (v5 + (1 : Int32))), (0, .ref (ad 0)), (1, .int v1), (2, .int v2), (3, .long v3)]) hx hb zd_MP_frees_80 hl (k := 4) rfl rfl (by decide) rfl (fun ls hl => ?_)
            refine lv_goto (tgt := 23) hx hb zd_MP_frees_83 (by decide) ?_
            exact ih v3 (v5 + (1 : Int32)) _ hf (lv_sub hl [1, 2, 3, 4, 0] rfl)
          · have hf := mp_t c_9 hf
            refine lv_lload_n hx hb zd_MP_frees_65 rfl (lv_at hl 3 rfl) ?_
            refine lv_aload_n hx hb zd_MP_frees_66 rfl (lv_at hl 0 rfl) ?_
            refine va_get (D := (dC, dI)) (ci := 4) (v := .ref (ad 3)) (C := zR_MP) (T := zT_MP) (N := 7) hx hb hts (fun w h => hsub w (zi_MP w h)) hown hK hP 0 rfl rfl 2 (by decide) (hw _ zq_154) (fun _ h9 => h9) rfl zd_MP_frees_67 ?_
            refine lv_iload hx hb zd_MP_frees_70 (lv_at hl 4 rfl) ?_
            refine lv_ldc2 (v := 100000) hx hb hown (hw _ zq_243) zd_MP_frees_72 ?_
            obtain ⟨y10, hg10, hf⟩ := mp_bd hf
            refine mp_Rl (va_runV (As := [.int v5, .long (100000 : Int64)]) (rest := [.long v3]) ⟨hx, hb, hml, hown, hts⟩ (zc_Pa_gramsOn l dC dI cI cJ cZ ad xpn xpg xcn xcp xcd xcg v5 (100000 : Int64) y10 hg10) (cwV 2 hts (mp_gV hsub zq_284 zq_267 zq_268 zq_26 zq_269) rfl rfl rfl (by decide +kernel) ⟨Nat.le_of_ble_eq_true rfl, Nat.le_of_ble_eq_true rfl⟩) ⟨mp_blR, va_recv hK hP (ci := 3) (q0 := 1) rfl rfl, mp_preR hN hK (hP.sub [1, 3, 5, 6, 7, 9] rfl)⟩ rfl rfl hl.1 rfl (lv_room (Nat.le_of_ble_eq_true rfl)) zd_MP_frees_75 ⟨Nat.zero_le _, Nat.zero_le _⟩) ?_
            refine lv_ladd hx hb zd_MP_frees_78 ?_
            refine lv_lstore_n (lv' := [(3, .long (v3 + y10)), (0, .ref (ad 0)), (1, .int v1), (2, .int v2), (5, .int v5)]) hx hb zd_MP_frees_79 rfl hl (by decide) rfl (fun ls hl => ?_)
            refine lv_iinc (v := (v5 + (1 : Int32))) (lv' := [(5, .int (v5 + (1 : Int32))), (3, .long (v3 + y10)), (0, .ref (ad 0)), (1, .int v1), (2, .int v2)]) hx hb zd_MP_frees_80 hl (k := 4) rfl rfl (by decide) rfl (fun ls hl => ?_)
            refine lv_goto (tgt := 23) hx hb zd_MP_frees_83 (by decide) ?_
            exact ih (v3 + y10) (v5 + (1 : Int32)) _ hf (lv_sub hl [2, 3, 4, 1, 0] rfl)
  have hl := lv_entry ([.ref (ad 0), .int u1, .int u2]) (n := 6) (Nat.le_of_ble_eq_true rfl)
  rw [lg_entry_eq]
  generalize (lg_sl ([.ref (ad 0), .int u1, .int u2]) ++ List.replicate (6 - (lg_sl ([.ref (ad 0), .int u1, .int u2])).length) Slot.unset).toArray = ls at hl ⊢
  have hl : lv_has ls 6 [(0, .ref (ad 0)), (1, .int u1), (2, .int u2)] := hl
  unfold zf_MP_frees at hf
  refine lv_iload_n hx hb zd_MP_frees_0 rfl (lv_at hl 1 rfl) ?_
  obtain ⟨y1, hg1, hf⟩ := mp_bd hf
  refine mp_Rz (va_runS (As := [.int u1]) (rest := []) ⟨hx, hb, hml, hown, hts⟩ (zc_MP_isKind l dC dI cI cJ cZ ad u1 y1 hg1) (va_cwS 1 hts (mp_gS hsub zq_193 zq_194 zq_25 zq_195) rfl rfl rfl (by decide +kernel) ⟨Nat.le_of_ble_eq_true rfl, Nat.le_of_ble_eq_true rfl⟩) ⟨mp_blR, mp_preR hN hK (hP.sub [] rfl)⟩ rfl rfl hl.1 rfl (lv_room (Nat.le_of_ble_eq_true rfl)) zd_MP_frees_1 ⟨Nat.zero_le _, Nat.zero_le _⟩) (fun hz1 => ?_)
  refine lv_if_eq (tgt := 14) hx hb zd_MP_frees_4 (by decide) (fun c_2 => ?_) (fun c_2 => ?_)
  · have hf := mp_t c_2 hf
    refine lv_ldc2 (v := -1) hx hb hown (hw _ zq_257) zd_MP_frees_14 ?_
    have hf := Option.some.inj hf
    subst hf
    exact W.lret (v := (-1 : Int64)) hx hb hr (fun t ht hW => ⟨(-1 : Int64), rfl, rfl, ht⟩) (fun q h => by cases h) zd_MP_frees_17
  · have hf := mp_f c_2 hf
    refine lv_iload_n hx hb zd_MP_frees_7 rfl (lv_at hl 2 rfl) ?_
    obtain ⟨y3, hg3, hf⟩ := mp_bd hf
    refine mp_Rz (va_runS (As := [.int u2]) (rest := []) ⟨hx, hb, hml, hown, hts⟩ (zc_MP_isLife l dC dI cI cJ cZ ad u2 y3 hg3) (va_cwS 1 hts (mp_gS hsub zq_197 zq_198 zq_25 zq_199) rfl rfl rfl (by decide +kernel) ⟨Nat.le_of_ble_eq_true rfl, Nat.le_of_ble_eq_true rfl⟩) ⟨mp_blR, mp_preR hN hK (hP.sub [] rfl)⟩ rfl rfl hl.1 rfl (lv_room (Nat.le_of_ble_eq_true rfl)) zd_MP_frees_8 ⟨Nat.zero_le _, Nat.zero_le _⟩) (fun hz3 => ?_)
    refine lv_if_ne (tgt := 18) hx hb zd_MP_frees_11 (by decide) (fun c_4 => ?_) (fun c_4 => ?_)
    · have hf := mp_f c_4 hf
      refine lv_lconst (v := 0) hx hb zd_MP_frees_18 (by decide) ?_
      refine lv_lstore_n (lv' := [(3, .long (0 : Int64)), (0, .ref (ad 0)), (1, .int u1), (2, .int u2)]) hx hb zd_MP_frees_19 rfl hl (by decide) rfl (fun ls hl => ?_)
      refine lv_iconst (v := 0) hx hb zd_MP_frees_20 (by decide) ?_
      refine lv_istore (lv' := [(5, .int (0 : Int32)), (3, .long (0 : Int64)), (0, .ref (ad 0)), (1, .int u1), (2, .int u2)]) hx hb zd_MP_frees_21 hl (by decide) rfl (fun ls hl => ?_)
      exact loop23 u1 u2 2000 (0 : Int64) (0 : Int32) _ hf (lv_sub hl [2, 3, 4, 1, 0] rfl)
    · have hf := mp_t c_4 hf
      refine lv_ldc2 (v := -1) hx hb hown (hw _ zq_257) zd_MP_frees_14 ?_
      have hf := Option.some.inj hf
      subst hf
      exact W.lret (v := (-1 : Int64)) hx hb hr (fun t ht hW => ⟨(-1 : Int64), rfl, rfl, ht⟩) (fun q h => by cases h) zd_MP_frees_17
set_option maxHeartbeats 4000000 in
set_option maxRecDepth 100000 in
theorem zc_MP_version (l : Launch) (dC : Nat → ClassId) (dI : Nat → Nat → Nat) (cI cJ cZ : ClassId) (ad : Nat → Nat) (xgc : Int32) (xver : Nat → Int32) (u1 : Int32) (res : Int32) (hf : zf_MP_version u1 xgc xver = some res) : Met l zy_MP_version zw_MP_version ({ frames := 1, cells := 0, slots := 0, locals := 21 } : Room) (mp_PR (dC, dI) vwCl (mp_tys cI cJ cZ) [(ad 0, .inr (4, [.ref (ad 1), .ref (ad 2), .ref (ad 3), .ref (ad 4), .ref (ad 5), .ref (ad 6), .int xgc])), (ad 1, .inl (cI, 8, .inl xver))] [.ref (ad 0), .int u1]) (vp_Si (fun r => r = res)) 0 0 (fun _ => False) := by
  refine Met.ofW (cc := zb_MP_version) (maxL := 2) (ret := (some .int)) (by decide) rfl ?_
  intro p e s m args below meth c s₁ B hml hv
  obtain ⟨rfl, hP, hK, hN⟩ := hv
  have hx := B.exec
  have hb := B.bytes
  have hr := B.returns
  have hts := atoms_spec (ws := zw_MP_version) B.pre
  have hsub : ∀ w ∈ mp_tbl, w ∈ zw_MP_version := fun w h => List.mem_cons_of_mem _ h
  have hw : ∀ w ∈ mp_tbl, w.before _ s = true := fun w h => hts w (hsub w h)
  have hown : s.vm.findClass zR_MP = some m.cls := findClass_of_methodNamed B.named
  have hlocks := B.notSynchronized
  have hl := lv_entry ([.ref (ad 0), .int u1]) (n := 2) (Nat.le_of_ble_eq_true rfl)
  rw [lg_entry_eq]
  generalize (lg_sl ([.ref (ad 0), .int u1]) ++ List.replicate (2 - (lg_sl ([.ref (ad 0), .int u1])).length) Slot.unset).toArray = ls at hl ⊢
  have hl : lv_has ls 2 [(0, .ref (ad 0)), (1, .int u1)] := hl
  unfold zf_MP_version at hf
  refine lv_aload_n hx hb zd_MP_version_0 rfl (lv_at hl 0 rfl) ?_
  refine lv_iload_n hx hb zd_MP_version_1 rfl (lv_at hl 1 rfl) ?_
  obtain ⟨y1, hg1, hf⟩ := mp_bd hf
  refine mp_Rz (va_runV (As := [.int u1]) (rest := []) ⟨hx, hb, hml, hown, hts⟩ (zc_MP_isGood l dC dI cI cJ cZ ad xgc u1 y1 hg1) (cwV 1 hts (mp_gV hsub zq_186 zq_188 zq_0 zq_25 zq_189) rfl rfl rfl (by decide +kernel) ⟨Nat.le_of_ble_eq_true rfl, Nat.le_of_ble_eq_true rfl⟩) ⟨mp_blR, va_recv hK hP (ci := 4) (q0 := 0) rfl rfl, mp_preR hN hK (hP.sub [0] rfl)⟩ rfl rfl hl.1 rfl (lv_room (Nat.le_of_ble_eq_true rfl)) zd_MP_version_2 ⟨Nat.zero_le _, Nat.zero_le _⟩) (fun hz1 => ?_)
  refine lv_if_eq (tgt := 17) hx hb zd_MP_version_5 (by decide) (fun c_2 => ?_) (fun c_2 => ?_)
  · have hf := mp_t c_2 hf
    refine lv_iconst (v := -1) hx hb zd_MP_version_17 (by decide) ?_
    have hf := Option.some.inj hf
    subst hf
    exact W.iret (v := (-1 : Int32)) hx hb hr (fun t ht hW => ⟨(-1 : Int32), rfl, rfl, ht⟩) (fun q h => by cases h) zd_MP_version_18
  · have hf := mp_f c_2 hf
    refine lv_aload_n hx hb zd_MP_version_8 rfl (lv_at hl 0 rfl) ?_
    refine va_get (D := (dC, dI)) (ci := 4) (v := .ref (ad 1)) (C := zR_MP) (T := zT_MP) (N := 7) hx hb hts (fun w h => hsub w (zi_MP w h)) hown hK hP 0 rfl rfl 0 (by decide) (hw _ zq_152) (fun _ h9 => h9) rfl zd_MP_version_9 ?_
    refine lv_iload_n hx hb zd_MP_version_12 rfl (lv_at hl 1 rfl) ?_
    obtain ⟨h_3, hf⟩ := mp_in hf
    refine va_iald hx hb hK hP 1 0 rfl rfl (i := u1) h_3 zd_MP_version_13 ?_
    refine lv_goto (tgt := 18) hx hb zd_MP_version_14 (by decide) ?_
    have hf := Option.some.inj hf
    subst hf
    exact W.iret (v := (xver u1.toNatClampNeg)) hx hb hr (fun t ht hW => ⟨(xver u1.toNatClampNeg), rfl, rfl, ht⟩) (fun q h => by cases h) zd_MP_version_18
set_option maxHeartbeats 4000000 in
set_option maxRecDepth 100000 in
theorem zc_MP_isPerson (l : Launch) (dC : Nat → ClassId) (dI : Nat → Nat → Nat) (cI cJ cZ : ClassId) (ad : Nat → Nat) (u0 : Int32) (res : Int32) (hf : zf_MP_isPerson u0 = some res) : Met l zy_MP_isPerson zw_MP_isPerson ({ frames := 0, cells := 0, slots := 0, locals := 0 } : Room) (mp_PR (dC, dI) vwCl (mp_tys cI cJ cZ) [] [.int u0]) (vp_Si (fun r => r = res ∧ mp_b res)) 0 0 (fun _ => False) := by
  refine Met.ofW (cc := zb_MP_isPerson) (maxL := 1) (ret := (some .boolean)) (by decide) rfl ?_
  intro p e s m args below meth c s₁ B hml hv
  obtain ⟨rfl, hP, hK, hN⟩ := hv
  have hx := B.exec
  have hb := B.bytes
  have hr := B.returns
  have hts := atoms_spec (ws := zw_MP_isPerson) B.pre
  have hsub : ∀ w ∈ mp_tbl, w ∈ zw_MP_isPerson := fun w h => List.mem_cons_of_mem _ h
  have hw : ∀ w ∈ mp_tbl, w.before _ s = true := fun w h => hts w (hsub w h)
  have hown : s.vm.findClass zR_MP = some m.cls := findClass_of_methodNamed B.named
  have hlocks := B.notSynchronized
  have hl := lv_entry ([.int u0]) (n := 1) (Nat.le_of_ble_eq_true rfl)
  rw [lg_entry_eq]
  generalize (lg_sl ([.int u0]) ++ List.replicate (1 - (lg_sl ([.int u0])).length) Slot.unset).toArray = ls at hl ⊢
  have hl : lv_has ls 1 [(0, .int u0)] := hl
  unfold zf_MP_isPerson at hf
  refine lv_iload_n hx hb zd_MP_isPerson_0 rfl (lv_at hl 0 rfl) ?_
  refine lv_if_lt (tgt := 14) hx hb zd_MP_isPerson_1 (by decide) (fun c_1 => ?_) (fun c_1 => ?_)
  · have hf := mp_t c_1 hf
    refine lv_iconst (v := 0) hx hb zd_MP_isPerson_14 (by decide) ?_
    have hf := Option.some.inj hf
    subst hf
    exact W.zret (v := (0 : Int32)) hx hb hr (mp_nz (Or.inl rfl)) (fun t ht hW => ⟨(0 : Int32), rfl, ⟨rfl, (Or.inl rfl)⟩, ht⟩) (fun q h => by cases h) zd_MP_isPerson_15
  · have hf := mp_f c_1 hf
    refine lv_iload_n hx hb zd_MP_isPerson_4 rfl (lv_at hl 0 rfl) ?_
    refine lv_bipush (v := 8) hx hb zd_MP_isPerson_5 (by decide) ?_
    refine lv_icmp_ge (tgt := 14) hx hb zd_MP_isPerson_7 (by decide) (fun c_2 => ?_) (fun c_2 => ?_)
    · have hf := mp_t c_2 hf
      refine lv_iconst (v := 0) hx hb zd_MP_isPerson_14 (by decide) ?_
      have hf := Option.some.inj hf
      subst hf
      exact W.zret (v := (0 : Int32)) hx hb hr (mp_nz (Or.inl rfl)) (fun t ht hW => ⟨(0 : Int32), rfl, ⟨rfl, (Or.inl rfl)⟩, ht⟩) (fun q h => by cases h) zd_MP_isPerson_15
    · have hf := mp_f c_2 hf
      refine lv_iconst (v := 1) hx hb zd_MP_isPerson_10 (by decide) ?_
      refine lv_goto (tgt := 15) hx hb zd_MP_isPerson_11 (by decide) ?_
      have hf := Option.some.inj hf
      subst hf
      exact W.zret (v := (1 : Int32)) hx hb hr (mp_nz (Or.inr rfl)) (fun t ht hW => ⟨(1 : Int32), rfl, ⟨rfl, (Or.inr rfl)⟩, ht⟩) (fun q h => by cases h) zd_MP_isPerson_15
set_option maxHeartbeats 4000000 in
set_option maxRecDepth 100000 in
theorem zc_MP_rightIndex (l : Launch) (dC : Nat → ClassId) (dI : Nat → Nat → Nat) (cI cJ cZ : ClassId) (ad : Nat → Nat) (u0 : Int32) (u1 : Int32) (res : Int32) (hf : zf_MP_rightIndex u0 u1 = some res) : Met l zy_MP_rightIndex zw_MP_rightIndex ({ frames := 0, cells := 0, slots := 0, locals := 0 } : Room) (mp_PR (dC, dI) vwCl (mp_tys cI cJ cZ) [] [.int u0, .int u1]) (vp_Si (fun r => r = res)) 0 0 (fun _ => False) := by
  refine Met.ofW (cc := zb_MP_rightIndex) (maxL := 2) (ret := (some .int)) (by decide) rfl ?_
  intro p e s m args below meth c s₁ B hml hv
  obtain ⟨rfl, hP, hK, hN⟩ := hv
  have hx := B.exec
  have hb := B.bytes
  have hr := B.returns
  have hts := atoms_spec (ws := zw_MP_rightIndex) B.pre
  have hsub : ∀ w ∈ mp_tbl, w ∈ zw_MP_rightIndex := fun w h => List.mem_cons_of_mem _ h
  have hw : ∀ w ∈ mp_tbl, w.before _ s = true := fun w h => hts w (hsub w h)
  have hown : s.vm.findClass zR_MP = some m.cls := findClass_of_methodNamed B.named
  have hlocks := B.notSynchronized
  have hl := lv_entry ([.int u0, .int u1]) (n := 2) (Nat.le_of_ble_eq_true rfl)
  rw [lg_entry_eq]
  generalize (lg_sl ([.int u0, .int u1]) ++ List.replicate (2 - (lg_sl ([.int u0, .int u1])).length) Slot.unset).toArray = ls at hl ⊢
  have hl : lv_has ls 2 [(0, .int u0), (1, .int u1)] := hl
  unfold zf_MP_rightIndex at hf
  refine lv_iload_n hx hb zd_MP_rightIndex_0 rfl (lv_at hl 0 rfl) ?_
  refine lv_bipush (v := 8) hx hb zd_MP_rightIndex_1 (by decide) ?_
  refine lv_imul hx hb zd_MP_rightIndex_3 ?_
  refine lv_iload_n hx hb zd_MP_rightIndex_4 rfl (lv_at hl 1 rfl) ?_
  refine lv_iadd hx hb zd_MP_rightIndex_5 ?_
  have hf := Option.some.inj hf
  subst hf
  exact W.iret (v := ((u0 * (8 : Int32)) + u1)) hx hb hr (fun t ht hW => ⟨((u0 * (8 : Int32)) + u1), rfl, rfl, ht⟩) (fun q h => by cases h) zd_MP_rightIndex_6
set_option maxHeartbeats 4000000 in
set_option maxRecDepth 100000 in
theorem zc_MP_right (l : Launch) (dC : Nat → ClassId) (dI : Nat → Nat → Nat) (cI cJ cZ : ClassId) (ad : Nat → Nat) (sz : Nat) (xgc : Int32) (xrig : Nat → Int32) (u1 : Int32) (u2 : Int32) (u3 : Int32) (res : Int32 × (Nat → Int32)) (hf : zf_MP_right u1 u2 u3 xgc xrig = some res) : Met l zy_MP_right zw_MP_right ({ frames := 1, cells := 0, slots := 0, locals := 21 } : Room) (mp_PM (dC, dI) vwCl (mp_tys cI cJ cZ) [(ad 0, .inr (4, [.ref (ad 1), .ref (ad 2), .ref (ad 3), .ref (ad 4), .ref (ad 5), .ref (ad 6), .int xgc])), (ad 2, .inl (cZ, 64, .inl xrig))] sz [.ref (ad 0), .int u1, .int u2, .int u3]) (va_Qi (fun r (_ : Unit) => r = res.1 ∧ mp_b res.1) (mp_BM (dC, dI) vwCl [(ad 0, .inr (4, [.ref (ad 1), .ref (ad 2), .ref (ad 3), .ref (ad 4), .ref (ad 5), .ref (ad 6), .int xgc])), (ad 2, .inl (cZ, 64, .inl res.2))] (va_A [(ad 0, .inr (4, [.ref (ad 1), .ref (ad 2), .ref (ad 3), .ref (ad 4), .ref (ad 5), .ref (ad 6), .int xgc])), (ad 2, .inl (cZ, 64, .inl xrig))] sz)) (va_A [(ad 0, .inr (4, [.ref (ad 1), .ref (ad 2), .ref (ad 3), .ref (ad 4), .ref (ad 5), .ref (ad 6), .int xgc])), (ad 2, .inl (cZ, 64, .inl xrig))] sz)) 0 0 ((va_A [(ad 0, .inr (4, [.ref (ad 1), .ref (ad 2), .ref (ad 3), .ref (ad 4), .ref (ad 5), .ref (ad 6), .int xgc])), (ad 2, .inl (cZ, 64, .inl xrig))] sz)) := by
  refine Met.ofW (cc := zb_MP_right) (maxL := 4) (ret := (some .boolean)) (by decide) rfl ?_
  intro p e s m args below meth c s₁ B hml hv
  obtain ⟨rfl, hsz, hP, hK, hD0, hN⟩ := hv
  have hx := B.exec
  have hb := B.bytes
  have hr := B.returns
  have hts := atoms_spec (ws := zw_MP_right) B.pre
  have hsub : ∀ w ∈ mp_tbl, w ∈ zw_MP_right := fun w h => List.mem_cons_of_mem _ h
  have hw : ∀ w ∈ mp_tbl, w.before _ s = true := fun w h => hts w (hsub w h)
  have hown : s.vm.findClass zR_MP = some m.cls := findClass_of_methodNamed B.named
  have hlocks := B.notSynchronized
  subst hsz
  have hD := hD0.self (sz := s.heap.size)
  generalize hAe : va_A [(ad 0, .inr (4, [.ref (ad 1), .ref (ad 2), .ref (ad 3), .ref (ad 4), .ref (ad 5), .ref (ad 6), .int xgc])), (ad 2, .inl (cZ, 64, .inl xrig))] s.heap.size = A at hD ⊢
  have hA : ∀ q : Nat, s.heap.size ≤ q → A q := fun q h => by rw [← hAe]; exact Or.inr h
  have hS : va_S A s.heap s.heap [] := va_S.rf
  have hP : va_P (dC, dI) vwCl [(ad 0, .inr (4, [.ref (ad 1), .ref (ad 2), .ref (ad 3), .ref (ad 4), .ref (ad 5), .ref (ad 6), .int xgc])), (ad 2, .inl (cZ, 64, .inl xrig))] s.heap := hP
  clear hAe hD0
  have hl := lv_entry ([.ref (ad 0), .int u1, .int u2, .int u3]) (n := 4) (Nat.le_of_ble_eq_true rfl)
  rw [lg_entry_eq]
  generalize (lg_sl ([.ref (ad 0), .int u1, .int u2, .int u3]) ++ List.replicate (4 - (lg_sl ([.ref (ad 0), .int u1, .int u2, .int u3])).length) Slot.unset).toArray = ls at hl ⊢
  have hl : lv_has ls 4 [(0, .ref (ad 0)), (1, .int u1), (2, .int u2), (3, .int u3)] := hl
  unfold zf_MP_right at hf
  refine lv_iload_n hx hb zd_MP_right_0 rfl (lv_at hl 1 rfl) ?_
  obtain ⟨y1, hg1, hf⟩ := mp_bd hf
  refine mp_Rz (va_runS (As := [.int u1]) (rest := []) ⟨hx, hb, hml, hown, hts⟩ (zc_MP_isPerson l dC dI cI cJ cZ ad u1 y1 hg1) (va_cwS 1 hts (mp_gS hsub zq_293 zq_294 zq_25 zq_295) rfl rfl rfl (by decide +kernel) ⟨Nat.le_of_ble_eq_true rfl, Nat.le_of_ble_eq_true rfl⟩) ⟨mp_blR, mp_preR hN hK (hP.sub [] rfl)⟩ rfl rfl hl.1 rfl (lv_room (Nat.le_of_ble_eq_true rfl)) zd_MP_right_1 ⟨Nat.zero_le _, Nat.zero_le _⟩) (fun hz1 => ?_)
  refine lv_if_eq (tgt := 15) hx hb zd_MP_right_4 (by decide) (fun c_2 => ?_) (fun c_2 => ?_)
  · have hf := mp_t c_2 hf
    refine lv_iconst (v := 0) hx hb zd_MP_right_15 (by decide) ?_
    have hf := Option.some.inj hf
    subst hf
    exact W.zret (v := (0 : Int32)) hx hb hr (mp_nz (Or.inl rfl)) (fun t ht hW => ⟨⟨(0 : Int32), (), rfl, ⟨rfl, (Or.inl rfl)⟩, by rw [ht]; exact hP, hD⟩, hS.F ht⟩) hS.2.2 zd_MP_right_16
  · have hf := mp_f c_2 hf
    refine lv_aload_n hx hb zd_MP_right_7 rfl (lv_at hl 0 rfl) ?_
    refine lv_iload_n hx hb zd_MP_right_8 rfl (lv_at hl 2 rfl) ?_
    obtain ⟨y3, hg3, hf⟩ := mp_bd hf
    refine mp_Rz (va_runV (As := [.int u2]) (rest := []) ⟨hx, hb, hml, hown, hts⟩ (zc_MP_isGood l dC dI cI cJ cZ ad xgc u2 y3 hg3) (cwV 1 hts (mp_gV hsub zq_186 zq_188 zq_0 zq_25 zq_189) rfl rfl rfl (by decide +kernel) ⟨Nat.le_of_ble_eq_true rfl, Nat.le_of_ble_eq_true rfl⟩) ⟨mp_blR, va_recv hK hP (ci := 4) (q0 := 0) rfl rfl, mp_preR hN hK (hP.sub [0] rfl)⟩ rfl rfl hl.1 rfl (lv_room (Nat.le_of_ble_eq_true rfl)) zd_MP_right_9 ⟨Nat.zero_le _, Nat.zero_le _⟩) (fun hz3 => ?_)
    refine lv_if_ne (tgt := 17) hx hb zd_MP_right_12 (by decide) (fun c_4 => ?_) (fun c_4 => ?_)
    · have hf := mp_f c_4 hf
      refine lv_aload_n hx hb zd_MP_right_17 rfl (lv_at hl 0 rfl) ?_
      refine va_get (D := (dC, dI)) (ci := 4) (v := .ref (ad 2)) (C := zR_MP) (T := zT_MP) (N := 7) hx hb hts (fun w h => hsub w (zi_MP w h)) hown hK hP 0 rfl rfl 1 (by decide) (hw _ zq_153) (fun _ h9 => h9) rfl zd_MP_right_18 ?_
      refine lv_iload_n hx hb zd_MP_right_21 rfl (lv_at hl 1 rfl) ?_
      refine lv_iload_n hx hb zd_MP_right_22 rfl (lv_at hl 2 rfl) ?_
      obtain ⟨y5, hg5, hf⟩ := mp_bd hf
      refine mp_Ri (va_runS (As := [.int u1, .int u2]) (rest := [.ref (ad 2)]) ⟨hx, hb, hml, hown, hts⟩ (zc_MP_rightIndex l dC dI cI cJ cZ ad u1 u2 y5 hg5) (va_cwS 2 hts (mp_gS hsub zq_296 zq_297 zq_25 zq_298) rfl rfl rfl (by decide +kernel) ⟨Nat.le_of_ble_eq_true rfl, Nat.le_of_ble_eq_true rfl⟩) ⟨mp_blR, mp_preR hN hK (hP.sub [] rfl)⟩ rfl rfl hl.1 rfl (lv_room (Nat.le_of_ble_eq_true rfl)) zd_MP_right_23 ⟨Nat.zero_le _, Nat.zero_le _⟩) ?_
      refine lv_iload_n hx hb zd_MP_right_26 rfl (lv_at hl 3 rfl) ?_
      obtain ⟨h_6, hf⟩ := mp_in hf
      refine va_zast hx hb hK hP hD hS 1 2 rfl rfl (i := y5) (x := u3) h_6 zd_MP_right_27 (fun H locs hP hD hS => ?_)
      have hP : va_P (dC, dI) vwCl [(ad 0, .inr (4, [.ref (ad 1), .ref (ad 2), .ref (ad 3), .ref (ad 4), .ref (ad 5), .ref (ad 6), .int xgc])), (ad 2, .inl (cZ, 64, .inl (upd xrig y5.toNatClampNeg (vp_nar .boolean u3))))] H := hP
      have hD : va_D A [(ad 0, .inr (4, [.ref (ad 1), .ref (ad 2), .ref (ad 3), .ref (ad 4), .ref (ad 5), .ref (ad 6), .int xgc])), (ad 2, .inl (cZ, 64, .inl (upd xrig y5.toNatClampNeg (vp_nar .boolean u3))))] := hD
      refine lv_iconst (v := 1) hx hb zd_MP_right_28 (by decide) ?_
      have hf := Option.some.inj hf
      subst hf
      exact W.zret (v := (1 : Int32)) hx hb hr (mp_nz (Or.inr rfl)) (fun t ht hW => ⟨⟨(1 : Int32), (), rfl, ⟨rfl, (Or.inr rfl)⟩, by rw [ht]; exact hP, hD⟩, hS.F ht⟩) hS.2.2 zd_MP_right_29
    · have hf := mp_t c_4 hf
      refine lv_iconst (v := 0) hx hb zd_MP_right_15 (by decide) ?_
      have hf := Option.some.inj hf
      subst hf
      exact W.zret (v := (0 : Int32)) hx hb hr (mp_nz (Or.inl rfl)) (fun t ht hW => ⟨⟨(0 : Int32), (), rfl, ⟨rfl, (Or.inl rfl)⟩, by rw [ht]; exact hP, hD⟩, hS.F ht⟩) hS.2.2 zd_MP_right_16
set_option maxHeartbeats 4000000 in
set_option maxRecDepth 100000 in
theorem zc_Pa_ownPart (l : Launch) (dC : Nat → ClassId) (dI : Nat → Nat → Nat) (cI cJ cZ : ClassId) (ad : Nat → Nat) (xpn : Int32) (xpo : Nat → Int32) (u1 : Int32) (u2 : Int32) (res : Int32) (hf : zf_Pa_ownPart u1 u2 xpn xpo = some res) : Met l zy_Pa_ownPart zw_Pa_ownPart ({ frames := 0, cells := 0, slots := 0, locals := 0 } : Room) (mp_PR (dC, dI) vwCl (mp_tys cI cJ cZ) [(ad 3, .inr (3, [.ref (ad 7), .ref (ad 8), .ref (ad 9), .ref (ad 10), .ref (ad 11), .ref (ad 12), .int xpn])), (ad 7, .inl (cI, 24, .inl xpo))] [.ref (ad 3), .int u1, .int u2]) (vp_Si (fun r => r = res)) 0 0 (fun _ => False) := by
  refine Met.ofW (cc := zb_Pa_ownPart) (maxL := 5) (ret := (some .int)) (by decide) rfl ?_
  intro p e s m args below meth c s₁ B hml hv
  obtain ⟨rfl, hP, hK, hN⟩ := hv
  have hx := B.exec
  have hb := B.bytes
  have hr := B.returns
  have hts := atoms_spec (ws := zw_Pa_ownPart) B.pre
  have hsub : ∀ w ∈ mp_tbl, w ∈ zw_Pa_ownPart := fun w h => List.mem_cons_of_mem _ h
  have hw : ∀ w ∈ mp_tbl, w.before _ s = true := fun w h => hts w (hsub w h)
  have hown : s.vm.findClass zR_Pa = some m.cls := findClass_of_methodNamed B.named
  have hlocks := B.notSynchronized
  have loop5 : ∀ (v1 : Int32) (v2 : Int32) (n : Nat) (v3 : Int32) (v4 : Int32) (ls : Array Slot), zf_Pa_ownPart_L5 v1 v2 xpn xpo n v3 v4 = some res → lv_has ls 5 [(0, .ref (ad 3)), (1, .int v1), (2, .int v2), (3, .int v3), (4, .int v4)] → W p l e (headSpec zw_Pa_ownPart ({ frames := 0, cells := 0, slots := 0, locals := 0 } : Room)).room s m ([.ref (ad 3), .int u1, .int u2] : List Value).toArray below meth c s.heap [] 0 0 (MQ below (vp_Si (fun r => r = res)) ([.ref (ad 3), .int u1, .int u2] : List Value).toArray s 0 0 (fun _ => False)) (F0 m 5 ls []) := by
    intro v1 v2 n
    induction n with
    | zero => intro v3 v4 ls hf; simp [zf_Pa_ownPart_L5] at hf
    | succ n ih =>
      intro v3 v4 ls hf hl
      rw [zf_Pa_ownPart_L5] at hf
      refine lv_iload hx hb zd_Pa_ownPart_5 (lv_at hl 4 rfl) ?_
      refine lv_aload_n hx hb zd_Pa_ownPart_7 rfl (lv_at hl 0 rfl) ?_
      refine va_get (D := (dC, dI)) (ci := 3) (v := .int xpn) (C := zR_Pa) (T := zT_Pa) (N := 7) hx hb hts (fun w h => hsub w (zi_Pa w h)) hown hK hP 0 rfl rfl 6 (by decide) (hw _ zq_87) (fun _ h9 => h9) rfl zd_Pa_ownPart_8 ?_
      refine lv_icmp_ge (tgt := 42) hx hb zd_Pa_ownPart_11 (by decide) (fun c_1 => ?_) (fun c_1 => ?_)
      · have hf := mp_t c_1 hf
        refine lv_iconst (v := -1) hx hb zd_Pa_ownPart_42 (by decide) ?_
        have hf := Option.some.inj hf
        subst hf
        exact W.iret (v := (-1 : Int32)) hx hb hr (fun t ht hW => ⟨(-1 : Int32), rfl, rfl, ht⟩) (fun q h => by cases h) zd_Pa_ownPart_43
      · have hf := mp_f c_1 hf
        refine lv_aload_n hx hb zd_Pa_ownPart_14 rfl (lv_at hl 0 rfl) ?_
        refine va_get (D := (dC, dI)) (ci := 3) (v := .ref (ad 7)) (C := zR_Pa) (T := zT_Pa) (N := 7) hx hb hts (fun w h => hsub w (zi_Pa w h)) hown hK hP 0 rfl rfl 0 (by decide) (hw _ zq_75) (fun _ h9 => h9) rfl zd_Pa_ownPart_15 ?_
        refine lv_iload hx hb zd_Pa_ownPart_18 (lv_at hl 4 rfl) ?_
        obtain ⟨h_2, hf⟩ := mp_in hf
        refine va_iald hx hb hK hP 1 0 rfl rfl (i := v4) h_2 zd_Pa_ownPart_20 ?_
        refine lv_iload_n hx hb zd_Pa_ownPart_21 rfl (lv_at hl 1 rfl) ?_
        refine lv_icmp_ne (tgt := 36) hx hb zd_Pa_ownPart_22 (by decide) (fun c_3 => ?_) (fun c_3 => ?_)
        · have hf := mp_f c_3 hf
          refine lv_iinc (v := (v4 + (1 : Int32))) (lv' := [(4, .int (v4 + (1 : Int32))), (0, .ref (ad 3)), (1, .int v1), (2, .int v2), (3, .int v3)]) hx hb zd_Pa_ownPart_36 hl (k := 4) rfl rfl (by decide) rfl (fun ls hl => ?_)
          refine lv_goto (tgt := 5) hx hb zd_Pa_ownPart_39 (by decide) ?_
          exact ih v3 (v4 + (1 : Int32)) _ hf (lv_sub hl [1, 2, 3, 4, 0] rfl)
        · have hf := mp_t c_3 hf
          refine lv_iload_n hx hb zd_Pa_ownPart_25 rfl (lv_at hl 3 rfl) ?_
          refine lv_iload_n hx hb zd_Pa_ownPart_26 rfl (lv_at hl 2 rfl) ?_
          refine lv_icmp_ne (tgt := 33) hx hb zd_Pa_ownPart_27 (by decide) (fun c_4 => ?_) (fun c_4 => ?_)
          · have hf := mp_f c_4 hf
            refine lv_iinc (v := (v3 + (1 : Int32))) (lv' := [(3, .int (v3 + (1 : Int32))), (0, .ref (ad 3)), (1, .int v1), (2, .int v2), (4, .int v4)]) hx hb zd_Pa_ownPart_33 hl (k := 3) rfl rfl (by decide) rfl (fun ls hl => ?_)
            refine lv_iinc (v := (v4 + (1 : Int32))) (lv' := [(4, .int (v4 + (1 : Int32))), (3, .int (v3 + (1 : Int32))), (0, .ref (ad 3)), (1, .int v1), (2, .int v2)]) hx hb zd_Pa_ownPart_36 hl (k := 4) rfl rfl (by decide) rfl (fun ls hl => ?_)
            refine lv_goto (tgt := 5) hx hb zd_Pa_ownPart_39 (by decide) ?_
            exact ih (v3 + (1 : Int32)) (v4 + (1 : Int32)) _ hf (lv_sub hl [2, 3, 4, 1, 0] rfl)
          · have hf := mp_t c_4 hf
            refine lv_iload hx hb zd_Pa_ownPart_30 (lv_at hl 4 rfl) ?_
            have hf := Option.some.inj hf
            subst hf
            exact W.iret (v := v4) hx hb hr (fun t ht hW => ⟨v4, rfl, rfl, ht⟩) (fun q h => by cases h) zd_Pa_ownPart_32
  have hl := lv_entry ([.ref (ad 3), .int u1, .int u2]) (n := 5) (Nat.le_of_ble_eq_true rfl)
  rw [lg_entry_eq]
  generalize (lg_sl ([.ref (ad 3), .int u1, .int u2]) ++ List.replicate (5 - (lg_sl ([.ref (ad 3), .int u1, .int u2])).length) Slot.unset).toArray = ls at hl ⊢
  have hl : lv_has ls 5 [(0, .ref (ad 3)), (1, .int u1), (2, .int u2)] := hl
  unfold zf_Pa_ownPart at hf
  refine lv_iconst (v := 0) hx hb zd_Pa_ownPart_0 (by decide) ?_
  refine lv_istore_n (lv' := [(3, .int (0 : Int32)), (0, .ref (ad 3)), (1, .int u1), (2, .int u2)]) hx hb zd_Pa_ownPart_1 rfl hl (by decide) rfl (fun ls hl => ?_)
  refine lv_iconst (v := 0) hx hb zd_Pa_ownPart_2 (by decide) ?_
  refine lv_istore (lv' := [(4, .int (0 : Int32)), (3, .int (0 : Int32)), (0, .ref (ad 3)), (1, .int u1), (2, .int u2)]) hx hb zd_Pa_ownPart_3 hl (by decide) rfl (fun ls hl => ?_)
  exact loop5 u1 u2 2000 (0 : Int32) (0 : Int32) _ hf (lv_sub hl [2, 3, 4, 1, 0] rfl)
set_option maxHeartbeats 4000000 in
set_option maxRecDepth 100000 in
theorem zc_Pa_ownGrams (l : Launch) (dC : Nat → ClassId) (dI : Nat → Nat → Nat) (cI cJ cZ : ClassId) (ad : Nat → Nat) (xpn : Int32) (xpo : Nat → Int32) (xpk : Nat → Int32) (xpg : Nat → Int64) (xcn : Int32) (xcp : Nat → Int32) (xcd : Nat → Int64) (xck : Nat → Int32) (xcg : Nat → Int64) (u1 : Int32) (u2 : Int32) (u3 : Int64) (res : Int64) (hf : zf_Pa_ownGrams u1 u2 u3 xpn xpo xpk xpg xcn xcp xcd xck xcg = some res) : Met l zy_Pa_ownGrams zw_Pa_ownGrams ({ frames := 2, cells := 0, slots := 0, locals := 49 } : Room) (mp_PR (dC, dI) vwCl (mp_tys cI cJ cZ) [(ad 3, .inr (3, [.ref (ad 7), .ref (ad 8), .ref (ad 9), .ref (ad 10), .ref (ad 11), .ref (ad 12), .int xpn])), (ad 7, .inl (cI, 24, .inl xpo)), (ad 8, .inl (cI, 24, .inl xpk)), (ad 9, .inl (cJ, 24, .inr (.inl xpg))), (ad 12, .inr (0, [.ref (ad 13), .ref (ad 14), .ref (ad 15), .ref (ad 16), .int xcn])), (ad 13, .inl (cI, 20, .inl xcp)), (ad 14, .inl (cJ, 20, .inr (.inl xcd))), (ad 15, .inl (cI, 20, .inl xck)), (ad 16, .inl (cJ, 20, .inr (.inl xcg)))] [.ref (ad 3), .int u1, .int u2, .long u3]) (vp_Sl (fun r => r = res)) 0 0 (fun _ => False) := by
  refine Met.ofW (cc := zb_Pa_ownGrams) (maxL := 8) (ret := (some .long)) (by decide) rfl ?_
  intro p e s m args below meth c s₁ B hml hv
  obtain ⟨rfl, hP, hK, hN⟩ := hv
  have hx := B.exec
  have hb := B.bytes
  have hr := B.returns
  have hts := atoms_spec (ws := zw_Pa_ownGrams) B.pre
  have hsub : ∀ w ∈ mp_tbl, w ∈ zw_Pa_ownGrams := fun w h => List.mem_cons_of_mem _ h
  have hw : ∀ w ∈ mp_tbl, w.before _ s = true := fun w h => hts w (hsub w h)
  have hown : s.vm.findClass zR_Pa = some m.cls := findClass_of_methodNamed B.named
  have hlocks := B.notSynchronized
  have loop6 : ∀ (v1 : Int32) (v2 : Int32) (v3 : Int64) (n : Nat) (v5 : Int64) (v7 : Int32) (ls : Array Slot), zf_Pa_ownGrams_L6 v1 v2 v3 xpn xpo xpk xpg xcn xcp xcd xck xcg n v5 v7 = some res → lv_has ls 8 [(0, .ref (ad 3)), (1, .int v1), (2, .int v2), (3, .long v3), (5, .long v5), (7, .int v7)] → W p l e (headSpec zw_Pa_ownGrams ({ frames := 2, cells := 0, slots := 0, locals := 49 } : Room)).room s m ([.ref (ad 3), .int u1, .int u2, .long u3] : List Value).toArray below meth c s.heap [] 0 0 (MQ below (vp_Sl (fun r => r = res)) ([.ref (ad 3), .int u1, .int u2, .long u3] : List Value).toArray s 0 0 (fun _ => False)) (F0 m 6 ls []) := by
    intro v1 v2 v3 n
    induction n with
    | zero => intro v5 v7 ls hf; simp [zf_Pa_ownGrams_L6] at hf
    | succ n ih =>
      intro v5 v7 ls hf hl
      rw [zf_Pa_ownGrams_L6] at hf
      refine lv_iload hx hb zd_Pa_ownGrams_6 (lv_at hl 5 rfl) ?_
      refine lv_aload_n hx hb zd_Pa_ownGrams_8 rfl (lv_at hl 0 rfl) ?_
      refine va_get (D := (dC, dI)) (ci := 3) (v := .int xpn) (C := zR_Pa) (T := zT_Pa) (N := 7) hx hb hts (fun w h => hsub w (zi_Pa w h)) hown hK hP 0 rfl rfl 6 (by decide) (hw _ zq_87) (fun _ h9 => h9) rfl zd_Pa_ownGrams_9 ?_
      refine lv_icmp_ge (tgt := 55) hx hb zd_Pa_ownGrams_12 (by decide) (fun c_1 => ?_) (fun c_1 => ?_)
      · have hf := mp_t c_1 hf
        refine lv_lload hx hb zd_Pa_ownGrams_55 (lv_at hl 4 rfl) ?_
        have hf := Option.some.inj hf
        subst hf
        exact W.lret (v := v5) hx hb hr (fun t ht hW => ⟨v5, rfl, rfl, ht⟩) (fun q h => by cases h) zd_Pa_ownGrams_57
      · have hf := mp_f c_1 hf
        refine lv_aload_n hx hb zd_Pa_ownGrams_15 rfl (lv_at hl 0 rfl) ?_
        refine va_get (D := (dC, dI)) (ci := 3) (v := .ref (ad 7)) (C := zR_Pa) (T := zT_Pa) (N := 7) hx hb hts (fun w h => hsub w (zi_Pa w h)) hown hK hP 0 rfl rfl 0 (by decide) (hw _ zq_75) (fun _ h9 => h9) rfl zd_Pa_ownGrams_16 ?_
        refine lv_iload hx hb zd_Pa_ownGrams_19 (lv_at hl 5 rfl) ?_
        obtain ⟨h_2, hf⟩ := mp_in hf
        refine va_iald hx hb hK hP 1 0 rfl rfl (i := v7) h_2 zd_Pa_ownGrams_21 ?_
        refine lv_iload_n hx hb zd_Pa_ownGrams_22 rfl (lv_at hl 1 rfl) ?_
        refine lv_icmp_ne (tgt := 49) hx hb zd_Pa_ownGrams_23 (by decide) (fun c_3 => ?_) (fun c_3 => ?_)
        · have hf := mp_f c_3 hf
          refine lv_iinc (v := (v7 + (1 : Int32))) (lv' := [(7, .int (v7 + (1 : Int32))), (0, .ref (ad 3)), (1, .int v1), (2, .int v2), (3, .long v3), (5, .long v5)]) hx hb zd_Pa_ownGrams_49 hl (k := 5) rfl rfl (by decide) rfl (fun ls hl => ?_)
          refine lv_goto (tgt := 6) hx hb zd_Pa_ownGrams_52 (by decide) ?_
          exact ih v5 (v7 + (1 : Int32)) _ hf (lv_sub hl [1, 2, 3, 4, 5, 0] rfl)
        · have hf := mp_t c_3 hf
          refine lv_aload_n hx hb zd_Pa_ownGrams_26 rfl (lv_at hl 0 rfl) ?_
          refine lv_iload hx hb zd_Pa_ownGrams_27 (lv_at hl 5 rfl) ?_
          refine lv_lload_n hx hb zd_Pa_ownGrams_29 rfl (lv_at hl 3 rfl) ?_
          obtain ⟨y4, hg4, hf⟩ := mp_bd hf
          refine mp_Ri (va_runV (As := [.int v7, .long v3]) (rest := []) ⟨hx, hb, hml, hown, hts⟩ (zc_Pa_kindOn l dC dI cI cJ cZ ad xpn xpk xcn xcp xcd xck v7 v3 y4 hg4) (cwV 2 hts (mp_gV hsub zq_311 zq_275 zq_276 zq_26 zq_277) rfl rfl rfl (by decide +kernel) ⟨Nat.le_of_ble_eq_true rfl, Nat.le_of_ble_eq_true rfl⟩) ⟨mp_blR, va_recv hK hP (ci := 3) (q0 := 0) rfl rfl, mp_preR hN hK (hP.sub [0, 2, 4, 5, 6, 7] rfl)⟩ rfl rfl hl.1 rfl (lv_room (Nat.le_of_ble_eq_true rfl)) zd_Pa_ownGrams_30 ⟨Nat.zero_le _, Nat.zero_le _⟩) ?_
          refine lv_iload_n hx hb zd_Pa_ownGrams_33 rfl (lv_at hl 2 rfl) ?_
          refine lv_icmp_ne (tgt := 49) hx hb zd_Pa_ownGrams_34 (by decide) (fun c_5 => ?_) (fun c_5 => ?_)
          · have hf := mp_f c_5 hf
            refine lv_iinc (v := (v7 + (1 : Int32))) (lv' := [(7, .int (v7 + (1 : Int32))), (0, .ref (ad 3)), (1, .int v1), (2, .int v2), (3, .long v3), (5, .long v5)]) hx hb zd_Pa_ownGrams_49 hl (k := 5) rfl rfl (by decide) rfl (fun ls hl => ?_)
            refine lv_goto (tgt := 6) hx hb zd_Pa_ownGrams_52 (by decide) ?_
            exact ih v5 (v7 + (1 : Int32)) _ hf (lv_sub hl [1, 2, 3, 4, 5, 0] rfl)
          · have hf := mp_t c_5 hf
            refine lv_lload hx hb zd_Pa_ownGrams_37 (lv_at hl 4 rfl) ?_
            refine lv_aload_n hx hb zd_Pa_ownGrams_39 rfl (lv_at hl 0 rfl) ?_
            refine lv_iload hx hb zd_Pa_ownGrams_40 (lv_at hl 5 rfl) ?_
            refine lv_lload_n hx hb zd_Pa_ownGrams_42 rfl (lv_at hl 3 rfl) ?_
            obtain ⟨y6, hg6, hf⟩ := mp_bd hf
            refine mp_Rl (va_runV (As := [.int v7, .long v3]) (rest := [.long v5]) ⟨hx, hb, hml, hown, hts⟩ (zc_Pa_gramsOn l dC dI cI cJ cZ ad xpn xpg xcn xcp xcd xcg v7 v3 y6 hg6) (cwV 2 hts (mp_gV hsub zq_312 zq_267 zq_268 zq_26 zq_269) rfl rfl rfl (by decide +kernel) ⟨Nat.le_of_ble_eq_true rfl, Nat.le_of_ble_eq_true rfl⟩) ⟨mp_blR, va_recv hK hP (ci := 3) (q0 := 0) rfl rfl, mp_preR hN hK (hP.sub [0, 3, 4, 5, 6, 8] rfl)⟩ rfl rfl hl.1 rfl (lv_room (Nat.le_of_ble_eq_true rfl)) zd_Pa_ownGrams_43 ⟨Nat.zero_le _, Nat.zero_le _⟩) ?_
            refine lv_ladd hx hb zd_Pa_ownGrams_46 ?_
            refine lv_lstore (lv' := [(5, .long (v5 + y6)), (0, .ref (ad 3)), (1, .int v1), (2, .int v2), (3, .long v3), (7, .int v7)]) hx hb zd_Pa_ownGrams_47 hl (by decide) rfl (fun ls hl => ?_)
            refine lv_iinc (v := (v7 + (1 : Int32))) (lv' := [(7, .int (v7 + (1 : Int32))), (5, .long (v5 + y6)), (0, .ref (ad 3)), (1, .int v1), (2, .int v2), (3, .long v3)]) hx hb zd_Pa_ownGrams_49 hl (k := 5) rfl rfl (by decide) rfl (fun ls hl => ?_)
            refine lv_goto (tgt := 6) hx hb zd_Pa_ownGrams_52 (by decide) ?_
            exact ih (v5 + y6) (v7 + (1 : Int32)) _ hf (lv_sub hl [2, 3, 4, 5, 1, 0] rfl)
  have hl := lv_entry ([.ref (ad 3), .int u1, .int u2, .long u3]) (n := 8) (Nat.le_of_ble_eq_true rfl)
  rw [lg_entry_eq]
  generalize (lg_sl ([.ref (ad 3), .int u1, .int u2, .long u3]) ++ List.replicate (8 - (lg_sl ([.ref (ad 3), .int u1, .int u2, .long u3])).length) Slot.unset).toArray = ls at hl ⊢
  have hl : lv_has ls 8 [(0, .ref (ad 3)), (1, .int u1), (2, .int u2), (3, .long u3)] := hl
  unfold zf_Pa_ownGrams at hf
  refine lv_lconst (v := 0) hx hb zd_Pa_ownGrams_0 (by decide) ?_
  refine lv_lstore (lv' := [(5, .long (0 : Int64)), (0, .ref (ad 3)), (1, .int u1), (2, .int u2), (3, .long u3)]) hx hb zd_Pa_ownGrams_1 hl (by decide) rfl (fun ls hl => ?_)
  refine lv_iconst (v := 0) hx hb zd_Pa_ownGrams_3 (by decide) ?_
  refine lv_istore (lv' := [(7, .int (0 : Int32)), (5, .long (0 : Int64)), (0, .ref (ad 3)), (1, .int u1), (2, .int u2), (3, .long u3)]) hx hb zd_Pa_ownGrams_4 hl (by decide) rfl (fun ls hl => ?_)
  exact loop6 u1 u2 u3 2000 (0 : Int64) (0 : Int32) _ hf (lv_sub hl [2, 3, 4, 5, 1, 0] rfl)
set_option maxHeartbeats 4000000 in
set_option maxRecDepth 100000 in
theorem zc_MP_seen (l : Launch) (dC : Nat → ClassId) (dI : Nat → Nat → Nat) (cI cJ cZ : ClassId) (ad : Nat → Nat) (xgc : Int32) (xrig : Nat → Int32) (xpn : Int32) (xpo : Nat → Int32) (xpk : Nat → Int32) (xpg : Nat → Int64) (xpl : Nat → Int32) (xcn : Int32) (xcp : Nat → Int32) (xcd : Nat → Int64) (xck : Nat → Int32) (xcg : Nat → Int64) (u1 : Int32) (u2 : Int32) (u3 : Int32) (u4 : Int32) (res : Int64) (hf : zf_MP_seen u1 u2 u3 u4 xgc xrig xpn xpo xpk xpg xpl xcn xcp xcd xck xcg = some res) : Met l zy_MP_seen zw_MP_seen ({ frames := 3, cells := 0, slots := 0, locals := 76 } : Room) (mp_PR (dC, dI) vwCl (mp_tys cI cJ cZ) [(ad 0, .inr (4, [.ref (ad 1), .ref (ad 2), .ref (ad 3), .ref (ad 4), .ref (ad 5), .ref (ad 6), .int xgc])), (ad 2, .inl (cZ, 64, .inl xrig)), (ad 3, .inr (3, [.ref (ad 7), .ref (ad 8), .ref (ad 9), .ref (ad 10), .ref (ad 11), .ref (ad 12), .int xpn])), (ad 7, .inl (cI, 24, .inl xpo)), (ad 8, .inl (cI, 24, .inl xpk)), (ad 9, .inl (cJ, 24, .inr (.inl xpg))), (ad 10, .inl (cI, 24, .inl xpl)), (ad 12, .inr (0, [.ref (ad 13), .ref (ad 14), .ref (ad 15), .ref (ad 16), .int xcn])), (ad 13, .inl (cI, 20, .inl xcp)), (ad 14, .inl (cJ, 20, .inr (.inl xcd))), (ad 15, .inl (cI, 20, .inl xck)), (ad 16, .inl (cJ, 20, .inr (.inl xcg)))] [.ref (ad 0), .int u1, .int u2, .int u3, .int u4]) (vp_Sl (fun r => r = res)) 0 0 (fun _ => False) := by
  refine Met.ofW (cc := zb_MP_seen) (maxL := 8) (ret := (some .long)) (by decide) rfl ?_
  intro p e s m args below meth c s₁ B hml hv
  obtain ⟨rfl, hP, hK, hN⟩ := hv
  have hx := B.exec
  have hb := B.bytes
  have hr := B.returns
  have hts := atoms_spec (ws := zw_MP_seen) B.pre
  have hsub : ∀ w ∈ mp_tbl, w ∈ zw_MP_seen := fun w h => List.mem_cons_of_mem _ h
  have hw : ∀ w ∈ mp_tbl, w.before _ s = true := fun w h => hts w (hsub w h)
  have hown : s.vm.findClass zR_MP = some m.cls := findClass_of_methodNamed B.named
  have hlocks := B.notSynchronized
  have hl := lv_entry ([.ref (ad 0), .int u1, .int u2, .int u3, .int u4]) (n := 8) (Nat.le_of_ble_eq_true rfl)
  rw [lg_entry_eq]
  generalize (lg_sl ([.ref (ad 0), .int u1, .int u2, .int u3, .int u4]) ++ List.replicate (8 - (lg_sl ([.ref (ad 0), .int u1, .int u2, .int u3, .int u4])).length) Slot.unset).toArray = ls at hl ⊢
  have hl : lv_has ls 8 [(0, .ref (ad 0)), (1, .int u1), (2, .int u2), (3, .int u3), (4, .int u4)] := hl
  unfold zf_MP_seen at hf
  refine lv_iload_n hx hb zd_MP_seen_0 rfl (lv_at hl 1 rfl) ?_
  obtain ⟨y1, hg1, hf⟩ := mp_bd hf
  refine mp_Rz (va_runS (As := [.int u1]) (rest := []) ⟨hx, hb, hml, hown, hts⟩ (zc_MP_isPerson l dC dI cI cJ cZ ad u1 y1 hg1) (va_cwS 1 hts (mp_gS hsub zq_293 zq_294 zq_25 zq_295) rfl rfl rfl (by decide +kernel) ⟨Nat.le_of_ble_eq_true rfl, Nat.le_of_ble_eq_true rfl⟩) ⟨mp_blR, mp_preR hN hK (hP.sub [] rfl)⟩ rfl rfl hl.1 rfl (lv_room (Nat.le_of_ble_eq_true rfl)) zd_MP_seen_1 ⟨Nat.zero_le _, Nat.zero_le _⟩) (fun hz1 => ?_)
  refine lv_if_eq (tgt := 15) hx hb zd_MP_seen_4 (by decide) (fun c_2 => ?_) (fun c_2 => ?_)
  · have hf := mp_t c_2 hf
    refine lv_ldc2 (v := -1) hx hb hown (hw _ zq_257) zd_MP_seen_15 ?_
    have hf := Option.some.inj hf
    subst hf
    exact W.lret (v := (-1 : Int64)) hx hb hr (fun t ht hW => ⟨(-1 : Int64), rfl, rfl, ht⟩) (fun q h => by cases h) zd_MP_seen_18
  · have hf := mp_f c_2 hf
    refine lv_aload_n hx hb zd_MP_seen_7 rfl (lv_at hl 0 rfl) ?_
    refine lv_iload_n hx hb zd_MP_seen_8 rfl (lv_at hl 2 rfl) ?_
    obtain ⟨y3, hg3, hf⟩ := mp_bd hf
    refine mp_Rz (va_runV (As := [.int u2]) (rest := []) ⟨hx, hb, hml, hown, hts⟩ (zc_MP_isGood l dC dI cI cJ cZ ad xgc u2 y3 hg3) (cwV 1 hts (mp_gV hsub zq_186 zq_188 zq_0 zq_25 zq_189) rfl rfl rfl (by decide +kernel) ⟨Nat.le_of_ble_eq_true rfl, Nat.le_of_ble_eq_true rfl⟩) ⟨mp_blR, va_recv hK hP (ci := 4) (q0 := 0) rfl rfl, mp_preR hN hK (hP.sub [0] rfl)⟩ rfl rfl hl.1 rfl (lv_room (Nat.le_of_ble_eq_true rfl)) zd_MP_seen_9 ⟨Nat.zero_le _, Nat.zero_le _⟩) (fun hz3 => ?_)
    refine lv_if_ne (tgt := 19) hx hb zd_MP_seen_12 (by decide) (fun c_4 => ?_) (fun c_4 => ?_)
    · have hf := mp_f c_4 hf
      refine lv_aload_n hx hb zd_MP_seen_19 rfl (lv_at hl 0 rfl) ?_
      refine va_get (D := (dC, dI)) (ci := 4) (v := .ref (ad 3)) (C := zR_MP) (T := zT_MP) (N := 7) hx hb hts (fun w h => hsub w (zi_MP w h)) hown hK hP 0 rfl rfl 2 (by decide) (hw _ zq_154) (fun _ h9 => h9) rfl zd_MP_seen_20 ?_
      refine lv_iload_n hx hb zd_MP_seen_23 rfl (lv_at hl 2 rfl) ?_
      refine lv_iload_n hx hb zd_MP_seen_24 rfl (lv_at hl 3 rfl) ?_
      obtain ⟨y5, hg5, hf⟩ := mp_bd hf
      refine mp_Ri (va_runV (As := [.int u2, .int u3]) (rest := []) ⟨hx, hb, hml, hown, hts⟩ (zc_Pa_ownPart l dC dI cI cJ cZ ad xpn xpo u2 u3 y5 hg5) (cwV 2 hts (mp_gV hsub zq_303 zq_304 zq_305 zq_26 zq_306) rfl rfl rfl (by decide +kernel) ⟨Nat.le_of_ble_eq_true rfl, Nat.le_of_ble_eq_true rfl⟩) ⟨mp_blR, va_recv hK hP (ci := 3) (q0 := 2) rfl rfl, mp_preR hN hK (hP.sub [2, 3] rfl)⟩ rfl rfl hl.1 rfl (lv_room (Nat.le_of_ble_eq_true rfl)) zd_MP_seen_25 ⟨Nat.zero_le _, Nat.zero_le _⟩) ?_
      refine lv_istore (lv' := [(5, .int y5), (0, .ref (ad 0)), (1, .int u1), (2, .int u2), (3, .int u3), (4, .int u4)]) hx hb zd_MP_seen_28 hl (by decide) rfl (fun ls hl => ?_)
      refine lv_iload hx hb zd_MP_seen_30 (lv_at hl 0 rfl) ?_
      refine lv_iconst (v := -1) hx hb zd_MP_seen_32 (by decide) ?_
      refine lv_icmp_ne (tgt := 40) hx hb zd_MP_seen_33 (by decide) (fun c_6 => ?_) (fun c_6 => ?_)
      · have hf := mp_f c_6 hf
        refine lv_aload_n hx hb zd_MP_seen_40 rfl (lv_at hl 1 rfl) ?_
        refine va_get (D := (dC, dI)) (ci := 4) (v := .ref (ad 2)) (C := zR_MP) (T := zT_MP) (N := 7) hx hb hts (fun w h => hsub w (zi_MP w h)) hown hK hP 0 rfl rfl 1 (by decide) (hw _ zq_153) (fun _ h9 => h9) rfl zd_MP_seen_41 ?_
        refine lv_iload_n hx hb zd_MP_seen_44 rfl (lv_at hl 2 rfl) ?_
        refine lv_iload_n hx hb zd_MP_seen_45 rfl (lv_at hl 3 rfl) ?_
        obtain ⟨y7, hg7, hf⟩ := mp_bd hf
        refine mp_Ri (va_runS (As := [.int u1, .int u2]) (rest := [.ref (ad 2)]) ⟨hx, hb, hml, hown, hts⟩ (zc_MP_rightIndex l dC dI cI cJ cZ ad u1 u2 y7 hg7) (va_cwS 2 hts (mp_gS hsub zq_296 zq_297 zq_25 zq_298) rfl rfl rfl (by decide +kernel) ⟨Nat.le_of_ble_eq_true rfl, Nat.le_of_ble_eq_true rfl⟩) ⟨mp_blR, mp_preR hN hK (hP.sub [] rfl)⟩ rfl rfl hl.1 rfl (lv_room (Nat.le_of_ble_eq_true rfl)) zd_MP_seen_46 ⟨Nat.zero_le _, Nat.zero_le _⟩) ?_
        obtain ⟨h_8, hf⟩ := mp_in hf
        refine va_zald hx hb hK hP 1 2 rfl rfl (i := y7) h_8 zd_MP_seen_49 ?_
        refine lv_istore (lv' := [(6, .int (xrig y7.toNatClampNeg)), (5, .int y5), (0, .ref (ad 0)), (1, .int u1), (2, .int u2), (3, .int u3), (4, .int u4)]) hx hb zd_MP_seen_50 hl (by decide) rfl (fun ls hl => ?_)
        refine lv_aload_n hx hb zd_MP_seen_52 rfl (lv_at hl 2 rfl) ?_
        refine va_get (D := (dC, dI)) (ci := 4) (v := .ref (ad 3)) (C := zR_MP) (T := zT_MP) (N := 7) hx hb hts (fun w h => hsub w (zi_MP w h)) hown hK hP 0 rfl rfl 2 (by decide) (hw _ zq_154) (fun _ h9 => h9) rfl zd_MP_seen_53 ?_
        refine lv_iload hx hb zd_MP_seen_56 (lv_at hl 1 rfl) ?_
        refine lv_ldc2 (v := 100000) hx hb hown (hw _ zq_243) zd_MP_seen_58 ?_
        obtain ⟨y9, hg9, hf⟩ := mp_bd hf
        refine mp_Ri (va_runV (As := [.int y5, .long (100000 : Int64)]) (rest := []) ⟨hx, hb, hml, hown, hts⟩ (zc_Pa_kindOn l dC dI cI cJ cZ ad xpn xpk xcn xcp xcd xck y5 (100000 : Int64) y9 hg9) (cwV 2 hts (mp_gV hsub zq_283 zq_275 zq_276 zq_26 zq_277) rfl rfl rfl (by decide +kernel) ⟨Nat.le_of_ble_eq_true rfl, Nat.le_of_ble_eq_true rfl⟩) ⟨mp_blR, va_recv hK hP (ci := 3) (q0 := 2) rfl rfl, mp_preR hN hK (hP.sub [2, 4, 7, 8, 9, 10] rfl)⟩ rfl rfl hl.1 rfl (lv_room (Nat.le_of_ble_eq_true rfl)) zd_MP_seen_61 ⟨Nat.zero_le _, Nat.zero_le _⟩) ?_
        refine lv_istore (lv' := [(7, .int y9), (6, .int (xrig y7.toNatClampNeg)), (5, .int y5), (0, .ref (ad 0)), (1, .int u1), (2, .int u2), (3, .int u3), (4, .int u4)]) hx hb zd_MP_seen_64 hl (by decide) rfl (fun ls hl => ?_)
        refine lv_iload hx hb zd_MP_seen_66 (lv_at hl 7 rfl) ?_
        by_cases c_10 : u4 = (0 : Int32)
        · have hf := mp_t c_10 hf
          refine lv_tableIn (tgt := 96) (off := 28) hx hb zd_MP_seen_68 (by rw [c_10]; decide) (by rw [c_10]; decide) (by rw [c_10]; rfl) (by decide) ?_
          refine lv_iload hx hb zd_MP_seen_96 (lv_at hl 0 rfl) ?_
          refine lv_i2l hx hb zd_MP_seen_98 rfl ?_
          have hf := Option.some.inj hf
          subst hf
          exact W.lret (v := y9.toInt64) hx hb hr (fun t ht hW => ⟨y9.toInt64, rfl, rfl, ht⟩) (fun q h => by cases h) zd_MP_seen_99
        have hf := mp_f c_10 hf
        by_cases c_11 : u4 = (1 : Int32)
        · have hf := mp_t c_11 hf
          refine lv_tableIn (tgt := 100) (off := 32) hx hb zd_MP_seen_68 (by rw [c_11]; decide) (by rw [c_11]; decide) (by rw [c_11]; rfl) (by decide) ?_
          refine lv_iload hx hb zd_MP_seen_100 (lv_at hl 1 rfl) ?_
          refine lv_if_eq (tgt := 120) hx hb zd_MP_seen_102 (by decide) (fun c_12 => ?_) (fun c_12 => ?_)
          · have hf := mp_t c_12 hf
            refine lv_aload_n hx hb zd_MP_seen_120 rfl (lv_at hl 3 rfl) ?_
            refine va_get (D := (dC, dI)) (ci := 4) (v := .ref (ad 3)) (C := zR_MP) (T := zT_MP) (N := 7) hx hb hts (fun w h => hsub w (zi_MP w h)) hown hK hP 0 rfl rfl 2 (by decide) (hw _ zq_154) (fun _ h9 => h9) rfl zd_MP_seen_121 ?_
            refine lv_iload_n hx hb zd_MP_seen_124 rfl (lv_at hl 5 rfl) ?_
            refine lv_iload hx hb zd_MP_seen_125 (lv_at hl 0 rfl) ?_
            refine lv_ldc2 (v := 100000) hx hb hown (hw _ zq_243) zd_MP_seen_127 ?_
            obtain ⟨y13, hg13, hf⟩ := mp_bd hf
            refine mp_Rl (va_runV (As := [.int u2, .int y9, .long (100000 : Int64)]) (rest := []) ⟨hx, hb, hml, hown, hts⟩ (zc_Pa_ownGrams l dC dI cI cJ cZ ad xpn xpo xpk xpg xcn xcp xcd xck xcg u2 y9 (100000 : Int64) y13 hg13) (cwV 3 hts (mp_gV hsub zq_307 zq_308 zq_309 zq_26 zq_310) rfl rfl rfl (by decide +kernel) ⟨Nat.le_of_ble_eq_true rfl, Nat.le_of_ble_eq_true rfl⟩) ⟨mp_blR, va_recv hK hP (ci := 3) (q0 := 2) rfl rfl, mp_preR hN hK (hP.sub [2, 3, 4, 5, 7, 8, 9, 10, 11] rfl)⟩ rfl rfl hl.1 rfl (lv_room (Nat.le_of_ble_eq_true rfl)) zd_MP_seen_130 ⟨Nat.zero_le _, Nat.zero_le _⟩) ?_
            have hf := Option.some.inj hf
            subst hf
            exact W.lret (v := y13) hx hb hr (fun t ht hW => ⟨y13, rfl, rfl, ht⟩) (fun q h => by cases h) zd_MP_seen_133
          · have hf := mp_f c_12 hf
            refine lv_aload_n hx hb zd_MP_seen_105 rfl (lv_at hl 3 rfl) ?_
            refine va_get (D := (dC, dI)) (ci := 4) (v := .ref (ad 3)) (C := zR_MP) (T := zT_MP) (N := 7) hx hb hts (fun w h => hsub w (zi_MP w h)) hown hK hP 0 rfl rfl 2 (by decide) (hw _ zq_154) (fun _ h9 => h9) rfl zd_MP_seen_106 ?_
            refine lv_iload hx hb zd_MP_seen_109 (lv_at hl 2 rfl) ?_
            refine lv_ldc2 (v := 100000) hx hb hown (hw _ zq_243) zd_MP_seen_111 ?_
            obtain ⟨y14, hg14, hf⟩ := mp_bd hf
            refine mp_Rl (va_runV (As := [.int y5, .long (100000 : Int64)]) (rest := []) ⟨hx, hb, hml, hown, hts⟩ (zc_Pa_gramsOn l dC dI cI cJ cZ ad xpn xpg xcn xcp xcd xcg y5 (100000 : Int64) y14 hg14) (cwV 2 hts (mp_gV hsub zq_284 zq_267 zq_268 zq_26 zq_269) rfl rfl rfl (by decide +kernel) ⟨Nat.le_of_ble_eq_true rfl, Nat.le_of_ble_eq_true rfl⟩) ⟨mp_blR, va_recv hK hP (ci := 3) (q0 := 2) rfl rfl, mp_preR hN hK (hP.sub [2, 5, 7, 8, 9, 11] rfl)⟩ rfl rfl hl.1 rfl (lv_room (Nat.le_of_ble_eq_true rfl)) zd_MP_seen_114 ⟨Nat.zero_le _, Nat.zero_le _⟩) ?_
            refine lv_goto (tgt := 133) hx hb zd_MP_seen_117 (by decide) ?_
            have hf := Option.some.inj hf
            subst hf
            exact W.lret (v := y14) hx hb hr (fun t ht hW => ⟨y14, rfl, rfl, ht⟩) (fun q h => by cases h) zd_MP_seen_133
        have hf := mp_f c_11 hf
        by_cases c_15 : u4 = (2 : Int32)
        · have hf := mp_t c_15 hf
          refine lv_tableIn (tgt := 134) (off := 66) hx hb zd_MP_seen_68 (by rw [c_15]; decide) (by rw [c_15]; decide) (by rw [c_15]; rfl) (by decide) ?_
          refine lv_iload hx hb zd_MP_seen_134 (lv_at hl 1 rfl) ?_
          refine lv_if_eq (tgt := 153) hx hb zd_MP_seen_136 (by decide) (fun c_16 => ?_) (fun c_16 => ?_)
          · have hf := mp_t c_16 hf
            refine lv_ldc2 (v := -2) hx hb hown (hw _ zq_313) zd_MP_seen_153 ?_
            have hf := Option.some.inj hf
            subst hf
            exact W.lret (v := (-2 : Int64)) hx hb hr (fun t ht hW => ⟨(-2 : Int64), rfl, rfl, ht⟩) (fun q h => by cases h) zd_MP_seen_156
          · have hf := mp_f c_16 hf
            refine lv_aload_n hx hb zd_MP_seen_139 rfl (lv_at hl 3 rfl) ?_
            refine va_get (D := (dC, dI)) (ci := 4) (v := .ref (ad 3)) (C := zR_MP) (T := zT_MP) (N := 7) hx hb hts (fun w h => hsub w (zi_MP w h)) hown hK hP 0 rfl rfl 2 (by decide) (hw _ zq_154) (fun _ h9 => h9) rfl zd_MP_seen_140 ?_
            refine va_get (D := (dC, dI)) (ci := 3) (v := .ref (ad 10)) (C := zR_Pa) (T := zT_Pa) (N := 7) hx hb hts (fun w h => hsub w (zi_Pa w h)) hown hK hP 2 rfl rfl 3 (by decide) (hw _ zq_81) (fun _ h9 => h9) rfl zd_MP_seen_143 ?_
            refine lv_iload hx hb zd_MP_seen_146 (lv_at hl 2 rfl) ?_
            obtain ⟨h_17, hf⟩ := mp_in hf
            refine va_iald hx hb hK hP 6 0 rfl rfl (i := y5) h_17 zd_MP_seen_148 ?_
            refine lv_i2l hx hb zd_MP_seen_149 rfl ?_
            refine lv_goto (tgt := 156) hx hb zd_MP_seen_150 (by decide) ?_
            have hf := Option.some.inj hf
            subst hf
            exact W.lret (v := (xpl y5.toNatClampNeg).toInt64) hx hb hr (fun t ht hW => ⟨(xpl y5.toNatClampNeg).toInt64, rfl, rfl, ht⟩) (fun q h => by cases h) zd_MP_seen_156
        have hf := mp_f c_15 hf
        have c_18 : u4.toInt < 0 ∨ 2 < u4.toInt := by
          have n_10 := lv_neT (a := 0) c_10 (by decide)
          have n_11 := lv_neT (a := 1) c_11 (by decide)
          have n_15 := lv_neT (a := 2) c_15 (by decide)
          omega
        refine lv_tableOut (tgt := 157) hx hb zd_MP_seen_68 c_18 (by decide) ?_
        refine lv_ldc2 (v := -1) hx hb hown (hw _ zq_257) zd_MP_seen_157 ?_
        have hf := Option.some.inj hf
        subst hf
        exact W.lret (v := (-1 : Int64)) hx hb hr (fun t ht hW => ⟨(-1 : Int64), rfl, rfl, ht⟩) (fun q h => by cases h) zd_MP_seen_160
      · have hf := mp_t c_6 hf
        refine lv_ldc2 (v := -1) hx hb hown (hw _ zq_257) zd_MP_seen_36 ?_
        have hf := Option.some.inj hf
        subst hf
        exact W.lret (v := (-1 : Int64)) hx hb hr (fun t ht hW => ⟨(-1 : Int64), rfl, rfl, ht⟩) (fun q h => by cases h) zd_MP_seen_39
    · have hf := mp_t c_4 hf
      refine lv_ldc2 (v := -1) hx hb hown (hw _ zq_257) zd_MP_seen_15 ?_
      have hf := Option.some.inj hf
      subst hf
      exact W.lret (v := (-1 : Int64)) hx hb hr (fun t ht hW => ⟨(-1 : Int64), rfl, rfl, ht⟩) (fun q h => by cases h) zd_MP_seen_18
set_option maxHeartbeats 4000000 in
set_option maxRecDepth 100000 in
theorem zc_Fo_addByte (l : Launch) (dC : Nat → ClassId) (dI : Nat → Nat → Nat) (cI cJ cZ : ClassId) (ad : Nat → Nat) (sz : Nat) (xtl : Int32) (xrc : Int32) (xrd : Int32) (xwc : Int32) (xft : Nat → Int32) (u1 : Int32) (res : Int32 × Int32 × (Nat → Int32)) (hf : zf_Fo_addByte u1 xtl xft = some res) : Met l zy_Fo_addByte zw_Fo_addByte ({ frames := 0, cells := 0, slots := 0, locals := 0 } : Room) (mp_PM (dC, dI) vwCl (mp_tys cI cJ cZ) [(ad 5, .inr (1, [.ref (ad 20), .ref (ad 21), .ref (ad 22), .ref (ad 23), .int xtl, .int xrc, .int xrd, .int xwc])), (ad 20, .inl (cI, 300, .inl xft))] sz [.ref (ad 5), .int u1]) (va_Qi (fun r (_ : Unit) => r = res.1 ∧ mp_b res.1) (mp_BM (dC, dI) vwCl [(ad 5, .inr (1, [.ref (ad 20), .ref (ad 21), .ref (ad 22), .ref (ad 23), .int res.2.1, .int xrc, .int xrd, .int xwc])), (ad 20, .inl (cI, 300, .inl res.2.2))] (va_A [(ad 5, .inr (1, [.ref (ad 20), .ref (ad 21), .ref (ad 22), .ref (ad 23), .int xtl, .int xrc, .int xrd, .int xwc])), (ad 20, .inl (cI, 300, .inl xft))] sz)) (va_A [(ad 5, .inr (1, [.ref (ad 20), .ref (ad 21), .ref (ad 22), .ref (ad 23), .int xtl, .int xrc, .int xrd, .int xwc])), (ad 20, .inl (cI, 300, .inl xft))] sz)) 0 0 ((va_A [(ad 5, .inr (1, [.ref (ad 20), .ref (ad 21), .ref (ad 22), .ref (ad 23), .int xtl, .int xrc, .int xrd, .int xwc])), (ad 20, .inl (cI, 300, .inl xft))] sz)) := by
  refine Met.ofW (cc := zb_Fo_addByte) (maxL := 2) (ret := (some .boolean)) (by decide) rfl ?_
  intro p e s m args below meth c s₁ B hml hv
  obtain ⟨rfl, hsz, hP, hK, hD0, hN⟩ := hv
  have hx := B.exec
  have hb := B.bytes
  have hr := B.returns
  have hts := atoms_spec (ws := zw_Fo_addByte) B.pre
  have hsub : ∀ w ∈ mp_tbl, w ∈ zw_Fo_addByte := fun w h => List.mem_cons_of_mem _ h
  have hw : ∀ w ∈ mp_tbl, w.before _ s = true := fun w h => hts w (hsub w h)
  have hown : s.vm.findClass zR_Fo = some m.cls := findClass_of_methodNamed B.named
  have hlocks := B.notSynchronized
  subst hsz
  have hD := hD0.self (sz := s.heap.size)
  generalize hAe : va_A [(ad 5, .inr (1, [.ref (ad 20), .ref (ad 21), .ref (ad 22), .ref (ad 23), .int xtl, .int xrc, .int xrd, .int xwc])), (ad 20, .inl (cI, 300, .inl xft))] s.heap.size = A at hD ⊢
  have hA : ∀ q : Nat, s.heap.size ≤ q → A q := fun q h => by rw [← hAe]; exact Or.inr h
  have hS : va_S A s.heap s.heap [] := va_S.rf
  have hP : va_P (dC, dI) vwCl [(ad 5, .inr (1, [.ref (ad 20), .ref (ad 21), .ref (ad 22), .ref (ad 23), .int xtl, .int xrc, .int xrd, .int xwc])), (ad 20, .inl (cI, 300, .inl xft))] s.heap := hP
  clear hAe hD0
  have hl := lv_entry ([.ref (ad 5), .int u1]) (n := 2) (Nat.le_of_ble_eq_true rfl)
  rw [lg_entry_eq]
  generalize (lg_sl ([.ref (ad 5), .int u1]) ++ List.replicate (2 - (lg_sl ([.ref (ad 5), .int u1])).length) Slot.unset).toArray = ls at hl ⊢
  have hl : lv_has ls 2 [(0, .ref (ad 5)), (1, .int u1)] := hl
  unfold zf_Fo_addByte at hf
  refine lv_iload_n hx hb zd_Fo_addByte_0 rfl (lv_at hl 1 rfl) ?_
  refine lv_if_lt (tgt := 21) hx hb zd_Fo_addByte_1 (by decide) (fun c_1 => ?_) (fun c_1 => ?_)
  · have hf := mp_t c_1 hf
    refine lv_iconst (v := 0) hx hb zd_Fo_addByte_21 (by decide) ?_
    have hf := Option.some.inj hf
    subst hf
    exact W.zret (v := (0 : Int32)) hx hb hr (mp_nz (Or.inl rfl)) (fun t ht hW => ⟨⟨(0 : Int32), (), rfl, ⟨rfl, (Or.inl rfl)⟩, by rw [ht]; exact hP, hD⟩, hS.F ht⟩) hS.2.2 zd_Fo_addByte_22
  · have hf := mp_f c_1 hf
    refine lv_iload_n hx hb zd_Fo_addByte_4 rfl (lv_at hl 1 rfl) ?_
    refine lv_sipush (v := 255) hx hb zd_Fo_addByte_5 (by decide) ?_
    refine lv_icmp_gt (tgt := 21) hx hb zd_Fo_addByte_8 (by decide) (fun c_2 => ?_) (fun c_2 => ?_)
    · have hf := mp_t c_2 hf
      refine lv_iconst (v := 0) hx hb zd_Fo_addByte_21 (by decide) ?_
      have hf := Option.some.inj hf
      subst hf
      exact W.zret (v := (0 : Int32)) hx hb hr (mp_nz (Or.inl rfl)) (fun t ht hW => ⟨⟨(0 : Int32), (), rfl, ⟨rfl, (Or.inl rfl)⟩, by rw [ht]; exact hP, hD⟩, hS.F ht⟩) hS.2.2 zd_Fo_addByte_22
    · have hf := mp_f c_2 hf
      refine lv_aload_n hx hb zd_Fo_addByte_11 rfl (lv_at hl 0 rfl) ?_
      refine va_get (D := (dC, dI)) (ci := 1) (v := .int xtl) (C := zR_Fo) (T := zT_Fo) (N := 8) hx hb hts (fun w h => hsub w (zi_Fo w h)) hown hK hP 0 rfl rfl 4 (by decide) (hw _ zq_131) (fun _ h9 => h9) rfl zd_Fo_addByte_12 ?_
      refine lv_sipush (v := 300) hx hb zd_Fo_addByte_15 (by decide) ?_
      refine lv_icmp_lt (tgt := 23) hx hb zd_Fo_addByte_18 (by decide) (fun c_3 => ?_) (fun c_3 => ?_)
      · have hf := mp_t c_3 hf
        refine lv_aload_n hx hb zd_Fo_addByte_23 rfl (lv_at hl 0 rfl) ?_
        refine va_get (D := (dC, dI)) (ci := 1) (v := .ref (ad 20)) (C := zR_Fo) (T := zT_Fo) (N := 8) hx hb hts (fun w h => hsub w (zi_Fo w h)) hown hK hP 0 rfl rfl 0 (by decide) (hw _ zq_127) (fun _ h9 => h9) rfl zd_Fo_addByte_24 ?_
        refine lv_aload_n hx hb zd_Fo_addByte_27 rfl (lv_at hl 0 rfl) ?_
        refine va_get (D := (dC, dI)) (ci := 1) (v := .int xtl) (C := zR_Fo) (T := zT_Fo) (N := 8) hx hb hts (fun w h => hsub w (zi_Fo w h)) hown hK hP 0 rfl rfl 4 (by decide) (hw _ zq_131) (fun _ h9 => h9) rfl zd_Fo_addByte_28 ?_
        refine lv_iload_n hx hb zd_Fo_addByte_31 rfl (lv_at hl 1 rfl) ?_
        obtain ⟨h_4, hf⟩ := mp_in hf
        refine va_iast hx hb hK hP hD hS 1 0 rfl rfl (i := xtl) (x := u1) h_4 zd_Fo_addByte_32 (fun H locs hP hD hS => ?_)
        have hP : va_P (dC, dI) vwCl [(ad 5, .inr (1, [.ref (ad 20), .ref (ad 21), .ref (ad 22), .ref (ad 23), .int xtl, .int xrc, .int xrd, .int xwc])), (ad 20, .inl (cI, 300, .inl (upd xft xtl.toNatClampNeg u1)))] H := hP
        have hD : va_D A [(ad 5, .inr (1, [.ref (ad 20), .ref (ad 21), .ref (ad 22), .ref (ad 23), .int xtl, .int xrc, .int xrd, .int xwc])), (ad 20, .inl (cI, 300, .inl (upd xft xtl.toNatClampNeg u1)))] := hD
        refine lv_aload_n hx hb zd_Fo_addByte_33 rfl (lv_at hl 0 rfl) ?_
        refine lv_dup hx hb zd_Fo_addByte_34 rfl ?_
        refine va_get (D := (dC, dI)) (ci := 1) (v := .int xtl) (C := zR_Fo) (T := zT_Fo) (N := 8) hx hb hts (fun w h => hsub w (zi_Fo w h)) hown hK hP 0 rfl rfl 4 (by decide) (hw _ zq_131) (fun _ h9 => h9) rfl zd_Fo_addByte_35 ?_
        refine lv_iconst (v := 1) hx hb zd_Fo_addByte_38 (by decide) ?_
        refine lv_iadd hx hb zd_Fo_addByte_39 ?_
        refine va_put (D := (dC, dI)) (ci := 1) (v := .int (xtl + (1 : Int32))) (ty := .int) (C := zR_Fo) (T := zT_Fo) (N := 8) hx hb hts (fun w h => hsub w (zi_Fo w h)) zt_Fo zt_Fo_ok zn_Fo hown hK hP hD hS 0 rfl rfl 4 (by decide) (hw _ zq_131) (fun _ h9 => h9) rfl (by decide +kernel) rfl rfl (Nat.le_of_ble_eq_true rfl) zd_Fo_addByte_40 (fun H locs hP hD hS => ?_)
        have hP : va_P (dC, dI) vwCl [(ad 5, .inr (1, [.ref (ad 20), .ref (ad 21), .ref (ad 22), .ref (ad 23), .int (xtl + (1 : Int32)), .int xrc, .int xrd, .int xwc])), (ad 20, .inl (cI, 300, .inl (upd xft xtl.toNatClampNeg u1)))] H := hP
        have hD : va_D A [(ad 5, .inr (1, [.ref (ad 20), .ref (ad 21), .ref (ad 22), .ref (ad 23), .int (xtl + (1 : Int32)), .int xrc, .int xrd, .int xwc])), (ad 20, .inl (cI, 300, .inl (upd xft xtl.toNatClampNeg u1)))] := hD
        refine lv_iconst (v := 1) hx hb zd_Fo_addByte_43 (by decide) ?_
        have hf := Option.some.inj hf
        subst hf
        exact W.zret (v := (1 : Int32)) hx hb hr (mp_nz (Or.inr rfl)) (fun t ht hW => ⟨⟨(1 : Int32), (), rfl, ⟨rfl, (Or.inr rfl)⟩, by rw [ht]; exact hP, hD⟩, hS.F ht⟩) hS.2.2 zd_Fo_addByte_44
      · have hf := mp_f c_3 hf
        refine lv_iconst (v := 0) hx hb zd_Fo_addByte_21 (by decide) ?_
        have hf := Option.some.inj hf
        subst hf
        exact W.zret (v := (0 : Int32)) hx hb hr (mp_nz (Or.inl rfl)) (fun t ht hW => ⟨⟨(0 : Int32), (), rfl, ⟨rfl, (Or.inl rfl)⟩, by rw [ht]; exact hP, hD⟩, hS.F ht⟩) hS.2.2 zd_Fo_addByte_22
