def zf_Ch_countingOn_L6 (v1 : Int32) (v2 : Int64) (xcn : Int32) (xcp : Nat → Int32) (xcd : Nat → Int64)  : Nat → Int32 → Int32 → Option (Int32)
  | 0, _, _ => none
  | n + 1, v4, v5 => (if xcn ≤ v5 then some v4 else (if v5 < 0 ∨ 20 ≤ v5.toNatClampNeg then none else (if (xcp v5.toNatClampNeg) = v1 then (if v5 < 0 ∨ 20 ≤ v5.toNatClampNeg then none else (if v2 < (xcd v5.toNatClampNeg) then zf_Ch_countingOn_L6 v1 v2 xcn xcp xcd n v4 (v5 + (1 : Int32)) else (if v4 = (-1 : Int32) then zf_Ch_countingOn_L6 v1 v2 xcn xcp xcd n v5 (v5 + (1 : Int32)) else (if v5 < 0 ∨ 20 ≤ v5.toNatClampNeg then none else (if v4 < 0 ∨ 20 ≤ v4.toNatClampNeg then none else (if (xcd v5.toNatClampNeg) < (xcd v4.toNatClampNeg) then zf_Ch_countingOn_L6 v1 v2 xcn xcp xcd n v4 (v5 + (1 : Int32)) else zf_Ch_countingOn_L6 v1 v2 xcn xcp xcd n v5 (v5 + (1 : Int32)))))))) else zf_Ch_countingOn_L6 v1 v2 xcn xcp xcd n v4 (v5 + (1 : Int32)))))
def zf_Ch_countingOn (u1 : Int32) (u2 : Int64) (xcn : Int32) (xcp : Nat → Int32) (xcd : Nat → Int64) : Option (Int32) := zf_Ch_countingOn_L6 u1 u2 xcn xcp xcd 2000 (-1 : Int32) (0 : Int32)
set_option maxHeartbeats 4000000 in
set_option maxRecDepth 100000 in
theorem zc_Ch_countingOn (l : Launch) (dC : Nat → ClassId) (dI : Nat → Nat → Nat) (cI cJ cZ : ClassId) (ad : Nat → Nat) (xcn : Int32) (xcp : Nat → Int32) (xcd : Nat → Int64) (u1 : Int32) (u2 : Int64) (res : Int32) (hf : zf_Ch_countingOn u1 u2 xcn xcp xcd = some res) : Met l zy_Ch_countingOn zw_Ch_countingOn ({ frames := 0, cells := 0, slots := 0, locals := 0 } : Room) (mp_PR (dC, dI) vwCl (mp_tys cI cJ cZ) [(ad 12, .inr (0, [.ref (ad 13), .ref (ad 14), .ref (ad 15), .ref (ad 16), .int xcn])), (ad 13, .inl (cI, 20, .inl xcp)), (ad 14, .inl (cJ, 20, .inr (.inl xcd)))] [.ref (ad 12), .int u1, .long u2]) (vp_Si (fun r => r = res)) 0 0 (fun _ => False) := by
  refine Met.ofW (cc := zb_Ch_countingOn) (maxL := 6) (ret := (some .int)) (by decide) rfl ?_
  intro p e s m args below meth c s₁ B hml hv
  obtain ⟨rfl, hP, hK, hN⟩ := hv
  have hx := B.exec
  have hb := B.bytes
  have hr := B.returns
  have hts := atoms_spec (ws := zw_Ch_countingOn) B.pre
  have hsub : ∀ w ∈ mp_tbl, w ∈ zw_Ch_countingOn := fun w h => List.mem_cons_of_mem _ h
  have hw : ∀ w ∈ mp_tbl, w.before _ s = true := fun w h => hts w (hsub w h)
  have hown : s.vm.findClass zR_Ch = some m.cls := findClass_of_methodNamed B.named
  have hlocks := B.notSynchronized
  have loop6 : ∀ (v1 : Int32) (v2 : Int64) (n : Nat) (v4 : Int32) (v5 : Int32) (ls : Array Slot), zf_Ch_countingOn_L6 v1 v2 xcn xcp xcd n v4 v5 = some res → lv_has ls 6 [(0, .ref (ad 12)), (1, .int v1), (2, .long v2), (4, .int v4), (5, .int v5)] → W p l e (headSpec zw_Ch_countingOn ({ frames := 0, cells := 0, slots := 0, locals := 0 } : Room)).room s m ([.ref (ad 12), .int u1, .long u2] : List Value).toArray below meth c s.heap [] 0 0 (MQ below (vp_Si (fun r => r = res)) ([.ref (ad 12), .int u1, .long u2] : List Value).toArray s 0 0 (fun _ => False)) (F0 m 6 ls []) := by
    intro v1 v2 n
    induction n with
    | zero => intro v4 v5 ls hf; simp [zf_Ch_countingOn_L6] at hf
    | succ n ih =>
      intro v4 v5 ls hf hl
      rw [zf_Ch_countingOn_L6] at hf
      refine lv_iload hx hb zd_Ch_countingOn_6 (lv_at hl 4 rfl) ?_
      refine lv_aload_n hx hb zd_Ch_countingOn_8 rfl (lv_at hl 0 rfl) ?_
      refine va_get (D := (dC, dI)) (ci := 0) (v := .int xcn) (C := zR_Ch) (T := zT_Ch) (N := 5) hx hb hts (fun w h => hsub w (zi_Ch w h)) hown hK hP 0 rfl rfl 4 (by decide) (hw _ zq_60) (fun _ h9 => h9) rfl zd_Ch_countingOn_9 ?_
      refine lv_icmp_ge (tgt := 72) hx hb zd_Ch_countingOn_12 (by decide) (fun c_1 => ?_) (fun c_1 => ?_)
      · have hf := mp_t c_1 hf
        refine lv_iload hx hb zd_Ch_countingOn_72 (lv_at hl 3 rfl) ?_
        have hf := Option.some.inj hf
        subst hf
        exact W.iret (v := v4) hx hb hr (fun t ht hW => ⟨v4, rfl, rfl, ht⟩) (fun q h => by cases h) zd_Ch_countingOn_74
      · have hf := mp_f c_1 hf
        refine lv_aload_n hx hb zd_Ch_countingOn_15 rfl (lv_at hl 0 rfl) ?_
        refine va_get (D := (dC, dI)) (ci := 0) (v := .ref (ad 13)) (C := zR_Ch) (T := zT_Ch) (N := 5) hx hb hts (fun w h => hsub w (zi_Ch w h)) hown hK hP 0 rfl rfl 0 (by decide) (hw _ zq_54) (fun _ h9 => h9) rfl zd_Ch_countingOn_16 ?_
        refine lv_iload hx hb zd_Ch_countingOn_19 (lv_at hl 4 rfl) ?_
        obtain ⟨h_2, hf⟩ := mp_in hf
        refine va_iald hx hb hK hP 1 0 rfl rfl (i := v5) h_2 zd_Ch_countingOn_21 ?_
        refine lv_iload_n hx hb zd_Ch_countingOn_22 rfl (lv_at hl 1 rfl) ?_
        refine lv_icmp_ne (tgt := 66) hx hb zd_Ch_countingOn_23 (by decide) (fun c_3 => ?_) (fun c_3 => ?_)
        · have hf := mp_f c_3 hf
          refine lv_iinc (v := (v5 + (1 : Int32))) (lv' := [(5, .int (v5 + (1 : Int32))), (0, .ref (ad 12)), (1, .int v1), (2, .long v2), (4, .int v4)]) hx hb zd_Ch_countingOn_66 hl (k := 4) rfl rfl (by decide) rfl (fun ls hl => ?_)
          refine lv_goto (tgt := 6) hx hb zd_Ch_countingOn_69 (by decide) ?_
          exact ih v4 (v5 + (1 : Int32)) _ hf (lv_sub hl [1, 2, 3, 4, 0] rfl)
        · have hf := mp_t c_3 hf
          refine lv_aload_n hx hb zd_Ch_countingOn_26 rfl (lv_at hl 0 rfl) ?_
          refine va_get (D := (dC, dI)) (ci := 0) (v := .ref (ad 14)) (C := zR_Ch) (T := zT_Ch) (N := 5) hx hb hts (fun w h => hsub w (zi_Ch w h)) hown hK hP 0 rfl rfl 1 (by decide) (hw _ zq_55) (fun _ h9 => h9) rfl zd_Ch_countingOn_27 ?_
          refine lv_iload hx hb zd_Ch_countingOn_30 (lv_at hl 4 rfl) ?_
          obtain ⟨h_4, hf⟩ := mp_in hf
          refine va_lald hx hb hK hP 2 1 rfl rfl (i := v5) h_4 zd_Ch_countingOn_32 ?_
          refine lv_lload_n hx hb zd_Ch_countingOn_33 rfl (lv_at hl 2 rfl) ?_
          refine W.lcmp hx hb zd_Ch_countingOn_34 ?_
          refine lv_if_gt (tgt := 66) hx hb zd_Ch_countingOn_35 (by decide) (fun c_5 => ?_) (fun c_5 => ?_)
          · have c_5 := (lg_cmp_gt _ _).mp c_5
            have hf := mp_t c_5 hf
            refine lv_iinc (v := (v5 + (1 : Int32))) (lv' := [(5, .int (v5 + (1 : Int32))), (0, .ref (ad 12)), (1, .int v1), (2, .long v2), (4, .int v4)]) hx hb zd_Ch_countingOn_66 hl (k := 4) rfl rfl (by decide) rfl (fun ls hl => ?_)
            refine lv_goto (tgt := 6) hx hb zd_Ch_countingOn_69 (by decide) ?_
            exact ih v4 (v5 + (1 : Int32)) _ hf (lv_sub hl [1, 2, 3, 4, 0] rfl)
          · have c_5 := fun h9 => c_5 ((lg_cmp_gt _ _).mpr h9)
            have hf := mp_f c_5 hf
            refine lv_iload hx hb zd_Ch_countingOn_38 (lv_at hl 3 rfl) ?_
            refine lv_iconst (v := -1) hx hb zd_Ch_countingOn_40 (by decide) ?_
            refine lv_icmp_eq (tgt := 62) hx hb zd_Ch_countingOn_41 (by decide) (fun c_6 => ?_) (fun c_6 => ?_)
            · have hf := mp_t c_6 hf
              refine lv_iload hx hb zd_Ch_countingOn_62 (lv_at hl 4 rfl) ?_
              refine lv_istore (lv' := [(4, .int v5), (0, .ref (ad 12)), (1, .int v1), (2, .long v2), (5, .int v5)]) hx hb zd_Ch_countingOn_64 hl (by decide) rfl (fun ls hl => ?_)
              refine lv_iinc (v := (v5 + (1 : Int32))) (lv' := [(5, .int (v5 + (1 : Int32))), (4, .int v5), (0, .ref (ad 12)), (1, .int v1), (2, .long v2)]) hx hb zd_Ch_countingOn_66 hl (k := 4) rfl rfl (by decide) rfl (fun ls hl => ?_)
              refine lv_goto (tgt := 6) hx hb zd_Ch_countingOn_69 (by decide) ?_
              exact ih v5 (v5 + (1 : Int32)) _ hf (lv_sub hl [2, 3, 4, 1, 0] rfl)
            · have hf := mp_f c_6 hf
              refine lv_aload_n hx hb zd_Ch_countingOn_44 rfl (lv_at hl 0 rfl) ?_
              refine va_get (D := (dC, dI)) (ci := 0) (v := .ref (ad 14)) (C := zR_Ch) (T := zT_Ch) (N := 5) hx hb hts (fun w h => hsub w (zi_Ch w h)) hown hK hP 0 rfl rfl 1 (by decide) (hw _ zq_55) (fun _ h9 => h9) rfl zd_Ch_countingOn_45 ?_
              refine lv_iload hx hb zd_Ch_countingOn_48 (lv_at hl 4 rfl) ?_
              obtain ⟨h_7, hf⟩ := mp_in hf
              refine va_lald hx hb hK hP 2 1 rfl rfl (i := v5) h_7 zd_Ch_countingOn_50 ?_
              refine lv_aload_n hx hb zd_Ch_countingOn_51 rfl (lv_at hl 0 rfl) ?_
              refine va_get (D := (dC, dI)) (ci := 0) (v := .ref (ad 14)) (C := zR_Ch) (T := zT_Ch) (N := 5) hx hb hts (fun w h => hsub w (zi_Ch w h)) hown hK hP 0 rfl rfl 1 (by decide) (hw _ zq_55) (fun _ h9 => h9) rfl zd_Ch_countingOn_52 ?_
              refine lv_iload hx hb zd_Ch_countingOn_55 (lv_at hl 3 rfl) ?_
              obtain ⟨h_8, hf⟩ := mp_in hf
              refine va_lald hx hb hK hP 2 1 rfl rfl (i := v4) h_8 zd_Ch_countingOn_57 ?_
              refine W.lcmp hx hb zd_Ch_countingOn_58 ?_
              refine lv_if_lt (tgt := 66) hx hb zd_Ch_countingOn_59 (by decide) (fun c_9 => ?_) (fun c_9 => ?_)
              · have c_9 := (lg_cmp_lt _ _).mp c_9
                have hf := mp_t c_9 hf
                refine lv_iinc (v := (v5 + (1 : Int32))) (lv' := [(5, .int (v5 + (1 : Int32))), (0, .ref (ad 12)), (1, .int v1), (2, .long v2), (4, .int v4)]) hx hb zd_Ch_countingOn_66 hl (k := 4) rfl rfl (by decide) rfl (fun ls hl => ?_)
                refine lv_goto (tgt := 6) hx hb zd_Ch_countingOn_69 (by decide) ?_
                exact ih v4 (v5 + (1 : Int32)) _ hf (lv_sub hl [1, 2, 3, 4, 0] rfl)
              · have c_9 := fun h9 => c_9 ((lg_cmp_lt _ _).mpr h9)
                have hf := mp_f c_9 hf
                refine lv_iload hx hb zd_Ch_countingOn_62 (lv_at hl 4 rfl) ?_
                refine lv_istore (lv' := [(4, .int v5), (0, .ref (ad 12)), (1, .int v1), (2, .long v2), (5, .int v5)]) hx hb zd_Ch_countingOn_64 hl (by decide) rfl (fun ls hl => ?_)
                refine lv_iinc (v := (v5 + (1 : Int32))) (lv' := [(5, .int (v5 + (1 : Int32))), (4, .int v5), (0, .ref (ad 12)), (1, .int v1), (2, .long v2)]) hx hb zd_Ch_countingOn_66 hl (k := 4) rfl rfl (by decide) rfl (fun ls hl => ?_)
                refine lv_goto (tgt := 6) hx hb zd_Ch_countingOn_69 (by decide) ?_
                exact ih v5 (v5 + (1 : Int32)) _ hf (lv_sub hl [2, 3, 4, 1, 0] rfl)
  have hl := lv_entry ([.ref (ad 12), .int u1, .long u2]) (n := 6) (Nat.le_of_ble_eq_true rfl)
  rw [lg_entry_eq]
  generalize (lg_sl ([.ref (ad 12), .int u1, .long u2]) ++ List.replicate (6 - (lg_sl ([.ref (ad 12), .int u1, .long u2])).length) Slot.unset).toArray = ls at hl ⊢
  have hl : lv_has ls 6 [(0, .ref (ad 12)), (1, .int u1), (2, .long u2)] := hl
  unfold zf_Ch_countingOn at hf
  refine lv_iconst (v := -1) hx hb zd_Ch_countingOn_0 (by decide) ?_
  refine lv_istore (lv' := [(4, .int (-1 : Int32)), (0, .ref (ad 12)), (1, .int u1), (2, .long u2)]) hx hb zd_Ch_countingOn_1 hl (by decide) rfl (fun ls hl => ?_)
  refine lv_iconst (v := 0) hx hb zd_Ch_countingOn_3 (by decide) ?_
  refine lv_istore (lv' := [(5, .int (0 : Int32)), (4, .int (-1 : Int32)), (0, .ref (ad 12)), (1, .int u1), (2, .long u2)]) hx hb zd_Ch_countingOn_4 hl (by decide) rfl (fun ls hl => ?_)
  exact loop6 u1 u2 2000 (-1 : Int32) (0 : Int32) _ hf (lv_sub hl [2, 3, 4, 1, 0] rfl)
def zf_Pa_kindOn (u1 : Int32) (u2 : Int64) (xpk : Nat → Int32) (xcn : Int32) (xcp : Nat → Int32) (xcd : Nat → Int64) (xck : Nat → Int32) : Option (Int32) := ((zf_Ch_countingOn u1 u2 xcn xcp xcd).bind (fun y1 => (if y1 = (-1 : Int32) then (if u1 < 0 ∨ 24 ≤ u1.toNatClampNeg then none else some (xpk u1.toNatClampNeg)) else (if y1 < 0 ∨ 20 ≤ y1.toNatClampNeg then none else some (xck y1.toNatClampNeg)))))
set_option maxHeartbeats 4000000 in
set_option maxRecDepth 100000 in
theorem zc_Pa_kindOn (l : Launch) (dC : Nat → ClassId) (dI : Nat → Nat → Nat) (cI cJ cZ : ClassId) (ad : Nat → Nat) (xpn : Int32) (xpk : Nat → Int32) (xcn : Int32) (xcp : Nat → Int32) (xcd : Nat → Int64) (xck : Nat → Int32) (u1 : Int32) (u2 : Int64) (res : Int32) (hf : zf_Pa_kindOn u1 u2 xpk xcn xcp xcd xck = some res) : Met l zy_Pa_kindOn zw_Pa_kindOn ({ frames := 1, cells := 0, slots := 0, locals := 25 } : Room) (mp_PR (dC, dI) vwCl (mp_tys cI cJ cZ) [(ad 3, .inr (3, [.ref (ad 7), .ref (ad 8), .ref (ad 9), .ref (ad 10), .ref (ad 11), .ref (ad 12), .int xpn])), (ad 8, .inl (cI, 24, .inl xpk)), (ad 12, .inr (0, [.ref (ad 13), .ref (ad 14), .ref (ad 15), .ref (ad 16), .int xcn])), (ad 13, .inl (cI, 20, .inl xcp)), (ad 14, .inl (cJ, 20, .inr (.inl xcd))), (ad 15, .inl (cI, 20, .inl xck))] [.ref (ad 3), .int u1, .long u2]) (vp_Si (fun r => r = res)) 0 0 (fun _ => False) := by
  refine Met.ofW (cc := zb_Pa_kindOn) (maxL := 5) (ret := (some .int)) (by decide) rfl ?_
  intro p e s m args below meth c s₁ B hml hv
  obtain ⟨rfl, hP, hK, hN⟩ := hv
  have hx := B.exec
  have hb := B.bytes
  have hr := B.returns
  have hts := atoms_spec (ws := zw_Pa_kindOn) B.pre
  have hsub : ∀ w ∈ mp_tbl, w ∈ zw_Pa_kindOn := fun w h => List.mem_cons_of_mem _ h
  have hw : ∀ w ∈ mp_tbl, w.before _ s = true := fun w h => hts w (hsub w h)
  have hown : s.vm.findClass zR_Pa = some m.cls := findClass_of_methodNamed B.named
  have hlocks := B.notSynchronized
  have hl := lv_entry ([.ref (ad 3), .int u1, .long u2]) (n := 5) (Nat.le_of_ble_eq_true rfl)
  rw [lg_entry_eq]
  generalize (lg_sl ([.ref (ad 3), .int u1, .long u2]) ++ List.replicate (5 - (lg_sl ([.ref (ad 3), .int u1, .long u2])).length) Slot.unset).toArray = ls at hl ⊢
  have hl : lv_has ls 5 [(0, .ref (ad 3)), (1, .int u1), (2, .long u2)] := hl
  unfold zf_Pa_kindOn at hf
  refine lv_aload_n hx hb zd_Pa_kindOn_0 rfl (lv_at hl 0 rfl) ?_
  refine va_get (D := (dC, dI)) (ci := 3) (v := .ref (ad 12)) (C := zR_Pa) (T := zT_Pa) (N := 7) hx hb hts (fun w h => hsub w (zi_Pa w h)) hown hK hP 0 rfl rfl 5 (by decide) (hw _ zq_85) (fun _ h9 => h9) rfl zd_Pa_kindOn_1 ?_
  refine lv_iload_n hx hb zd_Pa_kindOn_4 rfl (lv_at hl 1 rfl) ?_
  refine lv_lload_n hx hb zd_Pa_kindOn_5 rfl (lv_at hl 2 rfl) ?_
  obtain ⟨y1, hg1, hf⟩ := mp_bd hf
  refine mp_Ri (va_runV (As := [.int u1, .long u2]) (rest := []) ⟨hx, hb, hml, hown, hts⟩ (zc_Ch_countingOn l dC dI cI cJ cZ ad xcn xcp xcd u1 u2 y1 hg1) (cwV 2 hts (mp_gV hsub zq_270 zq_271 zq_272 zq_27 zq_273) rfl rfl rfl (by decide +kernel) ⟨Nat.le_of_ble_eq_true rfl, Nat.le_of_ble_eq_true rfl⟩) ⟨mp_blR, va_recv hK hP (ci := 0) (q0 := 2) rfl rfl, mp_preR hN hK (hP.sub [2, 3, 4] rfl)⟩ rfl rfl hl.1 rfl (lv_room (Nat.le_of_ble_eq_true rfl)) zd_Pa_kindOn_6 ⟨Nat.zero_le _, Nat.zero_le _⟩) ?_
  refine lv_istore (lv' := [(4, .int y1), (0, .ref (ad 3)), (1, .int u1), (2, .long u2)]) hx hb zd_Pa_kindOn_9 hl (by decide) rfl (fun ls hl => ?_)
  refine lv_iload hx hb zd_Pa_kindOn_11 (lv_at hl 0 rfl) ?_
  refine lv_iconst (v := -1) hx hb zd_Pa_kindOn_13 (by decide) ?_
  refine lv_icmp_ne (tgt := 26) hx hb zd_Pa_kindOn_14 (by decide) (fun c_2 => ?_) (fun c_2 => ?_)
  · have hf := mp_f c_2 hf
    refine lv_aload_n hx hb zd_Pa_kindOn_26 rfl (lv_at hl 1 rfl) ?_
    refine va_get (D := (dC, dI)) (ci := 3) (v := .ref (ad 12)) (C := zR_Pa) (T := zT_Pa) (N := 7) hx hb hts (fun w h => hsub w (zi_Pa w h)) hown hK hP 0 rfl rfl 5 (by decide) (hw _ zq_85) (fun _ h9 => h9) rfl zd_Pa_kindOn_27 ?_
    refine va_get (D := (dC, dI)) (ci := 0) (v := .ref (ad 15)) (C := zR_Ch) (T := zT_Ch) (N := 5) hx hb hts (fun w h => hsub w (zi_Ch w h)) hown hK hP 2 rfl rfl 2 (by decide) (hw _ zq_57) (fun _ h9 => h9) rfl zd_Pa_kindOn_30 ?_
    refine lv_iload hx hb zd_Pa_kindOn_33 (lv_at hl 0 rfl) ?_
    obtain ⟨h_3, hf⟩ := mp_in hf
    refine va_iald hx hb hK hP 5 0 rfl rfl (i := y1) h_3 zd_Pa_kindOn_35 ?_
    have hf := Option.some.inj hf
    subst hf
    exact W.iret (v := (xck y1.toNatClampNeg)) hx hb hr (fun t ht hW => ⟨(xck y1.toNatClampNeg), rfl, rfl, ht⟩) (fun q h => by cases h) zd_Pa_kindOn_36
  · have hf := mp_t c_2 hf
    refine lv_aload_n hx hb zd_Pa_kindOn_17 rfl (lv_at hl 1 rfl) ?_
    refine va_get (D := (dC, dI)) (ci := 3) (v := .ref (ad 8)) (C := zR_Pa) (T := zT_Pa) (N := 7) hx hb hts (fun w h => hsub w (zi_Pa w h)) hown hK hP 0 rfl rfl 1 (by decide) (hw _ zq_78) (fun _ h9 => h9) rfl zd_Pa_kindOn_18 ?_
    refine lv_iload_n hx hb zd_Pa_kindOn_21 rfl (lv_at hl 2 rfl) ?_
    obtain ⟨h_4, hf⟩ := mp_in hf
    refine va_iald hx hb hK hP 1 0 rfl rfl (i := u1) h_4 zd_Pa_kindOn_22 ?_
    refine lv_goto (tgt := 36) hx hb zd_Pa_kindOn_23 (by decide) ?_
    have hf := Option.some.inj hf
    subst hf
    exact W.iret (v := (xpk u1.toNatClampNeg)) hx hb hr (fun t ht hW => ⟨(xpk u1.toNatClampNeg), rfl, rfl, ht⟩) (fun q h => by cases h) zd_Pa_kindOn_36
def zf_Ch_isFull (xcn : Int32) : Option (Int32) := (if xcn < (20 : Int32) then some (0 : Int32) else some (1 : Int32))
set_option maxHeartbeats 4000000 in
set_option maxRecDepth 100000 in
theorem zc_Ch_isFull (l : Launch) (dC : Nat → ClassId) (dI : Nat → Nat → Nat) (cI cJ cZ : ClassId) (ad : Nat → Nat) (xcn : Int32) (res : Int32) (hf : zf_Ch_isFull xcn = some res) : Met l zy_Ch_isFull zw_Ch_isFull ({ frames := 0, cells := 0, slots := 0, locals := 0 } : Room) (mp_PR (dC, dI) vwCl (mp_tys cI cJ cZ) [(ad 12, .inr (0, [.ref (ad 13), .ref (ad 14), .ref (ad 15), .ref (ad 16), .int xcn]))] [.ref (ad 12)]) (vp_Si (fun r => r = res ∧ mp_b res)) 0 0 (fun _ => False) := by
  refine Met.ofW (cc := zb_Ch_isFull) (maxL := 1) (ret := (some .boolean)) (by decide) rfl ?_
  intro p e s m args below meth c s₁ B hml hv
  obtain ⟨rfl, hP, hK, hN⟩ := hv
  have hx := B.exec
  have hb := B.bytes
  have hr := B.returns
  have hts := atoms_spec (ws := zw_Ch_isFull) B.pre
  have hsub : ∀ w ∈ mp_tbl, w ∈ zw_Ch_isFull := fun w h => List.mem_cons_of_mem _ h
  have hw : ∀ w ∈ mp_tbl, w.before _ s = true := fun w h => hts w (hsub w h)
  have hown : s.vm.findClass zR_Ch = some m.cls := findClass_of_methodNamed B.named
  have hlocks := B.notSynchronized
  have hl := lv_entry ([.ref (ad 12)]) (n := 1) (Nat.le_of_ble_eq_true rfl)
  rw [lg_entry_eq]
  generalize (lg_sl ([.ref (ad 12)]) ++ List.replicate (1 - (lg_sl ([.ref (ad 12)])).length) Slot.unset).toArray = ls at hl ⊢
  have hl : lv_has ls 1 [(0, .ref (ad 12))] := hl
  unfold zf_Ch_isFull at hf
  refine lv_aload_n hx hb zd_Ch_isFull_0 rfl (lv_at hl 0 rfl) ?_
  refine va_get (D := (dC, dI)) (ci := 0) (v := .int xcn) (C := zR_Ch) (T := zT_Ch) (N := 5) hx hb hts (fun w h => hsub w (zi_Ch w h)) hown hK hP 0 rfl rfl 4 (by decide) (hw _ zq_60) (fun _ h9 => h9) rfl zd_Ch_isFull_1 ?_
  refine lv_bipush (v := 20) hx hb zd_Ch_isFull_4 (by decide) ?_
  refine lv_icmp_lt (tgt := 13) hx hb zd_Ch_isFull_6 (by decide) (fun c_1 => ?_) (fun c_1 => ?_)
  · have hf := mp_t c_1 hf
    refine lv_iconst (v := 0) hx hb zd_Ch_isFull_13 (by decide) ?_
    have hf := Option.some.inj hf
    subst hf
    exact W.zret (v := (0 : Int32)) hx hb hr (mp_nz (Or.inl rfl)) (fun t ht hW => ⟨(0 : Int32), rfl, ⟨rfl, (Or.inl rfl)⟩, ht⟩) (fun q h => by cases h) zd_Ch_isFull_14
  · have hf := mp_f c_1 hf
    refine lv_iconst (v := 1) hx hb zd_Ch_isFull_9 (by decide) ?_
    refine lv_goto (tgt := 14) hx hb zd_Ch_isFull_10 (by decide) ?_
    have hf := Option.some.inj hf
    subst hf
    exact W.zret (v := (1 : Int32)) hx hb hr (mp_nz (Or.inr rfl)) (fun t ht hW => ⟨(1 : Int32), rfl, ⟨rfl, (Or.inr rfl)⟩, ht⟩) (fun q h => by cases h) zd_Ch_isFull_14
def zf_Ch_add (u1 : Int32) (u2 : Int64) (u4 : Int32) (u5 : Int64) (xcn : Int32) (xcp : Nat → Int32) (xcd : Nat → Int64) (xck : Nat → Int32) (xcg : Nat → Int64) : Option (Int32 × (Nat → Int32) × (Nat → Int64) × (Nat → Int32) × (Nat → Int64)) := ((zf_Ch_isFull xcn).bind (fun y1 => (if y1 = 0 then (if xcn < 0 ∨ 20 ≤ xcn.toNatClampNeg then none else (if xcn < 0 ∨ 20 ≤ xcn.toNatClampNeg then none else (if xcn < 0 ∨ 20 ≤ xcn.toNatClampNeg then none else (if xcn < 0 ∨ 20 ≤ xcn.toNatClampNeg then none else some ((xcn + (1 : Int32)), (upd xcp xcn.toNatClampNeg u1), (vp_updL xcd xcn.toNatClampNeg u2), (upd xck xcn.toNatClampNeg u4), (vp_updL xcg xcn.toNatClampNeg u5)))))) else some (xcn, xcp, xcd, xck, xcg))))
set_option maxHeartbeats 4000000 in
set_option maxRecDepth 100000 in
theorem zc_Ch_add (l : Launch) (dC : Nat → ClassId) (dI : Nat → Nat → Nat) (cI cJ cZ : ClassId) (ad : Nat → Nat) (sz : Nat) (xcn : Int32) (xcp : Nat → Int32) (xcd : Nat → Int64) (xck : Nat → Int32) (xcg : Nat → Int64) (u1 : Int32) (u2 : Int64) (u4 : Int32) (u5 : Int64) (res : Int32 × (Nat → Int32) × (Nat → Int64) × (Nat → Int32) × (Nat → Int64)) (hf : zf_Ch_add u1 u2 u4 u5 xcn xcp xcd xck xcg = some res) : Met l zy_Ch_add zw_Ch_add ({ frames := 1, cells := 0, slots := 0, locals := 20 } : Room) (mp_PM (dC, dI) vwCl (mp_tys cI cJ cZ) [(ad 12, .inr (0, [.ref (ad 13), .ref (ad 14), .ref (ad 15), .ref (ad 16), .int xcn])), (ad 13, .inl (cI, 20, .inl xcp)), (ad 14, .inl (cJ, 20, .inr (.inl xcd))), (ad 15, .inl (cI, 20, .inl xck)), (ad 16, .inl (cJ, 20, .inr (.inl xcg)))] sz [.ref (ad 12), .int u1, .long u2, .int u4, .long u5]) (va_Qv (fun (_ : Unit) => True) (mp_BM (dC, dI) vwCl [(ad 12, .inr (0, [.ref (ad 13), .ref (ad 14), .ref (ad 15), .ref (ad 16), .int res.1])), (ad 13, .inl (cI, 20, .inl res.2.1)), (ad 14, .inl (cJ, 20, .inr (.inl res.2.2.1))), (ad 15, .inl (cI, 20, .inl res.2.2.2.1)), (ad 16, .inl (cJ, 20, .inr (.inl res.2.2.2.2)))] (va_A [(ad 12, .inr (0, [.ref (ad 13), .ref (ad 14), .ref (ad 15), .ref (ad 16), .int xcn])), (ad 13, .inl (cI, 20, .inl xcp)), (ad 14, .inl (cJ, 20, .inr (.inl xcd))), (ad 15, .inl (cI, 20, .inl xck)), (ad 16, .inl (cJ, 20, .inr (.inl xcg)))] sz)) (va_A [(ad 12, .inr (0, [.ref (ad 13), .ref (ad 14), .ref (ad 15), .ref (ad 16), .int xcn])), (ad 13, .inl (cI, 20, .inl xcp)), (ad 14, .inl (cJ, 20, .inr (.inl xcd))), (ad 15, .inl (cI, 20, .inl xck)), (ad 16, .inl (cJ, 20, .inr (.inl xcg)))] sz)) 0 0 ((va_A [(ad 12, .inr (0, [.ref (ad 13), .ref (ad 14), .ref (ad 15), .ref (ad 16), .int xcn])), (ad 13, .inl (cI, 20, .inl xcp)), (ad 14, .inl (cJ, 20, .inr (.inl xcd))), (ad 15, .inl (cI, 20, .inl xck)), (ad 16, .inl (cJ, 20, .inr (.inl xcg)))] sz)) := by
  refine Met.ofW (cc := zb_Ch_add) (maxL := 7) (ret := none) (by decide) rfl ?_
  intro p e s m args below meth c s₁ B hml hv
  obtain ⟨rfl, hsz, hP, hK, hD0, hN⟩ := hv
  have hx := B.exec
  have hb := B.bytes
  have hr := B.returns
  have hts := atoms_spec (ws := zw_Ch_add) B.pre
  have hsub : ∀ w ∈ mp_tbl, w ∈ zw_Ch_add := fun w h => List.mem_cons_of_mem _ h
  have hw : ∀ w ∈ mp_tbl, w.before _ s = true := fun w h => hts w (hsub w h)
  have hown : s.vm.findClass zR_Ch = some m.cls := findClass_of_methodNamed B.named
  have hlocks := B.notSynchronized
  subst hsz
  have hD := hD0.self (sz := s.heap.size)
  generalize hAe : va_A [(ad 12, .inr (0, [.ref (ad 13), .ref (ad 14), .ref (ad 15), .ref (ad 16), .int xcn])), (ad 13, .inl (cI, 20, .inl xcp)), (ad 14, .inl (cJ, 20, .inr (.inl xcd))), (ad 15, .inl (cI, 20, .inl xck)), (ad 16, .inl (cJ, 20, .inr (.inl xcg)))] s.heap.size = A at hD ⊢
  have hA : ∀ q : Nat, s.heap.size ≤ q → A q := fun q h => by rw [← hAe]; exact Or.inr h
  have hS : va_S A s.heap s.heap [] := va_S.rf
  have hP : va_P (dC, dI) vwCl [(ad 12, .inr (0, [.ref (ad 13), .ref (ad 14), .ref (ad 15), .ref (ad 16), .int xcn])), (ad 13, .inl (cI, 20, .inl xcp)), (ad 14, .inl (cJ, 20, .inr (.inl xcd))), (ad 15, .inl (cI, 20, .inl xck)), (ad 16, .inl (cJ, 20, .inr (.inl xcg)))] s.heap := hP
  clear hAe hD0
  have hl := lv_entry ([.ref (ad 12), .int u1, .long u2, .int u4, .long u5]) (n := 7) (Nat.le_of_ble_eq_true rfl)
  rw [lg_entry_eq]
  generalize (lg_sl ([.ref (ad 12), .int u1, .long u2, .int u4, .long u5]) ++ List.replicate (7 - (lg_sl ([.ref (ad 12), .int u1, .long u2, .int u4, .long u5])).length) Slot.unset).toArray = ls at hl ⊢
  have hl : lv_has ls 7 [(0, .ref (ad 12)), (1, .int u1), (2, .long u2), (4, .int u4), (5, .long u5)] := hl
  unfold zf_Ch_add at hf
  refine lv_aload_n hx hb zd_Ch_add_0 rfl (lv_at hl 0 rfl) ?_
  obtain ⟨y1, hg1, hf⟩ := mp_bd hf
  refine mp_Rz (va_runV (As := []) (rest := []) ⟨hx, hb, hml, hown, hts⟩ (zc_Ch_isFull l dC dI cI cJ cZ ad xcn y1 hg1) (cwV 0 hts (mp_gV hsub zq_248 zq_237 zq_238 zq_27 zq_239) rfl rfl rfl (by decide +kernel) ⟨Nat.le_of_ble_eq_true rfl, Nat.le_of_ble_eq_true rfl⟩) ⟨mp_blR, va_recv hK hP (ci := 0) (q0 := 0) rfl rfl, mp_preR hN hK (hP.sub [0] rfl)⟩ rfl rfl hl.1 rfl (lv_room (Nat.le_of_ble_eq_true rfl)) zd_Ch_add_1 ⟨Nat.zero_le _, Nat.zero_le _⟩) (fun hz1 => ?_)
  refine lv_if_eq (tgt := 8) hx hb zd_Ch_add_4 (by decide) (fun c_2 => ?_) (fun c_2 => ?_)
  · have hf := mp_t c_2 hf
    refine lv_aload_n hx hb zd_Ch_add_8 rfl (lv_at hl 0 rfl) ?_
    refine va_get (D := (dC, dI)) (ci := 0) (v := .ref (ad 13)) (C := zR_Ch) (T := zT_Ch) (N := 5) hx hb hts (fun w h => hsub w (zi_Ch w h)) hown hK hP 0 rfl rfl 0 (by decide) (hw _ zq_54) (fun _ h9 => h9) rfl zd_Ch_add_9 ?_
    refine lv_aload_n hx hb zd_Ch_add_12 rfl (lv_at hl 0 rfl) ?_
    refine va_get (D := (dC, dI)) (ci := 0) (v := .int xcn) (C := zR_Ch) (T := zT_Ch) (N := 5) hx hb hts (fun w h => hsub w (zi_Ch w h)) hown hK hP 0 rfl rfl 4 (by decide) (hw _ zq_60) (fun _ h9 => h9) rfl zd_Ch_add_13 ?_
    refine lv_iload_n hx hb zd_Ch_add_16 rfl (lv_at hl 1 rfl) ?_
    obtain ⟨h_3, hf⟩ := mp_in hf
    refine va_iast hx hb hK hP hD hS 1 0 rfl rfl (i := xcn) (x := u1) h_3 zd_Ch_add_17 (fun H locs hP hD hS => ?_)
    have hP : va_P (dC, dI) vwCl [(ad 12, .inr (0, [.ref (ad 13), .ref (ad 14), .ref (ad 15), .ref (ad 16), .int xcn])), (ad 13, .inl (cI, 20, .inl (upd xcp xcn.toNatClampNeg u1))), (ad 14, .inl (cJ, 20, .inr (.inl xcd))), (ad 15, .inl (cI, 20, .inl xck)), (ad 16, .inl (cJ, 20, .inr (.inl xcg)))] H := hP
    have hD : va_D A [(ad 12, .inr (0, [.ref (ad 13), .ref (ad 14), .ref (ad 15), .ref (ad 16), .int xcn])), (ad 13, .inl (cI, 20, .inl (upd xcp xcn.toNatClampNeg u1))), (ad 14, .inl (cJ, 20, .inr (.inl xcd))), (ad 15, .inl (cI, 20, .inl xck)), (ad 16, .inl (cJ, 20, .inr (.inl xcg)))] := hD
    refine lv_aload_n hx hb zd_Ch_add_18 rfl (lv_at hl 0 rfl) ?_
    refine va_get (D := (dC, dI)) (ci := 0) (v := .ref (ad 14)) (C := zR_Ch) (T := zT_Ch) (N := 5) hx hb hts (fun w h => hsub w (zi_Ch w h)) hown hK hP 0 rfl rfl 1 (by decide) (hw _ zq_55) (fun _ h9 => h9) rfl zd_Ch_add_19 ?_
    refine lv_aload_n hx hb zd_Ch_add_22 rfl (lv_at hl 0 rfl) ?_
    refine va_get (D := (dC, dI)) (ci := 0) (v := .int xcn) (C := zR_Ch) (T := zT_Ch) (N := 5) hx hb hts (fun w h => hsub w (zi_Ch w h)) hown hK hP 0 rfl rfl 4 (by decide) (hw _ zq_60) (fun _ h9 => h9) rfl zd_Ch_add_23 ?_
    refine lv_lload_n hx hb zd_Ch_add_26 rfl (lv_at hl 2 rfl) ?_
    obtain ⟨h_4, hf⟩ := mp_in hf
    refine va_last hx hb hK hP hD hS 2 1 rfl rfl (i := xcn) (x := u2) h_4 zd_Ch_add_27 (fun H locs hP hD hS => ?_)
    have hP : va_P (dC, dI) vwCl [(ad 12, .inr (0, [.ref (ad 13), .ref (ad 14), .ref (ad 15), .ref (ad 16), .int xcn])), (ad 13, .inl (cI, 20, .inl (upd xcp xcn.toNatClampNeg u1))), (ad 14, .inl (cJ, 20, .inr (.inl (vp_updL xcd xcn.toNatClampNeg u2)))), (ad 15, .inl (cI, 20, .inl xck)), (ad 16, .inl (cJ, 20, .inr (.inl xcg)))] H := hP
    have hD : va_D A [(ad 12, .inr (0, [.ref (ad 13), .ref (ad 14), .ref (ad 15), .ref (ad 16), .int xcn])), (ad 13, .inl (cI, 20, .inl (upd xcp xcn.toNatClampNeg u1))), (ad 14, .inl (cJ, 20, .inr (.inl (vp_updL xcd xcn.toNatClampNeg u2)))), (ad 15, .inl (cI, 20, .inl xck)), (ad 16, .inl (cJ, 20, .inr (.inl xcg)))] := hD
    refine lv_aload_n hx hb zd_Ch_add_28 rfl (lv_at hl 0 rfl) ?_
    refine va_get (D := (dC, dI)) (ci := 0) (v := .ref (ad 15)) (C := zR_Ch) (T := zT_Ch) (N := 5) hx hb hts (fun w h => hsub w (zi_Ch w h)) hown hK hP 0 rfl rfl 2 (by decide) (hw _ zq_56) (fun _ h9 => h9) rfl zd_Ch_add_29 ?_
    refine lv_aload_n hx hb zd_Ch_add_32 rfl (lv_at hl 0 rfl) ?_
    refine va_get (D := (dC, dI)) (ci := 0) (v := .int xcn) (C := zR_Ch) (T := zT_Ch) (N := 5) hx hb hts (fun w h => hsub w (zi_Ch w h)) hown hK hP 0 rfl rfl 4 (by decide) (hw _ zq_60) (fun _ h9 => h9) rfl zd_Ch_add_33 ?_
    refine lv_iload hx hb zd_Ch_add_36 (lv_at hl 3 rfl) ?_
    obtain ⟨h_5, hf⟩ := mp_in hf
    refine va_iast hx hb hK hP hD hS 3 0 rfl rfl (i := xcn) (x := u4) h_5 zd_Ch_add_38 (fun H locs hP hD hS => ?_)
    have hP : va_P (dC, dI) vwCl [(ad 12, .inr (0, [.ref (ad 13), .ref (ad 14), .ref (ad 15), .ref (ad 16), .int xcn])), (ad 13, .inl (cI, 20, .inl (upd xcp xcn.toNatClampNeg u1))), (ad 14, .inl (cJ, 20, .inr (.inl (vp_updL xcd xcn.toNatClampNeg u2)))), (ad 15, .inl (cI, 20, .inl (upd xck xcn.toNatClampNeg u4))), (ad 16, .inl (cJ, 20, .inr (.inl xcg)))] H := hP
    have hD : va_D A [(ad 12, .inr (0, [.ref (ad 13), .ref (ad 14), .ref (ad 15), .ref (ad 16), .int xcn])), (ad 13, .inl (cI, 20, .inl (upd xcp xcn.toNatClampNeg u1))), (ad 14, .inl (cJ, 20, .inr (.inl (vp_updL xcd xcn.toNatClampNeg u2)))), (ad 15, .inl (cI, 20, .inl (upd xck xcn.toNatClampNeg u4))), (ad 16, .inl (cJ, 20, .inr (.inl xcg)))] := hD
    refine lv_aload_n hx hb zd_Ch_add_39 rfl (lv_at hl 0 rfl) ?_
    refine va_get (D := (dC, dI)) (ci := 0) (v := .ref (ad 16)) (C := zR_Ch) (T := zT_Ch) (N := 5) hx hb hts (fun w h => hsub w (zi_Ch w h)) hown hK hP 0 rfl rfl 3 (by decide) (hw _ zq_58) (fun _ h9 => h9) rfl zd_Ch_add_40 ?_
    refine lv_aload_n hx hb zd_Ch_add_43 rfl (lv_at hl 0 rfl) ?_
    refine va_get (D := (dC, dI)) (ci := 0) (v := .int xcn) (C := zR_Ch) (T := zT_Ch) (N := 5) hx hb hts (fun w h => hsub w (zi_Ch w h)) hown hK hP 0 rfl rfl 4 (by decide) (hw _ zq_60) (fun _ h9 => h9) rfl zd_Ch_add_44 ?_
    refine lv_lload hx hb zd_Ch_add_47 (lv_at hl 4 rfl) ?_
    obtain ⟨h_6, hf⟩ := mp_in hf
    refine va_last hx hb hK hP hD hS 4 1 rfl rfl (i := xcn) (x := u5) h_6 zd_Ch_add_49 (fun H locs hP hD hS => ?_)
    have hP : va_P (dC, dI) vwCl [(ad 12, .inr (0, [.ref (ad 13), .ref (ad 14), .ref (ad 15), .ref (ad 16), .int xcn])), (ad 13, .inl (cI, 20, .inl (upd xcp xcn.toNatClampNeg u1))), (ad 14, .inl (cJ, 20, .inr (.inl (vp_updL xcd xcn.toNatClampNeg u2)))), (ad 15, .inl (cI, 20, .inl (upd xck xcn.toNatClampNeg u4))), (ad 16, .inl (cJ, 20, .inr (.inl (vp_updL xcg xcn.toNatClampNeg u5))))] H := hP
    have hD : va_D A [(ad 12, .inr (0, [.ref (ad 13), .ref (ad 14), .ref (ad 15), .ref (ad 16), .int xcn])), (ad 13, .inl (cI, 20, .inl (upd xcp xcn.toNatClampNeg u1))), (ad 14, .inl (cJ, 20, .inr (.inl (vp_updL xcd xcn.toNatClampNeg u2)))), (ad 15, .inl (cI, 20, .inl (upd xck xcn.toNatClampNeg u4))), (ad 16, .inl (cJ, 20, .inr (.inl (vp_updL xcg xcn.toNatClampNeg u5))))] := hD
    refine lv_aload_n hx hb zd_Ch_add_50 rfl (lv_at hl 0 rfl) ?_
    refine lv_dup hx hb zd_Ch_add_51 rfl ?_
    refine va_get (D := (dC, dI)) (ci := 0) (v := .int xcn) (C := zR_Ch) (T := zT_Ch) (N := 5) hx hb hts (fun w h => hsub w (zi_Ch w h)) hown hK hP 0 rfl rfl 4 (by decide) (hw _ zq_60) (fun _ h9 => h9) rfl zd_Ch_add_52 ?_
    refine lv_iconst (v := 1) hx hb zd_Ch_add_55 (by decide) ?_
    refine lv_iadd hx hb zd_Ch_add_56 ?_
    refine va_put (D := (dC, dI)) (ci := 0) (v := .int (xcn + (1 : Int32))) (ty := .int) (C := zR_Ch) (T := zT_Ch) (N := 5) hx hb hts (fun w h => hsub w (zi_Ch w h)) zt_Ch zt_Ch_ok zn_Ch hown hK hP hD hS 0 rfl rfl 4 (by decide) (hw _ zq_60) (fun _ h9 => h9) rfl (by decide +kernel) rfl rfl (Nat.le_of_ble_eq_true rfl) zd_Ch_add_57 (fun H locs hP hD hS => ?_)
    have hP : va_P (dC, dI) vwCl [(ad 12, .inr (0, [.ref (ad 13), .ref (ad 14), .ref (ad 15), .ref (ad 16), .int (xcn + (1 : Int32))])), (ad 13, .inl (cI, 20, .inl (upd xcp xcn.toNatClampNeg u1))), (ad 14, .inl (cJ, 20, .inr (.inl (vp_updL xcd xcn.toNatClampNeg u2)))), (ad 15, .inl (cI, 20, .inl (upd xck xcn.toNatClampNeg u4))), (ad 16, .inl (cJ, 20, .inr (.inl (vp_updL xcg xcn.toNatClampNeg u5))))] H := hP
    have hD : va_D A [(ad 12, .inr (0, [.ref (ad 13), .ref (ad 14), .ref (ad 15), .ref (ad 16), .int (xcn + (1 : Int32))])), (ad 13, .inl (cI, 20, .inl (upd xcp xcn.toNatClampNeg u1))), (ad 14, .inl (cJ, 20, .inr (.inl (vp_updL xcd xcn.toNatClampNeg u2)))), (ad 15, .inl (cI, 20, .inl (upd xck xcn.toNatClampNeg u4))), (ad 16, .inl (cJ, 20, .inr (.inl (vp_updL xcg xcn.toNatClampNeg u5))))] := hD
    have hf := Option.some.inj hf
    subst hf
    exact W.vret hx hb hr (fun t ht hW => ⟨⟨(), rfl, trivial, by rw [ht]; exact hP, hD⟩, hS.F ht⟩) hS.2.2 zd_Ch_add_60
  · have hf := mp_f c_2 hf
    have hf := Option.some.inj hf
    subst hf
    exact W.vret hx hb hr (fun t ht hW => ⟨⟨(), rfl, trivial, by rw [ht]; exact hP, hD⟩, hS.F ht⟩) hS.2.2 zd_Ch_add_7
def zf_Ja_fill_L6 (v1 : Int64) (v4 : Int32) (n0 : Nat)  : Nat → Int32 → (Nat → Int64) → Option ((Nat → Int64))
  | 0, _, _ => none
  | n + 1, v3, f0 => (if v4 ≤ v3 then some f0 else (if v3 < 0 ∨ n0 ≤ v3.toNatClampNeg then none else zf_Ja_fill_L6 v1 v4 n0 n (v3 + (1 : Int32)) (vp_updL f0 v3.toNatClampNeg v1)))
def zf_Ja_fill (u1 : Int64) (n0 : Nat) (f0 : Nat → Int64) : Option ((Nat → Int64)) := zf_Ja_fill_L6 u1 (Int32.ofNat n0) n0 2000 (0 : Int32) f0
set_option maxHeartbeats 4000000 in
set_option maxRecDepth 100000 in
theorem zc_Ja_fill (l : Launch) (dC : Nat → ClassId) (dI : Nat → Nat → Nat) (cI cJ cZ : ClassId) (a0 n0 : Nat) (sz : Nat) (f0 : Nat → Int64) (u1 : Int64) (res : (Nat → Int64)) (hf : zf_Ja_fill u1 n0 f0 = some res) : Met l zy_Ja_fill zw_Ja_fill ({ frames := 0, cells := 0, slots := 0, locals := 0 } : Room) (mp_PM (dC, dI) vwCl (mp_tys cI cJ cZ) [(a0, .inl (cJ, n0, .inr (.inl f0)))] sz [.ref a0, .long u1]) (va_Qv (fun (_ : Unit) => True) (mp_BM (dC, dI) vwCl [(a0, .inl (cJ, n0, .inr (.inl res)))] (va_A [(a0, .inl (cJ, n0, .inr (.inl f0)))] sz)) (va_A [(a0, .inl (cJ, n0, .inr (.inl f0)))] sz)) 0 0 ((va_A [(a0, .inl (cJ, n0, .inr (.inl f0)))] sz)) := by
  refine Met.ofW (cc := zb_Ja_fill) (maxL := 5) (ret := none) (by decide) rfl ?_
  intro p e s m args below meth c s₁ B hml hv
  obtain ⟨rfl, hsz, hP, hK, hD0, hN⟩ := hv
  have hx := B.exec
  have hb := B.bytes
  have hr := B.returns
  have hts := atoms_spec (ws := zw_Ja_fill) B.pre
  have hsub : ∀ w ∈ mp_tbl, w ∈ zw_Ja_fill := fun w h => List.mem_cons_of_mem _ h
  have hw : ∀ w ∈ mp_tbl, w.before _ s = true := fun w h => hts w (hsub w h)
  have hown : s.vm.findClass zR_Ja = some m.cls := findClass_of_methodNamed B.named
  have hlocks := B.notSynchronized
  subst hsz
  have hD := hD0.self (sz := s.heap.size)
  generalize hAe : va_A [(a0, .inl (cJ, n0, .inr (.inl f0)))] s.heap.size = A at hD ⊢
  have hA : ∀ q : Nat, s.heap.size ≤ q → A q := fun q h => by rw [← hAe]; exact Or.inr h
  have hS : va_S A s.heap s.heap [] := va_S.rf
  have hP : va_P (dC, dI) vwCl [(a0, .inl (cJ, n0, .inr (.inl f0)))] s.heap := hP
  clear hAe hD0
  have loop6 : ∀ (v1 : Int64) (v4 : Int32) (n : Nat) (v3 : Int32) (f0 : Nat → Int64) (H : Heap) (locs : List Loc) (ls : Array Slot), zf_Ja_fill_L6 v1 v4 n0 n v3 f0 = some res → va_P (dC, dI) vwCl [(a0, .inl (cJ, n0, .inr (.inl f0)))] H → va_D A [(a0, .inl (cJ, n0, .inr (.inl f0)))] → va_S A s.heap H locs → lv_has ls 5 [(0, .ref a0), (1, .long v1), (3, .int v3), (4, .int v4)] → W p l e (headSpec zw_Ja_fill ({ frames := 0, cells := 0, slots := 0, locals := 0 } : Room)).room s m ([.ref a0, .long u1] : List Value).toArray below meth c H locs 0 0 (MQ below (va_Qv (fun (_ : Unit) => True) (mp_BM (dC, dI) vwCl [(a0, .inl (cJ, n0, .inr (.inl res)))] A) A) ([.ref a0, .long u1] : List Value).toArray s 0 0 (A)) (F0 m 6 ls []) := by
    intro v1 v4 n
    induction n with
    | zero => intro v3 f0 H locs ls hf; simp [zf_Ja_fill_L6] at hf
    | succ n ih =>
      intro v3 f0 H locs ls hf hP hD hS hl
      rw [zf_Ja_fill_L6] at hf
      refine lv_iload_n hx hb zd_Ja_fill_6 rfl (lv_at hl 2 rfl) ?_
      refine lv_iload hx hb zd_Ja_fill_7 (lv_at hl 3 rfl) ?_
      refine lv_icmp_ge (tgt := 22) hx hb zd_Ja_fill_9 (by decide) (fun c_1 => ?_) (fun c_1 => ?_)
      · have hf := mp_t c_1 hf
        have hf := Option.some.inj hf
        subst hf
        exact W.vret hx hb hr (fun t ht hW => ⟨⟨(), rfl, trivial, by rw [ht]; exact hP, hD⟩, hS.F ht⟩) hS.2.2 zd_Ja_fill_22
      · have hf := mp_f c_1 hf
        refine lv_aload_n hx hb zd_Ja_fill_12 rfl (lv_at hl 0 rfl) ?_
        refine lv_iload_n hx hb zd_Ja_fill_13 rfl (lv_at hl 2 rfl) ?_
        refine lv_lload_n hx hb zd_Ja_fill_14 rfl (lv_at hl 1 rfl) ?_
        obtain ⟨h_2, hf⟩ := mp_in hf
        refine va_last hx hb hK hP hD hS 0 1 rfl rfl (i := v3) (x := v1) h_2 zd_Ja_fill_15 (fun H locs hP hD hS => ?_)
        have hP : va_P (dC, dI) vwCl [(a0, .inl (cJ, n0, .inr (.inl (vp_updL f0 v3.toNatClampNeg v1))))] H := hP
        have hD : va_D A [(a0, .inl (cJ, n0, .inr (.inl (vp_updL f0 v3.toNatClampNeg v1))))] := hD
        refine lv_iinc (v := (v3 + (1 : Int32))) (lv' := [(3, .int (v3 + (1 : Int32))), (0, .ref a0), (1, .long v1), (4, .int v4)]) hx hb zd_Ja_fill_16 hl (k := 2) rfl rfl (by decide) rfl (fun ls hl => ?_)
        refine lv_goto (tgt := 6) hx hb zd_Ja_fill_19 (by decide) ?_
        exact ih (v3 + (1 : Int32)) (vp_updL f0 v3.toNatClampNeg v1) _ _ _ hf hP hD hS (lv_sub hl [1, 2, 0, 3] rfl)
  have hl := lv_entry ([.ref a0, .long u1]) (n := 5) (Nat.le_of_ble_eq_true rfl)
  rw [lg_entry_eq]
  generalize (lg_sl ([.ref a0, .long u1]) ++ List.replicate (5 - (lg_sl ([.ref a0, .long u1])).length) Slot.unset).toArray = ls at hl ⊢
  have hl : lv_has ls 5 [(0, .ref a0), (1, .long u1)] := hl
  unfold zf_Ja_fill at hf
  refine lv_iconst (v := 0) hx hb zd_Ja_fill_0 (by decide) ?_
  refine lv_istore_n (lv' := [(3, .int (0 : Int32)), (0, .ref a0), (1, .long u1)]) hx hb zd_Ja_fill_1 rfl hl (by decide) rfl (fun ls hl => ?_)
  refine lv_aload_n hx hb zd_Ja_fill_2 rfl (lv_at hl 1 rfl) ?_
  refine va_alen (v := (Int32.ofNat n0)) hx hb hK hP 0 1 rfl rfl rfl zd_Ja_fill_3 ?_
  refine lv_istore (lv' := [(4, .int (Int32.ofNat n0)), (3, .int (0 : Int32)), (0, .ref a0), (1, .long u1)]) hx hb zd_Ja_fill_4 hl (by decide) rfl (fun ls hl => ?_)
  exact loop6 u1 (Int32.ofNat n0) 2000 (0 : Int32) f0 _ _ _ hf hP hD hS (lv_sub hl [2, 3, 1, 0] rfl)
def zf_Ne_goDeeper_L58 (xnd : Nat → Int64) (xpn : Int32) (xpo : Nat → Int32) (xpi : Nat → Int32)  : Nat → Int32 → (Nat → Int64) → (Nat → Int64) → Option ((Nat → Int64) × (Nat → Int64) × (Nat → Int64))
  | 0, _, _, _ => none
  | n + 1, v2, xnt, xnl => (if (8 : Int32) ≤ v2 then some (xnt, xnl, xnd) else (if v2 < 0 ∨ 8 ≤ v2.toNatClampNeg then none else (if v2 < 0 ∨ 8 ≤ v2.toNatClampNeg then none else (if v2 < 0 ∨ 8 ≤ v2.toNatClampNeg then none else (if v2 < 0 ∨ 8 ≤ v2.toNatClampNeg then none else (if v2 < 0 ∨ 8 ≤ v2.toNatClampNeg then none else zf_Ne_goDeeper_L58 xnd xpn xpo xpi n (v2 + (1 : Int32)) (vp_updL xnt v2.toNatClampNeg ((xnt v2.toNatClampNeg) + (xnd v2.toNatClampNeg))) (vp_updL xnl v2.toNatClampNeg (xnd v2.toNatClampNeg))))))))
def zf_Ne_goDeeper_L10 (xnt : Nat → Int64) (xnl : Nat → Int64) (xpn : Int32) (xpo : Nat → Int32) (xpi : Nat → Int32)  : Nat → Int32 → (Nat → Int64) → Option ((Nat → Int64) × (Nat → Int64) × (Nat → Int64))
  | 0, _, _ => none
  | n + 1, v2, xnd => (if xpn ≤ v2 then zf_Ne_goDeeper_L58 xnd xpn xpo xpi 2000 (0 : Int32) xnt xnl else (if v2 < 0 ∨ 24 ≤ v2.toNatClampNeg then none else (if (xpi v2.toNatClampNeg) = (-1 : Int32) then zf_Ne_goDeeper_L10 xnt xnl xpn xpo xpi n (v2 + (1 : Int32)) xnd else (if (xpi v2.toNatClampNeg) < 0 ∨ 8 ≤ (xpi v2.toNatClampNeg).toNatClampNeg then none else (if v2 < 0 ∨ 24 ≤ v2.toNatClampNeg then none else (if (xpo v2.toNatClampNeg) < 0 ∨ 8 ≤ (xpo v2.toNatClampNeg).toNatClampNeg then none else (if (xpi v2.toNatClampNeg) < 0 ∨ 8 ≤ (xpi v2.toNatClampNeg).toNatClampNeg then none else zf_Ne_goDeeper_L10 xnt xnl xpn xpo xpi n (v2 + (1 : Int32)) (vp_updL xnd (xpi v2.toNatClampNeg).toNatClampNeg ((xnd (xpi v2.toNatClampNeg).toNatClampNeg) + (xnl (xpo v2.toNatClampNeg).toNatClampNeg))))))))))
def zf_Ne_goDeeper (xpn : Int32) (xpo : Nat → Int32) (xpi : Nat → Int32) (xnt : Nat → Int64) (xnl : Nat → Int64) (xnd : Nat → Int64) : Option ((Nat → Int64) × (Nat → Int64) × (Nat → Int64)) := ((zf_Ja_fill (0 : Int64) 8 xnd).bind (fun y1 => zf_Ne_goDeeper_L10 xnt xnl xpn xpo xpi 2000 (0 : Int32) y1))
set_option maxHeartbeats 4000000 in
set_option maxRecDepth 100000 in
theorem zc_Ne_goDeeper (l : Launch) (dC : Nat → ClassId) (dI : Nat → Nat → Nat) (cI cJ cZ : ClassId) (ad : Nat → Nat) (sz : Nat) (xpn : Int32) (xpo : Nat → Int32) (xpi : Nat → Int32) (xnt : Nat → Int64) (xnl : Nat → Int64) (xnd : Nat → Int64) (res : (Nat → Int64) × (Nat → Int64) × (Nat → Int64)) (hf : zf_Ne_goDeeper xpn xpo xpi xnt xnl xnd = some res) : Met l zy_Ne_goDeeper zw_Ne_goDeeper ({ frames := 1, cells := 0, slots := 0, locals := 24 } : Room) (mp_PM (dC, dI) vwCl (mp_tys cI cJ cZ) [(ad 3, .inr (3, [.ref (ad 7), .ref (ad 8), .ref (ad 9), .ref (ad 10), .ref (ad 11), .ref (ad 12), .int xpn])), (ad 4, .inr (2, [.ref (ad 17), .ref (ad 18), .ref (ad 19)])), (ad 7, .inl (cI, 24, .inl xpo)), (ad 11, .inl (cI, 24, .inl xpi)), (ad 17, .inl (cJ, 8, .inr (.inl xnt))), (ad 18, .inl (cJ, 8, .inr (.inl xnl))), (ad 19, .inl (cJ, 8, .inr (.inl xnd)))] sz [.ref (ad 4), .ref (ad 3)]) (va_Qv (fun (_ : Unit) => True) (mp_BM (dC, dI) vwCl [(ad 3, .inr (3, [.ref (ad 7), .ref (ad 8), .ref (ad 9), .ref (ad 10), .ref (ad 11), .ref (ad 12), .int xpn])), (ad 4, .inr (2, [.ref (ad 17), .ref (ad 18), .ref (ad 19)])), (ad 7, .inl (cI, 24, .inl xpo)), (ad 11, .inl (cI, 24, .inl xpi)), (ad 17, .inl (cJ, 8, .inr (.inl res.1))), (ad 18, .inl (cJ, 8, .inr (.inl res.2.1))), (ad 19, .inl (cJ, 8, .inr (.inl res.2.2)))] (va_A [(ad 3, .inr (3, [.ref (ad 7), .ref (ad 8), .ref (ad 9), .ref (ad 10), .ref (ad 11), .ref (ad 12), .int xpn])), (ad 4, .inr (2, [.ref (ad 17), .ref (ad 18), .ref (ad 19)])), (ad 7, .inl (cI, 24, .inl xpo)), (ad 11, .inl (cI, 24, .inl xpi)), (ad 17, .inl (cJ, 8, .inr (.inl xnt))), (ad 18, .inl (cJ, 8, .inr (.inl xnl))), (ad 19, .inl (cJ, 8, .inr (.inl xnd)))] sz)) (va_A [(ad 3, .inr (3, [.ref (ad 7), .ref (ad 8), .ref (ad 9), .ref (ad 10), .ref (ad 11), .ref (ad 12), .int xpn])), (ad 4, .inr (2, [.ref (ad 17), .ref (ad 18), .ref (ad 19)])), (ad 7, .inl (cI, 24, .inl xpo)), (ad 11, .inl (cI, 24, .inl xpi)), (ad 17, .inl (cJ, 8, .inr (.inl xnt))), (ad 18, .inl (cJ, 8, .inr (.inl xnl))), (ad 19, .inl (cJ, 8, .inr (.inl xnd)))] sz)) 0 0 ((va_A [(ad 3, .inr (3, [.ref (ad 7), .ref (ad 8), .ref (ad 9), .ref (ad 10), .ref (ad 11), .ref (ad 12), .int xpn])), (ad 4, .inr (2, [.ref (ad 17), .ref (ad 18), .ref (ad 19)])), (ad 7, .inl (cI, 24, .inl xpo)), (ad 11, .inl (cI, 24, .inl xpi)), (ad 17, .inl (cJ, 8, .inr (.inl xnt))), (ad 18, .inl (cJ, 8, .inr (.inl xnl))), (ad 19, .inl (cJ, 8, .inr (.inl xnd)))] sz)) := by
  refine Met.ofW (cc := zb_Ne_goDeeper) (maxL := 4) (ret := none) (by decide) rfl ?_
  intro p e s m args below meth c s₁ B hml hv
  obtain ⟨rfl, hsz, hP, hK, hD0, hN⟩ := hv
  have hx := B.exec
  have hb := B.bytes
  have hr := B.returns
  have hts := atoms_spec (ws := zw_Ne_goDeeper) B.pre
  have hsub : ∀ w ∈ mp_tbl, w ∈ zw_Ne_goDeeper := fun w h => List.mem_cons_of_mem _ h
  have hw : ∀ w ∈ mp_tbl, w.before _ s = true := fun w h => hts w (hsub w h)
  have hown : s.vm.findClass zR_Ne = some m.cls := findClass_of_methodNamed B.named
  have hlocks := B.notSynchronized
  subst hsz
  have hD := hD0.self (sz := s.heap.size)
  generalize hAe : va_A [(ad 3, .inr (3, [.ref (ad 7), .ref (ad 8), .ref (ad 9), .ref (ad 10), .ref (ad 11), .ref (ad 12), .int xpn])), (ad 4, .inr (2, [.ref (ad 17), .ref (ad 18), .ref (ad 19)])), (ad 7, .inl (cI, 24, .inl xpo)), (ad 11, .inl (cI, 24, .inl xpi)), (ad 17, .inl (cJ, 8, .inr (.inl xnt))), (ad 18, .inl (cJ, 8, .inr (.inl xnl))), (ad 19, .inl (cJ, 8, .inr (.inl xnd)))] s.heap.size = A at hD ⊢
  have hA : ∀ q : Nat, s.heap.size ≤ q → A q := fun q h => by rw [← hAe]; exact Or.inr h
  have hS : va_S A s.heap s.heap [] := va_S.rf
  have hP : va_P (dC, dI) vwCl [(ad 3, .inr (3, [.ref (ad 7), .ref (ad 8), .ref (ad 9), .ref (ad 10), .ref (ad 11), .ref (ad 12), .int xpn])), (ad 4, .inr (2, [.ref (ad 17), .ref (ad 18), .ref (ad 19)])), (ad 7, .inl (cI, 24, .inl xpo)), (ad 11, .inl (cI, 24, .inl xpi)), (ad 17, .inl (cJ, 8, .inr (.inl xnt))), (ad 18, .inl (cJ, 8, .inr (.inl xnl))), (ad 19, .inl (cJ, 8, .inr (.inl xnd)))] s.heap := hP
  clear hAe hD0
  have loop58 : ∀ (xnd : Nat → Int64) (n : Nat) (v2 : Int32) (xnt : Nat → Int64) (xnl : Nat → Int64) (H : Heap) (locs : List Loc) (ls : Array Slot), zf_Ne_goDeeper_L58 xnd xpn xpo xpi n v2 xnt xnl = some res → va_P (dC, dI) vwCl [(ad 3, .inr (3, [.ref (ad 7), .ref (ad 8), .ref (ad 9), .ref (ad 10), .ref (ad 11), .ref (ad 12), .int xpn])), (ad 4, .inr (2, [.ref (ad 17), .ref (ad 18), .ref (ad 19)])), (ad 7, .inl (cI, 24, .inl xpo)), (ad 11, .inl (cI, 24, .inl xpi)), (ad 17, .inl (cJ, 8, .inr (.inl xnt))), (ad 18, .inl (cJ, 8, .inr (.inl xnl))), (ad 19, .inl (cJ, 8, .inr (.inl xnd)))] H → va_D A [(ad 3, .inr (3, [.ref (ad 7), .ref (ad 8), .ref (ad 9), .ref (ad 10), .ref (ad 11), .ref (ad 12), .int xpn])), (ad 4, .inr (2, [.ref (ad 17), .ref (ad 18), .ref (ad 19)])), (ad 7, .inl (cI, 24, .inl xpo)), (ad 11, .inl (cI, 24, .inl xpi)), (ad 17, .inl (cJ, 8, .inr (.inl xnt))), (ad 18, .inl (cJ, 8, .inr (.inl xnl))), (ad 19, .inl (cJ, 8, .inr (.inl xnd)))] → va_S A s.heap H locs → lv_has ls 4 [(0, .ref (ad 4)), (1, .ref (ad 3)), (2, .int v2)] → W p l e (headSpec zw_Ne_goDeeper ({ frames := 1, cells := 0, slots := 0, locals := 24 } : Room)).room s m ([.ref (ad 4), .ref (ad 3)] : List Value).toArray below meth c H locs 0 0 (MQ below (va_Qv (fun (_ : Unit) => True) (mp_BM (dC, dI) vwCl [(ad 3, .inr (3, [.ref (ad 7), .ref (ad 8), .ref (ad 9), .ref (ad 10), .ref (ad 11), .ref (ad 12), .int xpn])), (ad 4, .inr (2, [.ref (ad 17), .ref (ad 18), .ref (ad 19)])), (ad 7, .inl (cI, 24, .inl xpo)), (ad 11, .inl (cI, 24, .inl xpi)), (ad 17, .inl (cJ, 8, .inr (.inl res.1))), (ad 18, .inl (cJ, 8, .inr (.inl res.2.1))), (ad 19, .inl (cJ, 8, .inr (.inl res.2.2)))] A) A) ([.ref (ad 4), .ref (ad 3)] : List Value).toArray s 0 0 (A)) (F0 m 58 ls []) := by
    intro xnd n
    induction n with
    | zero => intro v2 xnt xnl H locs ls hf; simp [zf_Ne_goDeeper_L58] at hf
    | succ n ih =>
      intro v2 xnt xnl H locs ls hf hP hD hS hl
      rw [zf_Ne_goDeeper_L58] at hf
      refine lv_iload_n hx hb zd_Ne_goDeeper_58 rfl (lv_at hl 2 rfl) ?_
      refine lv_bipush (v := 8) hx hb zd_Ne_goDeeper_59 (by decide) ?_
      refine lv_icmp_ge (tgt := 97) hx hb zd_Ne_goDeeper_61 (by decide) (fun c_3 => ?_) (fun c_3 => ?_)
      · have hf := mp_t c_3 hf
        have hf := Option.some.inj hf
        subst hf
        exact W.vret hx hb hr (fun t ht hW => ⟨⟨(), rfl, trivial, by rw [ht]; exact hP, hD⟩, hS.F ht⟩) hS.2.2 zd_Ne_goDeeper_97
      · have hf := mp_f c_3 hf
        refine lv_aload_n hx hb zd_Ne_goDeeper_64 rfl (lv_at hl 0 rfl) ?_
        refine va_get (D := (dC, dI)) (ci := 2) (v := .ref (ad 18)) (C := zR_Ne) (T := zT_Ne) (N := 3) hx hb hts (fun w h => hsub w (zi_Ne w h)) hown hK hP 1 rfl rfl 1 (by decide) (hw _ zq_112) (fun _ h9 => h9) rfl zd_Ne_goDeeper_65 ?_
        refine lv_iload_n hx hb zd_Ne_goDeeper_68 rfl (lv_at hl 2 rfl) ?_
        refine lv_aload_n hx hb zd_Ne_goDeeper_69 rfl (lv_at hl 0 rfl) ?_
        refine va_get (D := (dC, dI)) (ci := 2) (v := .ref (ad 19)) (C := zR_Ne) (T := zT_Ne) (N := 3) hx hb hts (fun w h => hsub w (zi_Ne w h)) hown hK hP 1 rfl rfl 2 (by decide) (hw _ zq_113) (fun _ h9 => h9) rfl zd_Ne_goDeeper_70 ?_
        refine lv_iload_n hx hb zd_Ne_goDeeper_73 rfl (lv_at hl 2 rfl) ?_
        obtain ⟨h_4, hf⟩ := mp_in hf
        refine va_lald hx hb hK hP 6 1 rfl rfl (i := v2) h_4 zd_Ne_goDeeper_74 ?_
        obtain ⟨h_5, hf⟩ := mp_in hf
        refine va_last hx hb hK hP hD hS 5 1 rfl rfl (i := v2) (x := (xnd v2.toNatClampNeg)) h_5 zd_Ne_goDeeper_75 (fun H locs hP hD hS => ?_)
        have hP : va_P (dC, dI) vwCl [(ad 3, .inr (3, [.ref (ad 7), .ref (ad 8), .ref (ad 9), .ref (ad 10), .ref (ad 11), .ref (ad 12), .int xpn])), (ad 4, .inr (2, [.ref (ad 17), .ref (ad 18), .ref (ad 19)])), (ad 7, .inl (cI, 24, .inl xpo)), (ad 11, .inl (cI, 24, .inl xpi)), (ad 17, .inl (cJ, 8, .inr (.inl xnt))), (ad 18, .inl (cJ, 8, .inr (.inl (vp_updL xnl v2.toNatClampNeg (xnd v2.toNatClampNeg))))), (ad 19, .inl (cJ, 8, .inr (.inl xnd)))] H := hP
        have hD : va_D A [(ad 3, .inr (3, [.ref (ad 7), .ref (ad 8), .ref (ad 9), .ref (ad 10), .ref (ad 11), .ref (ad 12), .int xpn])), (ad 4, .inr (2, [.ref (ad 17), .ref (ad 18), .ref (ad 19)])), (ad 7, .inl (cI, 24, .inl xpo)), (ad 11, .inl (cI, 24, .inl xpi)), (ad 17, .inl (cJ, 8, .inr (.inl xnt))), (ad 18, .inl (cJ, 8, .inr (.inl (vp_updL xnl v2.toNatClampNeg (xnd v2.toNatClampNeg))))), (ad 19, .inl (cJ, 8, .inr (.inl xnd)))] := hD
        refine lv_aload_n hx hb zd_Ne_goDeeper_76 rfl (lv_at hl 0 rfl) ?_
        refine va_get (D := (dC, dI)) (ci := 2) (v := .ref (ad 17)) (C := zR_Ne) (T := zT_Ne) (N := 3) hx hb hts (fun w h => hsub w (zi_Ne w h)) hown hK hP 1 rfl rfl 0 (by decide) (hw _ zq_111) (fun _ h9 => h9) rfl zd_Ne_goDeeper_77 ?_
        refine lv_iload_n hx hb zd_Ne_goDeeper_80 rfl (lv_at hl 2 rfl) ?_
        refine lv_dup2_11 hx hb zd_Ne_goDeeper_81 rfl rfl ?_
        obtain ⟨h_6, hf⟩ := mp_in hf
        refine va_lald hx hb hK hP 4 1 rfl rfl (i := v2) h_6 zd_Ne_goDeeper_82 ?_
        refine lv_aload_n hx hb zd_Ne_goDeeper_83 rfl (lv_at hl 0 rfl) ?_
        refine va_get (D := (dC, dI)) (ci := 2) (v := .ref (ad 19)) (C := zR_Ne) (T := zT_Ne) (N := 3) hx hb hts (fun w h => hsub w (zi_Ne w h)) hown hK hP 1 rfl rfl 2 (by decide) (hw _ zq_113) (fun _ h9 => h9) rfl zd_Ne_goDeeper_84 ?_
        refine lv_iload_n hx hb zd_Ne_goDeeper_87 rfl (lv_at hl 2 rfl) ?_
        obtain ⟨h_7, hf⟩ := mp_in hf
        refine va_lald hx hb hK hP 6 1 rfl rfl (i := v2) h_7 zd_Ne_goDeeper_88 ?_
        refine lv_ladd hx hb zd_Ne_goDeeper_89 ?_
        obtain ⟨h_8, hf⟩ := mp_in hf
        refine va_last hx hb hK hP hD hS 4 1 rfl rfl (i := v2) (x := ((xnt v2.toNatClampNeg) + (xnd v2.toNatClampNeg))) h_8 zd_Ne_goDeeper_90 (fun H locs hP hD hS => ?_)
        have hP : va_P (dC, dI) vwCl [(ad 3, .inr (3, [.ref (ad 7), .ref (ad 8), .ref (ad 9), .ref (ad 10), .ref (ad 11), .ref (ad 12), .int xpn])), (ad 4, .inr (2, [.ref (ad 17), .ref (ad 18), .ref (ad 19)])), (ad 7, .inl (cI, 24, .inl xpo)), (ad 11, .inl (cI, 24, .inl xpi)), (ad 17, .inl (cJ, 8, .inr (.inl (vp_updL xnt v2.toNatClampNeg ((xnt v2.toNatClampNeg) + (xnd v2.toNatClampNeg)))))), (ad 18, .inl (cJ, 8, .inr (.inl (vp_updL xnl v2.toNatClampNeg (xnd v2.toNatClampNeg))))), (ad 19, .inl (cJ, 8, .inr (.inl xnd)))] H := hP
        have hD : va_D A [(ad 3, .inr (3, [.ref (ad 7), .ref (ad 8), .ref (ad 9), .ref (ad 10), .ref (ad 11), .ref (ad 12), .int xpn])), (ad 4, .inr (2, [.ref (ad 17), .ref (ad 18), .ref (ad 19)])), (ad 7, .inl (cI, 24, .inl xpo)), (ad 11, .inl (cI, 24, .inl xpi)), (ad 17, .inl (cJ, 8, .inr (.inl (vp_updL xnt v2.toNatClampNeg ((xnt v2.toNatClampNeg) + (xnd v2.toNatClampNeg)))))), (ad 18, .inl (cJ, 8, .inr (.inl (vp_updL xnl v2.toNatClampNeg (xnd v2.toNatClampNeg))))), (ad 19, .inl (cJ, 8, .inr (.inl xnd)))] := hD
        refine lv_iinc (v := (v2 + (1 : Int32))) (lv' := [(2, .int (v2 + (1 : Int32))), (0, .ref (ad 4)), (1, .ref (ad 3))]) hx hb zd_Ne_goDeeper_91 hl (k := 2) rfl rfl (by decide) rfl (fun ls hl => ?_)
        refine lv_goto (tgt := 58) hx hb zd_Ne_goDeeper_94 (by decide) ?_
        exact ih (v2 + (1 : Int32)) (vp_updL xnt v2.toNatClampNeg ((xnt v2.toNatClampNeg) + (xnd v2.toNatClampNeg))) (vp_updL xnl v2.toNatClampNeg (xnd v2.toNatClampNeg)) _ _ _ hf hP hD hS (lv_sub hl [1, 2, 0] rfl)
  have loop10 : ∀ (xnt : Nat → Int64) (xnl : Nat → Int64) (n : Nat) (v2 : Int32) (xnd : Nat → Int64) (H : Heap) (locs : List Loc) (ls : Array Slot), zf_Ne_goDeeper_L10 xnt xnl xpn xpo xpi n v2 xnd = some res → va_P (dC, dI) vwCl [(ad 3, .inr (3, [.ref (ad 7), .ref (ad 8), .ref (ad 9), .ref (ad 10), .ref (ad 11), .ref (ad 12), .int xpn])), (ad 4, .inr (2, [.ref (ad 17), .ref (ad 18), .ref (ad 19)])), (ad 7, .inl (cI, 24, .inl xpo)), (ad 11, .inl (cI, 24, .inl xpi)), (ad 17, .inl (cJ, 8, .inr (.inl xnt))), (ad 18, .inl (cJ, 8, .inr (.inl xnl))), (ad 19, .inl (cJ, 8, .inr (.inl xnd)))] H → va_D A [(ad 3, .inr (3, [.ref (ad 7), .ref (ad 8), .ref (ad 9), .ref (ad 10), .ref (ad 11), .ref (ad 12), .int xpn])), (ad 4, .inr (2, [.ref (ad 17), .ref (ad 18), .ref (ad 19)])), (ad 7, .inl (cI, 24, .inl xpo)), (ad 11, .inl (cI, 24, .inl xpi)), (ad 17, .inl (cJ, 8, .inr (.inl xnt))), (ad 18, .inl (cJ, 8, .inr (.inl xnl))), (ad 19, .inl (cJ, 8, .inr (.inl xnd)))] → va_S A s.heap H locs → lv_has ls 4 [(0, .ref (ad 4)), (1, .ref (ad 3)), (2, .int v2)] → W p l e (headSpec zw_Ne_goDeeper ({ frames := 1, cells := 0, slots := 0, locals := 24 } : Room)).room s m ([.ref (ad 4), .ref (ad 3)] : List Value).toArray below meth c H locs 0 0 (MQ below (va_Qv (fun (_ : Unit) => True) (mp_BM (dC, dI) vwCl [(ad 3, .inr (3, [.ref (ad 7), .ref (ad 8), .ref (ad 9), .ref (ad 10), .ref (ad 11), .ref (ad 12), .int xpn])), (ad 4, .inr (2, [.ref (ad 17), .ref (ad 18), .ref (ad 19)])), (ad 7, .inl (cI, 24, .inl xpo)), (ad 11, .inl (cI, 24, .inl xpi)), (ad 17, .inl (cJ, 8, .inr (.inl res.1))), (ad 18, .inl (cJ, 8, .inr (.inl res.2.1))), (ad 19, .inl (cJ, 8, .inr (.inl res.2.2)))] A) A) ([.ref (ad 4), .ref (ad 3)] : List Value).toArray s 0 0 (A)) (F0 m 10 ls []) := by
    intro xnt xnl n
    induction n with
    | zero => intro v2 xnd H locs ls hf; simp [zf_Ne_goDeeper_L10] at hf
    | succ n ih =>
      intro v2 xnd H locs ls hf hP hD hS hl
      rw [zf_Ne_goDeeper_L10] at hf
      refine lv_iload_n hx hb zd_Ne_goDeeper_10 rfl (lv_at hl 2 rfl) ?_
      refine lv_aload_n hx hb zd_Ne_goDeeper_11 rfl (lv_at hl 1 rfl) ?_
      refine va_get (D := (dC, dI)) (ci := 3) (v := .int xpn) (C := zR_Pa) (T := zT_Pa) (N := 7) hx hb hts (fun w h => hsub w (zi_Pa w h)) hown hK hP 0 rfl rfl 6 (by decide) (hw _ zq_88) (fun _ h9 => h9) rfl zd_Ne_goDeeper_12 ?_
      refine lv_icmp_ge (tgt := 56) hx hb zd_Ne_goDeeper_15 (by decide) (fun c_2 => ?_) (fun c_2 => ?_)
      · have hf := mp_t c_2 hf
        refine lv_iconst (v := 0) hx hb zd_Ne_goDeeper_56 (by decide) ?_
        refine lv_istore_n (lv' := [(2, .int (0 : Int32)), (0, .ref (ad 4)), (1, .ref (ad 3))]) hx hb zd_Ne_goDeeper_57 rfl hl (by decide) rfl (fun ls hl => ?_)
        exact loop58 xnd 2000 (0 : Int32) xnt xnl _ _ _ hf hP hD hS (lv_sub hl [1, 2, 0] rfl)
      · have hf := mp_f c_2 hf
        refine lv_aload_n hx hb zd_Ne_goDeeper_18 rfl (lv_at hl 1 rfl) ?_
        refine va_get (D := (dC, dI)) (ci := 3) (v := .ref (ad 11)) (C := zR_Pa) (T := zT_Pa) (N := 7) hx hb hts (fun w h => hsub w (zi_Pa w h)) hown hK hP 0 rfl rfl 4 (by decide) (hw _ zq_84) (fun _ h9 => h9) rfl zd_Ne_goDeeper_19 ?_
        refine lv_iload_n hx hb zd_Ne_goDeeper_22 rfl (lv_at hl 2 rfl) ?_
        obtain ⟨h_9, hf⟩ := mp_in hf
        refine va_iald hx hb hK hP 3 0 rfl rfl (i := v2) h_9 zd_Ne_goDeeper_23 ?_
        refine lv_istore_n (lv' := [(3, .int (xpi v2.toNatClampNeg)), (0, .ref (ad 4)), (1, .ref (ad 3)), (2, .int v2)]) hx hb zd_Ne_goDeeper_24 rfl hl (by decide) rfl (fun ls hl => ?_)
        refine lv_iload_n hx hb zd_Ne_goDeeper_25 rfl (lv_at hl 0 rfl) ?_
        refine lv_iconst (v := -1) hx hb zd_Ne_goDeeper_26 (by decide) ?_
        refine lv_icmp_eq (tgt := 50) hx hb zd_Ne_goDeeper_27 (by decide) (fun c_10 => ?_) (fun c_10 => ?_)
        · have hf := mp_t c_10 hf
          refine lv_iinc (v := (v2 + (1 : Int32))) (lv' := [(2, .int (v2 + (1 : Int32))), (3, .int (xpi v2.toNatClampNeg)), (0, .ref (ad 4)), (1, .ref (ad 3))]) hx hb zd_Ne_goDeeper_50 hl (k := 3) rfl rfl (by decide) rfl (fun ls hl => ?_)
          refine lv_goto (tgt := 10) hx hb zd_Ne_goDeeper_53 (by decide) ?_
          exact ih (v2 + (1 : Int32)) xnd _ _ _ hf hP hD hS (lv_sub hl [2, 3, 0] rfl)
        · have hf := mp_f c_10 hf
          refine lv_aload_n hx hb zd_Ne_goDeeper_30 rfl (lv_at hl 1 rfl) ?_
          refine va_get (D := (dC, dI)) (ci := 2) (v := .ref (ad 19)) (C := zR_Ne) (T := zT_Ne) (N := 3) hx hb hts (fun w h => hsub w (zi_Ne w h)) hown hK hP 1 rfl rfl 2 (by decide) (hw _ zq_113) (fun _ h9 => h9) rfl zd_Ne_goDeeper_31 ?_
          refine lv_iload_n hx hb zd_Ne_goDeeper_34 rfl (lv_at hl 0 rfl) ?_
          refine lv_dup2_11 hx hb zd_Ne_goDeeper_35 rfl rfl ?_
          obtain ⟨h_11, hf⟩ := mp_in hf
          refine va_lald hx hb hK hP 6 1 rfl rfl (i := (xpi v2.toNatClampNeg)) h_11 zd_Ne_goDeeper_36 ?_
          refine lv_aload_n hx hb zd_Ne_goDeeper_37 rfl (lv_at hl 1 rfl) ?_
          refine va_get (D := (dC, dI)) (ci := 2) (v := .ref (ad 18)) (C := zR_Ne) (T := zT_Ne) (N := 3) hx hb hts (fun w h => hsub w (zi_Ne w h)) hown hK hP 1 rfl rfl 1 (by decide) (hw _ zq_112) (fun _ h9 => h9) rfl zd_Ne_goDeeper_38 ?_
          refine lv_aload_n hx hb zd_Ne_goDeeper_41 rfl (lv_at hl 2 rfl) ?_
          refine va_get (D := (dC, dI)) (ci := 3) (v := .ref (ad 7)) (C := zR_Pa) (T := zT_Pa) (N := 7) hx hb hts (fun w h => hsub w (zi_Pa w h)) hown hK hP 0 rfl rfl 0 (by decide) (hw _ zq_77) (fun _ h9 => h9) rfl zd_Ne_goDeeper_42 ?_
          refine lv_iload_n hx hb zd_Ne_goDeeper_45 rfl (lv_at hl 3 rfl) ?_
          obtain ⟨h_12, hf⟩ := mp_in hf
          refine va_iald hx hb hK hP 2 0 rfl rfl (i := v2) h_12 zd_Ne_goDeeper_46 ?_
          obtain ⟨h_13, hf⟩ := mp_in hf
          refine va_lald hx hb hK hP 5 1 rfl rfl (i := (xpo v2.toNatClampNeg)) h_13 zd_Ne_goDeeper_47 ?_
          refine lv_ladd hx hb zd_Ne_goDeeper_48 ?_
          obtain ⟨h_14, hf⟩ := mp_in hf
          refine va_last hx hb hK hP hD hS 6 1 rfl rfl (i := (xpi v2.toNatClampNeg)) (x := ((xnd (xpi v2.toNatClampNeg).toNatClampNeg) + (xnl (xpo v2.toNatClampNeg).toNatClampNeg))) h_14 zd_Ne_goDeeper_49 (fun H locs hP hD hS => ?_)
          have hP : va_P (dC, dI) vwCl [(ad 3, .inr (3, [.ref (ad 7), .ref (ad 8), .ref (ad 9), .ref (ad 10), .ref (ad 11), .ref (ad 12), .int xpn])), (ad 4, .inr (2, [.ref (ad 17), .ref (ad 18), .ref (ad 19)])), (ad 7, .inl (cI, 24, .inl xpo)), (ad 11, .inl (cI, 24, .inl xpi)), (ad 17, .inl (cJ, 8, .inr (.inl xnt))), (ad 18, .inl (cJ, 8, .inr (.inl xnl))), (ad 19, .inl (cJ, 8, .inr (.inl (vp_updL xnd (xpi v2.toNatClampNeg).toNatClampNeg ((xnd (xpi v2.toNatClampNeg).toNatClampNeg) + (xnl (xpo v2.toNatClampNeg).toNatClampNeg))))))] H := hP
          have hD : va_D A [(ad 3, .inr (3, [.ref (ad 7), .ref (ad 8), .ref (ad 9), .ref (ad 10), .ref (ad 11), .ref (ad 12), .int xpn])), (ad 4, .inr (2, [.ref (ad 17), .ref (ad 18), .ref (ad 19)])), (ad 7, .inl (cI, 24, .inl xpo)), (ad 11, .inl (cI, 24, .inl xpi)), (ad 17, .inl (cJ, 8, .inr (.inl xnt))), (ad 18, .inl (cJ, 8, .inr (.inl xnl))), (ad 19, .inl (cJ, 8, .inr (.inl (vp_updL xnd (xpi v2.toNatClampNeg).toNatClampNeg ((xnd (xpi v2.toNatClampNeg).toNatClampNeg) + (xnl (xpo v2.toNatClampNeg).toNatClampNeg))))))] := hD
          refine lv_iinc (v := (v2 + (1 : Int32))) (lv' := [(2, .int (v2 + (1 : Int32))), (3, .int (xpi v2.toNatClampNeg)), (0, .ref (ad 4)), (1, .ref (ad 3))]) hx hb zd_Ne_goDeeper_50 hl (k := 3) rfl rfl (by decide) rfl (fun ls hl => ?_)
          refine lv_goto (tgt := 10) hx hb zd_Ne_goDeeper_53 (by decide) ?_
          exact ih (v2 + (1 : Int32)) (vp_updL xnd (xpi v2.toNatClampNeg).toNatClampNeg ((xnd (xpi v2.toNatClampNeg).toNatClampNeg) + (xnl (xpo v2.toNatClampNeg).toNatClampNeg))) _ _ _ hf hP hD hS (lv_sub hl [2, 3, 0] rfl)
  have hl := lv_entry ([.ref (ad 4), .ref (ad 3)]) (n := 4) (Nat.le_of_ble_eq_true rfl)
  rw [lg_entry_eq]
  generalize (lg_sl ([.ref (ad 4), .ref (ad 3)]) ++ List.replicate (4 - (lg_sl ([.ref (ad 4), .ref (ad 3)])).length) Slot.unset).toArray = ls at hl ⊢
  have hl : lv_has ls 4 [(0, .ref (ad 4)), (1, .ref (ad 3))] := hl
  unfold zf_Ne_goDeeper at hf
  refine lv_aload_n hx hb zd_Ne_goDeeper_0 rfl (lv_at hl 0 rfl) ?_
  refine va_get (D := (dC, dI)) (ci := 2) (v := .ref (ad 19)) (C := zR_Ne) (T := zT_Ne) (N := 3) hx hb hts (fun w h => hsub w (zi_Ne w h)) hown hK hP 1 rfl rfl 2 (by decide) (hw _ zq_113) (fun _ h9 => h9) rfl zd_Ne_goDeeper_1 ?_
  refine lv_lconst (v := 0) hx hb zd_Ne_goDeeper_4 (by decide) ?_
  obtain ⟨y1, hg1, hf⟩ := mp_bd hf
  refine mp_Mv (wr := [(ad 3, .inr (3, [.ref (ad 7), .ref (ad 8), .ref (ad 9), .ref (ad 10), .ref (ad 11), .ref (ad 12), .int xpn])), (ad 4, .inr (2, [.ref (ad 17), .ref (ad 18), .ref (ad 19)])), (ad 7, .inl (cI, 24, .inl xpo)), (ad 11, .inl (cI, 24, .inl xpi)), (ad 17, .inl (cJ, 8, .inr (.inl xnt))), (ad 18, .inl (cJ, 8, .inr (.inl xnl)))]) (va_runS (As := [.ref (ad 19), .long (0 : Int64)]) (rest := []) ⟨hx, hb, hml, hown, hts⟩ (zc_Ja_fill l dC dI cI cJ cZ (ad 19) 8 _ xnd (0 : Int64) y1 hg1) (va_cwS 2 hts (mp_gS hsub zq_221 zq_222 zq_31 zq_223) rfl rfl rfl (by decide +kernel) ⟨Nat.le_of_ble_eq_true rfl, Nat.le_of_ble_eq_true rfl⟩) ⟨mp_blM, mp_preM hN hK (hP.sub [6] rfl) (hD.sub [6] (by decide) rfl)⟩ rfl rfl hl.1 rfl (lv_room (Nat.le_of_ble_eq_true rfl)) zd_Ne_goDeeper_5 ⟨Nat.zero_le _, Nat.zero_le _⟩) hP hD hS hA [6] [0, 1, 2, 3, 4, 5] rfl rfl (by decide) (by decide) (fun H locs hP hD hS => ?_)
  have hP : va_P (dC, dI) vwCl [(ad 3, .inr (3, [.ref (ad 7), .ref (ad 8), .ref (ad 9), .ref (ad 10), .ref (ad 11), .ref (ad 12), .int xpn])), (ad 4, .inr (2, [.ref (ad 17), .ref (ad 18), .ref (ad 19)])), (ad 7, .inl (cI, 24, .inl xpo)), (ad 11, .inl (cI, 24, .inl xpi)), (ad 17, .inl (cJ, 8, .inr (.inl xnt))), (ad 18, .inl (cJ, 8, .inr (.inl xnl))), (ad 19, .inl (cJ, 8, .inr (.inl y1)))] H := hP
  have hD : va_D A [(ad 3, .inr (3, [.ref (ad 7), .ref (ad 8), .ref (ad 9), .ref (ad 10), .ref (ad 11), .ref (ad 12), .int xpn])), (ad 4, .inr (2, [.ref (ad 17), .ref (ad 18), .ref (ad 19)])), (ad 7, .inl (cI, 24, .inl xpo)), (ad 11, .inl (cI, 24, .inl xpi)), (ad 17, .inl (cJ, 8, .inr (.inl xnt))), (ad 18, .inl (cJ, 8, .inr (.inl xnl))), (ad 19, .inl (cJ, 8, .inr (.inl y1)))] := hD
  refine lv_iconst (v := 0) hx hb zd_Ne_goDeeper_8 (by decide) ?_
  refine lv_istore_n (lv' := [(2, .int (0 : Int32)), (0, .ref (ad 4)), (1, .ref (ad 3))]) hx hb zd_Ne_goDeeper_9 rfl hl (by decide) rfl (fun ls hl => ?_)
  exact loop10 xnt xnl 2000 (0 : Int32) y1 _ _ _ hf hP hD hS (lv_sub hl [1, 2, 0] rfl)
def zf_Fo_isDigit (u0 : Int32) : Option (Int32) := (if u0 < (48 : Int32) then some (0 : Int32) else (if (57 : Int32) < u0 then some (0 : Int32) else some (1 : Int32)))
set_option maxHeartbeats 4000000 in
set_option maxRecDepth 100000 in
theorem zc_Fo_isDigit (l : Launch) (dC : Nat → ClassId) (dI : Nat → Nat → Nat) (cI cJ cZ : ClassId) (ad : Nat → Nat) (u0 : Int32) (res : Int32) (hf : zf_Fo_isDigit u0 = some res) : Met l zy_Fo_isDigit zw_Fo_isDigit ({ frames := 0, cells := 0, slots := 0, locals := 0 } : Room) (mp_PR (dC, dI) vwCl (mp_tys cI cJ cZ) [] [.int u0]) (vp_Si (fun r => r = res ∧ mp_b res)) 0 0 (fun _ => False) := by
  refine Met.ofW (cc := zb_Fo_isDigit) (maxL := 1) (ret := (some .boolean)) (by decide) rfl ?_
  intro p e s m args below meth c s₁ B hml hv
  obtain ⟨rfl, hP, hK, hN⟩ := hv
  have hx := B.exec
  have hb := B.bytes
  have hr := B.returns
  have hts := atoms_spec (ws := zw_Fo_isDigit) B.pre
  have hsub : ∀ w ∈ mp_tbl, w ∈ zw_Fo_isDigit := fun w h => List.mem_cons_of_mem _ h
  have hw : ∀ w ∈ mp_tbl, w.before _ s = true := fun w h => hts w (hsub w h)
  have hown : s.vm.findClass zR_Fo = some m.cls := findClass_of_methodNamed B.named
  have hlocks := B.notSynchronized
  have hl := lv_entry ([.int u0]) (n := 1) (Nat.le_of_ble_eq_true rfl)
  rw [lg_entry_eq]
  generalize (lg_sl ([.int u0]) ++ List.replicate (1 - (lg_sl ([.int u0])).length) Slot.unset).toArray = ls at hl ⊢
  have hl : lv_has ls 1 [(0, .int u0)] := hl
  unfold zf_Fo_isDigit at hf
  refine lv_iload_n hx hb zd_Fo_isDigit_0 rfl (lv_at hl 0 rfl) ?_
  refine lv_bipush (v := 48) hx hb zd_Fo_isDigit_1 (by decide) ?_
  refine lv_icmp_lt (tgt := 16) hx hb zd_Fo_isDigit_3 (by decide) (fun c_1 => ?_) (fun c_1 => ?_)
  · have hf := mp_t c_1 hf
    refine lv_iconst (v := 0) hx hb zd_Fo_isDigit_16 (by decide) ?_
    have hf := Option.some.inj hf
    subst hf
    exact W.zret (v := (0 : Int32)) hx hb hr (mp_nz (Or.inl rfl)) (fun t ht hW => ⟨(0 : Int32), rfl, ⟨rfl, (Or.inl rfl)⟩, ht⟩) (fun q h => by cases h) zd_Fo_isDigit_17
  · have hf := mp_f c_1 hf
    refine lv_iload_n hx hb zd_Fo_isDigit_6 rfl (lv_at hl 0 rfl) ?_
    refine lv_bipush (v := 57) hx hb zd_Fo_isDigit_7 (by decide) ?_
    refine lv_icmp_gt (tgt := 16) hx hb zd_Fo_isDigit_9 (by decide) (fun c_2 => ?_) (fun c_2 => ?_)
    · have hf := mp_t c_2 hf
      refine lv_iconst (v := 0) hx hb zd_Fo_isDigit_16 (by decide) ?_
      have hf := Option.some.inj hf
      subst hf
      exact W.zret (v := (0 : Int32)) hx hb hr (mp_nz (Or.inl rfl)) (fun t ht hW => ⟨(0 : Int32), rfl, ⟨rfl, (Or.inl rfl)⟩, ht⟩) (fun q h => by cases h) zd_Fo_isDigit_17
    · have hf := mp_f c_2 hf
      refine lv_iconst (v := 1) hx hb zd_Fo_isDigit_12 (by decide) ?_
      refine lv_goto (tgt := 17) hx hb zd_Fo_isDigit_13 (by decide) ?_
      have hf := Option.some.inj hf
      subst hf
      exact W.zret (v := (1 : Int32)) hx hb hr (mp_nz (Or.inr rfl)) (fun t ht hW => ⟨(1 : Int32), rfl, ⟨rfl, (Or.inr rfl)⟩, ht⟩) (fun q h => by cases h) zd_Fo_isDigit_17
def zf_Fo_signOf (u0 : Int32) : Option (Int32) := (if u0 = (42 : Int32) then some (-9 : Int32) else (if u0 = (43 : Int32) then some (-7 : Int32) else (if u0 = (45 : Int32) then some (-8 : Int32) else (if u0 = (110 : Int32) then some (-6 : Int32) else some (-12 : Int32)))))
set_option maxHeartbeats 4000000 in
set_option maxRecDepth 100000 in
theorem zc_Fo_signOf (l : Launch) (dC : Nat → ClassId) (dI : Nat → Nat → Nat) (cI cJ cZ : ClassId) (ad : Nat → Nat) (u0 : Int32) (res : Int32) (hf : zf_Fo_signOf u0 = some res) : Met l zy_Fo_signOf zw_Fo_signOf ({ frames := 0, cells := 0, slots := 0, locals := 0 } : Room) (mp_PR (dC, dI) vwCl (mp_tys cI cJ cZ) [] [.int u0]) (vp_Si (fun r => r = res)) 0 0 (fun _ => False) := by
  refine Met.ofW (cc := zb_Fo_signOf) (maxL := 1) (ret := (some .int)) (by decide) rfl ?_
  intro p e s m args below meth c s₁ B hml hv
  obtain ⟨rfl, hP, hK, hN⟩ := hv
  have hx := B.exec
  have hb := B.bytes
  have hr := B.returns
  have hts := atoms_spec (ws := zw_Fo_signOf) B.pre
  have hsub : ∀ w ∈ mp_tbl, w ∈ zw_Fo_signOf := fun w h => List.mem_cons_of_mem _ h
  have hw : ∀ w ∈ mp_tbl, w.before _ s = true := fun w h => hts w (hsub w h)
  have hown : s.vm.findClass zR_Fo = some m.cls := findClass_of_methodNamed B.named
  have hlocks := B.notSynchronized
  have hl := lv_entry ([.int u0]) (n := 1) (Nat.le_of_ble_eq_true rfl)
  rw [lg_entry_eq]
  generalize (lg_sl ([.int u0]) ++ List.replicate (1 - (lg_sl ([.int u0])).length) Slot.unset).toArray = ls at hl ⊢
  have hl : lv_has ls 1 [(0, .int u0)] := hl
  unfold zf_Fo_signOf at hf
  refine lv_iload_n hx hb zd_Fo_signOf_0 rfl (lv_at hl 0 rfl) ?_
  by_cases c_1 : u0 = (42 : Int32)
  · have hf := mp_t c_1 hf
    refine lv_lookup (tgt := 53) (off := 52) hx hb zd_Fo_signOf_1 (by decide +kernel) (by rw [c_1]; rfl) (by decide) ?_
    refine lv_bipush (v := -9) hx hb zd_Fo_signOf_53 (by decide) ?_
    have hf := Option.some.inj hf
    subst hf
    exact W.iret (v := (-9 : Int32)) hx hb hr (fun t ht hW => ⟨(-9 : Int32), rfl, rfl, ht⟩) (fun q h => by cases h) zd_Fo_signOf_55
  have hf := mp_f c_1 hf
  by_cases c_2 : u0 = (43 : Int32)
  · have hf := mp_t c_2 hf
    refine lv_lookup (tgt := 47) (off := 46) hx hb zd_Fo_signOf_1 (by decide +kernel) (by rw [c_2]; rfl) (by decide) ?_
    refine lv_bipush (v := -7) hx hb zd_Fo_signOf_47 (by decide) ?_
    have hf := Option.some.inj hf
    subst hf
    exact W.iret (v := (-7 : Int32)) hx hb hr (fun t ht hW => ⟨(-7 : Int32), rfl, rfl, ht⟩) (fun q h => by cases h) zd_Fo_signOf_49
  have hf := mp_f c_2 hf
  by_cases c_3 : u0 = (45 : Int32)
  · have hf := mp_t c_3 hf
    refine lv_lookup (tgt := 50) (off := 49) hx hb zd_Fo_signOf_1 (by decide +kernel) (by rw [c_3]; rfl) (by decide) ?_
    refine lv_bipush (v := -8) hx hb zd_Fo_signOf_50 (by decide) ?_
    have hf := Option.some.inj hf
    subst hf
    exact W.iret (v := (-8 : Int32)) hx hb hr (fun t ht hW => ⟨(-8 : Int32), rfl, rfl, ht⟩) (fun q h => by cases h) zd_Fo_signOf_52
  have hf := mp_f c_3 hf
  by_cases c_4 : u0 = (110 : Int32)
  · have hf := mp_t c_4 hf
    refine lv_lookup (tgt := 44) (off := 43) hx hb zd_Fo_signOf_1 (by decide +kernel) (by rw [c_4]; rfl) (by decide) ?_
    refine lv_bipush (v := -6) hx hb zd_Fo_signOf_44 (by decide) ?_
    have hf := Option.some.inj hf
    subst hf
    exact W.iret (v := (-6 : Int32)) hx hb hr (fun t ht hW => ⟨(-6 : Int32), rfl, rfl, ht⟩) (fun q h => by cases h) zd_Fo_signOf_46
  have hf := mp_f c_4 hf
  refine lv_lookup (tgt := 56) (off := 55) hx hb zd_Fo_signOf_1 (by decide +kernel) ((lv_osw c_1 (by decide)).trans ((lv_osw c_2 (by decide)).trans ((lv_osw c_3 (by decide)).trans ((lv_osw c_4 (by decide)).trans rfl)))) (by decide) ?_
  refine lv_bipush (v := -12) hx hb zd_Fo_signOf_56 (by decide) ?_
  have hf := Option.some.inj hf
  subst hf
  exact W.iret (v := (-12 : Int32)) hx hb hr (fun t ht hW => ⟨(-12 : Int32), rfl, rfl, ht⟩) (fun q h => by cases h) zd_Fo_signOf_58
def zf_MP_isKind (u0 : Int32) : Option (Int32) := (if u0 < 0 then some (0 : Int32) else (if (5 : Int32) ≤ u0 then some (0 : Int32) else some (1 : Int32)))
set_option maxHeartbeats 4000000 in
set_option maxRecDepth 100000 in
theorem zc_MP_isKind (l : Launch) (dC : Nat → ClassId) (dI : Nat → Nat → Nat) (cI cJ cZ : ClassId) (ad : Nat → Nat) (u0 : Int32) (res : Int32) (hf : zf_MP_isKind u0 = some res) : Met l zy_MP_isKind zw_MP_isKind ({ frames := 0, cells := 0, slots := 0, locals := 0 } : Room) (mp_PR (dC, dI) vwCl (mp_tys cI cJ cZ) [] [.int u0]) (vp_Si (fun r => r = res ∧ mp_b res)) 0 0 (fun _ => False) := by
  refine Met.ofW (cc := zb_MP_isKind) (maxL := 1) (ret := (some .boolean)) (by decide) rfl ?_
  intro p e s m args below meth c s₁ B hml hv
  obtain ⟨rfl, hP, hK, hN⟩ := hv
  have hx := B.exec
  have hb := B.bytes
  have hr := B.returns
  have hts := atoms_spec (ws := zw_MP_isKind) B.pre
  have hsub : ∀ w ∈ mp_tbl, w ∈ zw_MP_isKind := fun w h => List.mem_cons_of_mem _ h
  have hw : ∀ w ∈ mp_tbl, w.before _ s = true := fun w h => hts w (hsub w h)
  have hown : s.vm.findClass zR_MP = some m.cls := findClass_of_methodNamed B.named
  have hlocks := B.notSynchronized
  have hl := lv_entry ([.int u0]) (n := 1) (Nat.le_of_ble_eq_true rfl)
  rw [lg_entry_eq]
  generalize (lg_sl ([.int u0]) ++ List.replicate (1 - (lg_sl ([.int u0])).length) Slot.unset).toArray = ls at hl ⊢
  have hl : lv_has ls 1 [(0, .int u0)] := hl
  unfold zf_MP_isKind at hf
  refine lv_iload_n hx hb zd_MP_isKind_0 rfl (lv_at hl 0 rfl) ?_
  refine lv_if_lt (tgt := 13) hx hb zd_MP_isKind_1 (by decide) (fun c_1 => ?_) (fun c_1 => ?_)
  · have hf := mp_t c_1 hf
    refine lv_iconst (v := 0) hx hb zd_MP_isKind_13 (by decide) ?_
    have hf := Option.some.inj hf
    subst hf
    exact W.zret (v := (0 : Int32)) hx hb hr (mp_nz (Or.inl rfl)) (fun t ht hW => ⟨(0 : Int32), rfl, ⟨rfl, (Or.inl rfl)⟩, ht⟩) (fun q h => by cases h) zd_MP_isKind_14
  · have hf := mp_f c_1 hf
    refine lv_iload_n hx hb zd_MP_isKind_4 rfl (lv_at hl 0 rfl) ?_
    refine lv_iconst (v := 5) hx hb zd_MP_isKind_5 (by decide) ?_
    refine lv_icmp_ge (tgt := 13) hx hb zd_MP_isKind_6 (by decide) (fun c_2 => ?_) (fun c_2 => ?_)
    · have hf := mp_t c_2 hf
      refine lv_iconst (v := 0) hx hb zd_MP_isKind_13 (by decide) ?_
      have hf := Option.some.inj hf
      subst hf
      exact W.zret (v := (0 : Int32)) hx hb hr (mp_nz (Or.inl rfl)) (fun t ht hW => ⟨(0 : Int32), rfl, ⟨rfl, (Or.inl rfl)⟩, ht⟩) (fun q h => by cases h) zd_MP_isKind_14
    · have hf := mp_f c_2 hf
      refine lv_iconst (v := 1) hx hb zd_MP_isKind_9 (by decide) ?_
      refine lv_goto (tgt := 14) hx hb zd_MP_isKind_10 (by decide) ?_
      have hf := Option.some.inj hf
      subst hf
      exact W.zret (v := (1 : Int32)) hx hb hr (mp_nz (Or.inr rfl)) (fun t ht hW => ⟨(1 : Int32), rfl, ⟨rfl, (Or.inr rfl)⟩, ht⟩) (fun q h => by cases h) zd_MP_isKind_14
def zf_Fo_shareOf (u0 : Int32) : Option (Int32) := ((zf_MP_isKind (u0 - (48 : Int32))).bind (fun y1 => (if y1 = 0 then some (-12 : Int32) else some ((-1 : Int32) - (u0 - (48 : Int32))))))
set_option maxHeartbeats 4000000 in
set_option maxRecDepth 100000 in
theorem zc_Fo_shareOf (l : Launch) (dC : Nat → ClassId) (dI : Nat → Nat → Nat) (cI cJ cZ : ClassId) (ad : Nat → Nat) (u0 : Int32) (res : Int32) (hf : zf_Fo_shareOf u0 = some res) : Met l zy_Fo_shareOf zw_Fo_shareOf ({ frames := 1, cells := 0, slots := 0, locals := 20 } : Room) (mp_PR (dC, dI) vwCl (mp_tys cI cJ cZ) [] [.int u0]) (vp_Si (fun r => r = res)) 0 0 (fun _ => False) := by
  refine Met.ofW (cc := zb_Fo_shareOf) (maxL := 2) (ret := (some .int)) (by decide) rfl ?_
  intro p e s m args below meth c s₁ B hml hv
  obtain ⟨rfl, hP, hK, hN⟩ := hv
  have hx := B.exec
  have hb := B.bytes
  have hr := B.returns
  have hts := atoms_spec (ws := zw_Fo_shareOf) B.pre
  have hsub : ∀ w ∈ mp_tbl, w ∈ zw_Fo_shareOf := fun w h => List.mem_cons_of_mem _ h
  have hw : ∀ w ∈ mp_tbl, w.before _ s = true := fun w h => hts w (hsub w h)
  have hown : s.vm.findClass zR_Fo = some m.cls := findClass_of_methodNamed B.named
  have hlocks := B.notSynchronized
  have hl := lv_entry ([.int u0]) (n := 2) (Nat.le_of_ble_eq_true rfl)
  rw [lg_entry_eq]
  generalize (lg_sl ([.int u0]) ++ List.replicate (2 - (lg_sl ([.int u0])).length) Slot.unset).toArray = ls at hl ⊢
  have hl : lv_has ls 2 [(0, .int u0)] := hl
  unfold zf_Fo_shareOf at hf
  refine lv_iload_n hx hb zd_Fo_shareOf_0 rfl (lv_at hl 0 rfl) ?_
  refine lv_bipush (v := 48) hx hb zd_Fo_shareOf_1 (by decide) ?_
  refine lv_isub hx hb zd_Fo_shareOf_3 ?_
  refine lv_istore_n (lv' := [(1, .int (u0 - (48 : Int32))), (0, .int u0)]) hx hb zd_Fo_shareOf_4 rfl hl (by decide) rfl (fun ls hl => ?_)
  refine lv_iload_n hx hb zd_Fo_shareOf_5 rfl (lv_at hl 0 rfl) ?_
  obtain ⟨y1, hg1, hf⟩ := mp_bd hf
  refine mp_Rz (va_runSN (As := [.int (u0 - (48 : Int32))]) (rest := []) ⟨hx, hb, hml, hown, hts⟩ (zc_MP_isKind l dC dI cI cJ cZ ad (u0 - (48 : Int32)) y1 hg1) ⟨va_cnB 1 hts (mp_gC hsub zq_195) rfl rfl rfl hN.2.2.2.2 (hw _ zq_25) (by decide +kernel) ⟨Nat.le_of_ble_eq_true rfl, Nat.le_of_ble_eq_true rfl⟩, hw _ zq_194, trivial⟩ ⟨mp_blR, mp_preR hN hK (hP.sub [] rfl)⟩ rfl rfl hl.1 rfl (lv_room (Nat.le_of_ble_eq_true rfl)) zd_Fo_shareOf_6 ⟨Nat.zero_le _, Nat.zero_le _⟩) (fun hz1 => ?_)
  refine lv_if_eq (tgt := 18) hx hb zd_Fo_shareOf_9 (by decide) (fun c_2 => ?_) (fun c_2 => ?_)
  · have hf := mp_t c_2 hf
    refine lv_bipush (v := -12) hx hb zd_Fo_shareOf_18 (by decide) ?_
    have hf := Option.some.inj hf
    subst hf
    exact W.iret (v := (-12 : Int32)) hx hb hr (fun t ht hW => ⟨(-12 : Int32), rfl, rfl, ht⟩) (fun q h => by cases h) zd_Fo_shareOf_20
  · have hf := mp_f c_2 hf
    refine lv_iconst (v := -1) hx hb zd_Fo_shareOf_12 (by decide) ?_
    refine lv_iload_n hx hb zd_Fo_shareOf_13 rfl (lv_at hl 0 rfl) ?_
    refine lv_isub hx hb zd_Fo_shareOf_14 ?_
    refine lv_goto (tgt := 20) hx hb zd_Fo_shareOf_15 (by decide) ?_
    have hf := Option.some.inj hf
    subst hf
    exact W.iret (v := ((-1 : Int32) - (u0 - (48 : Int32)))) hx hb hr (fun t ht hW => ⟨((-1 : Int32) - (u0 - (48 : Int32))), rfl, rfl, ht⟩) (fun q h => by cases h) zd_Fo_shareOf_20
def zf_Fo_boundOf (u0 : Int32) (u1 : Int32) : Option (Int32) := (if u0 = (105 : Int32) then (if u1 = (110 : Int32) then some (-10 : Int32) else (if u0 = (97 : Int32) then (if u1 = (120 : Int32) then some (-11 : Int32) else some (-12 : Int32)) else some (-12 : Int32))) else (if u0 = (97 : Int32) then (if u1 = (120 : Int32) then some (-11 : Int32) else some (-12 : Int32)) else some (-12 : Int32)))
set_option maxHeartbeats 4000000 in
set_option maxRecDepth 100000 in
theorem zc_Fo_boundOf (l : Launch) (dC : Nat → ClassId) (dI : Nat → Nat → Nat) (cI cJ cZ : ClassId) (ad : Nat → Nat) (u0 : Int32) (u1 : Int32) (res : Int32) (hf : zf_Fo_boundOf u0 u1 = some res) : Met l zy_Fo_boundOf zw_Fo_boundOf ({ frames := 0, cells := 0, slots := 0, locals := 0 } : Room) (mp_PR (dC, dI) vwCl (mp_tys cI cJ cZ) [] [.int u0, .int u1]) (vp_Si (fun r => r = res)) 0 0 (fun _ => False) := by
  refine Met.ofW (cc := zb_Fo_boundOf) (maxL := 2) (ret := (some .int)) (by decide) rfl ?_
  intro p e s m args below meth c s₁ B hml hv
  obtain ⟨rfl, hP, hK, hN⟩ := hv
  have hx := B.exec
  have hb := B.bytes
  have hr := B.returns
  have hts := atoms_spec (ws := zw_Fo_boundOf) B.pre
  have hsub : ∀ w ∈ mp_tbl, w ∈ zw_Fo_boundOf := fun w h => List.mem_cons_of_mem _ h
  have hw : ∀ w ∈ mp_tbl, w.before _ s = true := fun w h => hts w (hsub w h)
  have hown : s.vm.findClass zR_Fo = some m.cls := findClass_of_methodNamed B.named
  have hlocks := B.notSynchronized
  have hl := lv_entry ([.int u0, .int u1]) (n := 2) (Nat.le_of_ble_eq_true rfl)
  rw [lg_entry_eq]
  generalize (lg_sl ([.int u0, .int u1]) ++ List.replicate (2 - (lg_sl ([.int u0, .int u1])).length) Slot.unset).toArray = ls at hl ⊢
  have hl : lv_has ls 2 [(0, .int u0), (1, .int u1)] := hl
  unfold zf_Fo_boundOf at hf
  refine lv_iload_n hx hb zd_Fo_boundOf_0 rfl (lv_at hl 0 rfl) ?_
  refine lv_bipush (v := 105) hx hb zd_Fo_boundOf_1 (by decide) ?_
  refine lv_icmp_ne (tgt := 15) hx hb zd_Fo_boundOf_3 (by decide) (fun c_1 => ?_) (fun c_1 => ?_)
  · have hf := mp_f c_1 hf
    refine lv_iload_n hx hb zd_Fo_boundOf_15 rfl (lv_at hl 0 rfl) ?_
    refine lv_bipush (v := 97) hx hb zd_Fo_boundOf_16 (by decide) ?_
    refine lv_icmp_ne (tgt := 32) hx hb zd_Fo_boundOf_18 (by decide) (fun c_2 => ?_) (fun c_2 => ?_)
    · have hf := mp_f c_2 hf
      refine lv_bipush (v := -12) hx hb zd_Fo_boundOf_32 (by decide) ?_
      have hf := Option.some.inj hf
      subst hf
      exact W.iret (v := (-12 : Int32)) hx hb hr (fun t ht hW => ⟨(-12 : Int32), rfl, rfl, ht⟩) (fun q h => by cases h) zd_Fo_boundOf_34
    · have hf := mp_t c_2 hf
      refine lv_iload_n hx hb zd_Fo_boundOf_21 rfl (lv_at hl 1 rfl) ?_
      refine lv_bipush (v := 120) hx hb zd_Fo_boundOf_22 (by decide) ?_
      refine lv_icmp_ne (tgt := 32) hx hb zd_Fo_boundOf_24 (by decide) (fun c_3 => ?_) (fun c_3 => ?_)
      · have hf := mp_f c_3 hf
        refine lv_bipush (v := -12) hx hb zd_Fo_boundOf_32 (by decide) ?_
        have hf := Option.some.inj hf
        subst hf
        exact W.iret (v := (-12 : Int32)) hx hb hr (fun t ht hW => ⟨(-12 : Int32), rfl, rfl, ht⟩) (fun q h => by cases h) zd_Fo_boundOf_34
      · have hf := mp_t c_3 hf
        refine lv_bipush (v := -11) hx hb zd_Fo_boundOf_27 (by decide) ?_
        refine lv_goto (tgt := 34) hx hb zd_Fo_boundOf_29 (by decide) ?_
        have hf := Option.some.inj hf
        subst hf
        exact W.iret (v := (-11 : Int32)) hx hb hr (fun t ht hW => ⟨(-11 : Int32), rfl, rfl, ht⟩) (fun q h => by cases h) zd_Fo_boundOf_34
  · have hf := mp_t c_1 hf
    refine lv_iload_n hx hb zd_Fo_boundOf_6 rfl (lv_at hl 1 rfl) ?_
    refine lv_bipush (v := 110) hx hb zd_Fo_boundOf_7 (by decide) ?_
    refine lv_icmp_ne (tgt := 15) hx hb zd_Fo_boundOf_9 (by decide) (fun c_4 => ?_) (fun c_4 => ?_)
    · have hf := mp_f c_4 hf
      refine lv_iload_n hx hb zd_Fo_boundOf_15 rfl (lv_at hl 0 rfl) ?_
      refine lv_bipush (v := 97) hx hb zd_Fo_boundOf_16 (by decide) ?_
      refine lv_icmp_ne (tgt := 32) hx hb zd_Fo_boundOf_18 (by decide) (fun c_5 => ?_) (fun c_5 => ?_)
      · have hf := mp_f c_5 hf
        refine lv_bipush (v := -12) hx hb zd_Fo_boundOf_32 (by decide) ?_
        have hf := Option.some.inj hf
        subst hf
        exact W.iret (v := (-12 : Int32)) hx hb hr (fun t ht hW => ⟨(-12 : Int32), rfl, rfl, ht⟩) (fun q h => by cases h) zd_Fo_boundOf_34
      · have hf := mp_t c_5 hf
        refine lv_iload_n hx hb zd_Fo_boundOf_21 rfl (lv_at hl 1 rfl) ?_
        refine lv_bipush (v := 120) hx hb zd_Fo_boundOf_22 (by decide) ?_
        refine lv_icmp_ne (tgt := 32) hx hb zd_Fo_boundOf_24 (by decide) (fun c_6 => ?_) (fun c_6 => ?_)
        · have hf := mp_f c_6 hf
          refine lv_bipush (v := -12) hx hb zd_Fo_boundOf_32 (by decide) ?_
          have hf := Option.some.inj hf
          subst hf
          exact W.iret (v := (-12 : Int32)) hx hb hr (fun t ht hW => ⟨(-12 : Int32), rfl, rfl, ht⟩) (fun q h => by cases h) zd_Fo_boundOf_34
        · have hf := mp_t c_6 hf
          refine lv_bipush (v := -11) hx hb zd_Fo_boundOf_27 (by decide) ?_
          refine lv_goto (tgt := 34) hx hb zd_Fo_boundOf_29 (by decide) ?_
          have hf := Option.some.inj hf
          subst hf
          exact W.iret (v := (-11 : Int32)) hx hb hr (fun t ht hW => ⟨(-11 : Int32), rfl, rfl, ht⟩) (fun q h => by cases h) zd_Fo_boundOf_34
    · have hf := mp_t c_4 hf
      refine lv_bipush (v := -10) hx hb zd_Fo_boundOf_12 (by decide) ?_
      have hf := Option.some.inj hf
      subst hf
      exact W.iret (v := (-10 : Int32)) hx hb hr (fun t ht hW => ⟨(-10 : Int32), rfl, rfl, ht⟩) (fun q h => by cases h) zd_Fo_boundOf_14
def zf_Fo_numberAt_L16 (v1 : Int32) (v2 : Int32) (xft : Nat → Int32)  : Nat → Int32 → Int32 → Option (Int32)
  | 0, _, _ => none
  | n + 1, v3, v4 => (if v2 ≤ v4 then some v3 else (if v4 < 0 ∨ 300 ≤ v4.toNatClampNeg then none else ((zf_Fo_isDigit (xft v4.toNatClampNeg)).bind (fun y4 => (if y4 = 0 then some (-12 : Int32) else (if v4 < 0 ∨ 300 ≤ v4.toNatClampNeg then none else zf_Fo_numberAt_L16 v1 v2 xft n ((v3 * (10 : Int32)) + ((xft v4.toNatClampNeg) - (48 : Int32))) (v4 + (1 : Int32))))))))
def zf_Fo_numberAt (u1 : Int32) (u2 : Int32) (xft : Nat → Int32) : Option (Int32) := (if (u2 - u1) ≤ (6 : Int32) then zf_Fo_numberAt_L16 u1 u2 xft 2000 (0 : Int32) u1 else some (-12 : Int32))
set_option maxHeartbeats 4000000 in
set_option maxRecDepth 100000 in
theorem zc_Fo_numberAt (l : Launch) (dC : Nat → ClassId) (dI : Nat → Nat → Nat) (cI cJ cZ : ClassId) (ad : Nat → Nat) (xtl : Int32) (xrc : Int32) (xrd : Int32) (xwc : Int32) (xft : Nat → Int32) (u1 : Int32) (u2 : Int32) (res : Int32) (hf : zf_Fo_numberAt u1 u2 xft = some res) : Met l zy_Fo_numberAt zw_Fo_numberAt ({ frames := 1, cells := 0, slots := 0, locals := 20 } : Room) (mp_PR (dC, dI) vwCl (mp_tys cI cJ cZ) [(ad 5, .inr (1, [.ref (ad 20), .ref (ad 21), .ref (ad 22), .ref (ad 23), .int xtl, .int xrc, .int xrd, .int xwc])), (ad 20, .inl (cI, 300, .inl xft))] [.ref (ad 5), .int u1, .int u2]) (vp_Si (fun r => r = res)) 0 0 (fun _ => False) := by
  refine Met.ofW (cc := zb_Fo_numberAt) (maxL := 5) (ret := (some .int)) (by decide) rfl ?_
  intro p e s m args below meth c s₁ B hml hv
  obtain ⟨rfl, hP, hK, hN⟩ := hv
  have hx := B.exec
  have hb := B.bytes
  have hr := B.returns
  have hts := atoms_spec (ws := zw_Fo_numberAt) B.pre
  have hsub : ∀ w ∈ mp_tbl, w ∈ zw_Fo_numberAt := fun w h => List.mem_cons_of_mem _ h
  have hw : ∀ w ∈ mp_tbl, w.before _ s = true := fun w h => hts w (hsub w h)
  have hown : s.vm.findClass zR_Fo = some m.cls := findClass_of_methodNamed B.named
  have hlocks := B.notSynchronized
  have loop16 : ∀ (v1 : Int32) (v2 : Int32) (n : Nat) (v3 : Int32) (v4 : Int32) (ls : Array Slot), zf_Fo_numberAt_L16 v1 v2 xft n v3 v4 = some res → lv_has ls 5 [(0, .ref (ad 5)), (1, .int v1), (2, .int v2), (3, .int v3), (4, .int v4)] → W p l e (headSpec zw_Fo_numberAt ({ frames := 1, cells := 0, slots := 0, locals := 20 } : Room)).room s m ([.ref (ad 5), .int u1, .int u2] : List Value).toArray below meth c s.heap [] 0 0 (MQ below (vp_Si (fun r => r = res)) ([.ref (ad 5), .int u1, .int u2] : List Value).toArray s 0 0 (fun _ => False)) (F0 m 16 ls []) := by
    intro v1 v2 n
    induction n with
    | zero => intro v3 v4 ls hf; simp [zf_Fo_numberAt_L16] at hf
    | succ n ih =>
      intro v3 v4 ls hf hl
      rw [zf_Fo_numberAt_L16] at hf
      refine lv_iload hx hb zd_Fo_numberAt_16 (lv_at hl 4 rfl) ?_
      refine lv_iload_n hx hb zd_Fo_numberAt_18 rfl (lv_at hl 2 rfl) ?_
      refine lv_icmp_ge (tgt := 60) hx hb zd_Fo_numberAt_19 (by decide) (fun c_2 => ?_) (fun c_2 => ?_)
      · have hf := mp_t c_2 hf
        refine lv_iload_n hx hb zd_Fo_numberAt_60 rfl (lv_at hl 3 rfl) ?_
        have hf := Option.some.inj hf
        subst hf
        exact W.iret (v := v3) hx hb hr (fun t ht hW => ⟨v3, rfl, rfl, ht⟩) (fun q h => by cases h) zd_Fo_numberAt_61
      · have hf := mp_f c_2 hf
        refine lv_aload_n hx hb zd_Fo_numberAt_22 rfl (lv_at hl 0 rfl) ?_
        refine va_get (D := (dC, dI)) (ci := 1) (v := .ref (ad 20)) (C := zR_Fo) (T := zT_Fo) (N := 8) hx hb hts (fun w h => hsub w (zi_Fo w h)) hown hK hP 0 rfl rfl 0 (by decide) (hw _ zq_127) (fun _ h9 => h9) rfl zd_Fo_numberAt_23 ?_
        refine lv_iload hx hb zd_Fo_numberAt_26 (lv_at hl 4 rfl) ?_
        obtain ⟨h_3, hf⟩ := mp_in hf
        refine va_iald hx hb hK hP 1 0 rfl rfl (i := v4) h_3 zd_Fo_numberAt_28 ?_
        obtain ⟨y4, hg4, hf⟩ := mp_bd hf
        refine mp_Rz (va_runS (As := [.int (xft v4.toNatClampNeg)]) (rest := []) ⟨hx, hb, hml, hown, hts⟩ (zc_Fo_isDigit l dC dI cI cJ cZ ad (xft v4.toNatClampNeg) y4 hg4) (va_cwS 1 hts (mp_gS hsub zq_337 zq_338 zq_29 zq_339) rfl rfl rfl (by decide +kernel) ⟨Nat.le_of_ble_eq_true rfl, Nat.le_of_ble_eq_true rfl⟩) ⟨mp_blR, mp_preR hN hK (hP.sub [] rfl)⟩ rfl rfl hl.1 rfl (lv_room (Nat.le_of_ble_eq_true rfl)) zd_Fo_numberAt_29 ⟨Nat.zero_le _, Nat.zero_le _⟩) (fun hz4 => ?_)
        refine lv_if_ne (tgt := 38) hx hb zd_Fo_numberAt_32 (by decide) (fun c_5 => ?_) (fun c_5 => ?_)
        · have hf := mp_f c_5 hf
          refine lv_iload_n hx hb zd_Fo_numberAt_38 rfl (lv_at hl 3 rfl) ?_
          refine lv_bipush (v := 10) hx hb zd_Fo_numberAt_39 (by decide) ?_
          refine lv_imul hx hb zd_Fo_numberAt_41 ?_
          refine lv_aload_n hx hb zd_Fo_numberAt_42 rfl (lv_at hl 0 rfl) ?_
          refine va_get (D := (dC, dI)) (ci := 1) (v := .ref (ad 20)) (C := zR_Fo) (T := zT_Fo) (N := 8) hx hb hts (fun w h => hsub w (zi_Fo w h)) hown hK hP 0 rfl rfl 0 (by decide) (hw _ zq_127) (fun _ h9 => h9) rfl zd_Fo_numberAt_43 ?_
          refine lv_iload hx hb zd_Fo_numberAt_46 (lv_at hl 4 rfl) ?_
          obtain ⟨h_6, hf⟩ := mp_in hf
          refine va_iald hx hb hK hP 1 0 rfl rfl (i := v4) h_6 zd_Fo_numberAt_48 ?_
          refine lv_bipush (v := 48) hx hb zd_Fo_numberAt_49 (by decide) ?_
          refine lv_isub hx hb zd_Fo_numberAt_51 ?_
          refine lv_iadd hx hb zd_Fo_numberAt_52 ?_
          refine lv_istore_n (lv' := [(3, .int ((v3 * (10 : Int32)) + ((xft v4.toNatClampNeg) - (48 : Int32)))), (0, .ref (ad 5)), (1, .int v1), (2, .int v2), (4, .int v4)]) hx hb zd_Fo_numberAt_53 rfl hl (by decide) rfl (fun ls hl => ?_)
          refine lv_iinc (v := (v4 + (1 : Int32))) (lv' := [(4, .int (v4 + (1 : Int32))), (3, .int ((v3 * (10 : Int32)) + ((xft v4.toNatClampNeg) - (48 : Int32)))), (0, .ref (ad 5)), (1, .int v1), (2, .int v2)]) hx hb zd_Fo_numberAt_54 hl (k := 4) rfl rfl (by decide) rfl (fun ls hl => ?_)
          refine lv_goto (tgt := 16) hx hb zd_Fo_numberAt_57 (by decide) ?_
          exact ih ((v3 * (10 : Int32)) + ((xft v4.toNatClampNeg) - (48 : Int32))) (v4 + (1 : Int32)) _ hf (lv_sub hl [2, 3, 4, 1, 0] rfl)
        · have hf := mp_t c_5 hf
          refine lv_bipush (v := -12) hx hb zd_Fo_numberAt_35 (by decide) ?_
          have hf := Option.some.inj hf
          subst hf
          exact W.iret (v := (-12 : Int32)) hx hb hr (fun t ht hW => ⟨(-12 : Int32), rfl, rfl, ht⟩) (fun q h => by cases h) zd_Fo_numberAt_37
  have hl := lv_entry ([.ref (ad 5), .int u1, .int u2]) (n := 5) (Nat.le_of_ble_eq_true rfl)
  rw [lg_entry_eq]
  generalize (lg_sl ([.ref (ad 5), .int u1, .int u2]) ++ List.replicate (5 - (lg_sl ([.ref (ad 5), .int u1, .int u2])).length) Slot.unset).toArray = ls at hl ⊢
  have hl : lv_has ls 5 [(0, .ref (ad 5)), (1, .int u1), (2, .int u2)] := hl
  unfold zf_Fo_numberAt at hf
  refine lv_iload_n hx hb zd_Fo_numberAt_0 rfl (lv_at hl 2 rfl) ?_
  refine lv_iload_n hx hb zd_Fo_numberAt_1 rfl (lv_at hl 1 rfl) ?_
  refine lv_isub hx hb zd_Fo_numberAt_2 ?_
  refine lv_bipush (v := 6) hx hb zd_Fo_numberAt_3 (by decide) ?_
  refine lv_icmp_le (tgt := 11) hx hb zd_Fo_numberAt_5 (by decide) (fun c_1 => ?_) (fun c_1 => ?_)
  · have hf := mp_t c_1 hf
    refine lv_iconst (v := 0) hx hb zd_Fo_numberAt_11 (by decide) ?_
    refine lv_istore_n (lv' := [(3, .int (0 : Int32)), (0, .ref (ad 5)), (1, .int u1), (2, .int u2)]) hx hb zd_Fo_numberAt_12 rfl hl (by decide) rfl (fun ls hl => ?_)
    refine lv_iload_n hx hb zd_Fo_numberAt_13 rfl (lv_at hl 2 rfl) ?_
    refine lv_istore (lv' := [(4, .int u1), (3, .int (0 : Int32)), (0, .ref (ad 5)), (1, .int u1), (2, .int u2)]) hx hb zd_Fo_numberAt_14 hl (by decide) rfl (fun ls hl => ?_)
    exact loop16 u1 u2 2000 (0 : Int32) u1 _ hf (lv_sub hl [2, 3, 4, 1, 0] rfl)
  · have hf := mp_f c_1 hf
    refine lv_bipush (v := -12) hx hb zd_Fo_numberAt_8 (by decide) ?_
    have hf := Option.some.inj hf
    subst hf
    exact W.iret (v := (-12 : Int32)) hx hb hr (fun t ht hW => ⟨(-12 : Int32), rfl, rfl, ht⟩) (fun q h => by cases h) zd_Fo_numberAt_10
def zf_Fo_wordAt (u1 : Int32) (u2 : Int32) (xft : Nat → Int32) : Option (Int32) := (if u1 < 0 ∨ 300 ≤ u1.toNatClampNeg then none else ((zf_Fo_isDigit (xft u1.toNatClampNeg)).bind (fun y2 => (if y2 = 0 then (if (u2 - u1) = (1 : Int32) then ((zf_Fo_signOf (xft u1.toNatClampNeg)).bind (fun y5 => some y5)) else (if (u2 - u1) = (2 : Int32) then (if (xft u1.toNatClampNeg) = (107 : Int32) then (if (u1 + (1 : Int32)) < 0 ∨ 300 ≤ (u1 + (1 : Int32)).toNatClampNeg then none else ((zf_Fo_shareOf (xft (u1 + (1 : Int32)).toNatClampNeg)).bind (fun y9 => some y9))) else some (-12 : Int32)) else (if (u2 - u1) = (3 : Int32) then (if (xft u1.toNatClampNeg) = (109 : Int32) then (if (u1 + (1 : Int32)) < 0 ∨ 300 ≤ (u1 + (1 : Int32)).toNatClampNeg then none else (if (u1 + (2 : Int32)) < 0 ∨ 300 ≤ (u1 + (2 : Int32)).toNatClampNeg then none else ((zf_Fo_boundOf (xft (u1 + (1 : Int32)).toNatClampNeg) (xft (u1 + (2 : Int32)).toNatClampNeg)).bind (fun y14 => some y14)))) else some (-12 : Int32)) else some (-12 : Int32)))) else ((zf_Fo_numberAt u1 u2 xft).bind (fun y16 => some y16))))))
set_option maxHeartbeats 4000000 in
set_option maxRecDepth 100000 in
theorem zc_Fo_wordAt (l : Launch) (dC : Nat → ClassId) (dI : Nat → Nat → Nat) (cI cJ cZ : ClassId) (ad : Nat → Nat) (xtl : Int32) (xrc : Int32) (xrd : Int32) (xwc : Int32) (xft : Nat → Int32) (u1 : Int32) (u2 : Int32) (res : Int32) (hf : zf_Fo_wordAt u1 u2 xft = some res) : Met l zy_Fo_wordAt zw_Fo_wordAt ({ frames := 2, cells := 0, slots := 0, locals := 44 } : Room) (mp_PR (dC, dI) vwCl (mp_tys cI cJ cZ) [(ad 5, .inr (1, [.ref (ad 20), .ref (ad 21), .ref (ad 22), .ref (ad 23), .int xtl, .int xrc, .int xrd, .int xwc])), (ad 20, .inl (cI, 300, .inl xft))] [.ref (ad 5), .int u1, .int u2]) (vp_Si (fun r => r = res)) 0 0 (fun _ => False) := by
  refine Met.ofW (cc := zb_Fo_wordAt) (maxL := 4) (ret := (some .int)) (by decide) rfl ?_
  intro p e s m args below meth c s₁ B hml hv
  obtain ⟨rfl, hP, hK, hN⟩ := hv
  have hx := B.exec
  have hb := B.bytes
  have hr := B.returns
  have hts := atoms_spec (ws := zw_Fo_wordAt) B.pre
  have hsub : ∀ w ∈ mp_tbl, w ∈ zw_Fo_wordAt := fun w h => List.mem_cons_of_mem _ h
  have hw : ∀ w ∈ mp_tbl, w.before _ s = true := fun w h => hts w (hsub w h)
  have hown : s.vm.findClass zR_Fo = some m.cls := findClass_of_methodNamed B.named
  have hlocks := B.notSynchronized
  have hl := lv_entry ([.ref (ad 5), .int u1, .int u2]) (n := 4) (Nat.le_of_ble_eq_true rfl)
  rw [lg_entry_eq]
  generalize (lg_sl ([.ref (ad 5), .int u1, .int u2]) ++ List.replicate (4 - (lg_sl ([.ref (ad 5), .int u1, .int u2])).length) Slot.unset).toArray = ls at hl ⊢
  have hl : lv_has ls 4 [(0, .ref (ad 5)), (1, .int u1), (2, .int u2)] := hl
  unfold zf_Fo_wordAt at hf
  refine lv_aload_n hx hb zd_Fo_wordAt_0 rfl (lv_at hl 0 rfl) ?_
  refine va_get (D := (dC, dI)) (ci := 1) (v := .ref (ad 20)) (C := zR_Fo) (T := zT_Fo) (N := 8) hx hb hts (fun w h => hsub w (zi_Fo w h)) hown hK hP 0 rfl rfl 0 (by decide) (hw _ zq_127) (fun _ h9 => h9) rfl zd_Fo_wordAt_1 ?_
  refine lv_iload_n hx hb zd_Fo_wordAt_4 rfl (lv_at hl 1 rfl) ?_
  obtain ⟨h_1, hf⟩ := mp_in hf
  refine va_iald hx hb hK hP 1 0 rfl rfl (i := u1) h_1 zd_Fo_wordAt_5 ?_
  refine lv_istore_n (lv' := [(3, .int (xft u1.toNatClampNeg)), (0, .ref (ad 5)), (1, .int u1), (2, .int u2)]) hx hb zd_Fo_wordAt_6 rfl hl (by decide) rfl (fun ls hl => ?_)
  refine lv_iload_n hx hb zd_Fo_wordAt_7 rfl (lv_at hl 0 rfl) ?_
  obtain ⟨y2, hg2, hf⟩ := mp_bd hf
  refine mp_Rz (va_runS (As := [.int (xft u1.toNatClampNeg)]) (rest := []) ⟨hx, hb, hml, hown, hts⟩ (zc_Fo_isDigit l dC dI cI cJ cZ ad (xft u1.toNatClampNeg) y2 hg2) (va_cwS 1 hts (mp_gS hsub zq_337 zq_338 zq_29 zq_339) rfl rfl rfl (by decide +kernel) ⟨Nat.le_of_ble_eq_true rfl, Nat.le_of_ble_eq_true rfl⟩) ⟨mp_blR, mp_preR hN hK (hP.sub [] rfl)⟩ rfl rfl hl.1 rfl (lv_room (Nat.le_of_ble_eq_true rfl)) zd_Fo_wordAt_8 ⟨Nat.zero_le _, Nat.zero_le _⟩) (fun hz2 => ?_)
  refine lv_if_eq (tgt := 21) hx hb zd_Fo_wordAt_11 (by decide) (fun c_3 => ?_) (fun c_3 => ?_)
  · have hf := mp_t c_3 hf
    refine lv_iload_n hx hb zd_Fo_wordAt_21 rfl (lv_at hl 3 rfl) ?_
    refine lv_iload_n hx hb zd_Fo_wordAt_22 rfl (lv_at hl 2 rfl) ?_
    refine lv_isub hx hb zd_Fo_wordAt_23 ?_
    by_cases c_4 : (u2 - u1) = (1 : Int32)
    · have hf := mp_t c_4 hf
      refine lv_tableIn (tgt := 52) (off := 28) hx hb zd_Fo_wordAt_24 (by rw [c_4]; decide) (by rw [c_4]; decide) (by rw [c_4]; rfl) (by decide) ?_
      refine lv_iload_n hx hb zd_Fo_wordAt_52 rfl (lv_at hl 0 rfl) ?_
      obtain ⟨y5, hg5, hf⟩ := mp_bd hf
      refine mp_Ri (va_runS (As := [.int (xft u1.toNatClampNeg)]) (rest := []) ⟨hx, hb, hml, hown, hts⟩ (zc_Fo_signOf l dC dI cI cJ cZ ad (xft u1.toNatClampNeg) y5 hg5) (va_cwS 1 hts (mp_gS hsub zq_344 zq_345 zq_29 zq_346) rfl rfl rfl (by decide +kernel) ⟨Nat.le_of_ble_eq_true rfl, Nat.le_of_ble_eq_true rfl⟩) ⟨mp_blR, mp_preR hN hK (hP.sub [] rfl)⟩ rfl rfl hl.1 rfl (lv_room (Nat.le_of_ble_eq_true rfl)) zd_Fo_wordAt_53 ⟨Nat.zero_le _, Nat.zero_le _⟩) ?_
      have hf := Option.some.inj hf
      subst hf
      exact W.iret (v := y5) hx hb hr (fun t ht hW => ⟨y5, rfl, rfl, ht⟩) (fun q h => by cases h) zd_Fo_wordAt_56
    have hf := mp_f c_4 hf
    by_cases c_6 : (u2 - u1) = (2 : Int32)
    · have hf := mp_t c_6 hf
      refine lv_tableIn (tgt := 57) (off := 33) hx hb zd_Fo_wordAt_24 (by rw [c_6]; decide) (by rw [c_6]; decide) (by rw [c_6]; rfl) (by decide) ?_
      refine lv_iload_n hx hb zd_Fo_wordAt_57 rfl (lv_at hl 0 rfl) ?_
      refine lv_bipush (v := 107) hx hb zd_Fo_wordAt_58 (by decide) ?_
      refine lv_icmp_ne (tgt := 77) hx hb zd_Fo_wordAt_60 (by decide) (fun c_7 => ?_) (fun c_7 => ?_)
      · have hf := mp_f c_7 hf
        refine lv_bipush (v := -12) hx hb zd_Fo_wordAt_77 (by decide) ?_
        have hf := Option.some.inj hf
        subst hf
        exact W.iret (v := (-12 : Int32)) hx hb hr (fun t ht hW => ⟨(-12 : Int32), rfl, rfl, ht⟩) (fun q h => by cases h) zd_Fo_wordAt_79
      · have hf := mp_t c_7 hf
        refine lv_aload_n hx hb zd_Fo_wordAt_63 rfl (lv_at hl 1 rfl) ?_
        refine va_get (D := (dC, dI)) (ci := 1) (v := .ref (ad 20)) (C := zR_Fo) (T := zT_Fo) (N := 8) hx hb hts (fun w h => hsub w (zi_Fo w h)) hown hK hP 0 rfl rfl 0 (by decide) (hw _ zq_127) (fun _ h9 => h9) rfl zd_Fo_wordAt_64 ?_
        refine lv_iload_n hx hb zd_Fo_wordAt_67 rfl (lv_at hl 2 rfl) ?_
        refine lv_iconst (v := 1) hx hb zd_Fo_wordAt_68 (by decide) ?_
        refine lv_iadd hx hb zd_Fo_wordAt_69 ?_
        obtain ⟨h_8, hf⟩ := mp_in hf
        refine va_iald hx hb hK hP 1 0 rfl rfl (i := (u1 + (1 : Int32))) h_8 zd_Fo_wordAt_70 ?_
        obtain ⟨y9, hg9, hf⟩ := mp_bd hf
        refine mp_Ri (va_runS (As := [.int (xft (u1 + (1 : Int32)).toNatClampNeg)]) (rest := []) ⟨hx, hb, hml, hown, hts⟩ (zc_Fo_shareOf l dC dI cI cJ cZ ad (xft (u1 + (1 : Int32)).toNatClampNeg) y9 hg9) (va_cwS 1 hts (mp_gS hsub zq_347 zq_348 zq_29 zq_349) rfl rfl rfl (by decide +kernel) ⟨Nat.le_of_ble_eq_true rfl, Nat.le_of_ble_eq_true rfl⟩) ⟨mp_blR, mp_preR hN hK (hP.sub [] rfl)⟩ rfl rfl hl.1 rfl (lv_room (Nat.le_of_ble_eq_true rfl)) zd_Fo_wordAt_71 ⟨Nat.zero_le _, Nat.zero_le _⟩) ?_
        refine lv_goto (tgt := 79) hx hb zd_Fo_wordAt_74 (by decide) ?_
        have hf := Option.some.inj hf
        subst hf
        exact W.iret (v := y9) hx hb hr (fun t ht hW => ⟨y9, rfl, rfl, ht⟩) (fun q h => by cases h) zd_Fo_wordAt_79
    have hf := mp_f c_6 hf
    by_cases c_10 : (u2 - u1) = (3 : Int32)
    · have hf := mp_t c_10 hf
      refine lv_tableIn (tgt := 80) (off := 56) hx hb zd_Fo_wordAt_24 (by rw [c_10]; decide) (by rw [c_10]; decide) (by rw [c_10]; rfl) (by decide) ?_
      refine lv_iload_n hx hb zd_Fo_wordAt_80 rfl (lv_at hl 0 rfl) ?_
      refine lv_bipush (v := 109) hx hb zd_Fo_wordAt_81 (by decide) ?_
      refine lv_icmp_ne (tgt := 108) hx hb zd_Fo_wordAt_83 (by decide) (fun c_11 => ?_) (fun c_11 => ?_)
      · have hf := mp_f c_11 hf
        refine lv_bipush (v := -12) hx hb zd_Fo_wordAt_108 (by decide) ?_
        have hf := Option.some.inj hf
        subst hf
        exact W.iret (v := (-12 : Int32)) hx hb hr (fun t ht hW => ⟨(-12 : Int32), rfl, rfl, ht⟩) (fun q h => by cases h) zd_Fo_wordAt_110
      · have hf := mp_t c_11 hf
        refine lv_aload_n hx hb zd_Fo_wordAt_86 rfl (lv_at hl 1 rfl) ?_
        refine va_get (D := (dC, dI)) (ci := 1) (v := .ref (ad 20)) (C := zR_Fo) (T := zT_Fo) (N := 8) hx hb hts (fun w h => hsub w (zi_Fo w h)) hown hK hP 0 rfl rfl 0 (by decide) (hw _ zq_127) (fun _ h9 => h9) rfl zd_Fo_wordAt_87 ?_
        refine lv_iload_n hx hb zd_Fo_wordAt_90 rfl (lv_at hl 2 rfl) ?_
        refine lv_iconst (v := 1) hx hb zd_Fo_wordAt_91 (by decide) ?_
        refine lv_iadd hx hb zd_Fo_wordAt_92 ?_
        obtain ⟨h_12, hf⟩ := mp_in hf
        refine va_iald hx hb hK hP 1 0 rfl rfl (i := (u1 + (1 : Int32))) h_12 zd_Fo_wordAt_93 ?_
        refine lv_aload_n hx hb zd_Fo_wordAt_94 rfl (lv_at hl 1 rfl) ?_
        refine va_get (D := (dC, dI)) (ci := 1) (v := .ref (ad 20)) (C := zR_Fo) (T := zT_Fo) (N := 8) hx hb hts (fun w h => hsub w (zi_Fo w h)) hown hK hP 0 rfl rfl 0 (by decide) (hw _ zq_127) (fun _ h9 => h9) rfl zd_Fo_wordAt_95 ?_
        refine lv_iload_n hx hb zd_Fo_wordAt_98 rfl (lv_at hl 2 rfl) ?_
        refine lv_iconst (v := 2) hx hb zd_Fo_wordAt_99 (by decide) ?_
        refine lv_iadd hx hb zd_Fo_wordAt_100 ?_
        obtain ⟨h_13, hf⟩ := mp_in hf
        refine va_iald hx hb hK hP 1 0 rfl rfl (i := (u1 + (2 : Int32))) h_13 zd_Fo_wordAt_101 ?_
        obtain ⟨y14, hg14, hf⟩ := mp_bd hf
        refine mp_Ri (va_runS (As := [.int (xft (u1 + (1 : Int32)).toNatClampNeg), .int (xft (u1 + (2 : Int32)).toNatClampNeg)]) (rest := []) ⟨hx, hb, hml, hown, hts⟩ (zc_Fo_boundOf l dC dI cI cJ cZ ad (xft (u1 + (1 : Int32)).toNatClampNeg) (xft (u1 + (2 : Int32)).toNatClampNeg) y14 hg14) (va_cwS 2 hts (mp_gS hsub zq_351 zq_352 zq_29 zq_353) rfl rfl rfl (by decide +kernel) ⟨Nat.le_of_ble_eq_true rfl, Nat.le_of_ble_eq_true rfl⟩) ⟨mp_blR, mp_preR hN hK (hP.sub [] rfl)⟩ rfl rfl hl.1 rfl (lv_room (Nat.le_of_ble_eq_true rfl)) zd_Fo_wordAt_102 ⟨Nat.zero_le _, Nat.zero_le _⟩) ?_
        refine lv_goto (tgt := 110) hx hb zd_Fo_wordAt_105 (by decide) ?_
        have hf := Option.some.inj hf
        subst hf
        exact W.iret (v := y14) hx hb hr (fun t ht hW => ⟨y14, rfl, rfl, ht⟩) (fun q h => by cases h) zd_Fo_wordAt_110
    have hf := mp_f c_10 hf
    have c_15 : (u2 - u1).toInt < 1 ∨ 3 < (u2 - u1).toInt := by
      have n_4 := lv_neT (a := 1) c_4 (by decide)
      have n_6 := lv_neT (a := 2) c_6 (by decide)
      have n_10 := lv_neT (a := 3) c_10 (by decide)
      omega
    refine lv_tableOut (tgt := 111) hx hb zd_Fo_wordAt_24 c_15 (by decide) ?_
    refine lv_bipush (v := -12) hx hb zd_Fo_wordAt_111 (by decide) ?_
    have hf := Option.some.inj hf
    subst hf
    exact W.iret (v := (-12 : Int32)) hx hb hr (fun t ht hW => ⟨(-12 : Int32), rfl, rfl, ht⟩) (fun q h => by cases h) zd_Fo_wordAt_113
  · have hf := mp_f c_3 hf
    refine lv_aload_n hx hb zd_Fo_wordAt_14 rfl (lv_at hl 1 rfl) ?_
    refine lv_iload_n hx hb zd_Fo_wordAt_15 rfl (lv_at hl 2 rfl) ?_
    refine lv_iload_n hx hb zd_Fo_wordAt_16 rfl (lv_at hl 3 rfl) ?_
    obtain ⟨y16, hg16, hf⟩ := mp_bd hf
    refine mp_Ri (va_runV (As := [.int u1, .int u2]) (rest := []) ⟨hx, hb, hml, hown, hts⟩ (zc_Fo_numberAt l dC dI cI cJ cZ ad xtl xrc xrd xwc xft u1 u2 y16 hg16) (cwV 2 hts (mp_gV hsub zq_340 zq_342 zq_5 zq_29 zq_343) rfl rfl rfl (by decide +kernel) ⟨Nat.le_of_ble_eq_true rfl, Nat.le_of_ble_eq_true rfl⟩) ⟨mp_blR, va_recv hK hP (ci := 1) (q0 := 0) rfl rfl, mp_preR hN hK (hP.sub [0, 1] rfl)⟩ rfl rfl hl.1 rfl (lv_room (Nat.le_of_ble_eq_true rfl)) zd_Fo_wordAt_17 ⟨Nat.zero_le _, Nat.zero_le _⟩) ?_
    have hf := Option.some.inj hf
    subst hf
    exact W.iret (v := y16) hx hb hr (fun t ht hW => ⟨y16, rfl, rfl, ht⟩) (fun q h => by cases h) zd_Fo_wordAt_20
def zf_Fo_joinsTwo (u0 : Int32) : Option (Int32) := (if (-7 : Int32) < u0 then some (0 : Int32) else (if u0 < (-11 : Int32) then some (0 : Int32) else some (1 : Int32)))
set_option maxHeartbeats 4000000 in
set_option maxRecDepth 100000 in
theorem zc_Fo_joinsTwo (l : Launch) (dC : Nat → ClassId) (dI : Nat → Nat → Nat) (cI cJ cZ : ClassId) (ad : Nat → Nat) (u0 : Int32) (res : Int32) (hf : zf_Fo_joinsTwo u0 = some res) : Met l zy_Fo_joinsTwo zw_Fo_joinsTwo ({ frames := 0, cells := 0, slots := 0, locals := 0 } : Room) (mp_PR (dC, dI) vwCl (mp_tys cI cJ cZ) [] [.int u0]) (vp_Si (fun r => r = res ∧ mp_b res)) 0 0 (fun _ => False) := by
  refine Met.ofW (cc := zb_Fo_joinsTwo) (maxL := 1) (ret := (some .boolean)) (by decide) rfl ?_
  intro p e s m args below meth c s₁ B hml hv
  obtain ⟨rfl, hP, hK, hN⟩ := hv
  have hx := B.exec
  have hb := B.bytes
  have hr := B.returns
  have hts := atoms_spec (ws := zw_Fo_joinsTwo) B.pre
  have hsub : ∀ w ∈ mp_tbl, w ∈ zw_Fo_joinsTwo := fun w h => List.mem_cons_of_mem _ h
  have hw : ∀ w ∈ mp_tbl, w.before _ s = true := fun w h => hts w (hsub w h)
  have hown : s.vm.findClass zR_Fo = some m.cls := findClass_of_methodNamed B.named
  have hlocks := B.notSynchronized
  have hl := lv_entry ([.int u0]) (n := 1) (Nat.le_of_ble_eq_true rfl)
  rw [lg_entry_eq]
  generalize (lg_sl ([.int u0]) ++ List.replicate (1 - (lg_sl ([.int u0])).length) Slot.unset).toArray = ls at hl ⊢
  have hl : lv_has ls 1 [(0, .int u0)] := hl
  unfold zf_Fo_joinsTwo at hf
  refine lv_iload_n hx hb zd_Fo_joinsTwo_0 rfl (lv_at hl 0 rfl) ?_
  refine lv_bipush (v := -7) hx hb zd_Fo_joinsTwo_1 (by decide) ?_
  refine lv_icmp_gt (tgt := 16) hx hb zd_Fo_joinsTwo_3 (by decide) (fun c_1 => ?_) (fun c_1 => ?_)
  · have hf := mp_t c_1 hf
    refine lv_iconst (v := 0) hx hb zd_Fo_joinsTwo_16 (by decide) ?_
    have hf := Option.some.inj hf
    subst hf
    exact W.zret (v := (0 : Int32)) hx hb hr (mp_nz (Or.inl rfl)) (fun t ht hW => ⟨(0 : Int32), rfl, ⟨rfl, (Or.inl rfl)⟩, ht⟩) (fun q h => by cases h) zd_Fo_joinsTwo_17
  · have hf := mp_f c_1 hf
    refine lv_iload_n hx hb zd_Fo_joinsTwo_6 rfl (lv_at hl 0 rfl) ?_
    refine lv_bipush (v := -11) hx hb zd_Fo_joinsTwo_7 (by decide) ?_
    refine lv_icmp_lt (tgt := 16) hx hb zd_Fo_joinsTwo_9 (by decide) (fun c_2 => ?_) (fun c_2 => ?_)
    · have hf := mp_t c_2 hf
      refine lv_iconst (v := 0) hx hb zd_Fo_joinsTwo_16 (by decide) ?_
      have hf := Option.some.inj hf
      subst hf
      exact W.zret (v := (0 : Int32)) hx hb hr (mp_nz (Or.inl rfl)) (fun t ht hW => ⟨(0 : Int32), rfl, ⟨rfl, (Or.inl rfl)⟩, ht⟩) (fun q h => by cases h) zd_Fo_joinsTwo_17
    · have hf := mp_f c_2 hf
      refine lv_iconst (v := 1) hx hb zd_Fo_joinsTwo_12 (by decide) ?_
      refine lv_goto (tgt := 17) hx hb zd_Fo_joinsTwo_13 (by decide) ?_
      have hf := Option.some.inj hf
      subst hf
      exact W.zret (v := (1 : Int32)) hx hb hr (mp_nz (Or.inr rfl)) (fun t ht hW => ⟨(1 : Int32), rfl, ⟨rfl, (Or.inr rfl)⟩, ht⟩) (fun q h => by cases h) zd_Fo_joinsTwo_17
def zf_Fo_takeWord (u1 : Int32) (xrc : Int32) (xrd : Int32) (xfr : Nat → Int32) : Option (Int32 × Int32 × Int32 × (Nat → Int32)) := ((zf_Fo_joinsTwo u1).bind (fun y1 => (if u1 = (-12 : Int32) then some ((0 : Int32), xrc, xrd, xfr) else (if y1 = 0 then (if xrc < (150 : Int32) then (if xrc < 0 ∨ 150 ≤ xrc.toNatClampNeg then none else (if y1 = 0 then some ((1 : Int32), (xrc + (1 : Int32)), (xrd + (1 : Int32)), (upd xfr xrc.toNatClampNeg u1)) else some ((1 : Int32), (xrc + (1 : Int32)), (xrd + (-1 : Int32)), (upd xfr xrc.toNatClampNeg u1)))) else some ((0 : Int32), xrc, xrd, xfr)) else (if xrd < (2 : Int32) then some ((0 : Int32), xrc, xrd, xfr) else (if xrc < (150 : Int32) then (if xrc < 0 ∨ 150 ≤ xrc.toNatClampNeg then none else (if y1 = 0 then some ((1 : Int32), (xrc + (1 : Int32)), (xrd + (1 : Int32)), (upd xfr xrc.toNatClampNeg u1)) else some ((1 : Int32), (xrc + (1 : Int32)), (xrd + (-1 : Int32)), (upd xfr xrc.toNatClampNeg u1)))) else some ((0 : Int32), xrc, xrd, xfr)))))))
set_option maxHeartbeats 4000000 in
set_option maxRecDepth 100000 in
theorem zc_Fo_takeWord (l : Launch) (dC : Nat → ClassId) (dI : Nat → Nat → Nat) (cI cJ cZ : ClassId) (ad : Nat → Nat) (sz : Nat) (xtl : Int32) (xrc : Int32) (xrd : Int32) (xwc : Int32) (xfr : Nat → Int32) (u1 : Int32) (res : Int32 × Int32 × Int32 × (Nat → Int32)) (hf : zf_Fo_takeWord u1 xrc xrd xfr = some res) : Met l zy_Fo_takeWord zw_Fo_takeWord ({ frames := 1, cells := 0, slots := 0, locals := 20 } : Room) (mp_PM (dC, dI) vwCl (mp_tys cI cJ cZ) [(ad 5, .inr (1, [.ref (ad 20), .ref (ad 21), .ref (ad 22), .ref (ad 23), .int xtl, .int xrc, .int xrd, .int xwc])), (ad 21, .inl (cI, 150, .inl xfr))] sz [.ref (ad 5), .int u1]) (va_Qi (fun r (_ : Unit) => r = res.1 ∧ mp_b res.1) (mp_BM (dC, dI) vwCl [(ad 5, .inr (1, [.ref (ad 20), .ref (ad 21), .ref (ad 22), .ref (ad 23), .int xtl, .int res.2.1, .int res.2.2.1, .int xwc])), (ad 21, .inl (cI, 150, .inl res.2.2.2))] (va_A [(ad 5, .inr (1, [.ref (ad 20), .ref (ad 21), .ref (ad 22), .ref (ad 23), .int xtl, .int xrc, .int xrd, .int xwc])), (ad 21, .inl (cI, 150, .inl xfr))] sz)) (va_A [(ad 5, .inr (1, [.ref (ad 20), .ref (ad 21), .ref (ad 22), .ref (ad 23), .int xtl, .int xrc, .int xrd, .int xwc])), (ad 21, .inl (cI, 150, .inl xfr))] sz)) 0 0 ((va_A [(ad 5, .inr (1, [.ref (ad 20), .ref (ad 21), .ref (ad 22), .ref (ad 23), .int xtl, .int xrc, .int xrd, .int xwc])), (ad 21, .inl (cI, 150, .inl xfr))] sz)) := by
  refine Met.ofW (cc := zb_Fo_takeWord) (maxL := 3) (ret := (some .boolean)) (by decide) rfl ?_
  intro p e s m args below meth c s₁ B hml hv
  obtain ⟨rfl, hsz, hP, hK, hD0, hN⟩ := hv
  have hx := B.exec
  have hb := B.bytes
  have hr := B.returns
  have hts := atoms_spec (ws := zw_Fo_takeWord) B.pre
  have hsub : ∀ w ∈ mp_tbl, w ∈ zw_Fo_takeWord := fun w h => List.mem_cons_of_mem _ h
  have hw : ∀ w ∈ mp_tbl, w.before _ s = true := fun w h => hts w (hsub w h)
  have hown : s.vm.findClass zR_Fo = some m.cls := findClass_of_methodNamed B.named
  have hlocks := B.notSynchronized
  subst hsz
  have hD := hD0.self (sz := s.heap.size)
  generalize hAe : va_A [(ad 5, .inr (1, [.ref (ad 20), .ref (ad 21), .ref (ad 22), .ref (ad 23), .int xtl, .int xrc, .int xrd, .int xwc])), (ad 21, .inl (cI, 150, .inl xfr))] s.heap.size = A at hD ⊢
  have hA : ∀ q : Nat, s.heap.size ≤ q → A q := fun q h => by rw [← hAe]; exact Or.inr h
  have hS : va_S A s.heap s.heap [] := va_S.rf
  have hP : va_P (dC, dI) vwCl [(ad 5, .inr (1, [.ref (ad 20), .ref (ad 21), .ref (ad 22), .ref (ad 23), .int xtl, .int xrc, .int xrd, .int xwc])), (ad 21, .inl (cI, 150, .inl xfr))] s.heap := hP
  clear hAe hD0
  have hl := lv_entry ([.ref (ad 5), .int u1]) (n := 3) (Nat.le_of_ble_eq_true rfl)
  rw [lg_entry_eq]
  generalize (lg_sl ([.ref (ad 5), .int u1]) ++ List.replicate (3 - (lg_sl ([.ref (ad 5), .int u1])).length) Slot.unset).toArray = ls at hl ⊢
  have hl : lv_has ls 3 [(0, .ref (ad 5)), (1, .int u1)] := hl
  unfold zf_Fo_takeWord at hf
  refine lv_iload_n hx hb zd_Fo_takeWord_0 rfl (lv_at hl 1 rfl) ?_
  obtain ⟨y1, hg1, hf⟩ := mp_bd hf
  refine mp_Rz (va_runS (As := [.int u1]) (rest := []) ⟨hx, hb, hml, hown, hts⟩ (zc_Fo_joinsTwo l dC dI cI cJ cZ ad u1 y1 hg1) (va_cwS 1 hts (mp_gS hsub zq_358 zq_359 zq_29 zq_360) rfl rfl rfl (by decide +kernel) ⟨Nat.le_of_ble_eq_true rfl, Nat.le_of_ble_eq_true rfl⟩) ⟨mp_blR, mp_preR hN hK (hP.sub [] rfl)⟩ rfl rfl hl.1 rfl (lv_room (Nat.le_of_ble_eq_true rfl)) zd_Fo_takeWord_1 ⟨Nat.zero_le _, Nat.zero_le _⟩) (fun hz1 => ?_)
  refine lv_istore_n (lv' := [(2, .int y1), (0, .ref (ad 5)), (1, .int u1)]) hx hb zd_Fo_takeWord_4 rfl hl (by decide) rfl (fun ls hl => ?_)
  refine lv_iload_n hx hb zd_Fo_takeWord_5 rfl (lv_at hl 2 rfl) ?_
  refine lv_bipush (v := -12) hx hb zd_Fo_takeWord_6 (by decide) ?_
  refine lv_icmp_eq (tgt := 33) hx hb zd_Fo_takeWord_8 (by decide) (fun c_2 => ?_) (fun c_2 => ?_)
  · have hf := mp_t c_2 hf
    refine lv_iconst (v := 0) hx hb zd_Fo_takeWord_33 (by decide) ?_
    have hf := Option.some.inj hf
    subst hf
    exact W.zret (v := (0 : Int32)) hx hb hr (mp_nz (Or.inl rfl)) (fun t ht hW => ⟨⟨(0 : Int32), (), rfl, ⟨rfl, (Or.inl rfl)⟩, by rw [ht]; exact hP, hD⟩, hS.F ht⟩) hS.2.2 zd_Fo_takeWord_34
  · have hf := mp_f c_2 hf
    refine lv_iload_n hx hb zd_Fo_takeWord_11 rfl (lv_at hl 0 rfl) ?_
    refine lv_if_eq (tgt := 23) hx hb zd_Fo_takeWord_12 (by decide) (fun c_3 => ?_) (fun c_3 => ?_)
    · have hf := mp_t c_3 hf
      refine lv_aload_n hx hb zd_Fo_takeWord_23 rfl (lv_at hl 1 rfl) ?_
      refine va_get (D := (dC, dI)) (ci := 1) (v := .int xrc) (C := zR_Fo) (T := zT_Fo) (N := 8) hx hb hts (fun w h => hsub w (zi_Fo w h)) hown hK hP 0 rfl rfl 5 (by decide) (hw _ zq_132) (fun _ h9 => h9) rfl zd_Fo_takeWord_24 ?_
      refine lv_sipush (v := 150) hx hb zd_Fo_takeWord_27 (by decide) ?_
      refine lv_icmp_lt (tgt := 35) hx hb zd_Fo_takeWord_30 (by decide) (fun c_4 => ?_) (fun c_4 => ?_)
      · have hf := mp_t c_4 hf
        refine lv_aload_n hx hb zd_Fo_takeWord_35 rfl (lv_at hl 1 rfl) ?_
        refine va_get (D := (dC, dI)) (ci := 1) (v := .ref (ad 21)) (C := zR_Fo) (T := zT_Fo) (N := 8) hx hb hts (fun w h => hsub w (zi_Fo w h)) hown hK hP 0 rfl rfl 1 (by decide) (hw _ zq_128) (fun _ h9 => h9) rfl zd_Fo_takeWord_36 ?_
        refine lv_aload_n hx hb zd_Fo_takeWord_39 rfl (lv_at hl 1 rfl) ?_
        refine va_get (D := (dC, dI)) (ci := 1) (v := .int xrc) (C := zR_Fo) (T := zT_Fo) (N := 8) hx hb hts (fun w h => hsub w (zi_Fo w h)) hown hK hP 0 rfl rfl 5 (by decide) (hw _ zq_132) (fun _ h9 => h9) rfl zd_Fo_takeWord_40 ?_
        refine lv_iload_n hx hb zd_Fo_takeWord_43 rfl (lv_at hl 2 rfl) ?_
        obtain ⟨h_5, hf⟩ := mp_in hf
        refine va_iast hx hb hK hP hD hS 1 0 rfl rfl (i := xrc) (x := u1) h_5 zd_Fo_takeWord_44 (fun H locs hP hD hS => ?_)
        have hP : va_P (dC, dI) vwCl [(ad 5, .inr (1, [.ref (ad 20), .ref (ad 21), .ref (ad 22), .ref (ad 23), .int xtl, .int xrc, .int xrd, .int xwc])), (ad 21, .inl (cI, 150, .inl (upd xfr xrc.toNatClampNeg u1)))] H := hP
        have hD : va_D A [(ad 5, .inr (1, [.ref (ad 20), .ref (ad 21), .ref (ad 22), .ref (ad 23), .int xtl, .int xrc, .int xrd, .int xwc])), (ad 21, .inl (cI, 150, .inl (upd xfr xrc.toNatClampNeg u1)))] := hD
        refine lv_aload_n hx hb zd_Fo_takeWord_45 rfl (lv_at hl 1 rfl) ?_
        refine lv_dup hx hb zd_Fo_takeWord_46 rfl ?_
        refine va_get (D := (dC, dI)) (ci := 1) (v := .int xrc) (C := zR_Fo) (T := zT_Fo) (N := 8) hx hb hts (fun w h => hsub w (zi_Fo w h)) hown hK hP 0 rfl rfl 5 (by decide) (hw _ zq_132) (fun _ h9 => h9) rfl zd_Fo_takeWord_47 ?_
        refine lv_iconst (v := 1) hx hb zd_Fo_takeWord_50 (by decide) ?_
        refine lv_iadd hx hb zd_Fo_takeWord_51 ?_
        refine va_put (D := (dC, dI)) (ci := 1) (v := .int (xrc + (1 : Int32))) (ty := .int) (C := zR_Fo) (T := zT_Fo) (N := 8) hx hb hts (fun w h => hsub w (zi_Fo w h)) zt_Fo zt_Fo_ok zn_Fo hown hK hP hD hS 0 rfl rfl 5 (by decide) (hw _ zq_132) (fun _ h9 => h9) rfl (by decide +kernel) rfl rfl (Nat.le_of_ble_eq_true rfl) zd_Fo_takeWord_52 (fun H locs hP hD hS => ?_)
        have hP : va_P (dC, dI) vwCl [(ad 5, .inr (1, [.ref (ad 20), .ref (ad 21), .ref (ad 22), .ref (ad 23), .int xtl, .int (xrc + (1 : Int32)), .int xrd, .int xwc])), (ad 21, .inl (cI, 150, .inl (upd xfr xrc.toNatClampNeg u1)))] H := hP
        have hD : va_D A [(ad 5, .inr (1, [.ref (ad 20), .ref (ad 21), .ref (ad 22), .ref (ad 23), .int xtl, .int (xrc + (1 : Int32)), .int xrd, .int xwc])), (ad 21, .inl (cI, 150, .inl (upd xfr xrc.toNatClampNeg u1)))] := hD
        refine lv_aload_n hx hb zd_Fo_takeWord_55 rfl (lv_at hl 1 rfl) ?_
        refine lv_dup hx hb zd_Fo_takeWord_56 rfl ?_
        refine va_get (D := (dC, dI)) (ci := 1) (v := .int xrd) (C := zR_Fo) (T := zT_Fo) (N := 8) hx hb hts (fun w h => hsub w (zi_Fo w h)) hown hK hP 0 rfl rfl 6 (by decide) (hw _ zq_133) (fun _ h9 => h9) rfl zd_Fo_takeWord_57 ?_
        refine lv_iload_n hx hb zd_Fo_takeWord_60 rfl (lv_at hl 0 rfl) ?_
        refine lv_if_eq (tgt := 68) hx hb zd_Fo_takeWord_61 (by decide) (fun c_6 => ?_) (fun c_6 => ?_)
        · have hf := mp_t c_6 hf
          refine lv_iconst (v := 1) hx hb zd_Fo_takeWord_68 (by decide) ?_
          refine lv_iadd hx hb zd_Fo_takeWord_69 ?_
          refine va_put (D := (dC, dI)) (ci := 1) (v := .int (xrd + (1 : Int32))) (ty := .int) (C := zR_Fo) (T := zT_Fo) (N := 8) hx hb hts (fun w h => hsub w (zi_Fo w h)) zt_Fo zt_Fo_ok zn_Fo hown hK hP hD hS 0 rfl rfl 6 (by decide) (hw _ zq_133) (fun _ h9 => h9) rfl (by decide +kernel) rfl rfl (Nat.le_of_ble_eq_true rfl) zd_Fo_takeWord_70 (fun H locs hP hD hS => ?_)
          have hP : va_P (dC, dI) vwCl [(ad 5, .inr (1, [.ref (ad 20), .ref (ad 21), .ref (ad 22), .ref (ad 23), .int xtl, .int (xrc + (1 : Int32)), .int (xrd + (1 : Int32)), .int xwc])), (ad 21, .inl (cI, 150, .inl (upd xfr xrc.toNatClampNeg u1)))] H := hP
          have hD : va_D A [(ad 5, .inr (1, [.ref (ad 20), .ref (ad 21), .ref (ad 22), .ref (ad 23), .int xtl, .int (xrc + (1 : Int32)), .int (xrd + (1 : Int32)), .int xwc])), (ad 21, .inl (cI, 150, .inl (upd xfr xrc.toNatClampNeg u1)))] := hD
          refine lv_iconst (v := 1) hx hb zd_Fo_takeWord_73 (by decide) ?_
          have hf := Option.some.inj hf
          subst hf
          exact W.zret (v := (1 : Int32)) hx hb hr (mp_nz (Or.inr rfl)) (fun t ht hW => ⟨⟨(1 : Int32), (), rfl, ⟨rfl, (Or.inr rfl)⟩, by rw [ht]; exact hP, hD⟩, hS.F ht⟩) hS.2.2 zd_Fo_takeWord_74
        · have hf := mp_f c_6 hf
          refine lv_iconst (v := -1) hx hb zd_Fo_takeWord_64 (by decide) ?_
          refine lv_goto (tgt := 69) hx hb zd_Fo_takeWord_65 (by decide) ?_
          refine lv_iadd hx hb zd_Fo_takeWord_69 ?_
          refine va_put (D := (dC, dI)) (ci := 1) (v := .int (xrd + (-1 : Int32))) (ty := .int) (C := zR_Fo) (T := zT_Fo) (N := 8) hx hb hts (fun w h => hsub w (zi_Fo w h)) zt_Fo zt_Fo_ok zn_Fo hown hK hP hD hS 0 rfl rfl 6 (by decide) (hw _ zq_133) (fun _ h9 => h9) rfl (by decide +kernel) rfl rfl (Nat.le_of_ble_eq_true rfl) zd_Fo_takeWord_70 (fun H locs hP hD hS => ?_)
          have hP : va_P (dC, dI) vwCl [(ad 5, .inr (1, [.ref (ad 20), .ref (ad 21), .ref (ad 22), .ref (ad 23), .int xtl, .int (xrc + (1 : Int32)), .int (xrd + (-1 : Int32)), .int xwc])), (ad 21, .inl (cI, 150, .inl (upd xfr xrc.toNatClampNeg u1)))] H := hP
          have hD : va_D A [(ad 5, .inr (1, [.ref (ad 20), .ref (ad 21), .ref (ad 22), .ref (ad 23), .int xtl, .int (xrc + (1 : Int32)), .int (xrd + (-1 : Int32)), .int xwc])), (ad 21, .inl (cI, 150, .inl (upd xfr xrc.toNatClampNeg u1)))] := hD
          refine lv_iconst (v := 1) hx hb zd_Fo_takeWord_73 (by decide) ?_
          have hf := Option.some.inj hf
          subst hf
          exact W.zret (v := (1 : Int32)) hx hb hr (mp_nz (Or.inr rfl)) (fun t ht hW => ⟨⟨(1 : Int32), (), rfl, ⟨rfl, (Or.inr rfl)⟩, by rw [ht]; exact hP, hD⟩, hS.F ht⟩) hS.2.2 zd_Fo_takeWord_74
      · have hf := mp_f c_4 hf
        refine lv_iconst (v := 0) hx hb zd_Fo_takeWord_33 (by decide) ?_
        have hf := Option.some.inj hf
        subst hf
        exact W.zret (v := (0 : Int32)) hx hb hr (mp_nz (Or.inl rfl)) (fun t ht hW => ⟨⟨(0 : Int32), (), rfl, ⟨rfl, (Or.inl rfl)⟩, by rw [ht]; exact hP, hD⟩, hS.F ht⟩) hS.2.2 zd_Fo_takeWord_34
    · have hf := mp_f c_3 hf
      refine lv_aload_n hx hb zd_Fo_takeWord_15 rfl (lv_at hl 1 rfl) ?_
      refine va_get (D := (dC, dI)) (ci := 1) (v := .int xrd) (C := zR_Fo) (T := zT_Fo) (N := 8) hx hb hts (fun w h => hsub w (zi_Fo w h)) hown hK hP 0 rfl rfl 6 (by decide) (hw _ zq_133) (fun _ h9 => h9) rfl zd_Fo_takeWord_16 ?_
      refine lv_iconst (v := 2) hx hb zd_Fo_takeWord_19 (by decide) ?_
      refine lv_icmp_lt (tgt := 33) hx hb zd_Fo_takeWord_20 (by decide) (fun c_7 => ?_) (fun c_7 => ?_)
      · have hf := mp_t c_7 hf
        refine lv_iconst (v := 0) hx hb zd_Fo_takeWord_33 (by decide) ?_
        have hf := Option.some.inj hf
        subst hf
        exact W.zret (v := (0 : Int32)) hx hb hr (mp_nz (Or.inl rfl)) (fun t ht hW => ⟨⟨(0 : Int32), (), rfl, ⟨rfl, (Or.inl rfl)⟩, by rw [ht]; exact hP, hD⟩, hS.F ht⟩) hS.2.2 zd_Fo_takeWord_34
      · have hf := mp_f c_7 hf
        refine lv_aload_n hx hb zd_Fo_takeWord_23 rfl (lv_at hl 1 rfl) ?_
        refine va_get (D := (dC, dI)) (ci := 1) (v := .int xrc) (C := zR_Fo) (T := zT_Fo) (N := 8) hx hb hts (fun w h => hsub w (zi_Fo w h)) hown hK hP 0 rfl rfl 5 (by decide) (hw _ zq_132) (fun _ h9 => h9) rfl zd_Fo_takeWord_24 ?_
        refine lv_sipush (v := 150) hx hb zd_Fo_takeWord_27 (by decide) ?_
        refine lv_icmp_lt (tgt := 35) hx hb zd_Fo_takeWord_30 (by decide) (fun c_8 => ?_) (fun c_8 => ?_)
        · have hf := mp_t c_8 hf
          refine lv_aload_n hx hb zd_Fo_takeWord_35 rfl (lv_at hl 1 rfl) ?_
          refine va_get (D := (dC, dI)) (ci := 1) (v := .ref (ad 21)) (C := zR_Fo) (T := zT_Fo) (N := 8) hx hb hts (fun w h => hsub w (zi_Fo w h)) hown hK hP 0 rfl rfl 1 (by decide) (hw _ zq_128) (fun _ h9 => h9) rfl zd_Fo_takeWord_36 ?_
          refine lv_aload_n hx hb zd_Fo_takeWord_39 rfl (lv_at hl 1 rfl) ?_
          refine va_get (D := (dC, dI)) (ci := 1) (v := .int xrc) (C := zR_Fo) (T := zT_Fo) (N := 8) hx hb hts (fun w h => hsub w (zi_Fo w h)) hown hK hP 0 rfl rfl 5 (by decide) (hw _ zq_132) (fun _ h9 => h9) rfl zd_Fo_takeWord_40 ?_
          refine lv_iload_n hx hb zd_Fo_takeWord_43 rfl (lv_at hl 2 rfl) ?_
          obtain ⟨h_9, hf⟩ := mp_in hf
          refine va_iast hx hb hK hP hD hS 1 0 rfl rfl (i := xrc) (x := u1) h_9 zd_Fo_takeWord_44 (fun H locs hP hD hS => ?_)
          have hP : va_P (dC, dI) vwCl [(ad 5, .inr (1, [.ref (ad 20), .ref (ad 21), .ref (ad 22), .ref (ad 23), .int xtl, .int xrc, .int xrd, .int xwc])), (ad 21, .inl (cI, 150, .inl (upd xfr xrc.toNatClampNeg u1)))] H := hP
          have hD : va_D A [(ad 5, .inr (1, [.ref (ad 20), .ref (ad 21), .ref (ad 22), .ref (ad 23), .int xtl, .int xrc, .int xrd, .int xwc])), (ad 21, .inl (cI, 150, .inl (upd xfr xrc.toNatClampNeg u1)))] := hD
          refine lv_aload_n hx hb zd_Fo_takeWord_45 rfl (lv_at hl 1 rfl) ?_
          refine lv_dup hx hb zd_Fo_takeWord_46 rfl ?_
          refine va_get (D := (dC, dI)) (ci := 1) (v := .int xrc) (C := zR_Fo) (T := zT_Fo) (N := 8) hx hb hts (fun w h => hsub w (zi_Fo w h)) hown hK hP 0 rfl rfl 5 (by decide) (hw _ zq_132) (fun _ h9 => h9) rfl zd_Fo_takeWord_47 ?_
          refine lv_iconst (v := 1) hx hb zd_Fo_takeWord_50 (by decide) ?_
          refine lv_iadd hx hb zd_Fo_takeWord_51 ?_
          refine va_put (D := (dC, dI)) (ci := 1) (v := .int (xrc + (1 : Int32))) (ty := .int) (C := zR_Fo) (T := zT_Fo) (N := 8) hx hb hts (fun w h => hsub w (zi_Fo w h)) zt_Fo zt_Fo_ok zn_Fo hown hK hP hD hS 0 rfl rfl 5 (by decide) (hw _ zq_132) (fun _ h9 => h9) rfl (by decide +kernel) rfl rfl (Nat.le_of_ble_eq_true rfl) zd_Fo_takeWord_52 (fun H locs hP hD hS => ?_)
          have hP : va_P (dC, dI) vwCl [(ad 5, .inr (1, [.ref (ad 20), .ref (ad 21), .ref (ad 22), .ref (ad 23), .int xtl, .int (xrc + (1 : Int32)), .int xrd, .int xwc])), (ad 21, .inl (cI, 150, .inl (upd xfr xrc.toNatClampNeg u1)))] H := hP
          have hD : va_D A [(ad 5, .inr (1, [.ref (ad 20), .ref (ad 21), .ref (ad 22), .ref (ad 23), .int xtl, .int (xrc + (1 : Int32)), .int xrd, .int xwc])), (ad 21, .inl (cI, 150, .inl (upd xfr xrc.toNatClampNeg u1)))] := hD
          refine lv_aload_n hx hb zd_Fo_takeWord_55 rfl (lv_at hl 1 rfl) ?_
          refine lv_dup hx hb zd_Fo_takeWord_56 rfl ?_
          refine va_get (D := (dC, dI)) (ci := 1) (v := .int xrd) (C := zR_Fo) (T := zT_Fo) (N := 8) hx hb hts (fun w h => hsub w (zi_Fo w h)) hown hK hP 0 rfl rfl 6 (by decide) (hw _ zq_133) (fun _ h9 => h9) rfl zd_Fo_takeWord_57 ?_
          refine lv_iload_n hx hb zd_Fo_takeWord_60 rfl (lv_at hl 0 rfl) ?_
          refine lv_if_eq (tgt := 68) hx hb zd_Fo_takeWord_61 (by decide) (fun c_10 => ?_) (fun c_10 => ?_)
          · have hf := mp_t c_10 hf
            refine lv_iconst (v := 1) hx hb zd_Fo_takeWord_68 (by decide) ?_
            refine lv_iadd hx hb zd_Fo_takeWord_69 ?_
            refine va_put (D := (dC, dI)) (ci := 1) (v := .int (xrd + (1 : Int32))) (ty := .int) (C := zR_Fo) (T := zT_Fo) (N := 8) hx hb hts (fun w h => hsub w (zi_Fo w h)) zt_Fo zt_Fo_ok zn_Fo hown hK hP hD hS 0 rfl rfl 6 (by decide) (hw _ zq_133) (fun _ h9 => h9) rfl (by decide +kernel) rfl rfl (Nat.le_of_ble_eq_true rfl) zd_Fo_takeWord_70 (fun H locs hP hD hS => ?_)
            have hP : va_P (dC, dI) vwCl [(ad 5, .inr (1, [.ref (ad 20), .ref (ad 21), .ref (ad 22), .ref (ad 23), .int xtl, .int (xrc + (1 : Int32)), .int (xrd + (1 : Int32)), .int xwc])), (ad 21, .inl (cI, 150, .inl (upd xfr xrc.toNatClampNeg u1)))] H := hP
            have hD : va_D A [(ad 5, .inr (1, [.ref (ad 20), .ref (ad 21), .ref (ad 22), .ref (ad 23), .int xtl, .int (xrc + (1 : Int32)), .int (xrd + (1 : Int32)), .int xwc])), (ad 21, .inl (cI, 150, .inl (upd xfr xrc.toNatClampNeg u1)))] := hD
            refine lv_iconst (v := 1) hx hb zd_Fo_takeWord_73 (by decide) ?_
            have hf := Option.some.inj hf
            subst hf
            exact W.zret (v := (1 : Int32)) hx hb hr (mp_nz (Or.inr rfl)) (fun t ht hW => ⟨⟨(1 : Int32), (), rfl, ⟨rfl, (Or.inr rfl)⟩, by rw [ht]; exact hP, hD⟩, hS.F ht⟩) hS.2.2 zd_Fo_takeWord_74
          · have hf := mp_f c_10 hf
            refine lv_iconst (v := -1) hx hb zd_Fo_takeWord_64 (by decide) ?_
            refine lv_goto (tgt := 69) hx hb zd_Fo_takeWord_65 (by decide) ?_
            refine lv_iadd hx hb zd_Fo_takeWord_69 ?_
            refine va_put (D := (dC, dI)) (ci := 1) (v := .int (xrd + (-1 : Int32))) (ty := .int) (C := zR_Fo) (T := zT_Fo) (N := 8) hx hb hts (fun w h => hsub w (zi_Fo w h)) zt_Fo zt_Fo_ok zn_Fo hown hK hP hD hS 0 rfl rfl 6 (by decide) (hw _ zq_133) (fun _ h9 => h9) rfl (by decide +kernel) rfl rfl (Nat.le_of_ble_eq_true rfl) zd_Fo_takeWord_70 (fun H locs hP hD hS => ?_)
            have hP : va_P (dC, dI) vwCl [(ad 5, .inr (1, [.ref (ad 20), .ref (ad 21), .ref (ad 22), .ref (ad 23), .int xtl, .int (xrc + (1 : Int32)), .int (xrd + (-1 : Int32)), .int xwc])), (ad 21, .inl (cI, 150, .inl (upd xfr xrc.toNatClampNeg u1)))] H := hP
            have hD : va_D A [(ad 5, .inr (1, [.ref (ad 20), .ref (ad 21), .ref (ad 22), .ref (ad 23), .int xtl, .int (xrc + (1 : Int32)), .int (xrd + (-1 : Int32)), .int xwc])), (ad 21, .inl (cI, 150, .inl (upd xfr xrc.toNatClampNeg u1)))] := hD
            refine lv_iconst (v := 1) hx hb zd_Fo_takeWord_73 (by decide) ?_
            have hf := Option.some.inj hf
            subst hf
            exact W.zret (v := (1 : Int32)) hx hb hr (mp_nz (Or.inr rfl)) (fun t ht hW => ⟨⟨(1 : Int32), (), rfl, ⟨rfl, (Or.inr rfl)⟩, by rw [ht]; exact hP, hD⟩, hS.F ht⟩) hS.2.2 zd_Fo_takeWord_74
        · have hf := mp_f c_8 hf
          refine lv_iconst (v := 0) hx hb zd_Fo_takeWord_33 (by decide) ?_
          have hf := Option.some.inj hf
          subst hf
          exact W.zret (v := (0 : Int32)) hx hb hr (mp_nz (Or.inl rfl)) (fun t ht hW => ⟨⟨(0 : Int32), (), rfl, ⟨rfl, (Or.inl rfl)⟩, by rw [ht]; exact hP, hD⟩, hS.F ht⟩) hS.2.2 zd_Fo_takeWord_34
def zf_Fo_isGap (u0 : Int32) : Option (Int32) := (if u0 = (32 : Int32) then some (1 : Int32) else (if u0 = (10 : Int32) then some (1 : Int32) else some (0 : Int32)))
set_option maxHeartbeats 4000000 in
set_option maxRecDepth 100000 in
theorem zc_Fo_isGap (l : Launch) (dC : Nat → ClassId) (dI : Nat → Nat → Nat) (cI cJ cZ : ClassId) (ad : Nat → Nat) (u0 : Int32) (res : Int32) (hf : zf_Fo_isGap u0 = some res) : Met l zy_Fo_isGap zw_Fo_isGap ({ frames := 0, cells := 0, slots := 0, locals := 0 } : Room) (mp_PR (dC, dI) vwCl (mp_tys cI cJ cZ) [] [.int u0]) (vp_Si (fun r => r = res ∧ mp_b res)) 0 0 (fun _ => False) := by
  refine Met.ofW (cc := zb_Fo_isGap) (maxL := 1) (ret := (some .boolean)) (by decide) rfl ?_
  intro p e s m args below meth c s₁ B hml hv
  obtain ⟨rfl, hP, hK, hN⟩ := hv
  have hx := B.exec
  have hb := B.bytes
  have hr := B.returns
  have hts := atoms_spec (ws := zw_Fo_isGap) B.pre
  have hsub : ∀ w ∈ mp_tbl, w ∈ zw_Fo_isGap := fun w h => List.mem_cons_of_mem _ h
  have hw : ∀ w ∈ mp_tbl, w.before _ s = true := fun w h => hts w (hsub w h)
  have hown : s.vm.findClass zR_Fo = some m.cls := findClass_of_methodNamed B.named
  have hlocks := B.notSynchronized
  have hl := lv_entry ([.int u0]) (n := 1) (Nat.le_of_ble_eq_true rfl)
  rw [lg_entry_eq]
  generalize (lg_sl ([.int u0]) ++ List.replicate (1 - (lg_sl ([.int u0])).length) Slot.unset).toArray = ls at hl ⊢
  have hl : lv_has ls 1 [(0, .int u0)] := hl
  unfold zf_Fo_isGap at hf
  refine lv_iload_n hx hb zd_Fo_isGap_0 rfl (lv_at hl 0 rfl) ?_
  refine lv_bipush (v := 32) hx hb zd_Fo_isGap_1 (by decide) ?_
  refine lv_icmp_eq (tgt := 12) hx hb zd_Fo_isGap_3 (by decide) (fun c_1 => ?_) (fun c_1 => ?_)
  · have hf := mp_t c_1 hf
    refine lv_iconst (v := 1) hx hb zd_Fo_isGap_12 (by decide) ?_
    refine lv_goto (tgt := 17) hx hb zd_Fo_isGap_13 (by decide) ?_
    have hf := Option.some.inj hf
    subst hf
    exact W.zret (v := (1 : Int32)) hx hb hr (mp_nz (Or.inr rfl)) (fun t ht hW => ⟨(1 : Int32), rfl, ⟨rfl, (Or.inr rfl)⟩, ht⟩) (fun q h => by cases h) zd_Fo_isGap_17
  · have hf := mp_f c_1 hf
    refine lv_iload_n hx hb zd_Fo_isGap_6 rfl (lv_at hl 0 rfl) ?_
    refine lv_bipush (v := 10) hx hb zd_Fo_isGap_7 (by decide) ?_
    refine lv_icmp_ne (tgt := 16) hx hb zd_Fo_isGap_9 (by decide) (fun c_2 => ?_) (fun c_2 => ?_)
    · have hf := mp_f c_2 hf
      refine lv_iconst (v := 0) hx hb zd_Fo_isGap_16 (by decide) ?_
      have hf := Option.some.inj hf
      subst hf
      exact W.zret (v := (0 : Int32)) hx hb hr (mp_nz (Or.inl rfl)) (fun t ht hW => ⟨(0 : Int32), rfl, ⟨rfl, (Or.inl rfl)⟩, ht⟩) (fun q h => by cases h) zd_Fo_isGap_17
    · have hf := mp_t c_2 hf
      refine lv_iconst (v := 1) hx hb zd_Fo_isGap_12 (by decide) ?_
      refine lv_goto (tgt := 17) hx hb zd_Fo_isGap_13 (by decide) ?_
      have hf := Option.some.inj hf
      subst hf
      exact W.zret (v := (1 : Int32)) hx hb hr (mp_nz (Or.inr rfl)) (fun t ht hW => ⟨(1 : Int32), rfl, ⟨rfl, (Or.inr rfl)⟩, ht⟩) (fun q h => by cases h) zd_Fo_isGap_17
def zf_Fo_readText_L24 (v1 : Int32) (xtl : Int32) (xwc : Int32) (xfw : Nat → Int32) (xft : Nat → Int32)  : Nat → Int32 → Int32 → Int32 → Int32 → (Nat → Int32) → Option (Int32 × Int32 × Int32 × Int32 × Int32 × (Nat → Int32) × (Nat → Int32))
  | 0, _, _, _, _, _ => none
  | n + 1, v2, v3, xrc, xrd, xfr => (if v1 < v3 then (if xrd = (1 : Int32) then (if (0 : Int32) < 0 ∨ (0 : Int32) < 0 ∨ xrc < 0 ∨ 150 < (0 : Int32).toNatClampNeg + xrc.toNatClampNeg ∨ 150 < (0 : Int32).toNatClampNeg + xrc.toNatClampNeg then none else some (xrc, xtl, xrc, xrd, xrc, xfr, (va_cpy xfr xfw (0 : Int32).toNatClampNeg (0 : Int32).toNatClampNeg xrc.toNatClampNeg))) else some (((-1 : Int32) - xrc), xtl, xrc, xrd, xwc, xfr, xfw)) else (if v3 = v1 then (if v3 ≤ v2 then zf_Fo_readText_L24 v1 xtl xwc xfw xft n (v3 + (1 : Int32)) (v3 + (1 : Int32)) xrc xrd xfr else ((zf_Fo_wordAt v2 v3 xft).bind (fun y6 => ((zf_Fo_takeWord y6 xrc xrd xfr).bind (fun y7 => (if y7.1 = 0 then some (((-1 : Int32) - y7.2.1), xtl, y7.2.1, y7.2.2.1, xwc, y7.2.2.2, xfw) else zf_Fo_readText_L24 v1 xtl xwc xfw xft n (v3 + (1 : Int32)) (v3 + (1 : Int32)) y7.2.1 y7.2.2.1 y7.2.2.2)))))) else (if v3 < 0 ∨ 300 ≤ v3.toNatClampNeg then none else ((zf_Fo_isGap (xft v3.toNatClampNeg)).bind (fun y10 => (if y10 = 0 then zf_Fo_readText_L24 v1 xtl xwc xfw xft n v2 (v3 + (1 : Int32)) xrc xrd xfr else (if v3 ≤ v2 then zf_Fo_readText_L24 v1 xtl xwc xfw xft n (v3 + (1 : Int32)) (v3 + (1 : Int32)) xrc xrd xfr else ((zf_Fo_wordAt v2 v3 xft).bind (fun y13 => ((zf_Fo_takeWord y13 xrc xrd xfr).bind (fun y14 => (if y14.1 = 0 then some (((-1 : Int32) - y14.2.1), xtl, y14.2.1, y14.2.2.1, xwc, y14.2.2.2, xfw) else zf_Fo_readText_L24 v1 xtl xwc xfw xft n (v3 + (1 : Int32)) (v3 + (1 : Int32)) y14.2.1 y14.2.2.1 y14.2.2.2))))))))))))
def zf_Fo_readText (xtl : Int32) (xrc : Int32) (xrd : Int32) (xwc : Int32) (xft : Nat → Int32) (xfr : Nat → Int32) (xfw : Nat → Int32) : Option (Int32 × Int32 × Int32 × Int32 × Int32 × (Nat → Int32) × (Nat → Int32)) := zf_Fo_readText_L24 xtl (0 : Int32) xwc xfw xft 2000 (0 : Int32) (0 : Int32) (0 : Int32) (0 : Int32) xfr
set_option maxHeartbeats 4000000 in
set_option maxRecDepth 100000 in
theorem zc_Fo_readText (l : Launch) (dC : Nat → ClassId) (dI : Nat → Nat → Nat) (cI cJ cZ : ClassId) (ad : Nat → Nat) (sz : Nat) (xtl : Int32) (xrc : Int32) (xrd : Int32) (xwc : Int32) (xft : Nat → Int32) (xfr : Nat → Int32) (xfw : Nat → Int32) (res : Int32 × Int32 × Int32 × Int32 × Int32 × (Nat → Int32) × (Nat → Int32)) (hf : zf_Fo_readText xtl xrc xrd xwc xft xfr xfw = some res) : Met l zy_Fo_readText zw_Fo_readText ({ frames := 3, cells := 0, slots := 0, locals := 67 } : Room) (mp_PM (dC, dI) vwCl (mp_tys cI cJ cZ) [(ad 5, .inr (1, [.ref (ad 20), .ref (ad 21), .ref (ad 22), .ref (ad 23), .int xtl, .int xrc, .int xrd, .int xwc])), (ad 20, .inl (cI, 300, .inl xft)), (ad 21, .inl (cI, 150, .inl xfr)), (ad 22, .inl (cI, 150, .inl xfw))] sz [.ref (ad 5)]) (va_Qi (fun r (_ : Unit) => r = res.1) (mp_BM (dC, dI) vwCl [(ad 5, .inr (1, [.ref (ad 20), .ref (ad 21), .ref (ad 22), .ref (ad 23), .int res.2.1, .int res.2.2.1, .int res.2.2.2.1, .int res.2.2.2.2.1])), (ad 20, .inl (cI, 300, .inl xft)), (ad 21, .inl (cI, 150, .inl res.2.2.2.2.2.1)), (ad 22, .inl (cI, 150, .inl res.2.2.2.2.2.2))] (va_A [(ad 5, .inr (1, [.ref (ad 20), .ref (ad 21), .ref (ad 22), .ref (ad 23), .int xtl, .int xrc, .int xrd, .int xwc])), (ad 20, .inl (cI, 300, .inl xft)), (ad 21, .inl (cI, 150, .inl xfr)), (ad 22, .inl (cI, 150, .inl xfw))] sz)) (va_A [(ad 5, .inr (1, [.ref (ad 20), .ref (ad 21), .ref (ad 22), .ref (ad 23), .int xtl, .int xrc, .int xrd, .int xwc])), (ad 20, .inl (cI, 300, .inl xft)), (ad 21, .inl (cI, 150, .inl xfr)), (ad 22, .inl (cI, 150, .inl xfw))] sz)) 0 0 ((va_A [(ad 5, .inr (1, [.ref (ad 20), .ref (ad 21), .ref (ad 22), .ref (ad 23), .int xtl, .int xrc, .int xrd, .int xwc])), (ad 20, .inl (cI, 300, .inl xft)), (ad 21, .inl (cI, 150, .inl xfr)), (ad 22, .inl (cI, 150, .inl xfw))] sz)) := by
  refine Met.ofW (cc := zb_Fo_readText) (maxL := 4) (ret := (some .int)) (by decide) rfl ?_
  intro p e s m args below meth c s₁ B hml hv
  obtain ⟨rfl, hsz, hP, hK, hD0, hN⟩ := hv
  have hx := B.exec
  have hb := B.bytes
  have hr := B.returns
  have hts := atoms_spec (ws := zw_Fo_readText) B.pre
  have hsub : ∀ w ∈ mp_tbl, w ∈ zw_Fo_readText := fun w h => List.mem_cons_of_mem _ h
  have hw : ∀ w ∈ mp_tbl, w.before _ s = true := fun w h => hts w (hsub w h)
  have hown : s.vm.findClass zR_Fo = some m.cls := findClass_of_methodNamed B.named
  have hlocks := B.notSynchronized
  subst hsz
  have hD := hD0.self (sz := s.heap.size)
  generalize hAe : va_A [(ad 5, .inr (1, [.ref (ad 20), .ref (ad 21), .ref (ad 22), .ref (ad 23), .int xtl, .int xrc, .int xrd, .int xwc])), (ad 20, .inl (cI, 300, .inl xft)), (ad 21, .inl (cI, 150, .inl xfr)), (ad 22, .inl (cI, 150, .inl xfw))] s.heap.size = A at hD ⊢
  have hA : ∀ q : Nat, s.heap.size ≤ q → A q := fun q h => by rw [← hAe]; exact Or.inr h
  have hS : va_S A s.heap s.heap [] := va_S.rf
  have hP : va_P (dC, dI) vwCl [(ad 5, .inr (1, [.ref (ad 20), .ref (ad 21), .ref (ad 22), .ref (ad 23), .int xtl, .int xrc, .int xrd, .int xwc])), (ad 20, .inl (cI, 300, .inl xft)), (ad 21, .inl (cI, 150, .inl xfr)), (ad 22, .inl (cI, 150, .inl xfw))] s.heap := hP
  clear hAe hD0
  have loop24 : ∀ (v1 : Int32) (xtl : Int32) (xwc : Int32) (xfw : Nat → Int32) (n : Nat) (v2 : Int32) (v3 : Int32) (xrc : Int32) (xrd : Int32) (xfr : Nat → Int32) (H : Heap) (locs : List Loc) (ls : Array Slot), zf_Fo_readText_L24 v1 xtl xwc xfw xft n v2 v3 xrc xrd xfr = some res → va_P (dC, dI) vwCl [(ad 5, .inr (1, [.ref (ad 20), .ref (ad 21), .ref (ad 22), .ref (ad 23), .int xtl, .int xrc, .int xrd, .int xwc])), (ad 20, .inl (cI, 300, .inl xft)), (ad 21, .inl (cI, 150, .inl xfr)), (ad 22, .inl (cI, 150, .inl xfw))] H → va_D A [(ad 5, .inr (1, [.ref (ad 20), .ref (ad 21), .ref (ad 22), .ref (ad 23), .int xtl, .int xrc, .int xrd, .int xwc])), (ad 20, .inl (cI, 300, .inl xft)), (ad 21, .inl (cI, 150, .inl xfr)), (ad 22, .inl (cI, 150, .inl xfw))] → va_S A s.heap H locs → lv_has ls 4 [(0, .ref (ad 5)), (1, .int v1), (2, .int v2), (3, .int v3)] → W p l e (headSpec zw_Fo_readText ({ frames := 3, cells := 0, slots := 0, locals := 67 } : Room)).room s m ([.ref (ad 5)] : List Value).toArray below meth c H locs 0 0 (MQ below (va_Qi (fun r (_ : Unit) => r = res.1) (mp_BM (dC, dI) vwCl [(ad 5, .inr (1, [.ref (ad 20), .ref (ad 21), .ref (ad 22), .ref (ad 23), .int res.2.1, .int res.2.2.1, .int res.2.2.2.1, .int res.2.2.2.2.1])), (ad 20, .inl (cI, 300, .inl xft)), (ad 21, .inl (cI, 150, .inl res.2.2.2.2.2.1)), (ad 22, .inl (cI, 150, .inl res.2.2.2.2.2.2))] A) A) ([.ref (ad 5)] : List Value).toArray s 0 0 (A)) (F0 m 24 ls []) := by
    intro v1 xtl xwc xfw n
    induction n with
    | zero => intro v2 v3 xrc xrd xfr H locs ls hf; simp [zf_Fo_readText_L24] at hf
    | succ n ih =>
      intro v2 v3 xrc xrd xfr H locs ls hf hP hD hS hl
      rw [zf_Fo_readText_L24] at hf
      refine lv_iload_n hx hb zd_Fo_readText_24 rfl (lv_at hl 3 rfl) ?_
      refine lv_iload_n hx hb zd_Fo_readText_25 rfl (lv_at hl 1 rfl) ?_
      refine lv_icmp_gt (tgt := 81) hx hb zd_Fo_readText_26 (by decide) (fun c_1 => ?_) (fun c_1 => ?_)
      · have hf := mp_t c_1 hf
        refine lv_aload_n hx hb zd_Fo_readText_81 rfl (lv_at hl 0 rfl) ?_
        refine va_get (D := (dC, dI)) (ci := 1) (v := .int xrd) (C := zR_Fo) (T := zT_Fo) (N := 8) hx hb hts (fun w h => hsub w (zi_Fo w h)) hown hK hP 0 rfl rfl 6 (by decide) (hw _ zq_133) (fun _ h9 => h9) rfl zd_Fo_readText_82 ?_
        refine lv_iconst (v := 1) hx hb zd_Fo_readText_85 (by decide) ?_
        refine lv_icmp_eq (tgt := 96) hx hb zd_Fo_readText_86 (by decide) (fun c_2 => ?_) (fun c_2 => ?_)
        · have hf := mp_t c_2 hf
          refine lv_aload_n hx hb zd_Fo_readText_96 rfl (lv_at hl 0 rfl) ?_
          refine va_get (D := (dC, dI)) (ci := 1) (v := .ref (ad 21)) (C := zR_Fo) (T := zT_Fo) (N := 8) hx hb hts (fun w h => hsub w (zi_Fo w h)) hown hK hP 0 rfl rfl 1 (by decide) (hw _ zq_128) (fun _ h9 => h9) rfl zd_Fo_readText_97 ?_
          refine lv_iconst (v := 0) hx hb zd_Fo_readText_100 (by decide) ?_
          refine lv_aload_n hx hb zd_Fo_readText_101 rfl (lv_at hl 0 rfl) ?_
          refine va_get (D := (dC, dI)) (ci := 1) (v := .ref (ad 22)) (C := zR_Fo) (T := zT_Fo) (N := 8) hx hb hts (fun w h => hsub w (zi_Fo w h)) hown hK hP 0 rfl rfl 2 (by decide) (hw _ zq_129) (fun _ h9 => h9) rfl zd_Fo_readText_102 ?_
          refine lv_iconst (v := 0) hx hb zd_Fo_readText_105 (by decide) ?_
          refine lv_aload_n hx hb zd_Fo_readText_106 rfl (lv_at hl 0 rfl) ?_
          refine va_get (D := (dC, dI)) (ci := 1) (v := .int xrc) (C := zR_Fo) (T := zT_Fo) (N := 8) hx hb hts (fun w h => hsub w (zi_Fo w h)) hown hK hP 0 rfl rfl 5 (by decide) (hw _ zq_132) (fun _ h9 => h9) rfl zd_Fo_readText_107 ?_
          obtain ⟨h_3, hf⟩ := mp_in hf
          obtain ⟨p_3, q_3, r_3, s_3, t_3⟩ := mp_cp h_3
          refine va_copyi hx hb (by rw [hml]; exact hl.1.symm) hown (hw _ zq_361) (hw _ zq_363) (hw _ zq_362) (hw _ zq_32) hK hP hD hS 2 3 0 0 rfl rfl rfl rfl rfl (sp := (0 : Int32)) (dp := (0 : Int32)) (n := xrc) p_3 q_3 r_3 s_3 t_3 (fun _ _ => rfl) (Nat.le_of_ble_eq_true rfl) (Nat.le_of_ble_eq_true rfl) zd_Fo_readText_110 (fun H locs hP hD hS => ?_)
          have hP : va_P (dC, dI) vwCl [(ad 5, .inr (1, [.ref (ad 20), .ref (ad 21), .ref (ad 22), .ref (ad 23), .int xtl, .int xrc, .int xrd, .int xwc])), (ad 20, .inl (cI, 300, .inl xft)), (ad 21, .inl (cI, 150, .inl xfr)), (ad 22, .inl (cI, 150, .inl (va_cpy xfr xfw (0 : Int32).toNatClampNeg (0 : Int32).toNatClampNeg xrc.toNatClampNeg)))] H := hP
          have hD : va_D A [(ad 5, .inr (1, [.ref (ad 20), .ref (ad 21), .ref (ad 22), .ref (ad 23), .int xtl, .int xrc, .int xrd, .int xwc])), (ad 20, .inl (cI, 300, .inl xft)), (ad 21, .inl (cI, 150, .inl xfr)), (ad 22, .inl (cI, 150, .inl (va_cpy xfr xfw (0 : Int32).toNatClampNeg (0 : Int32).toNatClampNeg xrc.toNatClampNeg)))] := hD
          refine lv_aload_n hx hb zd_Fo_readText_113 rfl (lv_at hl 0 rfl) ?_
          refine lv_aload_n hx hb zd_Fo_readText_114 rfl (lv_at hl 0 rfl) ?_
          refine va_get (D := (dC, dI)) (ci := 1) (v := .int xrc) (C := zR_Fo) (T := zT_Fo) (N := 8) hx hb hts (fun w h => hsub w (zi_Fo w h)) hown hK hP 0 rfl rfl 5 (by decide) (hw _ zq_132) (fun _ h9 => h9) rfl zd_Fo_readText_115 ?_
          refine va_put (D := (dC, dI)) (ci := 1) (v := .int xrc) (ty := .int) (C := zR_Fo) (T := zT_Fo) (N := 8) hx hb hts (fun w h => hsub w (zi_Fo w h)) zt_Fo zt_Fo_ok zn_Fo hown hK hP hD hS 0 rfl rfl 7 (by decide) (hw _ zq_134) (fun _ h9 => h9) rfl (by decide +kernel) rfl rfl (Nat.le_of_ble_eq_true rfl) zd_Fo_readText_118 (fun H locs hP hD hS => ?_)
          have hP : va_P (dC, dI) vwCl [(ad 5, .inr (1, [.ref (ad 20), .ref (ad 21), .ref (ad 22), .ref (ad 23), .int xtl, .int xrc, .int xrd, .int xrc])), (ad 20, .inl (cI, 300, .inl xft)), (ad 21, .inl (cI, 150, .inl xfr)), (ad 22, .inl (cI, 150, .inl (va_cpy xfr xfw (0 : Int32).toNatClampNeg (0 : Int32).toNatClampNeg xrc.toNatClampNeg)))] H := hP
          have hD : va_D A [(ad 5, .inr (1, [.ref (ad 20), .ref (ad 21), .ref (ad 22), .ref (ad 23), .int xtl, .int xrc, .int xrd, .int xrc])), (ad 20, .inl (cI, 300, .inl xft)), (ad 21, .inl (cI, 150, .inl xfr)), (ad 22, .inl (cI, 150, .inl (va_cpy xfr xfw (0 : Int32).toNatClampNeg (0 : Int32).toNatClampNeg xrc.toNatClampNeg)))] := hD
          refine lv_aload_n hx hb zd_Fo_readText_121 rfl (lv_at hl 0 rfl) ?_
          refine va_get (D := (dC, dI)) (ci := 1) (v := .int xrc) (C := zR_Fo) (T := zT_Fo) (N := 8) hx hb hts (fun w h => hsub w (zi_Fo w h)) hown hK hP 0 rfl rfl 7 (by decide) (hw _ zq_134) (fun _ h9 => h9) rfl zd_Fo_readText_122 ?_
          have hf := Option.some.inj hf
          subst hf
          exact W.iret (v := xrc) hx hb hr (fun t ht hW => ⟨⟨xrc, (), rfl, rfl, by rw [ht]; exact hP, hD⟩, hS.F ht⟩) hS.2.2 zd_Fo_readText_125
        · have hf := mp_f c_2 hf
          refine lv_iconst (v := -1) hx hb zd_Fo_readText_89 (by decide) ?_
          refine lv_aload_n hx hb zd_Fo_readText_90 rfl (lv_at hl 0 rfl) ?_
          refine va_get (D := (dC, dI)) (ci := 1) (v := .int xrc) (C := zR_Fo) (T := zT_Fo) (N := 8) hx hb hts (fun w h => hsub w (zi_Fo w h)) hown hK hP 0 rfl rfl 5 (by decide) (hw _ zq_132) (fun _ h9 => h9) rfl zd_Fo_readText_91 ?_
          refine lv_isub hx hb zd_Fo_readText_94 ?_
          have hf := Option.some.inj hf
          subst hf
          exact W.iret (v := ((-1 : Int32) - xrc)) hx hb hr (fun t ht hW => ⟨⟨((-1 : Int32) - xrc), (), rfl, rfl, by rw [ht]; exact hP, hD⟩, hS.F ht⟩) hS.2.2 zd_Fo_readText_95
      · have hf := mp_f c_1 hf
        refine lv_iload_n hx hb zd_Fo_readText_29 rfl (lv_at hl 3 rfl) ?_
        refine lv_iload_n hx hb zd_Fo_readText_30 rfl (lv_at hl 1 rfl) ?_
        refine lv_icmp_eq (tgt := 46) hx hb zd_Fo_readText_31 (by decide) (fun c_4 => ?_) (fun c_4 => ?_)
        · have hf := mp_t c_4 hf
          refine lv_iload_n hx hb zd_Fo_readText_46 rfl (lv_at hl 2 rfl) ?_
          refine lv_iload_n hx hb zd_Fo_readText_47 rfl (lv_at hl 3 rfl) ?_
          refine lv_icmp_ge (tgt := 71) hx hb zd_Fo_readText_48 (by decide) (fun c_5 => ?_) (fun c_5 => ?_)
          · have hf := mp_t c_5 hf
            refine lv_iload_n hx hb zd_Fo_readText_71 rfl (lv_at hl 3 rfl) ?_
            refine lv_iconst (v := 1) hx hb zd_Fo_readText_72 (by decide) ?_
            refine lv_iadd hx hb zd_Fo_readText_73 ?_
            refine lv_istore_n (lv' := [(2, .int (v3 + (1 : Int32))), (0, .ref (ad 5)), (1, .int v1), (3, .int v3)]) hx hb zd_Fo_readText_74 rfl hl (by decide) rfl (fun ls hl => ?_)
            refine lv_iinc (v := (v3 + (1 : Int32))) (lv' := [(3, .int (v3 + (1 : Int32))), (2, .int (v3 + (1 : Int32))), (0, .ref (ad 5)), (1, .int v1)]) hx hb zd_Fo_readText_75 hl (k := 3) rfl rfl (by decide) rfl (fun ls hl => ?_)
            refine lv_goto (tgt := 24) hx hb zd_Fo_readText_78 (by decide) ?_
            exact ih (v3 + (1 : Int32)) (v3 + (1 : Int32)) xrc xrd xfr _ _ _ hf hP hD hS (lv_sub hl [2, 3, 1, 0] rfl)
          · have hf := mp_f c_5 hf
            refine lv_aload_n hx hb zd_Fo_readText_51 rfl (lv_at hl 0 rfl) ?_
            refine lv_aload_n hx hb zd_Fo_readText_52 rfl (lv_at hl 0 rfl) ?_
            refine lv_iload_n hx hb zd_Fo_readText_53 rfl (lv_at hl 2 rfl) ?_
            refine lv_iload_n hx hb zd_Fo_readText_54 rfl (lv_at hl 3 rfl) ?_
            obtain ⟨y6, hg6, hf⟩ := mp_bd hf
            refine mp_Ri (va_runV (As := [.int v2, .int v3]) (rest := [.ref (ad 5)]) ⟨hx, hb, hml, hown, hts⟩ (zc_Fo_wordAt l dC dI cI cJ cZ ad xtl xrc xrd xwc xft v2 v3 y6 hg6) (cwV 2 hts (mp_gV hsub zq_333 zq_335 zq_4 zq_29 zq_336) rfl rfl rfl (by decide +kernel) ⟨Nat.le_of_ble_eq_true rfl, Nat.le_of_ble_eq_true rfl⟩) ⟨mp_blR, va_recv hK hP (ci := 1) (q0 := 0) rfl rfl, mp_preR hN hK (hP.sub [0, 1] rfl)⟩ rfl rfl hl.1 rfl (lv_room (Nat.le_of_ble_eq_true rfl)) zd_Fo_readText_55 ⟨Nat.zero_le _, Nat.zero_le _⟩) ?_
            obtain ⟨y7, hg7, hf⟩ := mp_bd hf
            refine mp_Mz (wr := [(ad 20, .inl (cI, 300, .inl xft)), (ad 22, .inl (cI, 150, .inl xfw))]) (va_runV (As := [.int y6]) (rest := []) ⟨hx, hb, hml, hown, hts⟩ (zc_Fo_takeWord l dC dI cI cJ cZ ad _ xtl xrc xrd xwc xfr y6 y7 hg7) (cwV 1 hts (mp_gV hsub zq_354 zq_356 zq_6 zq_29 zq_357) rfl rfl rfl (by decide +kernel) ⟨Nat.le_of_ble_eq_true rfl, Nat.le_of_ble_eq_true rfl⟩) ⟨mp_blM, va_recv hK hP (ci := 1) (q0 := 0) rfl rfl, mp_preM hN hK (hP.sub [0, 2] rfl) (hD.sub [0, 2] (by decide) rfl)⟩ rfl rfl hl.1 rfl (lv_room (Nat.le_of_ble_eq_true rfl)) zd_Fo_readText_58 ⟨Nat.zero_le _, Nat.zero_le _⟩) hP hD hS hA [0, 2] [1, 3] rfl rfl (by decide) (by decide) (fun H locs hP hD hS hz7 => ?_)
            have hP : va_P (dC, dI) vwCl [(ad 20, .inl (cI, 300, .inl xft)), (ad 22, .inl (cI, 150, .inl xfw)), (ad 5, .inr (1, [.ref (ad 20), .ref (ad 21), .ref (ad 22), .ref (ad 23), .int xtl, .int y7.2.1, .int y7.2.2.1, .int xwc])), (ad 21, .inl (cI, 150, .inl y7.2.2.2))] H := hP
            have hD : va_D A [(ad 20, .inl (cI, 300, .inl xft)), (ad 22, .inl (cI, 150, .inl xfw)), (ad 5, .inr (1, [.ref (ad 20), .ref (ad 21), .ref (ad 22), .ref (ad 23), .int xtl, .int y7.2.1, .int y7.2.2.1, .int xwc])), (ad 21, .inl (cI, 150, .inl y7.2.2.2))] := hD
            refine lv_if_ne (tgt := 71) hx hb zd_Fo_readText_61 (by decide) (fun c_8 => ?_) (fun c_8 => ?_)
            · have hf := mp_f c_8 hf
              refine lv_iload_n hx hb zd_Fo_readText_71 rfl (lv_at hl 3 rfl) ?_
              refine lv_iconst (v := 1) hx hb zd_Fo_readText_72 (by decide) ?_
              refine lv_iadd hx hb zd_Fo_readText_73 ?_
              refine lv_istore_n (lv' := [(2, .int (v3 + (1 : Int32))), (0, .ref (ad 5)), (1, .int v1), (3, .int v3)]) hx hb zd_Fo_readText_74 rfl hl (by decide) rfl (fun ls hl => ?_)
              refine lv_iinc (v := (v3 + (1 : Int32))) (lv' := [(3, .int (v3 + (1 : Int32))), (2, .int (v3 + (1 : Int32))), (0, .ref (ad 5)), (1, .int v1)]) hx hb zd_Fo_readText_75 hl (k := 3) rfl rfl (by decide) rfl (fun ls hl => ?_)
              refine lv_goto (tgt := 24) hx hb zd_Fo_readText_78 (by decide) ?_
              exact ih (v3 + (1 : Int32)) (v3 + (1 : Int32)) y7.2.1 y7.2.2.1 y7.2.2.2 _ _ _ hf (hP.sub [2, 0, 3, 1] rfl) (hD.sub [2, 0, 3, 1] (by decide) rfl) hS (lv_sub hl [2, 3, 1, 0] rfl)
            · have hf := mp_t c_8 hf
              refine lv_iconst (v := -1) hx hb zd_Fo_readText_64 (by decide) ?_
              refine lv_aload_n hx hb zd_Fo_readText_65 rfl (lv_at hl 0 rfl) ?_
              refine va_get (D := (dC, dI)) (ci := 1) (v := .int y7.2.1) (C := zR_Fo) (T := zT_Fo) (N := 8) hx hb hts (fun w h => hsub w (zi_Fo w h)) hown hK hP 2 rfl rfl 5 (by decide) (hw _ zq_132) (fun _ h9 => h9) rfl zd_Fo_readText_66 ?_
              refine lv_isub hx hb zd_Fo_readText_69 ?_
              have hf := Option.some.inj hf
              subst hf
              have hP := hP.sub (ws' := [(ad 5, .inr (1, [.ref (ad 20), .ref (ad 21), .ref (ad 22), .ref (ad 23), .int xtl, .int y7.2.1, .int y7.2.2.1, .int xwc])), (ad 20, .inl (cI, 300, .inl xft)), (ad 21, .inl (cI, 150, .inl y7.2.2.2)), (ad 22, .inl (cI, 150, .inl xfw))]) [2, 0, 3, 1] rfl
              have hD := hD.sub (ws' := [(ad 5, .inr (1, [.ref (ad 20), .ref (ad 21), .ref (ad 22), .ref (ad 23), .int xtl, .int y7.2.1, .int y7.2.2.1, .int xwc])), (ad 20, .inl (cI, 300, .inl xft)), (ad 21, .inl (cI, 150, .inl y7.2.2.2)), (ad 22, .inl (cI, 150, .inl xfw))]) [2, 0, 3, 1] (by decide) rfl
              exact W.iret (v := ((-1 : Int32) - y7.2.1)) hx hb hr (fun t ht hW => ⟨⟨((-1 : Int32) - y7.2.1), (), rfl, rfl, by rw [ht]; exact hP, hD⟩, hS.F ht⟩) hS.2.2 zd_Fo_readText_70
        · have hf := mp_f c_4 hf
          refine lv_aload_n hx hb zd_Fo_readText_34 rfl (lv_at hl 0 rfl) ?_
          refine va_get (D := (dC, dI)) (ci := 1) (v := .ref (ad 20)) (C := zR_Fo) (T := zT_Fo) (N := 8) hx hb hts (fun w h => hsub w (zi_Fo w h)) hown hK hP 0 rfl rfl 0 (by decide) (hw _ zq_127) (fun _ h9 => h9) rfl zd_Fo_readText_35 ?_
          refine lv_iload_n hx hb zd_Fo_readText_38 rfl (lv_at hl 3 rfl) ?_
          obtain ⟨h_9, hf⟩ := mp_in hf
          refine va_iald hx hb hK hP 1 0 rfl rfl (i := v3) h_9 zd_Fo_readText_39 ?_
          obtain ⟨y10, hg10, hf⟩ := mp_bd hf
          refine mp_Rz (va_runS (As := [.int (xft v3.toNatClampNeg)]) (rest := []) ⟨hx, hb, hml, hown, hts⟩ (zc_Fo_isGap l dC dI cI cJ cZ ad (xft v3.toNatClampNeg) y10 hg10) (va_cwS 1 hts (mp_gS hsub zq_330 zq_331 zq_29 zq_332) rfl rfl rfl (by decide +kernel) ⟨Nat.le_of_ble_eq_true rfl, Nat.le_of_ble_eq_true rfl⟩) ⟨mp_blR, mp_preR hN hK (hP.sub [] rfl)⟩ rfl rfl hl.1 rfl (lv_room (Nat.le_of_ble_eq_true rfl)) zd_Fo_readText_40 ⟨Nat.zero_le _, Nat.zero_le _⟩) (fun hz10 => ?_)
          refine lv_if_eq (tgt := 75) hx hb zd_Fo_readText_43 (by decide) (fun c_11 => ?_) (fun c_11 => ?_)
          · have hf := mp_t c_11 hf
            refine lv_iinc (v := (v3 + (1 : Int32))) (lv' := [(3, .int (v3 + (1 : Int32))), (0, .ref (ad 5)), (1, .int v1), (2, .int v2)]) hx hb zd_Fo_readText_75 hl (k := 3) rfl rfl (by decide) rfl (fun ls hl => ?_)
            refine lv_goto (tgt := 24) hx hb zd_Fo_readText_78 (by decide) ?_
            exact ih v2 (v3 + (1 : Int32)) xrc xrd xfr _ _ _ hf hP hD hS (lv_sub hl [1, 2, 3, 0] rfl)
          · have hf := mp_f c_11 hf
            refine lv_iload_n hx hb zd_Fo_readText_46 rfl (lv_at hl 2 rfl) ?_
            refine lv_iload_n hx hb zd_Fo_readText_47 rfl (lv_at hl 3 rfl) ?_
            refine lv_icmp_ge (tgt := 71) hx hb zd_Fo_readText_48 (by decide) (fun c_12 => ?_) (fun c_12 => ?_)
            · have hf := mp_t c_12 hf
              refine lv_iload_n hx hb zd_Fo_readText_71 rfl (lv_at hl 3 rfl) ?_
              refine lv_iconst (v := 1) hx hb zd_Fo_readText_72 (by decide) ?_
              refine lv_iadd hx hb zd_Fo_readText_73 ?_
              refine lv_istore_n (lv' := [(2, .int (v3 + (1 : Int32))), (0, .ref (ad 5)), (1, .int v1), (3, .int v3)]) hx hb zd_Fo_readText_74 rfl hl (by decide) rfl (fun ls hl => ?_)
              refine lv_iinc (v := (v3 + (1 : Int32))) (lv' := [(3, .int (v3 + (1 : Int32))), (2, .int (v3 + (1 : Int32))), (0, .ref (ad 5)), (1, .int v1)]) hx hb zd_Fo_readText_75 hl (k := 3) rfl rfl (by decide) rfl (fun ls hl => ?_)
              refine lv_goto (tgt := 24) hx hb zd_Fo_readText_78 (by decide) ?_
              exact ih (v3 + (1 : Int32)) (v3 + (1 : Int32)) xrc xrd xfr _ _ _ hf hP hD hS (lv_sub hl [2, 3, 1, 0] rfl)
            · have hf := mp_f c_12 hf
              refine lv_aload_n hx hb zd_Fo_readText_51 rfl (lv_at hl 0 rfl) ?_
              refine lv_aload_n hx hb zd_Fo_readText_52 rfl (lv_at hl 0 rfl) ?_
              refine lv_iload_n hx hb zd_Fo_readText_53 rfl (lv_at hl 2 rfl) ?_
              refine lv_iload_n hx hb zd_Fo_readText_54 rfl (lv_at hl 3 rfl) ?_
              obtain ⟨y13, hg13, hf⟩ := mp_bd hf
              refine mp_Ri (va_runV (As := [.int v2, .int v3]) (rest := [.ref (ad 5)]) ⟨hx, hb, hml, hown, hts⟩ (zc_Fo_wordAt l dC dI cI cJ cZ ad xtl xrc xrd xwc xft v2 v3 y13 hg13) (cwV 2 hts (mp_gV hsub zq_333 zq_335 zq_4 zq_29 zq_336) rfl rfl rfl (by decide +kernel) ⟨Nat.le_of_ble_eq_true rfl, Nat.le_of_ble_eq_true rfl⟩) ⟨mp_blR, va_recv hK hP (ci := 1) (q0 := 0) rfl rfl, mp_preR hN hK (hP.sub [0, 1] rfl)⟩ rfl rfl hl.1 rfl (lv_room (Nat.le_of_ble_eq_true rfl)) zd_Fo_readText_55 ⟨Nat.zero_le _, Nat.zero_le _⟩) ?_
              obtain ⟨y14, hg14, hf⟩ := mp_bd hf
              refine mp_Mz (wr := [(ad 20, .inl (cI, 300, .inl xft)), (ad 22, .inl (cI, 150, .inl xfw))]) (va_runV (As := [.int y13]) (rest := []) ⟨hx, hb, hml, hown, hts⟩ (zc_Fo_takeWord l dC dI cI cJ cZ ad _ xtl xrc xrd xwc xfr y13 y14 hg14) (cwV 1 hts (mp_gV hsub zq_354 zq_356 zq_6 zq_29 zq_357) rfl rfl rfl (by decide +kernel) ⟨Nat.le_of_ble_eq_true rfl, Nat.le_of_ble_eq_true rfl⟩) ⟨mp_blM, va_recv hK hP (ci := 1) (q0 := 0) rfl rfl, mp_preM hN hK (hP.sub [0, 2] rfl) (hD.sub [0, 2] (by decide) rfl)⟩ rfl rfl hl.1 rfl (lv_room (Nat.le_of_ble_eq_true rfl)) zd_Fo_readText_58 ⟨Nat.zero_le _, Nat.zero_le _⟩) hP hD hS hA [0, 2] [1, 3] rfl rfl (by decide) (by decide) (fun H locs hP hD hS hz14 => ?_)
              have hP : va_P (dC, dI) vwCl [(ad 20, .inl (cI, 300, .inl xft)), (ad 22, .inl (cI, 150, .inl xfw)), (ad 5, .inr (1, [.ref (ad 20), .ref (ad 21), .ref (ad 22), .ref (ad 23), .int xtl, .int y14.2.1, .int y14.2.2.1, .int xwc])), (ad 21, .inl (cI, 150, .inl y14.2.2.2))] H := hP
              have hD : va_D A [(ad 20, .inl (cI, 300, .inl xft)), (ad 22, .inl (cI, 150, .inl xfw)), (ad 5, .inr (1, [.ref (ad 20), .ref (ad 21), .ref (ad 22), .ref (ad 23), .int xtl, .int y14.2.1, .int y14.2.2.1, .int xwc])), (ad 21, .inl (cI, 150, .inl y14.2.2.2))] := hD
              refine lv_if_ne (tgt := 71) hx hb zd_Fo_readText_61 (by decide) (fun c_15 => ?_) (fun c_15 => ?_)
              · have hf := mp_f c_15 hf
                refine lv_iload_n hx hb zd_Fo_readText_71 rfl (lv_at hl 3 rfl) ?_
                refine lv_iconst (v := 1) hx hb zd_Fo_readText_72 (by decide) ?_
                refine lv_iadd hx hb zd_Fo_readText_73 ?_
                refine lv_istore_n (lv' := [(2, .int (v3 + (1 : Int32))), (0, .ref (ad 5)), (1, .int v1), (3, .int v3)]) hx hb zd_Fo_readText_74 rfl hl (by decide) rfl (fun ls hl => ?_)
                refine lv_iinc (v := (v3 + (1 : Int32))) (lv' := [(3, .int (v3 + (1 : Int32))), (2, .int (v3 + (1 : Int32))), (0, .ref (ad 5)), (1, .int v1)]) hx hb zd_Fo_readText_75 hl (k := 3) rfl rfl (by decide) rfl (fun ls hl => ?_)
                refine lv_goto (tgt := 24) hx hb zd_Fo_readText_78 (by decide) ?_
                exact ih (v3 + (1 : Int32)) (v3 + (1 : Int32)) y14.2.1 y14.2.2.1 y14.2.2.2 _ _ _ hf (hP.sub [2, 0, 3, 1] rfl) (hD.sub [2, 0, 3, 1] (by decide) rfl) hS (lv_sub hl [2, 3, 1, 0] rfl)
              · have hf := mp_t c_15 hf
                refine lv_iconst (v := -1) hx hb zd_Fo_readText_64 (by decide) ?_
                refine lv_aload_n hx hb zd_Fo_readText_65 rfl (lv_at hl 0 rfl) ?_
                refine va_get (D := (dC, dI)) (ci := 1) (v := .int y14.2.1) (C := zR_Fo) (T := zT_Fo) (N := 8) hx hb hts (fun w h => hsub w (zi_Fo w h)) hown hK hP 2 rfl rfl 5 (by decide) (hw _ zq_132) (fun _ h9 => h9) rfl zd_Fo_readText_66 ?_
                refine lv_isub hx hb zd_Fo_readText_69 ?_
                have hf := Option.some.inj hf
                subst hf
                have hP := hP.sub (ws' := [(ad 5, .inr (1, [.ref (ad 20), .ref (ad 21), .ref (ad 22), .ref (ad 23), .int xtl, .int y14.2.1, .int y14.2.2.1, .int xwc])), (ad 20, .inl (cI, 300, .inl xft)), (ad 21, .inl (cI, 150, .inl y14.2.2.2)), (ad 22, .inl (cI, 150, .inl xfw))]) [2, 0, 3, 1] rfl
                have hD := hD.sub (ws' := [(ad 5, .inr (1, [.ref (ad 20), .ref (ad 21), .ref (ad 22), .ref (ad 23), .int xtl, .int y14.2.1, .int y14.2.2.1, .int xwc])), (ad 20, .inl (cI, 300, .inl xft)), (ad 21, .inl (cI, 150, .inl y14.2.2.2)), (ad 22, .inl (cI, 150, .inl xfw))]) [2, 0, 3, 1] (by decide) rfl
                exact W.iret (v := ((-1 : Int32) - y14.2.1)) hx hb hr (fun t ht hW => ⟨⟨((-1 : Int32) - y14.2.1), (), rfl, rfl, by rw [ht]; exact hP, hD⟩, hS.F ht⟩) hS.2.2 zd_Fo_readText_70
  have hl := lv_entry ([.ref (ad 5)]) (n := 4) (Nat.le_of_ble_eq_true rfl)
  rw [lg_entry_eq]
  generalize (lg_sl ([.ref (ad 5)]) ++ List.replicate (4 - (lg_sl ([.ref (ad 5)])).length) Slot.unset).toArray = ls at hl ⊢
  have hl : lv_has ls 4 [(0, .ref (ad 5))] := hl
  unfold zf_Fo_readText at hf
  refine lv_aload_n hx hb zd_Fo_readText_0 rfl (lv_at hl 0 rfl) ?_
  refine va_get (D := (dC, dI)) (ci := 1) (v := .int xtl) (C := zR_Fo) (T := zT_Fo) (N := 8) hx hb hts (fun w h => hsub w (zi_Fo w h)) hown hK hP 0 rfl rfl 4 (by decide) (hw _ zq_131) (fun _ h9 => h9) rfl zd_Fo_readText_1 ?_
  refine lv_istore_n (lv' := [(1, .int xtl), (0, .ref (ad 5))]) hx hb zd_Fo_readText_4 rfl hl (by decide) rfl (fun ls hl => ?_)
  refine lv_aload_n hx hb zd_Fo_readText_5 rfl (lv_at hl 1 rfl) ?_
  refine lv_iconst (v := 0) hx hb zd_Fo_readText_6 (by decide) ?_
  refine va_put (D := (dC, dI)) (ci := 1) (v := .int (0 : Int32)) (ty := .int) (C := zR_Fo) (T := zT_Fo) (N := 8) hx hb hts (fun w h => hsub w (zi_Fo w h)) zt_Fo zt_Fo_ok zn_Fo hown hK hP hD hS 0 rfl rfl 4 (by decide) (hw _ zq_131) (fun _ h9 => h9) rfl (by decide +kernel) rfl rfl (Nat.le_of_ble_eq_true rfl) zd_Fo_readText_7 (fun H locs hP hD hS => ?_)
  have hP : va_P (dC, dI) vwCl [(ad 5, .inr (1, [.ref (ad 20), .ref (ad 21), .ref (ad 22), .ref (ad 23), .int (0 : Int32), .int xrc, .int xrd, .int xwc])), (ad 20, .inl (cI, 300, .inl xft)), (ad 21, .inl (cI, 150, .inl xfr)), (ad 22, .inl (cI, 150, .inl xfw))] H := hP
  have hD : va_D A [(ad 5, .inr (1, [.ref (ad 20), .ref (ad 21), .ref (ad 22), .ref (ad 23), .int (0 : Int32), .int xrc, .int xrd, .int xwc])), (ad 20, .inl (cI, 300, .inl xft)), (ad 21, .inl (cI, 150, .inl xfr)), (ad 22, .inl (cI, 150, .inl xfw))] := hD
  refine lv_aload_n hx hb zd_Fo_readText_10 rfl (lv_at hl 1 rfl) ?_
  refine lv_iconst (v := 0) hx hb zd_Fo_readText_11 (by decide) ?_
  refine va_put (D := (dC, dI)) (ci := 1) (v := .int (0 : Int32)) (ty := .int) (C := zR_Fo) (T := zT_Fo) (N := 8) hx hb hts (fun w h => hsub w (zi_Fo w h)) zt_Fo zt_Fo_ok zn_Fo hown hK hP hD hS 0 rfl rfl 5 (by decide) (hw _ zq_132) (fun _ h9 => h9) rfl (by decide +kernel) rfl rfl (Nat.le_of_ble_eq_true rfl) zd_Fo_readText_12 (fun H locs hP hD hS => ?_)
  have hP : va_P (dC, dI) vwCl [(ad 5, .inr (1, [.ref (ad 20), .ref (ad 21), .ref (ad 22), .ref (ad 23), .int (0 : Int32), .int (0 : Int32), .int xrd, .int xwc])), (ad 20, .inl (cI, 300, .inl xft)), (ad 21, .inl (cI, 150, .inl xfr)), (ad 22, .inl (cI, 150, .inl xfw))] H := hP
  have hD : va_D A [(ad 5, .inr (1, [.ref (ad 20), .ref (ad 21), .ref (ad 22), .ref (ad 23), .int (0 : Int32), .int (0 : Int32), .int xrd, .int xwc])), (ad 20, .inl (cI, 300, .inl xft)), (ad 21, .inl (cI, 150, .inl xfr)), (ad 22, .inl (cI, 150, .inl xfw))] := hD
  refine lv_aload_n hx hb zd_Fo_readText_15 rfl (lv_at hl 1 rfl) ?_
  refine lv_iconst (v := 0) hx hb zd_Fo_readText_16 (by decide) ?_
  refine va_put (D := (dC, dI)) (ci := 1) (v := .int (0 : Int32)) (ty := .int) (C := zR_Fo) (T := zT_Fo) (N := 8) hx hb hts (fun w h => hsub w (zi_Fo w h)) zt_Fo zt_Fo_ok zn_Fo hown hK hP hD hS 0 rfl rfl 6 (by decide) (hw _ zq_133) (fun _ h9 => h9) rfl (by decide +kernel) rfl rfl (Nat.le_of_ble_eq_true rfl) zd_Fo_readText_17 (fun H locs hP hD hS => ?_)
  have hP : va_P (dC, dI) vwCl [(ad 5, .inr (1, [.ref (ad 20), .ref (ad 21), .ref (ad 22), .ref (ad 23), .int (0 : Int32), .int (0 : Int32), .int (0 : Int32), .int xwc])), (ad 20, .inl (cI, 300, .inl xft)), (ad 21, .inl (cI, 150, .inl xfr)), (ad 22, .inl (cI, 150, .inl xfw))] H := hP
  have hD : va_D A [(ad 5, .inr (1, [.ref (ad 20), .ref (ad 21), .ref (ad 22), .ref (ad 23), .int (0 : Int32), .int (0 : Int32), .int (0 : Int32), .int xwc])), (ad 20, .inl (cI, 300, .inl xft)), (ad 21, .inl (cI, 150, .inl xfr)), (ad 22, .inl (cI, 150, .inl xfw))] := hD
  refine lv_iconst (v := 0) hx hb zd_Fo_readText_20 (by decide) ?_
  refine lv_istore_n (lv' := [(2, .int (0 : Int32)), (1, .int xtl), (0, .ref (ad 5))]) hx hb zd_Fo_readText_21 rfl hl (by decide) rfl (fun ls hl => ?_)
  refine lv_iconst (v := 0) hx hb zd_Fo_readText_22 (by decide) ?_
  refine lv_istore_n (lv' := [(3, .int (0 : Int32)), (2, .int (0 : Int32)), (1, .int xtl), (0, .ref (ad 5))]) hx hb zd_Fo_readText_23 rfl hl (by decide) rfl (fun ls hl => ?_)
  exact loop24 xtl (0 : Int32) xwc xfw 2000 (0 : Int32) (0 : Int32) (0 : Int32) (0 : Int32) xfr _ _ _ hf hP hD hS (lv_sub hl [3, 2, 1, 0] rfl)
