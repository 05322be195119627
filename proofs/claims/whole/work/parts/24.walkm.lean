set_option maxHeartbeats 4000000 in
set_option maxRecDepth 100000 in
theorem zc_Mo_valueOf (l : Launch) (dC : Nat → ClassId) (dI : Nat → Nat → Nat) (cI cJ cZ : ClassId) (ad : Nat → Nat) (sz : Nat) (mgc : Int32) (mpn : Int32) (mcn : Int32) (msz : Int32) (mwc : Int32) (mhf : Int32) (mho : Nat → Int32) (mki : Nat → Int32) (mgr : Nat → Int64) (min_ : Nat → Int32) (mcp : Nat → Int32) (mcd : Nat → Int64) (mck : Nat → Int32) (mcg : Nat → Int64) (mwo : Nat → Int32) (mst : Nat → Int64) (mow : Nat → Int64) (msu : Nat → Int64) (mne : Nat → Int64) (u1 : Int32) (res : Int64 × (Nat → Int64) × (Nat → Int64) × (Nat → Int64) × (Nat → Int64)) (hf : zf_Mo_valueOf u1 mpn mcn mwc mho mki mgr min_ mcp mcd mck mcg mwo mst mow msu mne = some res) : Met l zy_Mo_valueOf zw_Mo_valueOf ({ frames := 4, cells := 0, slots := 0, locals := 102 } : Room) (mp_PM (dC, dI) vwCl (mp_tys cI cJ cZ) [(ad 0, .inr (5, [.int mgc, .ref (ad 1), .int mpn, .ref (ad 2), .ref (ad 3), .ref (ad 4), .ref (ad 5), .ref (ad 6), .int mcn, .ref (ad 7), .ref (ad 8), .ref (ad 9), .ref (ad 10), .ref (ad 11), .ref (ad 12), .int msz, .ref (ad 13), .int mwc, .int mhf, .ref (ad 14), .ref (ad 15), .ref (ad 16), .ref (ad 17), .ref (ad 18)])), (ad 2, .inl (cI, 24, .inl mho)), (ad 3, .inl (cI, 24, .inl mki)), (ad 4, .inl (cJ, 24, .inr (.inl mgr))), (ad 6, .inl (cI, 24, .inl min_)), (ad 7, .inl (cI, 20, .inl mcp)), (ad 8, .inl (cJ, 20, .inr (.inl mcd))), (ad 9, .inl (cI, 20, .inl mck)), (ad 10, .inl (cJ, 20, .inr (.inl mcg))), (ad 13, .inl (cI, 150, .inl mwo)), (ad 15, .inl (cJ, 150, .inr (.inl mst))), (ad 16, .inl (cJ, 8, .inr (.inl mow))), (ad 17, .inl (cJ, 8, .inr (.inl msu))), (ad 18, .inl (cJ, 8, .inr (.inl mne)))] sz [.ref (ad 0), .int u1]) (va_Ql (fun r (_ : Unit) => r = res.1) (mp_BM (dC, dI) vwCl [(ad 0, .inr (5, [.int mgc, .ref (ad 1), .int mpn, .ref (ad 2), .ref (ad 3), .ref (ad 4), .ref (ad 5), .ref (ad 6), .int mcn, .ref (ad 7), .ref (ad 8), .ref (ad 9), .ref (ad 10), .ref (ad 11), .ref (ad 12), .int msz, .ref (ad 13), .int mwc, .int mhf, .ref (ad 14), .ref (ad 15), .ref (ad 16), .ref (ad 17), .ref (ad 18)])), (ad 2, .inl (cI, 24, .inl mho)), (ad 3, .inl (cI, 24, .inl mki)), (ad 4, .inl (cJ, 24, .inr (.inl mgr))), (ad 6, .inl (cI, 24, .inl min_)), (ad 7, .inl (cI, 20, .inl mcp)), (ad 8, .inl (cJ, 20, .inr (.inl mcd))), (ad 9, .inl (cI, 20, .inl mck)), (ad 10, .inl (cJ, 20, .inr (.inl mcg))), (ad 13, .inl (cI, 150, .inl mwo)), (ad 15, .inl (cJ, 150, .inr (.inl res.2.1))), (ad 16, .inl (cJ, 8, .inr (.inl res.2.2.1))), (ad 17, .inl (cJ, 8, .inr (.inl res.2.2.2.1))), (ad 18, .inl (cJ, 8, .inr (.inl res.2.2.2.2)))] (va_A [(ad 0, .inr (5, [.int mgc, .ref (ad 1), .int mpn, .ref (ad 2), .ref (ad 3), .ref (ad 4), .ref (ad 5), .ref (ad 6), .int mcn, .ref (ad 7), .ref (ad 8), .ref (ad 9), .ref (ad 10), .ref (ad 11), .ref (ad 12), .int msz, .ref (ad 13), .int mwc, .int mhf, .ref (ad 14), .ref (ad 15), .ref (ad 16), .ref (ad 17), .ref (ad 18)])), (ad 2, .inl (cI, 24, .inl mho)), (ad 3, .inl (cI, 24, .inl mki)), (ad 4, .inl (cJ, 24, .inr (.inl mgr))), (ad 6, .inl (cI, 24, .inl min_)), (ad 7, .inl (cI, 20, .inl mcp)), (ad 8, .inl (cJ, 20, .inr (.inl mcd))), (ad 9, .inl (cI, 20, .inl mck)), (ad 10, .inl (cJ, 20, .inr (.inl mcg))), (ad 13, .inl (cI, 150, .inl mwo)), (ad 15, .inl (cJ, 150, .inr (.inl mst))), (ad 16, .inl (cJ, 8, .inr (.inl mow))), (ad 17, .inl (cJ, 8, .inr (.inl msu))), (ad 18, .inl (cJ, 8, .inr (.inl mne)))] sz)) (va_A [(ad 0, .inr (5, [.int mgc, .ref (ad 1), .int mpn, .ref (ad 2), .ref (ad 3), .ref (ad 4), .ref (ad 5), .ref (ad 6), .int mcn, .ref (ad 7), .ref (ad 8), .ref (ad 9), .ref (ad 10), .ref (ad 11), .ref (ad 12), .int msz, .ref (ad 13), .int mwc, .int mhf, .ref (ad 14), .ref (ad 15), .ref (ad 16), .ref (ad 17), .ref (ad 18)])), (ad 2, .inl (cI, 24, .inl mho)), (ad 3, .inl (cI, 24, .inl mki)), (ad 4, .inl (cJ, 24, .inr (.inl mgr))), (ad 6, .inl (cI, 24, .inl min_)), (ad 7, .inl (cI, 20, .inl mcp)), (ad 8, .inl (cJ, 20, .inr (.inl mcd))), (ad 9, .inl (cI, 20, .inl mck)), (ad 10, .inl (cJ, 20, .inr (.inl mcg))), (ad 13, .inl (cI, 150, .inl mwo)), (ad 15, .inl (cJ, 150, .inr (.inl mst))), (ad 16, .inl (cJ, 8, .inr (.inl mow))), (ad 17, .inl (cJ, 8, .inr (.inl msu))), (ad 18, .inl (cJ, 8, .inr (.inl mne)))] sz)) 0 0 ((va_A [(ad 0, .inr (5, [.int mgc, .ref (ad 1), .int mpn, .ref (ad 2), .ref (ad 3), .ref (ad 4), .ref (ad 5), .ref (ad 6), .int mcn, .ref (ad 7), .ref (ad 8), .ref (ad 9), .ref (ad 10), .ref (ad 11), .ref (ad 12), .int msz, .ref (ad 13), .int mwc, .int mhf, .ref (ad 14), .ref (ad 15), .ref (ad 16), .ref (ad 17), .ref (ad 18)])), (ad 2, .inl (cI, 24, .inl mho)), (ad 3, .inl (cI, 24, .inl mki)), (ad 4, .inl (cJ, 24, .inr (.inl mgr))), (ad 6, .inl (cI, 24, .inl min_)), (ad 7, .inl (cI, 20, .inl mcp)), (ad 8, .inl (cJ, 20, .inr (.inl mcd))), (ad 9, .inl (cI, 20, .inl mck)), (ad 10, .inl (cJ, 20, .inr (.inl mcg))), (ad 13, .inl (cI, 150, .inl mwo)), (ad 15, .inl (cJ, 150, .inr (.inl mst))), (ad 16, .inl (cJ, 8, .inr (.inl mow))), (ad 17, .inl (cJ, 8, .inr (.inl msu))), (ad 18, .inl (cJ, 8, .inr (.inl mne)))] sz)) := by
  refine Met.ofW (cc := zb_Mo_valueOf) (maxL := 5) (ret := (some .long)) (by decide) rfl ?_
  intro p e s m args below meth c s₁ B hml hv
  obtain ⟨rfl, hsz, hP, hK, hD0, hN⟩ := hv
  have hx := B.exec
  have hb := B.bytes
  have hr := B.returns
  have hts := atoms_spec (ws := zw_Mo_valueOf) B.pre
  have hsub : ∀ w ∈ mp_tbl, w ∈ zw_Mo_valueOf := fun w h => List.mem_cons_of_mem _ h
  have hw : ∀ w ∈ mp_tbl, w.before _ s = true := fun w h => hts w (hsub w h)
  have hown : s.vm.findClass zR_Mo = some m.cls := findClass_of_methodNamed B.named
  have hlocks := B.notSynchronized
  subst hsz
  have hD := hD0.self (sz := s.heap.size)
  generalize hAe : va_A [(ad 0, .inr (5, [.int mgc, .ref (ad 1), .int mpn, .ref (ad 2), .ref (ad 3), .ref (ad 4), .ref (ad 5), .ref (ad 6), .int mcn, .ref (ad 7), .ref (ad 8), .ref (ad 9), .ref (ad 10), .ref (ad 11), .ref (ad 12), .int msz, .ref (ad 13), .int mwc, .int mhf, .ref (ad 14), .ref (ad 15), .ref (ad 16), .ref (ad 17), .ref (ad 18)])), (ad 2, .inl (cI, 24, .inl mho)), (ad 3, .inl (cI, 24, .inl mki)), (ad 4, .inl (cJ, 24, .inr (.inl mgr))), (ad 6, .inl (cI, 24, .inl min_)), (ad 7, .inl (cI, 20, .inl mcp)), (ad 8, .inl (cJ, 20, .inr (.inl mcd))), (ad 9, .inl (cI, 20, .inl mck)), (ad 10, .inl (cJ, 20, .inr (.inl mcg))), (ad 13, .inl (cI, 150, .inl mwo)), (ad 15, .inl (cJ, 150, .inr (.inl mst))), (ad 16, .inl (cJ, 8, .inr (.inl mow))), (ad 17, .inl (cJ, 8, .inr (.inl msu))), (ad 18, .inl (cJ, 8, .inr (.inl mne)))] s.heap.size = A at hD ⊢
  have hA : ∀ q : Nat, s.heap.size ≤ q → A q := fun q h => by rw [← hAe]; exact Or.inr h
  have hS : va_S A s.heap s.heap [] := va_S.rf
  have hP : va_P (dC, dI) vwCl [(ad 0, .inr (5, [.int mgc, .ref (ad 1), .int mpn, .ref (ad 2), .ref (ad 3), .ref (ad 4), .ref (ad 5), .ref (ad 6), .int mcn, .ref (ad 7), .ref (ad 8), .ref (ad 9), .ref (ad 10), .ref (ad 11), .ref (ad 12), .int msz, .ref (ad 13), .int mwc, .int mhf, .ref (ad 14), .ref (ad 15), .ref (ad 16), .ref (ad 17), .ref (ad 18)])), (ad 2, .inl (cI, 24, .inl mho)), (ad 3, .inl (cI, 24, .inl mki)), (ad 4, .inl (cJ, 24, .inr (.inl mgr))), (ad 6, .inl (cI, 24, .inl min_)), (ad 7, .inl (cI, 20, .inl mcp)), (ad 8, .inl (cJ, 20, .inr (.inl mcd))), (ad 9, .inl (cI, 20, .inl mck)), (ad 10, .inl (cJ, 20, .inr (.inl mcg))), (ad 13, .inl (cI, 150, .inl mwo)), (ad 15, .inl (cJ, 150, .inr (.inl mst))), (ad 16, .inl (cJ, 8, .inr (.inl mow))), (ad 17, .inl (cJ, 8, .inr (.inl msu))), (ad 18, .inl (cJ, 8, .inr (.inl mne)))] s.heap := hP
  clear hAe hD0
  have loop4 : ∀ (v1 : Int32) (n : Nat) (v2 : Int32) (v3 : Int32) (mst : Nat → Int64) (mow : Nat → Int64) (msu : Nat → Int64) (mne : Nat → Int64) (H : Heap) (locs : List Loc) (ls : Array Slot), zf_Mo_valueOf_L4 v1 mpn mcn mwc mho mki mgr min_ mcp mcd mck mcg mwo n v2 v3 mst mow msu mne = some res → va_P (dC, dI) vwCl [(ad 0, .inr (5, [.int mgc, .ref (ad 1), .int mpn, .ref (ad 2), .ref (ad 3), .ref (ad 4), .ref (ad 5), .ref (ad 6), .int mcn, .ref (ad 7), .ref (ad 8), .ref (ad 9), .ref (ad 10), .ref (ad 11), .ref (ad 12), .int msz, .ref (ad 13), .int mwc, .int mhf, .ref (ad 14), .ref (ad 15), .ref (ad 16), .ref (ad 17), .ref (ad 18)])), (ad 2, .inl (cI, 24, .inl mho)), (ad 3, .inl (cI, 24, .inl mki)), (ad 4, .inl (cJ, 24, .inr (.inl mgr))), (ad 6, .inl (cI, 24, .inl min_)), (ad 7, .inl (cI, 20, .inl mcp)), (ad 8, .inl (cJ, 20, .inr (.inl mcd))), (ad 9, .inl (cI, 20, .inl mck)), (ad 10, .inl (cJ, 20, .inr (.inl mcg))), (ad 13, .inl (cI, 150, .inl mwo)), (ad 15, .inl (cJ, 150, .inr (.inl mst))), (ad 16, .inl (cJ, 8, .inr (.inl mow))), (ad 17, .inl (cJ, 8, .inr (.inl msu))), (ad 18, .inl (cJ, 8, .inr (.inl mne)))] H → va_D A [(ad 0, .inr (5, [.int mgc, .ref (ad 1), .int mpn, .ref (ad 2), .ref (ad 3), .ref (ad 4), .ref (ad 5), .ref (ad 6), .int mcn, .ref (ad 7), .ref (ad 8), .ref (ad 9), .ref (ad 10), .ref (ad 11), .ref (ad 12), .int msz, .ref (ad 13), .int mwc, .int mhf, .ref (ad 14), .ref (ad 15), .ref (ad 16), .ref (ad 17), .ref (ad 18)])), (ad 2, .inl (cI, 24, .inl mho)), (ad 3, .inl (cI, 24, .inl mki)), (ad 4, .inl (cJ, 24, .inr (.inl mgr))), (ad 6, .inl (cI, 24, .inl min_)), (ad 7, .inl (cI, 20, .inl mcp)), (ad 8, .inl (cJ, 20, .inr (.inl mcd))), (ad 9, .inl (cI, 20, .inl mck)), (ad 10, .inl (cJ, 20, .inr (.inl mcg))), (ad 13, .inl (cI, 150, .inl mwo)), (ad 15, .inl (cJ, 150, .inr (.inl mst))), (ad 16, .inl (cJ, 8, .inr (.inl mow))), (ad 17, .inl (cJ, 8, .inr (.inl msu))), (ad 18, .inl (cJ, 8, .inr (.inl mne)))] → va_S A s.heap H locs → lv_has ls 5 [(0, .ref (ad 0)), (1, .int v1), (2, .int v2), (3, .int v3)] → W p l e (headSpec zw_Mo_valueOf ({ frames := 4, cells := 0, slots := 0, locals := 102 } : Room)).room s m ([.ref (ad 0), .int u1] : List Value).toArray below meth c H locs 0 0 (MQ below (va_Ql (fun r (_ : Unit) => r = res.1) (mp_BM (dC, dI) vwCl [(ad 0, .inr (5, [.int mgc, .ref (ad 1), .int mpn, .ref (ad 2), .ref (ad 3), .ref (ad 4), .ref (ad 5), .ref (ad 6), .int mcn, .ref (ad 7), .ref (ad 8), .ref (ad 9), .ref (ad 10), .ref (ad 11), .ref (ad 12), .int msz, .ref (ad 13), .int mwc, .int mhf, .ref (ad 14), .ref (ad 15), .ref (ad 16), .ref (ad 17), .ref (ad 18)])), (ad 2, .inl (cI, 24, .inl mho)), (ad 3, .inl (cI, 24, .inl mki)), (ad 4, .inl (cJ, 24, .inr (.inl mgr))), (ad 6, .inl (cI, 24, .inl min_)), (ad 7, .inl (cI, 20, .inl mcp)), (ad 8, .inl (cJ, 20, .inr (.inl mcd))), (ad 9, .inl (cI, 20, .inl mck)), (ad 10, .inl (cJ, 20, .inr (.inl mcg))), (ad 13, .inl (cI, 150, .inl mwo)), (ad 15, .inl (cJ, 150, .inr (.inl res.2.1))), (ad 16, .inl (cJ, 8, .inr (.inl res.2.2.1))), (ad 17, .inl (cJ, 8, .inr (.inl res.2.2.2.1))), (ad 18, .inl (cJ, 8, .inr (.inl res.2.2.2.2)))] A) A) ([.ref (ad 0), .int u1] : List Value).toArray s 0 0 (A)) (F0 m 4 ls []) := by
    intro v1 n
    induction n with
    | zero => intro v2 v3 mst mow msu mne H locs ls hf; simp [zf_Mo_valueOf_L4] at hf
    | succ n ih =>
      intro v2 v3 mst mow msu mne H locs ls hf hP hD hS hl
      rw [zf_Mo_valueOf_L4] at hf
      refine lv_iload_n hx hb zd_Mo_valueOf_4 rfl (lv_at hl 3 rfl) ?_
      refine lv_aload_n hx hb zd_Mo_valueOf_5 rfl (lv_at hl 0 rfl) ?_
      refine va_get (D := (dC, dI)) (ci := 5) (v := .int mwc) (C := zR_Mo) (T := zT_Mo) (N := 24) hx hb hts (fun w h => hsub w (zi_Mo w h)) hown hK hP 0 rfl rfl 17 (by decide) (hw _ zq_460) (fun _ h9 => h9) rfl zd_Mo_valueOf_6 ?_
      refine lv_icmp_ge (tgt := 111) hx hb zd_Mo_valueOf_9 (by decide) (fun c_1 => ?_) (fun c_1 => ?_)
      · have hf := mp_t c_1 hf
        refine lv_aload_n hx hb zd_Mo_valueOf_111 rfl (lv_at hl 0 rfl) ?_
        refine va_get (D := (dC, dI)) (ci := 5) (v := .ref (ad 15)) (C := zR_Mo) (T := zT_Mo) (N := 24) hx hb hts (fun w h => hsub w (zi_Mo w h)) hown hK hP 0 rfl rfl 20 (by decide) (hw _ zq_463) (fun _ h9 => h9) rfl zd_Mo_valueOf_112 ?_
        refine lv_iconst (v := 0) hx hb zd_Mo_valueOf_115 (by decide) ?_
        obtain ⟨h_2, hf⟩ := mp_in hf
        refine va_lald hx hb hK hP 10 1 rfl rfl (i := (0 : Int32)) h_2 zd_Mo_valueOf_116 ?_
        have hf := Option.some.inj hf
        subst hf
        exact W.lret (v := (mst (0 : Int32).toNatClampNeg)) hx hb hr (fun t ht hW => ⟨⟨(mst (0 : Int32).toNatClampNeg), (), rfl, rfl, by rw [ht]; exact hP, hD⟩, hS.F ht⟩) hS.2.2 zd_Mo_valueOf_117
      · have hf := mp_f c_1 hf
        refine lv_aload_n hx hb zd_Mo_valueOf_12 rfl (lv_at hl 0 rfl) ?_
        refine va_get (D := (dC, dI)) (ci := 5) (v := .ref (ad 13)) (C := zR_Mo) (T := zT_Mo) (N := 24) hx hb hts (fun w h => hsub w (zi_Mo w h)) hown hK hP 0 rfl rfl 16 (by decide) (hw _ zq_459) (fun _ h9 => h9) rfl zd_Mo_valueOf_13 ?_
        refine lv_iload_n hx hb zd_Mo_valueOf_16 rfl (lv_at hl 3 rfl) ?_
        obtain ⟨h_3, hf⟩ := mp_in hf
        refine va_iald hx hb hK hP 9 0 rfl rfl (i := v3) h_3 zd_Mo_valueOf_17 ?_
        refine lv_istore (lv' := [(4, .int (mwo v3.toNatClampNeg)), (0, .ref (ad 0)), (1, .int v1), (2, .int v2), (3, .int v3)]) hx hb zd_Mo_valueOf_18 hl (by decide) rfl (fun ls hl => ?_)
        refine lv_iload hx hb zd_Mo_valueOf_20 (lv_at hl 0 rfl) ?_
        obtain ⟨y4, hg4, hf⟩ := mp_bd hf
        refine mp_Rz (va_runS (As := [.int (mwo v3.toNatClampNeg)]) (rest := []) ⟨hx, hb, hml, hown, hts⟩ (zc_Mo_isOfTwo l dC dI cI cJ cZ ad (mwo v3.toNatClampNeg) y4 hg4) (va_cwS 1 hts (mp_gS hsub zq_630 zq_631 zq_30 zq_632) rfl rfl rfl (by decide +kernel) ⟨Nat.le_of_ble_eq_true rfl, Nat.le_of_ble_eq_true rfl⟩) ⟨mp_blR, mp_preR hN hK (hP.sub [] rfl)⟩ rfl rfl hl.1 rfl (lv_room (Nat.le_of_ble_eq_true rfl)) zd_Mo_valueOf_22 ⟨Nat.zero_le _, Nat.zero_le _⟩) (fun hz4 => ?_)
        refine lv_if_eq (tgt := 61) hx hb zd_Mo_valueOf_25 (by decide) (fun c_5 => ?_) (fun c_5 => ?_)
        · have hf := mp_t c_5 hf
          refine lv_aload_n hx hb zd_Mo_valueOf_61 rfl (lv_at hl 1 rfl) ?_
          refine va_get (D := (dC, dI)) (ci := 5) (v := .ref (ad 15)) (C := zR_Mo) (T := zT_Mo) (N := 24) hx hb hts (fun w h => hsub w (zi_Mo w h)) hown hK hP 0 rfl rfl 20 (by decide) (hw _ zq_463) (fun _ h9 => h9) rfl zd_Mo_valueOf_62 ?_
          refine lv_iload_n hx hb zd_Mo_valueOf_65 rfl (lv_at hl 3 rfl) ?_
          refine lv_iload hx hb zd_Mo_valueOf_66 (lv_at hl 0 rfl) ?_
          refine lv_if_lt (tgt := 77) hx hb zd_Mo_valueOf_68 (by decide) (fun c_6 => ?_) (fun c_6 => ?_)
          · have hf := mp_t c_6 hf
            refine lv_iload hx hb zd_Mo_valueOf_77 (lv_at hl 0 rfl) ?_
            refine lv_bipush (v := -6) hx hb zd_Mo_valueOf_79 (by decide) ?_
            refine lv_icmp_ne (tgt := 92) hx hb zd_Mo_valueOf_81 (by decide) (fun c_7 => ?_) (fun c_7 => ?_)
            · have hf := mp_f c_7 hf
              refine lv_aload_n hx hb zd_Mo_valueOf_92 rfl (lv_at hl 1 rfl) ?_
              refine lv_iload_n hx hb zd_Mo_valueOf_93 rfl (lv_at hl 2 rfl) ?_
              refine lv_iconst (v := -1) hx hb zd_Mo_valueOf_94 (by decide) ?_
              refine lv_iload hx hb zd_Mo_valueOf_95 (lv_at hl 0 rfl) ?_
              refine lv_isub hx hb zd_Mo_valueOf_97 ?_
              obtain ⟨y8, hg8, hf⟩ := mp_bd hf
              refine mp_Ml (wr := [(ad 13, .inl (cI, 150, .inl mwo)), (ad 15, .inl (cJ, 150, .inr (.inl mst)))]) (va_runV (As := [.int v1, .int ((-1 : Int32) - (mwo v3.toNatClampNeg))]) (rest := [.int v2, .ref (ad 15)]) ⟨hx, hb, hml, hown, hts⟩ (zc_Mo_shareOf l dC dI cI cJ cZ ad _ mgc mpn mcn msz mwc mhf mho mki mgr min_ mcp mcd mck mcg mow msu mne v1 ((-1 : Int32) - (mwo v3.toNatClampNeg)) y8 hg8) (cwV 2 hts (mp_gV hsub zq_656 zq_658 zq_22 zq_30 zq_659) rfl rfl rfl (by decide +kernel) ⟨Nat.le_of_ble_eq_true rfl, Nat.le_of_ble_eq_true rfl⟩) ⟨mp_blM, va_recv hK hP (ci := 5) (q0 := 0) rfl rfl, mp_preM hN hK (hP.sub [0, 1, 2, 3, 4, 5, 6, 7, 8, 11, 12, 13] rfl) (hD.sub [0, 1, 2, 3, 4, 5, 6, 7, 8, 11, 12, 13] (by decide) rfl)⟩ rfl rfl hl.1 rfl (lv_room (Nat.le_of_ble_eq_true rfl)) zd_Mo_valueOf_98 ⟨Nat.zero_le _, Nat.zero_le _⟩) hP hD hS hA [0, 1, 2, 3, 4, 5, 6, 7, 8, 11, 12, 13] [9, 10] rfl rfl (by decide) (by decide) (fun H locs hP hD hS => ?_)
              have hP : va_P (dC, dI) vwCl [(ad 13, .inl (cI, 150, .inl mwo)), (ad 15, .inl (cJ, 150, .inr (.inl mst))), (ad 0, .inr (5, [.int mgc, .ref (ad 1), .int mpn, .ref (ad 2), .ref (ad 3), .ref (ad 4), .ref (ad 5), .ref (ad 6), .int mcn, .ref (ad 7), .ref (ad 8), .ref (ad 9), .ref (ad 10), .ref (ad 11), .ref (ad 12), .int msz, .ref (ad 13), .int mwc, .int mhf, .ref (ad 14), .ref (ad 15), .ref (ad 16), .ref (ad 17), .ref (ad 18)])), (ad 2, .inl (cI, 24, .inl mho)), (ad 3, .inl (cI, 24, .inl mki)), (ad 4, .inl (cJ, 24, .inr (.inl mgr))), (ad 6, .inl (cI, 24, .inl min_)), (ad 7, .inl (cI, 20, .inl mcp)), (ad 8, .inl (cJ, 20, .inr (.inl mcd))), (ad 9, .inl (cI, 20, .inl mck)), (ad 10, .inl (cJ, 20, .inr (.inl mcg))), (ad 16, .inl (cJ, 8, .inr (.inl y8.2.1))), (ad 17, .inl (cJ, 8, .inr (.inl y8.2.2.1))), (ad 18, .inl (cJ, 8, .inr (.inl y8.2.2.2)))] H := hP
              have hD : va_D A [(ad 13, .inl (cI, 150, .inl mwo)), (ad 15, .inl (cJ, 150, .inr (.inl mst))), (ad 0, .inr (5, [.int mgc, .ref (ad 1), .int mpn, .ref (ad 2), .ref (ad 3), .ref (ad 4), .ref (ad 5), .ref (ad 6), .int mcn, .ref (ad 7), .ref (ad 8), .ref (ad 9), .ref (ad 10), .ref (ad 11), .ref (ad 12), .int msz, .ref (ad 13), .int mwc, .int mhf, .ref (ad 14), .ref (ad 15), .ref (ad 16), .ref (ad 17), .ref (ad 18)])), (ad 2, .inl (cI, 24, .inl mho)), (ad 3, .inl (cI, 24, .inl mki)), (ad 4, .inl (cJ, 24, .inr (.inl mgr))), (ad 6, .inl (cI, 24, .inl min_)), (ad 7, .inl (cI, 20, .inl mcp)), (ad 8, .inl (cJ, 20, .inr (.inl mcd))), (ad 9, .inl (cI, 20, .inl mck)), (ad 10, .inl (cJ, 20, .inr (.inl mcg))), (ad 16, .inl (cJ, 8, .inr (.inl y8.2.1))), (ad 17, .inl (cJ, 8, .inr (.inl y8.2.2.1))), (ad 18, .inl (cJ, 8, .inr (.inl y8.2.2.2)))] := hD
              obtain ⟨h_9, hf⟩ := mp_in hf
              refine va_last hx hb hK hP hD hS 1 1 rfl rfl (i := v2) (x := y8.1) h_9 zd_Mo_valueOf_101 (fun H locs hP hD hS => ?_)
              have hP : va_P (dC, dI) vwCl [(ad 13, .inl (cI, 150, .inl mwo)), (ad 15, .inl (cJ, 150, .inr (.inl (vp_updL mst v2.toNatClampNeg y8.1)))), (ad 0, .inr (5, [.int mgc, .ref (ad 1), .int mpn, .ref (ad 2), .ref (ad 3), .ref (ad 4), .ref (ad 5), .ref (ad 6), .int mcn, .ref (ad 7), .ref (ad 8), .ref (ad 9), .ref (ad 10), .ref (ad 11), .ref (ad 12), .int msz, .ref (ad 13), .int mwc, .int mhf, .ref (ad 14), .ref (ad 15), .ref (ad 16), .ref (ad 17), .ref (ad 18)])), (ad 2, .inl (cI, 24, .inl mho)), (ad 3, .inl (cI, 24, .inl mki)), (ad 4, .inl (cJ, 24, .inr (.inl mgr))), (ad 6, .inl (cI, 24, .inl min_)), (ad 7, .inl (cI, 20, .inl mcp)), (ad 8, .inl (cJ, 20, .inr (.inl mcd))), (ad 9, .inl (cI, 20, .inl mck)), (ad 10, .inl (cJ, 20, .inr (.inl mcg))), (ad 16, .inl (cJ, 8, .inr (.inl y8.2.1))), (ad 17, .inl (cJ, 8, .inr (.inl y8.2.2.1))), (ad 18, .inl (cJ, 8, .inr (.inl y8.2.2.2)))] H := hP
              have hD : va_D A [(ad 13, .inl (cI, 150, .inl mwo)), (ad 15, .inl (cJ, 150, .inr (.inl (vp_updL mst v2.toNatClampNeg y8.1)))), (ad 0, .inr (5, [.int mgc, .ref (ad 1), .int mpn, .ref (ad 2), .ref (ad 3), .ref (ad 4), .ref (ad 5), .ref (ad 6), .int mcn, .ref (ad 7), .ref (ad 8), .ref (ad 9), .ref (ad 10), .ref (ad 11), .ref (ad 12), .int msz, .ref (ad 13), .int mwc, .int mhf, .ref (ad 14), .ref (ad 15), .ref (ad 16), .ref (ad 17), .ref (ad 18)])), (ad 2, .inl (cI, 24, .inl mho)), (ad 3, .inl (cI, 24, .inl mki)), (ad 4, .inl (cJ, 24, .inr (.inl mgr))), (ad 6, .inl (cI, 24, .inl min_)), (ad 7, .inl (cI, 20, .inl mcp)), (ad 8, .inl (cJ, 20, .inr (.inl mcd))), (ad 9, .inl (cI, 20, .inl mck)), (ad 10, .inl (cJ, 20, .inr (.inl mcg))), (ad 16, .inl (cJ, 8, .inr (.inl y8.2.1))), (ad 17, .inl (cJ, 8, .inr (.inl y8.2.2.1))), (ad 18, .inl (cJ, 8, .inr (.inl y8.2.2.2)))] := hD
              refine lv_iinc (v := (v2 + (1 : Int32))) (lv' := [(2, .int (v2 + (1 : Int32))), (4, .int (mwo v3.toNatClampNeg)), (0, .ref (ad 0)), (1, .int v1), (3, .int v3)]) hx hb zd_Mo_valueOf_102 hl (k := 3) rfl rfl (by decide) rfl (fun ls hl => ?_)
              refine lv_iinc (v := (v3 + (1 : Int32))) (lv' := [(3, .int (v3 + (1 : Int32))), (2, .int (v2 + (1 : Int32))), (4, .int (mwo v3.toNatClampNeg)), (0, .ref (ad 0)), (1, .int v1)]) hx hb zd_Mo_valueOf_105 hl (k := 4) rfl rfl (by decide) rfl (fun ls hl => ?_)
              refine lv_goto (tgt := 4) hx hb zd_Mo_valueOf_108 (by decide) ?_
              exact ih (v2 + (1 : Int32)) (v3 + (1 : Int32)) (vp_updL mst v2.toNatClampNeg y8.1) y8.2.1 y8.2.2.1 y8.2.2.2 _ _ _ hf (hP.sub [2, 3, 4, 5, 6, 7, 8, 9, 10, 0, 1, 11, 12, 13] rfl) (hD.sub [2, 3, 4, 5, 6, 7, 8, 9, 10, 0, 1, 11, 12, 13] (by decide) rfl) hS (lv_sub hl [3, 4, 1, 0] rfl)
            · have hf := mp_t c_7 hf
              refine lv_aload_n hx hb zd_Mo_valueOf_84 rfl (lv_at hl 1 rfl) ?_
              refine lv_iload_n hx hb zd_Mo_valueOf_85 rfl (lv_at hl 2 rfl) ?_
              obtain ⟨y10, hg10, hf⟩ := mp_bd hf
              refine mp_Rl (va_runV (As := [.int v1]) (rest := [.int v2, .ref (ad 15)]) ⟨hx, hb, hml, hown, hts⟩ (zc_Mo_countOf l dC dI cI cJ cZ ad mgc mpn mcn msz mwc mhf mho v1 y10 hg10) (cwV 1 hts (mp_gV hsub zq_652 zq_654 zq_21 zq_30 zq_655) rfl rfl rfl (by decide +kernel) ⟨Nat.le_of_ble_eq_true rfl, Nat.le_of_ble_eq_true rfl⟩) ⟨mp_blR, va_recv hK hP (ci := 5) (q0 := 0) rfl rfl, mp_preR hN hK (hP.sub [0, 1] rfl)⟩ rfl rfl hl.1 rfl (lv_room (Nat.le_of_ble_eq_true rfl)) zd_Mo_valueOf_86 ⟨Nat.zero_le _, Nat.zero_le _⟩) ?_
              refine lv_goto (tgt := 101) hx hb zd_Mo_valueOf_89 (by decide) ?_
              obtain ⟨h_11, hf⟩ := mp_in hf
              refine va_last hx hb hK hP hD hS 10 1 rfl rfl (i := v2) (x := y10) h_11 zd_Mo_valueOf_101 (fun H locs hP hD hS => ?_)
              have hP : va_P (dC, dI) vwCl [(ad 0, .inr (5, [.int mgc, .ref (ad 1), .int mpn, .ref (ad 2), .ref (ad 3), .ref (ad 4), .ref (ad 5), .ref (ad 6), .int mcn, .ref (ad 7), .ref (ad 8), .ref (ad 9), .ref (ad 10), .ref (ad 11), .ref (ad 12), .int msz, .ref (ad 13), .int mwc, .int mhf, .ref (ad 14), .ref (ad 15), .ref (ad 16), .ref (ad 17), .ref (ad 18)])), (ad 2, .inl (cI, 24, .inl mho)), (ad 3, .inl (cI, 24, .inl mki)), (ad 4, .inl (cJ, 24, .inr (.inl mgr))), (ad 6, .inl (cI, 24, .inl min_)), (ad 7, .inl (cI, 20, .inl mcp)), (ad 8, .inl (cJ, 20, .inr (.inl mcd))), (ad 9, .inl (cI, 20, .inl mck)), (ad 10, .inl (cJ, 20, .inr (.inl mcg))), (ad 13, .inl (cI, 150, .inl mwo)), (ad 15, .inl (cJ, 150, .inr (.inl (vp_updL mst v2.toNatClampNeg y10)))), (ad 16, .inl (cJ, 8, .inr (.inl mow))), (ad 17, .inl (cJ, 8, .inr (.inl msu))), (ad 18, .inl (cJ, 8, .inr (.inl mne)))] H := hP
              have hD : va_D A [(ad 0, .inr (5, [.int mgc, .ref (ad 1), .int mpn, .ref (ad 2), .ref (ad 3), .ref (ad 4), .ref (ad 5), .ref (ad 6), .int mcn, .ref (ad 7), .ref (ad 8), .ref (ad 9), .ref (ad 10), .ref (ad 11), .ref (ad 12), .int msz, .ref (ad 13), .int mwc, .int mhf, .ref (ad 14), .ref (ad 15), .ref (ad 16), .ref (ad 17), .ref (ad 18)])), (ad 2, .inl (cI, 24, .inl mho)), (ad 3, .inl (cI, 24, .inl mki)), (ad 4, .inl (cJ, 24, .inr (.inl mgr))), (ad 6, .inl (cI, 24, .inl min_)), (ad 7, .inl (cI, 20, .inl mcp)), (ad 8, .inl (cJ, 20, .inr (.inl mcd))), (ad 9, .inl (cI, 20, .inl mck)), (ad 10, .inl (cJ, 20, .inr (.inl mcg))), (ad 13, .inl (cI, 150, .inl mwo)), (ad 15, .inl (cJ, 150, .inr (.inl (vp_updL mst v2.toNatClampNeg y10)))), (ad 16, .inl (cJ, 8, .inr (.inl mow))), (ad 17, .inl (cJ, 8, .inr (.inl msu))), (ad 18, .inl (cJ, 8, .inr (.inl mne)))] := hD
              refine lv_iinc (v := (v2 + (1 : Int32))) (lv' := [(2, .int (v2 + (1 : Int32))), (4, .int (mwo v3.toNatClampNeg)), (0, .ref (ad 0)), (1, .int v1), (3, .int v3)]) hx hb zd_Mo_valueOf_102 hl (k := 3) rfl rfl (by decide) rfl (fun ls hl => ?_)
              refine lv_iinc (v := (v3 + (1 : Int32))) (lv' := [(3, .int (v3 + (1 : Int32))), (2, .int (v2 + (1 : Int32))), (4, .int (mwo v3.toNatClampNeg)), (0, .ref (ad 0)), (1, .int v1)]) hx hb zd_Mo_valueOf_105 hl (k := 4) rfl rfl (by decide) rfl (fun ls hl => ?_)
              refine lv_goto (tgt := 4) hx hb zd_Mo_valueOf_108 (by decide) ?_
              exact ih (v2 + (1 : Int32)) (v3 + (1 : Int32)) (vp_updL mst v2.toNatClampNeg y10) mow msu mne _ _ _ hf hP hD hS (lv_sub hl [3, 4, 1, 0] rfl)
          · have hf := mp_f c_6 hf
            refine lv_iload hx hb zd_Mo_valueOf_71 (lv_at hl 0 rfl) ?_
            refine lv_i2l hx hb zd_Mo_valueOf_73 rfl ?_
            refine lv_goto (tgt := 101) hx hb zd_Mo_valueOf_74 (by decide) ?_
            obtain ⟨h_12, hf⟩ := mp_in hf
            refine va_last hx hb hK hP hD hS 10 1 rfl rfl (i := v2) (x := (mwo v3.toNatClampNeg).toInt64) h_12 zd_Mo_valueOf_101 (fun H locs hP hD hS => ?_)
            have hP : va_P (dC, dI) vwCl [(ad 0, .inr (5, [.int mgc, .ref (ad 1), .int mpn, .ref (ad 2), .ref (ad 3), .ref (ad 4), .ref (ad 5), .ref (ad 6), .int mcn, .ref (ad 7), .ref (ad 8), .ref (ad 9), .ref (ad 10), .ref (ad 11), .ref (ad 12), .int msz, .ref (ad 13), .int mwc, .int mhf, .ref (ad 14), .ref (ad 15), .ref (ad 16), .ref (ad 17), .ref (ad 18)])), (ad 2, .inl (cI, 24, .inl mho)), (ad 3, .inl (cI, 24, .inl mki)), (ad 4, .inl (cJ, 24, .inr (.inl mgr))), (ad 6, .inl (cI, 24, .inl min_)), (ad 7, .inl (cI, 20, .inl mcp)), (ad 8, .inl (cJ, 20, .inr (.inl mcd))), (ad 9, .inl (cI, 20, .inl mck)), (ad 10, .inl (cJ, 20, .inr (.inl mcg))), (ad 13, .inl (cI, 150, .inl mwo)), (ad 15, .inl (cJ, 150, .inr (.inl (vp_updL mst v2.toNatClampNeg ((mwo v3.toNatClampNeg).toInt64))))), (ad 16, .inl (cJ, 8, .inr (.inl mow))), (ad 17, .inl (cJ, 8, .inr (.inl msu))), (ad 18, .inl (cJ, 8, .inr (.inl mne)))] H := hP
            have hD : va_D A [(ad 0, .inr (5, [.int mgc, .ref (ad 1), .int mpn, .ref (ad 2), .ref (ad 3), .ref (ad 4), .ref (ad 5), .ref (ad 6), .int mcn, .ref (ad 7), .ref (ad 8), .ref (ad 9), .ref (ad 10), .ref (ad 11), .ref (ad 12), .int msz, .ref (ad 13), .int mwc, .int mhf, .ref (ad 14), .ref (ad 15), .ref (ad 16), .ref (ad 17), .ref (ad 18)])), (ad 2, .inl (cI, 24, .inl mho)), (ad 3, .inl (cI, 24, .inl mki)), (ad 4, .inl (cJ, 24, .inr (.inl mgr))), (ad 6, .inl (cI, 24, .inl min_)), (ad 7, .inl (cI, 20, .inl mcp)), (ad 8, .inl (cJ, 20, .inr (.inl mcd))), (ad 9, .inl (cI, 20, .inl mck)), (ad 10, .inl (cJ, 20, .inr (.inl mcg))), (ad 13, .inl (cI, 150, .inl mwo)), (ad 15, .inl (cJ, 150, .inr (.inl (vp_updL mst v2.toNatClampNeg ((mwo v3.toNatClampNeg).toInt64))))), (ad 16, .inl (cJ, 8, .inr (.inl mow))), (ad 17, .inl (cJ, 8, .inr (.inl msu))), (ad 18, .inl (cJ, 8, .inr (.inl mne)))] := hD
            refine lv_iinc (v := (v2 + (1 : Int32))) (lv' := [(2, .int (v2 + (1 : Int32))), (4, .int (mwo v3.toNatClampNeg)), (0, .ref (ad 0)), (1, .int v1), (3, .int v3)]) hx hb zd_Mo_valueOf_102 hl (k := 3) rfl rfl (by decide) rfl (fun ls hl => ?_)
            refine lv_iinc (v := (v3 + (1 : Int32))) (lv' := [(3, .int (v3 + (1 : Int32))), (2, .int (v2 + (1 : Int32))), (4, .int (mwo v3.toNatClampNeg)), (0, .ref (ad 0)), (1, .int v1)]) hx hb zd_Mo_valueOf_105 hl (k := 4) rfl rfl (by decide) rfl (fun ls hl => ?_)
            refine lv_goto (tgt := 4) hx hb zd_Mo_valueOf_108 (by decide) ?_
            exact ih (v2 + (1 : Int32)) (v3 + (1 : Int32)) (vp_updL mst v2.toNatClampNeg ((mwo v3.toNatClampNeg).toInt64)) mow msu mne _ _ _ hf hP hD hS (lv_sub hl [3, 4, 1, 0] rfl)
        · have hf := mp_f c_5 hf
          refine lv_iinc (v := (v2 + (-1 : Int32))) (lv' := [(2, .int (v2 + (-1 : Int32))), (4, .int (mwo v3.toNatClampNeg)), (0, .ref (ad 0)), (1, .int v1), (3, .int v3)]) hx hb zd_Mo_valueOf_28 hl (k := 3) rfl rfl (by decide) rfl (fun ls hl => ?_)
          refine lv_aload_n hx hb zd_Mo_valueOf_31 rfl (lv_at hl 2 rfl) ?_
          refine va_get (D := (dC, dI)) (ci := 5) (v := .ref (ad 15)) (C := zR_Mo) (T := zT_Mo) (N := 24) hx hb hts (fun w h => hsub w (zi_Mo w h)) hown hK hP 0 rfl rfl 20 (by decide) (hw _ zq_463) (fun _ h9 => h9) rfl zd_Mo_valueOf_32 ?_
          refine lv_iload_n hx hb zd_Mo_valueOf_35 rfl (lv_at hl 0 rfl) ?_
          refine lv_iconst (v := 1) hx hb zd_Mo_valueOf_36 (by decide) ?_
          refine lv_isub hx hb zd_Mo_valueOf_37 ?_
          refine lv_iload hx hb zd_Mo_valueOf_38 (lv_at hl 1 rfl) ?_
          refine lv_aload_n hx hb zd_Mo_valueOf_40 rfl (lv_at hl 2 rfl) ?_
          refine va_get (D := (dC, dI)) (ci := 5) (v := .ref (ad 15)) (C := zR_Mo) (T := zT_Mo) (N := 24) hx hb hts (fun w h => hsub w (zi_Mo w h)) hown hK hP 0 rfl rfl 20 (by decide) (hw _ zq_463) (fun _ h9 => h9) rfl zd_Mo_valueOf_41 ?_
          refine lv_iload_n hx hb zd_Mo_valueOf_44 rfl (lv_at hl 0 rfl) ?_
          refine lv_iconst (v := 1) hx hb zd_Mo_valueOf_45 (by decide) ?_
          refine lv_isub hx hb zd_Mo_valueOf_46 ?_
          obtain ⟨h_13, hf⟩ := mp_in hf
          refine va_lald hx hb hK hP 10 1 rfl rfl (i := ((v2 + (-1 : Int32)) - (1 : Int32))) h_13 zd_Mo_valueOf_47 ?_
          refine lv_aload_n hx hb zd_Mo_valueOf_48 rfl (lv_at hl 2 rfl) ?_
          refine va_get (D := (dC, dI)) (ci := 5) (v := .ref (ad 15)) (C := zR_Mo) (T := zT_Mo) (N := 24) hx hb hts (fun w h => hsub w (zi_Mo w h)) hown hK hP 0 rfl rfl 20 (by decide) (hw _ zq_463) (fun _ h9 => h9) rfl zd_Mo_valueOf_49 ?_
          refine lv_iload_n hx hb zd_Mo_valueOf_52 rfl (lv_at hl 0 rfl) ?_
          obtain ⟨h_14, hf⟩ := mp_in hf
          refine va_lald hx hb hK hP 10 1 rfl rfl (i := (v2 + (-1 : Int32))) h_14 zd_Mo_valueOf_53 ?_
          obtain ⟨y15, hg15, hf⟩ := mp_bd hf
          refine mp_Rl (va_runS (As := [.int (mwo v3.toNatClampNeg), .long (mst ((v2 + (-1 : Int32)) - (1 : Int32)).toNatClampNeg), .long (mst (v2 + (-1 : Int32)).toNatClampNeg)]) (rest := [.int ((v2 + (-1 : Int32)) - (1 : Int32)), .ref (ad 15)]) ⟨hx, hb, hml, hown, hts⟩ (zc_Mo_ofTwo l dC dI cI cJ cZ ad (mwo v3.toNatClampNeg) (mst ((v2 + (-1 : Int32)) - (1 : Int32)).toNatClampNeg) (mst (v2 + (-1 : Int32)).toNatClampNeg) y15 hg15) (va_cwS 3 hts (mp_gS hsub zq_641 zq_642 zq_30 zq_643) rfl rfl rfl (by decide +kernel) ⟨Nat.le_of_ble_eq_true rfl, Nat.le_of_ble_eq_true rfl⟩) ⟨mp_blR, mp_preR hN hK (hP.sub [] rfl)⟩ rfl rfl hl.1 rfl (lv_room (Nat.le_of_ble_eq_true rfl)) zd_Mo_valueOf_54 ⟨Nat.zero_le _, Nat.zero_le _⟩) ?_
          obtain ⟨h_16, hf⟩ := mp_in hf
          refine va_last hx hb hK hP hD hS 10 1 rfl rfl (i := ((v2 + (-1 : Int32)) - (1 : Int32))) (x := y15) h_16 zd_Mo_valueOf_57 (fun H locs hP hD hS => ?_)
          have hP : va_P (dC, dI) vwCl [(ad 0, .inr (5, [.int mgc, .ref (ad 1), .int mpn, .ref (ad 2), .ref (ad 3), .ref (ad 4), .ref (ad 5), .ref (ad 6), .int mcn, .ref (ad 7), .ref (ad 8), .ref (ad 9), .ref (ad 10), .ref (ad 11), .ref (ad 12), .int msz, .ref (ad 13), .int mwc, .int mhf, .ref (ad 14), .ref (ad 15), .ref (ad 16), .ref (ad 17), .ref (ad 18)])), (ad 2, .inl (cI, 24, .inl mho)), (ad 3, .inl (cI, 24, .inl mki)), (ad 4, .inl (cJ, 24, .inr (.inl mgr))), (ad 6, .inl (cI, 24, .inl min_)), (ad 7, .inl (cI, 20, .inl mcp)), (ad 8, .inl (cJ, 20, .inr (.inl mcd))), (ad 9, .inl (cI, 20, .inl mck)), (ad 10, .inl (cJ, 20, .inr (.inl mcg))), (ad 13, .inl (cI, 150, .inl mwo)), (ad 15, .inl (cJ, 150, .inr (.inl (vp_updL mst ((v2 + (-1 : Int32)) - (1 : Int32)).toNatClampNeg y15)))), (ad 16, .inl (cJ, 8, .inr (.inl mow))), (ad 17, .inl (cJ, 8, .inr (.inl msu))), (ad 18, .inl (cJ, 8, .inr (.inl mne)))] H := hP
          have hD : va_D A [(ad 0, .inr (5, [.int mgc, .ref (ad 1), .int mpn, .ref (ad 2), .ref (ad 3), .ref (ad 4), .ref (ad 5), .ref (ad 6), .int mcn, .ref (ad 7), .ref (ad 8), .ref (ad 9), .ref (ad 10), .ref (ad 11), .ref (ad 12), .int msz, .ref (ad 13), .int mwc, .int mhf, .ref (ad 14), .ref (ad 15), .ref (ad 16), .ref (ad 17), .ref (ad 18)])), (ad 2, .inl (cI, 24, .inl mho)), (ad 3, .inl (cI, 24, .inl mki)), (ad 4, .inl (cJ, 24, .inr (.inl mgr))), (ad 6, .inl (cI, 24, .inl min_)), (ad 7, .inl (cI, 20, .inl mcp)), (ad 8, .inl (cJ, 20, .inr (.inl mcd))), (ad 9, .inl (cI, 20, .inl mck)), (ad 10, .inl (cJ, 20, .inr (.inl mcg))), (ad 13, .inl (cI, 150, .inl mwo)), (ad 15, .inl (cJ, 150, .inr (.inl (vp_updL mst ((v2 + (-1 : Int32)) - (1 : Int32)).toNatClampNeg y15)))), (ad 16, .inl (cJ, 8, .inr (.inl mow))), (ad 17, .inl (cJ, 8, .inr (.inl msu))), (ad 18, .inl (cJ, 8, .inr (.inl mne)))] := hD
          refine lv_goto (tgt := 105) hx hb zd_Mo_valueOf_58 (by decide) ?_
          refine lv_iinc (v := (v3 + (1 : Int32))) (lv' := [(3, .int (v3 + (1 : Int32))), (2, .int (v2 + (-1 : Int32))), (4, .int (mwo v3.toNatClampNeg)), (0, .ref (ad 0)), (1, .int v1)]) hx hb zd_Mo_valueOf_105 hl (k := 4) rfl rfl (by decide) rfl (fun ls hl => ?_)
          refine lv_goto (tgt := 4) hx hb zd_Mo_valueOf_108 (by decide) ?_
          exact ih (v2 + (-1 : Int32)) (v3 + (1 : Int32)) (vp_updL mst ((v2 + (-1 : Int32)) - (1 : Int32)).toNatClampNeg y15) mow msu mne _ _ _ hf hP hD hS (lv_sub hl [3, 4, 1, 0] rfl)
  have hl := lv_entry ([.ref (ad 0), .int u1]) (n := 5) (Nat.le_of_ble_eq_true rfl)
  rw [lg_entry_eq]
  generalize (lg_sl ([.ref (ad 0), .int u1]) ++ List.replicate (5 - (lg_sl ([.ref (ad 0), .int u1])).length) Slot.unset).toArray = ls at hl ⊢
  have hl : lv_has ls 5 [(0, .ref (ad 0)), (1, .int u1)] := hl
  unfold zf_Mo_valueOf at hf
  refine lv_iconst (v := 0) hx hb zd_Mo_valueOf_0 (by decide) ?_
  refine lv_istore_n (lv' := [(2, .int (0 : Int32)), (0, .ref (ad 0)), (1, .int u1)]) hx hb zd_Mo_valueOf_1 rfl hl (by decide) rfl (fun ls hl => ?_)
  refine lv_iconst (v := 0) hx hb zd_Mo_valueOf_2 (by decide) ?_
  refine lv_istore_n (lv' := [(3, .int (0 : Int32)), (2, .int (0 : Int32)), (0, .ref (ad 0)), (1, .int u1)]) hx hb zd_Mo_valueOf_3 rfl hl (by decide) rfl (fun ls hl => ?_)
  exact loop4 u1 2000 (0 : Int32) (0 : Int32) mst mow msu mne _ _ _ hf hP hD hS (lv_sub hl [2, 3, 1, 0] rfl)
set_option maxHeartbeats 4000000 in
set_option maxRecDepth 100000 in
theorem zc_Mo_scored (l : Launch) (dC : Nat → ClassId) (dI : Nat → Nat → Nat) (cI cJ cZ : ClassId) (ad : Nat → Nat) (sz : Nat) (mgc : Int32) (mpn : Int32) (mcn : Int32) (msz : Int32) (mwc : Int32) (mhf : Int32) (mho : Nat → Int32) (mki : Nat → Int32) (mgr : Nat → Int64) (min_ : Nat → Int32) (mcp : Nat → Int32) (mcd : Nat → Int64) (mck : Nat → Int32) (mcg : Nat → Int64) (mwo : Nat → Int32) (mst : Nat → Int64) (mow : Nat → Int64) (msu : Nat → Int64) (mne : Nat → Int64) (u1 : Int32) (res : Int64 × (Nat → Int64) × (Nat → Int64) × (Nat → Int64) × (Nat → Int64)) (hf : zf_Mo_scored u1 mgc mpn mcn mwc mhf mho mki mgr min_ mcp mcd mck mcg mwo mst mow msu mne = some res) : Met l zy_Mo_scored zw_Mo_scored ({ frames := 5, cells := 0, slots := 0, locals := 126 } : Room) (mp_PM (dC, dI) vwCl (mp_tys cI cJ cZ) [(ad 0, .inr (5, [.int mgc, .ref (ad 1), .int mpn, .ref (ad 2), .ref (ad 3), .ref (ad 4), .ref (ad 5), .ref (ad 6), .int mcn, .ref (ad 7), .ref (ad 8), .ref (ad 9), .ref (ad 10), .ref (ad 11), .ref (ad 12), .int msz, .ref (ad 13), .int mwc, .int mhf, .ref (ad 14), .ref (ad 15), .ref (ad 16), .ref (ad 17), .ref (ad 18)])), (ad 2, .inl (cI, 24, .inl mho)), (ad 3, .inl (cI, 24, .inl mki)), (ad 4, .inl (cJ, 24, .inr (.inl mgr))), (ad 6, .inl (cI, 24, .inl min_)), (ad 7, .inl (cI, 20, .inl mcp)), (ad 8, .inl (cJ, 20, .inr (.inl mcd))), (ad 9, .inl (cI, 20, .inl mck)), (ad 10, .inl (cJ, 20, .inr (.inl mcg))), (ad 13, .inl (cI, 150, .inl mwo)), (ad 15, .inl (cJ, 150, .inr (.inl mst))), (ad 16, .inl (cJ, 8, .inr (.inl mow))), (ad 17, .inl (cJ, 8, .inr (.inl msu))), (ad 18, .inl (cJ, 8, .inr (.inl mne)))] sz [.ref (ad 0), .int u1]) (va_Ql (fun r (_ : Unit) => r = res.1) (mp_BM (dC, dI) vwCl [(ad 0, .inr (5, [.int mgc, .ref (ad 1), .int mpn, .ref (ad 2), .ref (ad 3), .ref (ad 4), .ref (ad 5), .ref (ad 6), .int mcn, .ref (ad 7), .ref (ad 8), .ref (ad 9), .ref (ad 10), .ref (ad 11), .ref (ad 12), .int msz, .ref (ad 13), .int mwc, .int mhf, .ref (ad 14), .ref (ad 15), .ref (ad 16), .ref (ad 17), .ref (ad 18)])), (ad 2, .inl (cI, 24, .inl mho)), (ad 3, .inl (cI, 24, .inl mki)), (ad 4, .inl (cJ, 24, .inr (.inl mgr))), (ad 6, .inl (cI, 24, .inl min_)), (ad 7, .inl (cI, 20, .inl mcp)), (ad 8, .inl (cJ, 20, .inr (.inl mcd))), (ad 9, .inl (cI, 20, .inl mck)), (ad 10, .inl (cJ, 20, .inr (.inl mcg))), (ad 13, .inl (cI, 150, .inl mwo)), (ad 15, .inl (cJ, 150, .inr (.inl res.2.1))), (ad 16, .inl (cJ, 8, .inr (.inl res.2.2.1))), (ad 17, .inl (cJ, 8, .inr (.inl res.2.2.2.1))), (ad 18, .inl (cJ, 8, .inr (.inl res.2.2.2.2)))] (va_A [(ad 0, .inr (5, [.int mgc, .ref (ad 1), .int mpn, .ref (ad 2), .ref (ad 3), .ref (ad 4), .ref (ad 5), .ref (ad 6), .int mcn, .ref (ad 7), .ref (ad 8), .ref (ad 9), .ref (ad 10), .ref (ad 11), .ref (ad 12), .int msz, .ref (ad 13), .int mwc, .int mhf, .ref (ad 14), .ref (ad 15), .ref (ad 16), .ref (ad 17), .ref (ad 18)])), (ad 2, .inl (cI, 24, .inl mho)), (ad 3, .inl (cI, 24, .inl mki)), (ad 4, .inl (cJ, 24, .inr (.inl mgr))), (ad 6, .inl (cI, 24, .inl min_)), (ad 7, .inl (cI, 20, .inl mcp)), (ad 8, .inl (cJ, 20, .inr (.inl mcd))), (ad 9, .inl (cI, 20, .inl mck)), (ad 10, .inl (cJ, 20, .inr (.inl mcg))), (ad 13, .inl (cI, 150, .inl mwo)), (ad 15, .inl (cJ, 150, .inr (.inl mst))), (ad 16, .inl (cJ, 8, .inr (.inl mow))), (ad 17, .inl (cJ, 8, .inr (.inl msu))), (ad 18, .inl (cJ, 8, .inr (.inl mne)))] sz)) (va_A [(ad 0, .inr (5, [.int mgc, .ref (ad 1), .int mpn, .ref (ad 2), .ref (ad 3), .ref (ad 4), .ref (ad 5), .ref (ad 6), .int mcn, .ref (ad 7), .ref (ad 8), .ref (ad 9), .ref (ad 10), .ref (ad 11), .ref (ad 12), .int msz, .ref (ad 13), .int mwc, .int mhf, .ref (ad 14), .ref (ad 15), .ref (ad 16), .ref (ad 17), .ref (ad 18)])), (ad 2, .inl (cI, 24, .inl mho)), (ad 3, .inl (cI, 24, .inl mki)), (ad 4, .inl (cJ, 24, .inr (.inl mgr))), (ad 6, .inl (cI, 24, .inl min_)), (ad 7, .inl (cI, 20, .inl mcp)), (ad 8, .inl (cJ, 20, .inr (.inl mcd))), (ad 9, .inl (cI, 20, .inl mck)), (ad 10, .inl (cJ, 20, .inr (.inl mcg))), (ad 13, .inl (cI, 150, .inl mwo)), (ad 15, .inl (cJ, 150, .inr (.inl mst))), (ad 16, .inl (cJ, 8, .inr (.inl mow))), (ad 17, .inl (cJ, 8, .inr (.inl msu))), (ad 18, .inl (cJ, 8, .inr (.inl mne)))] sz)) 0 0 ((va_A [(ad 0, .inr (5, [.int mgc, .ref (ad 1), .int mpn, .ref (ad 2), .ref (ad 3), .ref (ad 4), .ref (ad 5), .ref (ad 6), .int mcn, .ref (ad 7), .ref (ad 8), .ref (ad 9), .ref (ad 10), .ref (ad 11), .ref (ad 12), .int msz, .ref (ad 13), .int mwc, .int mhf, .ref (ad 14), .ref (ad 15), .ref (ad 16), .ref (ad 17), .ref (ad 18)])), (ad 2, .inl (cI, 24, .inl mho)), (ad 3, .inl (cI, 24, .inl mki)), (ad 4, .inl (cJ, 24, .inr (.inl mgr))), (ad 6, .inl (cI, 24, .inl min_)), (ad 7, .inl (cI, 20, .inl mcp)), (ad 8, .inl (cJ, 20, .inr (.inl mcd))), (ad 9, .inl (cI, 20, .inl mck)), (ad 10, .inl (cJ, 20, .inr (.inl mcg))), (ad 13, .inl (cI, 150, .inl mwo)), (ad 15, .inl (cJ, 150, .inr (.inl mst))), (ad 16, .inl (cJ, 8, .inr (.inl mow))), (ad 17, .inl (cJ, 8, .inr (.inl msu))), (ad 18, .inl (cJ, 8, .inr (.inl mne)))] sz)) := by
  refine Met.ofW (cc := zb_Mo_scored) (maxL := 2) (ret := (some .long)) (by decide) rfl ?_
  intro p e s m args below meth c s₁ B hml hv
  obtain ⟨rfl, hsz, hP, hK, hD0, hN⟩ := hv
  have hx := B.exec
  have hb := B.bytes
  have hr := B.returns
  have hts := atoms_spec (ws := zw_Mo_scored) B.pre
  have hsub : ∀ w ∈ mp_tbl, w ∈ zw_Mo_scored := fun w h => List.mem_cons_of_mem _ h
  have hw : ∀ w ∈ mp_tbl, w.before _ s = true := fun w h => hts w (hsub w h)
  have hown : s.vm.findClass zR_Mo = some m.cls := findClass_of_methodNamed B.named
  have hlocks := B.notSynchronized
  subst hsz
  have hD := hD0.self (sz := s.heap.size)
  generalize hAe : va_A [(ad 0, .inr (5, [.int mgc, .ref (ad 1), .int mpn, .ref (ad 2), .ref (ad 3), .ref (ad 4), .ref (ad 5), .ref (ad 6), .int mcn, .ref (ad 7), .ref (ad 8), .ref (ad 9), .ref (ad 10), .ref (ad 11), .ref (ad 12), .int msz, .ref (ad 13), .int mwc, .int mhf, .ref (ad 14), .ref (ad 15), .ref (ad 16), .ref (ad 17), .ref (ad 18)])), (ad 2, .inl (cI, 24, .inl mho)), (ad 3, .inl (cI, 24, .inl mki)), (ad 4, .inl (cJ, 24, .inr (.inl mgr))), (ad 6, .inl (cI, 24, .inl min_)), (ad 7, .inl (cI, 20, .inl mcp)), (ad 8, .inl (cJ, 20, .inr (.inl mcd))), (ad 9, .inl (cI, 20, .inl mck)), (ad 10, .inl (cJ, 20, .inr (.inl mcg))), (ad 13, .inl (cI, 150, .inl mwo)), (ad 15, .inl (cJ, 150, .inr (.inl mst))), (ad 16, .inl (cJ, 8, .inr (.inl mow))), (ad 17, .inl (cJ, 8, .inr (.inl msu))), (ad 18, .inl (cJ, 8, .inr (.inl mne)))] s.heap.size = A at hD ⊢
  have hA : ∀ q : Nat, s.heap.size ≤ q → A q := fun q h => by rw [← hAe]; exact Or.inr h
  have hS : va_S A s.heap s.heap [] := va_S.rf
  have hP : va_P (dC, dI) vwCl [(ad 0, .inr (5, [.int mgc, .ref (ad 1), .int mpn, .ref (ad 2), .ref (ad 3), .ref (ad 4), .ref (ad 5), .ref (ad 6), .int mcn, .ref (ad 7), .ref (ad 8), .ref (ad 9), .ref (ad 10), .ref (ad 11), .ref (ad 12), .int msz, .ref (ad 13), .int mwc, .int mhf, .ref (ad 14), .ref (ad 15), .ref (ad 16), .ref (ad 17), .ref (ad 18)])), (ad 2, .inl (cI, 24, .inl mho)), (ad 3, .inl (cI, 24, .inl mki)), (ad 4, .inl (cJ, 24, .inr (.inl mgr))), (ad 6, .inl (cI, 24, .inl min_)), (ad 7, .inl (cI, 20, .inl mcp)), (ad 8, .inl (cJ, 20, .inr (.inl mcd))), (ad 9, .inl (cI, 20, .inl mck)), (ad 10, .inl (cJ, 20, .inr (.inl mcg))), (ad 13, .inl (cI, 150, .inl mwo)), (ad 15, .inl (cJ, 150, .inr (.inl mst))), (ad 16, .inl (cJ, 8, .inr (.inl mow))), (ad 17, .inl (cJ, 8, .inr (.inl msu))), (ad 18, .inl (cJ, 8, .inr (.inl mne)))] s.heap := hP
  clear hAe hD0
  have hl := lv_entry ([.ref (ad 0), .int u1]) (n := 2) (Nat.le_of_ble_eq_true rfl)
  rw [lg_entry_eq]
  generalize (lg_sl ([.ref (ad 0), .int u1]) ++ List.replicate (2 - (lg_sl ([.ref (ad 0), .int u1])).length) Slot.unset).toArray = ls at hl ⊢
  have hl : lv_has ls 2 [(0, .ref (ad 0)), (1, .int u1)] := hl
  unfold zf_Mo_scored at hf
  refine lv_aload_n hx hb zd_Mo_scored_0 rfl (lv_at hl 0 rfl) ?_
  refine va_get (D := (dC, dI)) (ci := 5) (v := .int mhf) (C := zR_Mo) (T := zT_Mo) (N := 24) hx hb hts (fun w h => hsub w (zi_Mo w h)) hown hK hP 0 rfl rfl 18 (by decide) (hw _ zq_461) (fun _ h9 => h9) rfl zd_Mo_scored_1 ?_
  refine lv_if_eq (tgt := 23) hx hb zd_Mo_scored_4 (by decide) (fun c_1 => ?_) (fun c_1 => ?_)
  · have hf := mp_t c_1 hf
    refine lv_ldc2 (v := -9223372036854775808) hx hb hown (hw _ zq_661) zd_Mo_scored_23 ?_
    have hf := Option.some.inj hf
    subst hf
    exact W.lret (v := (-9223372036854775808 : Int64)) hx hb hr (fun t ht hW => ⟨⟨(-9223372036854775808 : Int64), (), rfl, rfl, by rw [ht]; exact hP, hD⟩, hS.F ht⟩) hS.2.2 zd_Mo_scored_26
  · have hf := mp_f c_1 hf
    refine lv_aload_n hx hb zd_Mo_scored_7 rfl (lv_at hl 0 rfl) ?_
    refine lv_iload_n hx hb zd_Mo_scored_8 rfl (lv_at hl 1 rfl) ?_
    obtain ⟨y2, hg2, hf⟩ := mp_bd hf
    refine mp_Rz (va_runV (As := [.int u1]) (rest := []) ⟨hx, hb, hml, hown, hts⟩ (zc_Mo_isGood l dC dI cI cJ cZ ad mgc mpn mcn msz mwc mhf u1 y2 hg2) (cwV 1 hts (mp_gV hsub zq_524 zq_526 zq_9 zq_30 zq_527) rfl rfl rfl (by decide +kernel) ⟨Nat.le_of_ble_eq_true rfl, Nat.le_of_ble_eq_true rfl⟩) ⟨mp_blR, va_recv hK hP (ci := 5) (q0 := 0) rfl rfl, mp_preR hN hK (hP.sub [0] rfl)⟩ rfl rfl hl.1 rfl (lv_room (Nat.le_of_ble_eq_true rfl)) zd_Mo_scored_9 ⟨Nat.zero_le _, Nat.zero_le _⟩) (fun hz2 => ?_)
    refine lv_if_eq (tgt := 23) hx hb zd_Mo_scored_12 (by decide) (fun c_3 => ?_) (fun c_3 => ?_)
    · have hf := mp_t c_3 hf
      refine lv_ldc2 (v := -9223372036854775808) hx hb hown (hw _ zq_661) zd_Mo_scored_23 ?_
      have hf := Option.some.inj hf
      subst hf
      exact W.lret (v := (-9223372036854775808 : Int64)) hx hb hr (fun t ht hW => ⟨⟨(-9223372036854775808 : Int64), (), rfl, rfl, by rw [ht]; exact hP, hD⟩, hS.F ht⟩) hS.2.2 zd_Mo_scored_26
    · have hf := mp_f c_3 hf
      refine lv_aload_n hx hb zd_Mo_scored_15 rfl (lv_at hl 0 rfl) ?_
      refine lv_iload_n hx hb zd_Mo_scored_16 rfl (lv_at hl 1 rfl) ?_
      obtain ⟨y4, hg4, hf⟩ := mp_bd hf
      refine mp_Ml (wr := []) (va_runV (As := [.int u1]) (rest := []) ⟨hx, hb, hml, hown, hts⟩ (zc_Mo_valueOf l dC dI cI cJ cZ ad _ mgc mpn mcn msz mwc mhf mho mki mgr min_ mcp mcd mck mcg mwo mst mow msu mne u1 y4 hg4) (cwV 1 hts (mp_gV hsub zq_637 zq_639 zq_20 zq_30 zq_640) rfl rfl rfl (by decide +kernel) ⟨Nat.le_of_ble_eq_true rfl, Nat.le_of_ble_eq_true rfl⟩) ⟨mp_blM, va_recv hK hP (ci := 5) (q0 := 0) rfl rfl, mp_preM hN hK (hP.sub [0, 1, 2, 3, 4, 5, 6, 7, 8, 9, 10, 11, 12, 13] rfl) (hD.sub [0, 1, 2, 3, 4, 5, 6, 7, 8, 9, 10, 11, 12, 13] (by decide) rfl)⟩ rfl rfl hl.1 rfl (lv_room (Nat.le_of_ble_eq_true rfl)) zd_Mo_scored_17 ⟨Nat.zero_le _, Nat.zero_le _⟩) hP hD hS hA [0, 1, 2, 3, 4, 5, 6, 7, 8, 9, 10, 11, 12, 13] [] rfl rfl (by decide) (by decide) (fun H locs hP hD hS => ?_)
      have hP : va_P (dC, dI) vwCl [(ad 0, .inr (5, [.int mgc, .ref (ad 1), .int mpn, .ref (ad 2), .ref (ad 3), .ref (ad 4), .ref (ad 5), .ref (ad 6), .int mcn, .ref (ad 7), .ref (ad 8), .ref (ad 9), .ref (ad 10), .ref (ad 11), .ref (ad 12), .int msz, .ref (ad 13), .int mwc, .int mhf, .ref (ad 14), .ref (ad 15), .ref (ad 16), .ref (ad 17), .ref (ad 18)])), (ad 2, .inl (cI, 24, .inl mho)), (ad 3, .inl (cI, 24, .inl mki)), (ad 4, .inl (cJ, 24, .inr (.inl mgr))), (ad 6, .inl (cI, 24, .inl min_)), (ad 7, .inl (cI, 20, .inl mcp)), (ad 8, .inl (cJ, 20, .inr (.inl mcd))), (ad 9, .inl (cI, 20, .inl mck)), (ad 10, .inl (cJ, 20, .inr (.inl mcg))), (ad 13, .inl (cI, 150, .inl mwo)), (ad 15, .inl (cJ, 150, .inr (.inl y4.2.1))), (ad 16, .inl (cJ, 8, .inr (.inl y4.2.2.1))), (ad 17, .inl (cJ, 8, .inr (.inl y4.2.2.2.1))), (ad 18, .inl (cJ, 8, .inr (.inl y4.2.2.2.2)))] H := hP
      have hD : va_D A [(ad 0, .inr (5, [.int mgc, .ref (ad 1), .int mpn, .ref (ad 2), .ref (ad 3), .ref (ad 4), .ref (ad 5), .ref (ad 6), .int mcn, .ref (ad 7), .ref (ad 8), .ref (ad 9), .ref (ad 10), .ref (ad 11), .ref (ad 12), .int msz, .ref (ad 13), .int mwc, .int mhf, .ref (ad 14), .ref (ad 15), .ref (ad 16), .ref (ad 17), .ref (ad 18)])), (ad 2, .inl (cI, 24, .inl mho)), (ad 3, .inl (cI, 24, .inl mki)), (ad 4, .inl (cJ, 24, .inr (.inl mgr))), (ad 6, .inl (cI, 24, .inl min_)), (ad 7, .inl (cI, 20, .inl mcp)), (ad 8, .inl (cJ, 20, .inr (.inl mcd))), (ad 9, .inl (cI, 20, .inl mck)), (ad 10, .inl (cJ, 20, .inr (.inl mcg))), (ad 13, .inl (cI, 150, .inl mwo)), (ad 15, .inl (cJ, 150, .inr (.inl y4.2.1))), (ad 16, .inl (cJ, 8, .inr (.inl y4.2.2.1))), (ad 17, .inl (cJ, 8, .inr (.inl y4.2.2.2.1))), (ad 18, .inl (cJ, 8, .inr (.inl y4.2.2.2.2)))] := hD
      refine lv_goto (tgt := 26) hx hb zd_Mo_scored_20 (by decide) ?_
      have hf := Option.some.inj hf
      subst hf
      exact W.lret (v := y4.1) hx hb hr (fun t ht hW => ⟨⟨y4.1, (), rfl, rfl, by rw [ht]; exact hP, hD⟩, hS.F ht⟩) hS.2.2 zd_Mo_scored_26
set_option maxHeartbeats 4000000 in
set_option maxRecDepth 100000 in
theorem zc_Mo_swap (l : Launch) (dC : Nat → ClassId) (dI : Nat → Nat → Nat) (cI cJ cZ : ClassId) (ad : Nat → Nat) (sz : Nat) (mgc : Int32) (mpn : Int32) (mcn : Int32) (msz : Int32) (mwc : Int32) (mhf : Int32) (mver : Nat → Int32) (mho : Nat → Int32) (mki : Nat → Int32) (mgr : Nat → Int64) (min_ : Nat → Int32) (mcp : Nat → Int32) (mcd : Nat → Int64) (mck : Nat → Int32) (mcg : Nat → Int64) (mwo : Nat → Int32) (mst : Nat → Int64) (mow : Nat → Int64) (msu : Nat → Int64) (mne : Nat → Int64) (u1 : Int32) (u2 : Int32) (res : Int32 × Int32 × (Nat → Int32) × (Nat → Int32) × (Nat → Int64) × (Nat → Int32) × (Nat → Int64) × (Nat → Int64) × (Nat → Int64) × (Nat → Int64) × (Nat → Int64)) (hf : zf_Mo_swap u1 u2 mpn mcn mwc mhf mver mho mki mgr min_ mcp mcd mck mcg mwo mst mow msu mne = some res) : Met l zy_Mo_swap zw_Mo_swap ({ frames := 5, cells := 0, slots := 0, locals := 126 } : Room) (mp_PM (dC, dI) vwCl (mp_tys cI cJ cZ) [(ad 0, .inr (5, [.int mgc, .ref (ad 1), .int mpn, .ref (ad 2), .ref (ad 3), .ref (ad 4), .ref (ad 5), .ref (ad 6), .int mcn, .ref (ad 7), .ref (ad 8), .ref (ad 9), .ref (ad 10), .ref (ad 11), .ref (ad 12), .int msz, .ref (ad 13), .int mwc, .int mhf, .ref (ad 14), .ref (ad 15), .ref (ad 16), .ref (ad 17), .ref (ad 18)])), (ad 1, .inl (cI, 8, .inl mver)), (ad 2, .inl (cI, 24, .inl mho)), (ad 3, .inl (cI, 24, .inl mki)), (ad 4, .inl (cJ, 24, .inr (.inl mgr))), (ad 6, .inl (cI, 24, .inl min_)), (ad 7, .inl (cI, 20, .inl mcp)), (ad 8, .inl (cJ, 20, .inr (.inl mcd))), (ad 9, .inl (cI, 20, .inl mck)), (ad 10, .inl (cJ, 20, .inr (.inl mcg))), (ad 13, .inl (cI, 150, .inl mwo)), (ad 15, .inl (cJ, 150, .inr (.inl mst))), (ad 16, .inl (cJ, 8, .inr (.inl mow))), (ad 17, .inl (cJ, 8, .inr (.inl msu))), (ad 18, .inl (cJ, 8, .inr (.inl mne)))] sz [.ref (ad 0), .int u1, .int u2]) (va_Qi (fun r (_ : Unit) => r = res.1) (mp_BM (dC, dI) vwCl [(ad 0, .inr (5, [.int mgc, .ref (ad 1), .int mpn, .ref (ad 2), .ref (ad 3), .ref (ad 4), .ref (ad 5), .ref (ad 6), .int res.2.1, .ref (ad 7), .ref (ad 8), .ref (ad 9), .ref (ad 10), .ref (ad 11), .ref (ad 12), .int msz, .ref (ad 13), .int mwc, .int mhf, .ref (ad 14), .ref (ad 15), .ref (ad 16), .ref (ad 17), .ref (ad 18)])), (ad 1, .inl (cI, 8, .inl res.2.2.1)), (ad 2, .inl (cI, 24, .inl mho)), (ad 3, .inl (cI, 24, .inl mki)), (ad 4, .inl (cJ, 24, .inr (.inl mgr))), (ad 6, .inl (cI, 24, .inl min_)), (ad 7, .inl (cI, 20, .inl res.2.2.2.1)), (ad 8, .inl (cJ, 20, .inr (.inl res.2.2.2.2.1))), (ad 9, .inl (cI, 20, .inl res.2.2.2.2.2.1)), (ad 10, .inl (cJ, 20, .inr (.inl res.2.2.2.2.2.2.1))), (ad 13, .inl (cI, 150, .inl mwo)), (ad 15, .inl (cJ, 150, .inr (.inl res.2.2.2.2.2.2.2.1))), (ad 16, .inl (cJ, 8, .inr (.inl res.2.2.2.2.2.2.2.2.1))), (ad 17, .inl (cJ, 8, .inr (.inl res.2.2.2.2.2.2.2.2.2.1))), (ad 18, .inl (cJ, 8, .inr (.inl res.2.2.2.2.2.2.2.2.2.2)))] (va_A [(ad 0, .inr (5, [.int mgc, .ref (ad 1), .int mpn, .ref (ad 2), .ref (ad 3), .ref (ad 4), .ref (ad 5), .ref (ad 6), .int mcn, .ref (ad 7), .ref (ad 8), .ref (ad 9), .ref (ad 10), .ref (ad 11), .ref (ad 12), .int msz, .ref (ad 13), .int mwc, .int mhf, .ref (ad 14), .ref (ad 15), .ref (ad 16), .ref (ad 17), .ref (ad 18)])), (ad 1, .inl (cI, 8, .inl mver)), (ad 2, .inl (cI, 24, .inl mho)), (ad 3, .inl (cI, 24, .inl mki)), (ad 4, .inl (cJ, 24, .inr (.inl mgr))), (ad 6, .inl (cI, 24, .inl min_)), (ad 7, .inl (cI, 20, .inl mcp)), (ad 8, .inl (cJ, 20, .inr (.inl mcd))), (ad 9, .inl (cI, 20, .inl mck)), (ad 10, .inl (cJ, 20, .inr (.inl mcg))), (ad 13, .inl (cI, 150, .inl mwo)), (ad 15, .inl (cJ, 150, .inr (.inl mst))), (ad 16, .inl (cJ, 8, .inr (.inl mow))), (ad 17, .inl (cJ, 8, .inr (.inl msu))), (ad 18, .inl (cJ, 8, .inr (.inl mne)))] sz)) (va_A [(ad 0, .inr (5, [.int mgc, .ref (ad 1), .int mpn, .ref (ad 2), .ref (ad 3), .ref (ad 4), .ref (ad 5), .ref (ad 6), .int mcn, .ref (ad 7), .ref (ad 8), .ref (ad 9), .ref (ad 10), .ref (ad 11), .ref (ad 12), .int msz, .ref (ad 13), .int mwc, .int mhf, .ref (ad 14), .ref (ad 15), .ref (ad 16), .ref (ad 17), .ref (ad 18)])), (ad 1, .inl (cI, 8, .inl mver)), (ad 2, .inl (cI, 24, .inl mho)), (ad 3, .inl (cI, 24, .inl mki)), (ad 4, .inl (cJ, 24, .inr (.inl mgr))), (ad 6, .inl (cI, 24, .inl min_)), (ad 7, .inl (cI, 20, .inl mcp)), (ad 8, .inl (cJ, 20, .inr (.inl mcd))), (ad 9, .inl (cI, 20, .inl mck)), (ad 10, .inl (cJ, 20, .inr (.inl mcg))), (ad 13, .inl (cI, 150, .inl mwo)), (ad 15, .inl (cJ, 150, .inr (.inl mst))), (ad 16, .inl (cJ, 8, .inr (.inl mow))), (ad 17, .inl (cJ, 8, .inr (.inl msu))), (ad 18, .inl (cJ, 8, .inr (.inl mne)))] sz)) 0 0 ((va_A [(ad 0, .inr (5, [.int mgc, .ref (ad 1), .int mpn, .ref (ad 2), .ref (ad 3), .ref (ad 4), .ref (ad 5), .ref (ad 6), .int mcn, .ref (ad 7), .ref (ad 8), .ref (ad 9), .ref (ad 10), .ref (ad 11), .ref (ad 12), .int msz, .ref (ad 13), .int mwc, .int mhf, .ref (ad 14), .ref (ad 15), .ref (ad 16), .ref (ad 17), .ref (ad 18)])), (ad 1, .inl (cI, 8, .inl mver)), (ad 2, .inl (cI, 24, .inl mho)), (ad 3, .inl (cI, 24, .inl mki)), (ad 4, .inl (cJ, 24, .inr (.inl mgr))), (ad 6, .inl (cI, 24, .inl min_)), (ad 7, .inl (cI, 20, .inl mcp)), (ad 8, .inl (cJ, 20, .inr (.inl mcd))), (ad 9, .inl (cI, 20, .inl mck)), (ad 10, .inl (cJ, 20, .inr (.inl mcg))), (ad 13, .inl (cI, 150, .inl mwo)), (ad 15, .inl (cJ, 150, .inr (.inl mst))), (ad 16, .inl (cJ, 8, .inr (.inl mow))), (ad 17, .inl (cJ, 8, .inr (.inl msu))), (ad 18, .inl (cJ, 8, .inr (.inl mne)))] sz)) := by
  refine Met.ofW (cc := zb_Mo_swap) (maxL := 5) (ret := (some .int)) (by decide) rfl ?_
  intro p e s m args below meth c s₁ B hml hv
  obtain ⟨rfl, hsz, hP, hK, hD0, hN⟩ := hv
  have hx := B.exec
  have hb := B.bytes
  have hr := B.returns
  have hts := atoms_spec (ws := zw_Mo_swap) B.pre
  have hsub : ∀ w ∈ mp_tbl, w ∈ zw_Mo_swap := fun w h => List.mem_cons_of_mem _ h
  have hw : ∀ w ∈ mp_tbl, w.before _ s = true := fun w h => hts w (hsub w h)
  have hown : s.vm.findClass zR_Mo = some m.cls := findClass_of_methodNamed B.named
  have hlocks := B.notSynchronized
  subst hsz
  have hD := hD0.self (sz := s.heap.size)
  generalize hAe : va_A [(ad 0, .inr (5, [.int mgc, .ref (ad 1), .int mpn, .ref (ad 2), .ref (ad 3), .ref (ad 4), .ref (ad 5), .ref (ad 6), .int mcn, .ref (ad 7), .ref (ad 8), .ref (ad 9), .ref (ad 10), .ref (ad 11), .ref (ad 12), .int msz, .ref (ad 13), .int mwc, .int mhf, .ref (ad 14), .ref (ad 15), .ref (ad 16), .ref (ad 17), .ref (ad 18)])), (ad 1, .inl (cI, 8, .inl mver)), (ad 2, .inl (cI, 24, .inl mho)), (ad 3, .inl (cI, 24, .inl mki)), (ad 4, .inl (cJ, 24, .inr (.inl mgr))), (ad 6, .inl (cI, 24, .inl min_)), (ad 7, .inl (cI, 20, .inl mcp)), (ad 8, .inl (cJ, 20, .inr (.inl mcd))), (ad 9, .inl (cI, 20, .inl mck)), (ad 10, .inl (cJ, 20, .inr (.inl mcg))), (ad 13, .inl (cI, 150, .inl mwo)), (ad 15, .inl (cJ, 150, .inr (.inl mst))), (ad 16, .inl (cJ, 8, .inr (.inl mow))), (ad 17, .inl (cJ, 8, .inr (.inl msu))), (ad 18, .inl (cJ, 8, .inr (.inl mne)))] s.heap.size = A at hD ⊢
  have hA : ∀ q : Nat, s.heap.size ≤ q → A q := fun q h => by rw [← hAe]; exact Or.inr h
  have hS : va_S A s.heap s.heap [] := va_S.rf
  have hP : va_P (dC, dI) vwCl [(ad 0, .inr (5, [.int mgc, .ref (ad 1), .int mpn, .ref (ad 2), .ref (ad 3), .ref (ad 4), .ref (ad 5), .ref (ad 6), .int mcn, .ref (ad 7), .ref (ad 8), .ref (ad 9), .ref (ad 10), .ref (ad 11), .ref (ad 12), .int msz, .ref (ad 13), .int mwc, .int mhf, .ref (ad 14), .ref (ad 15), .ref (ad 16), .ref (ad 17), .ref (ad 18)])), (ad 1, .inl (cI, 8, .inl mver)), (ad 2, .inl (cI, 24, .inl mho)), (ad 3, .inl (cI, 24, .inl mki)), (ad 4, .inl (cJ, 24, .inr (.inl mgr))), (ad 6, .inl (cI, 24, .inl min_)), (ad 7, .inl (cI, 20, .inl mcp)), (ad 8, .inl (cJ, 20, .inr (.inl mcd))), (ad 9, .inl (cI, 20, .inl mck)), (ad 10, .inl (cJ, 20, .inr (.inl mcg))), (ad 13, .inl (cI, 150, .inl mwo)), (ad 15, .inl (cJ, 150, .inr (.inl mst))), (ad 16, .inl (cJ, 8, .inr (.inl mow))), (ad 17, .inl (cJ, 8, .inr (.inl msu))), (ad 18, .inl (cJ, 8, .inr (.inl mne)))] s.heap := hP
  clear hAe hD0
  have hl := lv_entry ([.ref (ad 0), .int u1, .int u2]) (n := 5) (Nat.le_of_ble_eq_true rfl)
  rw [lg_entry_eq]
  generalize (lg_sl ([.ref (ad 0), .int u1, .int u2]) ++ List.replicate (5 - (lg_sl ([.ref (ad 0), .int u1, .int u2])).length) Slot.unset).toArray = ls at hl ⊢
  have hl : lv_has ls 5 [(0, .ref (ad 0)), (1, .int u1), (2, .int u2)] := hl
  unfold zf_Mo_swap at hf
  refine lv_aload_n hx hb zd_Mo_swap_0 rfl (lv_at hl 0 rfl) ?_
  refine lv_iload_n hx hb zd_Mo_swap_1 rfl (lv_at hl 1 rfl) ?_
  obtain ⟨y1, hg1, hf⟩ := mp_bd hf
  refine mp_Rz (va_runV (As := [.int u1]) (rest := []) ⟨hx, hb, hml, hown, hts⟩ (zc_Mo_isPart l dC dI cI cJ cZ ad mgc mpn mcn msz mwc mhf u1 y1 hg1) (cwV 1 hts (mp_gV hsub zq_540 zq_542 zq_10 zq_30 zq_543) rfl rfl rfl (by decide +kernel) ⟨Nat.le_of_ble_eq_true rfl, Nat.le_of_ble_eq_true rfl⟩) ⟨mp_blR, va_recv hK hP (ci := 5) (q0 := 0) rfl rfl, mp_preR hN hK (hP.sub [0] rfl)⟩ rfl rfl hl.1 rfl (lv_room (Nat.le_of_ble_eq_true rfl)) zd_Mo_swap_2 ⟨Nat.zero_le _, Nat.zero_le _⟩) (fun hz1 => ?_)
  refine lv_if_eq (tgt := 31) hx hb zd_Mo_swap_5 (by decide) (fun c_2 => ?_) (fun c_2 => ?_)
  · have hf := mp_t c_2 hf
    refine lv_iconst (v := -1) hx hb zd_Mo_swap_31 (by decide) ?_
    have hf := Option.some.inj hf
    subst hf
    exact W.iret (v := (-1 : Int32)) hx hb hr (fun t ht hW => ⟨⟨(-1 : Int32), (), rfl, rfl, by rw [ht]; exact hP, hD⟩, hS.F ht⟩) hS.2.2 zd_Mo_swap_32
  · have hf := mp_f c_2 hf
    refine lv_iload_n hx hb zd_Mo_swap_8 rfl (lv_at hl 2 rfl) ?_
    obtain ⟨y3, hg3, hf⟩ := mp_bd hf
    refine mp_Rz (va_runS (As := [.int u2]) (rest := []) ⟨hx, hb, hml, hown, hts⟩ (zc_Mo_isKind l dC dI cI cJ cZ ad u2 y3 hg3) (va_cwS 1 hts (mp_gS hsub zq_528 zq_529 zq_30 zq_530) rfl rfl rfl (by decide +kernel) ⟨Nat.le_of_ble_eq_true rfl, Nat.le_of_ble_eq_true rfl⟩) ⟨mp_blR, mp_preR hN hK (hP.sub [] rfl)⟩ rfl rfl hl.1 rfl (lv_room (Nat.le_of_ble_eq_true rfl)) zd_Mo_swap_9 ⟨Nat.zero_le _, Nat.zero_le _⟩) (fun hz3 => ?_)
    refine lv_if_eq (tgt := 31) hx hb zd_Mo_swap_12 (by decide) (fun c_4 => ?_) (fun c_4 => ?_)
    · have hf := mp_t c_4 hf
      refine lv_iconst (v := -1) hx hb zd_Mo_swap_31 (by decide) ?_
      have hf := Option.some.inj hf
      subst hf
      exact W.iret (v := (-1 : Int32)) hx hb hr (fun t ht hW => ⟨⟨(-1 : Int32), (), rfl, rfl, by rw [ht]; exact hP, hD⟩, hS.F ht⟩) hS.2.2 zd_Mo_swap_32
    · have hf := mp_f c_4 hf
      refine lv_aload_n hx hb zd_Mo_swap_15 rfl (lv_at hl 0 rfl) ?_
      refine va_get (D := (dC, dI)) (ci := 5) (v := .int mhf) (C := zR_Mo) (T := zT_Mo) (N := 24) hx hb hts (fun w h => hsub w (zi_Mo w h)) hown hK hP 0 rfl rfl 18 (by decide) (hw _ zq_461) (fun _ h9 => h9) rfl zd_Mo_swap_16 ?_
      refine lv_if_eq (tgt := 31) hx hb zd_Mo_swap_19 (by decide) (fun c_5 => ?_) (fun c_5 => ?_)
      · have hf := mp_t c_5 hf
        refine lv_iconst (v := -1) hx hb zd_Mo_swap_31 (by decide) ?_
        have hf := Option.some.inj hf
        subst hf
        exact W.iret (v := (-1 : Int32)) hx hb hr (fun t ht hW => ⟨⟨(-1 : Int32), (), rfl, rfl, by rw [ht]; exact hP, hD⟩, hS.F ht⟩) hS.2.2 zd_Mo_swap_32
      · have hf := mp_f c_5 hf
        refine lv_aload_n hx hb zd_Mo_swap_22 rfl (lv_at hl 0 rfl) ?_
        refine va_get (D := (dC, dI)) (ci := 5) (v := .int mcn) (C := zR_Mo) (T := zT_Mo) (N := 24) hx hb hts (fun w h => hsub w (zi_Mo w h)) hown hK hP 0 rfl rfl 8 (by decide) (hw _ zq_451) (fun _ h9 => h9) rfl zd_Mo_swap_23 ?_
        refine lv_bipush (v := 20) hx hb zd_Mo_swap_26 (by decide) ?_
        refine lv_icmp_ne (tgt := 33) hx hb zd_Mo_swap_28 (by decide) (fun c_6 => ?_) (fun c_6 => ?_)
        · have hf := mp_f c_6 hf
          refine lv_aload_n hx hb zd_Mo_swap_33 rfl (lv_at hl 0 rfl) ?_
          refine lv_aload_n hx hb zd_Mo_swap_34 rfl (lv_at hl 0 rfl) ?_
          refine va_get (D := (dC, dI)) (ci := 5) (v := .ref (ad 2)) (C := zR_Mo) (T := zT_Mo) (N := 24) hx hb hts (fun w h => hsub w (zi_Mo w h)) hown hK hP 0 rfl rfl 3 (by decide) (hw _ zq_446) (fun _ h9 => h9) rfl zd_Mo_swap_35 ?_
          refine lv_iload_n hx hb zd_Mo_swap_38 rfl (lv_at hl 1 rfl) ?_
          obtain ⟨h_7, hf⟩ := mp_in hf
          refine va_iald hx hb hK hP 2 0 rfl rfl (i := u1) h_7 zd_Mo_swap_39 ?_
          obtain ⟨y8, hg8, hf⟩ := mp_bd hf
          refine mp_Ml (wr := [(ad 1, .inl (cI, 8, .inl mver))]) (va_runV (As := [.int (mho u1.toNatClampNeg)]) (rest := []) ⟨hx, hb, hml, hown, hts⟩ (zc_Mo_valueOf l dC dI cI cJ cZ ad _ mgc mpn mcn msz mwc mhf mho mki mgr min_ mcp mcd mck mcg mwo mst mow msu mne (mho u1.toNatClampNeg) y8 hg8) (cwV 1 hts (mp_gV hsub zq_637 zq_639 zq_20 zq_30 zq_640) rfl rfl rfl (by decide +kernel) ⟨Nat.le_of_ble_eq_true rfl, Nat.le_of_ble_eq_true rfl⟩) ⟨mp_blM, va_recv hK hP (ci := 5) (q0 := 0) rfl rfl, mp_preM hN hK (hP.sub [0, 2, 3, 4, 5, 6, 7, 8, 9, 10, 11, 12, 13, 14] rfl) (hD.sub [0, 2, 3, 4, 5, 6, 7, 8, 9, 10, 11, 12, 13, 14] (by decide) rfl)⟩ rfl rfl hl.1 rfl (lv_room (Nat.le_of_ble_eq_true rfl)) zd_Mo_swap_40 ⟨Nat.zero_le _, Nat.zero_le _⟩) hP hD hS hA [0, 2, 3, 4, 5, 6, 7, 8, 9, 10, 11, 12, 13, 14] [1] rfl rfl (by decide) (by decide) (fun H locs hP hD hS => ?_)
          have hP : va_P (dC, dI) vwCl [(ad 1, .inl (cI, 8, .inl mver)), (ad 0, .inr (5, [.int mgc, .ref (ad 1), .int mpn, .ref (ad 2), .ref (ad 3), .ref (ad 4), .ref (ad 5), .ref (ad 6), .int mcn, .ref (ad 7), .ref (ad 8), .ref (ad 9), .ref (ad 10), .ref (ad 11), .ref (ad 12), .int msz, .ref (ad 13), .int mwc, .int mhf, .ref (ad 14), .ref (ad 15), .ref (ad 16), .ref (ad 17), .ref (ad 18)])), (ad 2, .inl (cI, 24, .inl mho)), (ad 3, .inl (cI, 24, .inl mki)), (ad 4, .inl (cJ, 24, .inr (.inl mgr))), (ad 6, .inl (cI, 24, .inl min_)), (ad 7, .inl (cI, 20, .inl mcp)), (ad 8, .inl (cJ, 20, .inr (.inl mcd))), (ad 9, .inl (cI, 20, .inl mck)), (ad 10, .inl (cJ, 20, .inr (.inl mcg))), (ad 13, .inl (cI, 150, .inl mwo)), (ad 15, .inl (cJ, 150, .inr (.inl y8.2.1))), (ad 16, .inl (cJ, 8, .inr (.inl y8.2.2.1))), (ad 17, .inl (cJ, 8, .inr (.inl y8.2.2.2.1))), (ad 18, .inl (cJ, 8, .inr (.inl y8.2.2.2.2)))] H := hP
          have hD : va_D A [(ad 1, .inl (cI, 8, .inl mver)), (ad 0, .inr (5, [.int mgc, .ref (ad 1), .int mpn, .ref (ad 2), .ref (ad 3), .ref (ad 4), .ref (ad 5), .ref (ad 6), .int mcn, .ref (ad 7), .ref (ad 8), .ref (ad 9), .ref (ad 10), .ref (ad 11), .ref (ad 12), .int msz, .ref (ad 13), .int mwc, .int mhf, .ref (ad 14), .ref (ad 15), .ref (ad 16), .ref (ad 17), .ref (ad 18)])), (ad 2, .inl (cI, 24, .inl mho)), (ad 3, .inl (cI, 24, .inl mki)), (ad 4, .inl (cJ, 24, .inr (.inl mgr))), (ad 6, .inl (cI, 24, .inl min_)), (ad 7, .inl (cI, 20, .inl mcp)), (ad 8, .inl (cJ, 20, .inr (.inl mcd))), (ad 9, .inl (cI, 20, .inl mck)), (ad 10, .inl (cJ, 20, .inr (.inl mcg))), (ad 13, .inl (cI, 150, .inl mwo)), (ad 15, .inl (cJ, 150, .inr (.inl y8.2.1))), (ad 16, .inl (cJ, 8, .inr (.inl y8.2.2.1))), (ad 17, .inl (cJ, 8, .inr (.inl y8.2.2.2.1))), (ad 18, .inl (cJ, 8, .inr (.inl y8.2.2.2.2)))] := hD
          refine lv_lstore_n (lv' := [(3, .long y8.1), (0, .ref (ad 0)), (1, .int u1), (2, .int u2)]) hx hb zd_Mo_swap_43 rfl hl (by decide) rfl (fun ls hl => ?_)
          refine lv_aload_n hx hb zd_Mo_swap_44 rfl (lv_at hl 1 rfl) ?_
          refine lv_iload_n hx hb zd_Mo_swap_45 rfl (lv_at hl 2 rfl) ?_
          refine lv_ldc2 (v := 100000) hx hb hown (hw _ zq_556) zd_Mo_swap_46 ?_
          refine lv_iload_n hx hb zd_Mo_swap_49 rfl (lv_at hl 3 rfl) ?_
          refine lv_aload_n hx hb zd_Mo_swap_50 rfl (lv_at hl 1 rfl) ?_
          refine lv_iload_n hx hb zd_Mo_swap_51 rfl (lv_at hl 2 rfl) ?_
          refine lv_ldc2 (v := 100000) hx hb hown (hw _ zq_556) zd_Mo_swap_52 ?_
          obtain ⟨y9, hg9, hf⟩ := mp_bd hf
          refine mp_Rl (va_runV (As := [.int u1, .long (100000 : Int64)]) (rest := [.int u2, .long (100000 : Int64), .int u1, .ref (ad 0)]) ⟨hx, hb, hml, hown, hts⟩ (zc_Mo_gramsOn l dC dI cI cJ cZ ad mgc mpn mcn msz mwc mhf mgr mcp mcd mcg u1 (100000 : Int64) y9 hg9) (cwV 2 hts (mp_gV hsub zq_582 zq_584 zq_16 zq_30 zq_585) rfl rfl rfl (by decide +kernel) ⟨Nat.le_of_ble_eq_true rfl, Nat.le_of_ble_eq_true rfl⟩) ⟨mp_blR, va_recv hK hP (ci := 5) (q0 := 1) rfl rfl, mp_preR hN hK (hP.sub [1, 4, 6, 7, 9] rfl)⟩ rfl rfl hl.1 rfl (lv_room (Nat.le_of_ble_eq_true rfl)) zd_Mo_swap_55 ⟨Nat.zero_le _, Nat.zero_le _⟩) ?_
          obtain ⟨y10, hg10, hf⟩ := mp_bd hf
          refine mp_Mv (wr := [(ad 1, .inl (cI, 8, .inl mver)), (ad 2, .inl (cI, 24, .inl mho)), (ad 3, .inl (cI, 24, .inl mki)), (ad 4, .inl (cJ, 24, .inr (.inl mgr))), (ad 6, .inl (cI, 24, .inl min_)), (ad 13, .inl (cI, 150, .inl mwo)), (ad 15, .inl (cJ, 150, .inr (.inl y8.2.1))), (ad 16, .inl (cJ, 8, .inr (.inl y8.2.2.1))), (ad 17, .inl (cJ, 8, .inr (.inl y8.2.2.2.1))), (ad 18, .inl (cJ, 8, .inr (.inl y8.2.2.2.2)))]) (va_runV (As := [.int u1, .long (100000 : Int64), .int u2, .long y9]) (rest := []) ⟨hx, hb, hml, hown, hts⟩ (zc_Mo_add l dC dI cI cJ cZ ad _ mgc mpn mcn msz mwc mhf mcp mcd mck mcg u1 (100000 : Int64) u2 y9 y10 hg10) (cwV 4 hts (mp_gV hsub zq_557 zq_559 zq_12 zq_30 zq_560) rfl rfl rfl (by decide +kernel) ⟨Nat.le_of_ble_eq_true rfl, Nat.le_of_ble_eq_true rfl⟩) ⟨mp_blM, va_recv hK hP (ci := 5) (q0 := 1) rfl rfl, mp_preM hN hK (hP.sub [1, 6, 7, 8, 9] rfl) (hD.sub [1, 6, 7, 8, 9] (by decide) rfl)⟩ rfl rfl hl.1 rfl (lv_room (Nat.le_of_ble_eq_true rfl)) zd_Mo_swap_58 ⟨Nat.zero_le _, Nat.zero_le _⟩) hP hD hS hA [1, 6, 7, 8, 9] [0, 2, 3, 4, 5, 10, 11, 12, 13, 14] rfl rfl (by decide) (by decide) (fun H locs hP hD hS => ?_)
          have hP : va_P (dC, dI) vwCl [(ad 1, .inl (cI, 8, .inl mver)), (ad 2, .inl (cI, 24, .inl mho)), (ad 3, .inl (cI, 24, .inl mki)), (ad 4, .inl (cJ, 24, .inr (.inl mgr))), (ad 6, .inl (cI, 24, .inl min_)), (ad 13, .inl (cI, 150, .inl mwo)), (ad 15, .inl (cJ, 150, .inr (.inl y8.2.1))), (ad 16, .inl (cJ, 8, .inr (.inl y8.2.2.1))), (ad 17, .inl (cJ, 8, .inr (.inl y8.2.2.2.1))), (ad 18, .inl (cJ, 8, .inr (.inl y8.2.2.2.2))), (ad 0, .inr (5, [.int mgc, .ref (ad 1), .int mpn, .ref (ad 2), .ref (ad 3), .ref (ad 4), .ref (ad 5), .ref (ad 6), .int y10.1, .ref (ad 7), .ref (ad 8), .ref (ad 9), .ref (ad 10), .ref (ad 11), .ref (ad 12), .int msz, .ref (ad 13), .int mwc, .int mhf, .ref (ad 14), .ref (ad 15), .ref (ad 16), .ref (ad 17), .ref (ad 18)])), (ad 7, .inl (cI, 20, .inl y10.2.1)), (ad 8, .inl (cJ, 20, .inr (.inl y10.2.2.1))), (ad 9, .inl (cI, 20, .inl y10.2.2.2.1)), (ad 10, .inl (cJ, 20, .inr (.inl y10.2.2.2.2)))] H := hP
          have hD : va_D A [(ad 1, .inl (cI, 8, .inl mver)), (ad 2, .inl (cI, 24, .inl mho)), (ad 3, .inl (cI, 24, .inl mki)), (ad 4, .inl (cJ, 24, .inr (.inl mgr))), (ad 6, .inl (cI, 24, .inl min_)), (ad 13, .inl (cI, 150, .inl mwo)), (ad 15, .inl (cJ, 150, .inr (.inl y8.2.1))), (ad 16, .inl (cJ, 8, .inr (.inl y8.2.2.1))), (ad 17, .inl (cJ, 8, .inr (.inl y8.2.2.2.1))), (ad 18, .inl (cJ, 8, .inr (.inl y8.2.2.2.2))), (ad 0, .inr (5, [.int mgc, .ref (ad 1), .int mpn, .ref (ad 2), .ref (ad 3), .ref (ad 4), .ref (ad 5), .ref (ad 6), .int y10.1, .ref (ad 7), .ref (ad 8), .ref (ad 9), .ref (ad 10), .ref (ad 11), .ref (ad 12), .int msz, .ref (ad 13), .int mwc, .int mhf, .ref (ad 14), .ref (ad 15), .ref (ad 16), .ref (ad 17), .ref (ad 18)])), (ad 7, .inl (cI, 20, .inl y10.2.1)), (ad 8, .inl (cJ, 20, .inr (.inl y10.2.2.1))), (ad 9, .inl (cI, 20, .inl y10.2.2.2.1)), (ad 10, .inl (cJ, 20, .inr (.inl y10.2.2.2.2)))] := hD
          refine lv_aload_n hx hb zd_Mo_swap_61 rfl (lv_at hl 1 rfl) ?_
          refine lv_aload_n hx hb zd_Mo_swap_62 rfl (lv_at hl 1 rfl) ?_
          refine va_get (D := (dC, dI)) (ci := 5) (v := .ref (ad 2)) (C := zR_Mo) (T := zT_Mo) (N := 24) hx hb hts (fun w h => hsub w (zi_Mo w h)) hown hK hP 10 rfl rfl 3 (by decide) (hw _ zq_446) (fun _ h9 => h9) rfl zd_Mo_swap_63 ?_
          refine lv_iload_n hx hb zd_Mo_swap_66 rfl (lv_at hl 2 rfl) ?_
          obtain ⟨h_11, hf⟩ := mp_in hf
          refine va_iald hx hb hK hP 1 0 rfl rfl (i := u1) h_11 zd_Mo_swap_67 ?_
          obtain ⟨y12, hg12, hf⟩ := mp_bd hf
          refine mp_Ml (wr := [(ad 1, .inl (cI, 8, .inl mver))]) (va_runV (As := [.int (mho u1.toNatClampNeg)]) (rest := []) ⟨hx, hb, hml, hown, hts⟩ (zc_Mo_valueOf l dC dI cI cJ cZ ad _ mgc mpn y10.1 msz mwc mhf mho mki mgr min_ y10.2.1 y10.2.2.1 y10.2.2.2.1 y10.2.2.2.2 mwo y8.2.1 y8.2.2.1 y8.2.2.2.1 y8.2.2.2.2 (mho u1.toNatClampNeg) y12 hg12) (cwV 1 hts (mp_gV hsub zq_637 zq_639 zq_20 zq_30 zq_640) rfl rfl rfl (by decide +kernel) ⟨Nat.le_of_ble_eq_true rfl, Nat.le_of_ble_eq_true rfl⟩) ⟨mp_blM, va_recv hK hP (ci := 5) (q0 := 10) rfl rfl, mp_preM hN hK (hP.sub [10, 1, 2, 3, 4, 11, 12, 13, 14, 5, 6, 7, 8, 9] rfl) (hD.sub [10, 1, 2, 3, 4, 11, 12, 13, 14, 5, 6, 7, 8, 9] (by decide) rfl)⟩ rfl rfl hl.1 rfl (lv_room (Nat.le_of_ble_eq_true rfl)) zd_Mo_swap_68 ⟨Nat.zero_le _, Nat.zero_le _⟩) hP hD hS hA [10, 1, 2, 3, 4, 11, 12, 13, 14, 5, 6, 7, 8, 9] [0] rfl rfl (by decide) (by decide) (fun H locs hP hD hS => ?_)
          have hP : va_P (dC, dI) vwCl [(ad 1, .inl (cI, 8, .inl mver)), (ad 0, .inr (5, [.int mgc, .ref (ad 1), .int mpn, .ref (ad 2), .ref (ad 3), .ref (ad 4), .ref (ad 5), .ref (ad 6), .int y10.1, .ref (ad 7), .ref (ad 8), .ref (ad 9), .ref (ad 10), .ref (ad 11), .ref (ad 12), .int msz, .ref (ad 13), .int mwc, .int mhf, .ref (ad 14), .ref (ad 15), .ref (ad 16), .ref (ad 17), .ref (ad 18)])), (ad 2, .inl (cI, 24, .inl mho)), (ad 3, .inl (cI, 24, .inl mki)), (ad 4, .inl (cJ, 24, .inr (.inl mgr))), (ad 6, .inl (cI, 24, .inl min_)), (ad 7, .inl (cI, 20, .inl y10.2.1)), (ad 8, .inl (cJ, 20, .inr (.inl y10.2.2.1))), (ad 9, .inl (cI, 20, .inl y10.2.2.2.1)), (ad 10, .inl (cJ, 20, .inr (.inl y10.2.2.2.2))), (ad 13, .inl (cI, 150, .inl mwo)), (ad 15, .inl (cJ, 150, .inr (.inl y12.2.1))), (ad 16, .inl (cJ, 8, .inr (.inl y12.2.2.1))), (ad 17, .inl (cJ, 8, .inr (.inl y12.2.2.2.1))), (ad 18, .inl (cJ, 8, .inr (.inl y12.2.2.2.2)))] H := hP
          have hD : va_D A [(ad 1, .inl (cI, 8, .inl mver)), (ad 0, .inr (5, [.int mgc, .ref (ad 1), .int mpn, .ref (ad 2), .ref (ad 3), .ref (ad 4), .ref (ad 5), .ref (ad 6), .int y10.1, .ref (ad 7), .ref (ad 8), .ref (ad 9), .ref (ad 10), .ref (ad 11), .ref (ad 12), .int msz, .ref (ad 13), .int mwc, .int mhf, .ref (ad 14), .ref (ad 15), .ref (ad 16), .ref (ad 17), .ref (ad 18)])), (ad 2, .inl (cI, 24, .inl mho)), (ad 3, .inl (cI, 24, .inl mki)), (ad 4, .inl (cJ, 24, .inr (.inl mgr))), (ad 6, .inl (cI, 24, .inl min_)), (ad 7, .inl (cI, 20, .inl y10.2.1)), (ad 8, .inl (cJ, 20, .inr (.inl y10.2.2.1))), (ad 9, .inl (cI, 20, .inl y10.2.2.2.1)), (ad 10, .inl (cJ, 20, .inr (.inl y10.2.2.2.2))), (ad 13, .inl (cI, 150, .inl mwo)), (ad 15, .inl (cJ, 150, .inr (.inl y12.2.1))), (ad 16, .inl (cJ, 8, .inr (.inl y12.2.2.1))), (ad 17, .inl (cJ, 8, .inr (.inl y12.2.2.2.1))), (ad 18, .inl (cJ, 8, .inr (.inl y12.2.2.2.2)))] := hD
          refine lv_lload_n hx hb zd_Mo_swap_71 rfl (lv_at hl 0 rfl) ?_
          refine W.lcmp hx hb zd_Mo_swap_72 ?_
          refine lv_if_le (tgt := 93) hx hb zd_Mo_swap_73 (by decide) (fun c_13 => ?_) (fun c_13 => ?_)
          · have c_13 := (lg_cmp_le _ _).mp c_13
            have hf := mp_t c_13 hf
            refine lv_aload_n hx hb zd_Mo_swap_93 rfl (lv_at hl 1 rfl) ?_
            refine lv_dup hx hb zd_Mo_swap_94 rfl ?_
            refine va_get (D := (dC, dI)) (ci := 5) (v := .int y10.1) (C := zR_Mo) (T := zT_Mo) (N := 24) hx hb hts (fun w h => hsub w (zi_Mo w h)) hown hK hP 1 rfl rfl 8 (by decide) (hw _ zq_451) (fun _ h9 => h9) rfl zd_Mo_swap_95 ?_
            refine lv_iconst (v := 1) hx hb zd_Mo_swap_98 (by decide) ?_
            refine lv_isub hx hb zd_Mo_swap_99 ?_
            refine va_put (D := (dC, dI)) (ci := 5) (v := .int (y10.1 - (1 : Int32))) (ty := .int) (C := zR_Mo) (T := zT_Mo) (N := 24) hx hb hts (fun w h => hsub w (zi_Mo w h)) zt_Mo zt_Mo_ok zn_Mo hown hK hP hD hS 1 rfl rfl 8 (by decide) (hw _ zq_451) (fun _ h9 => h9) rfl (by decide +kernel) rfl rfl (Nat.le_of_ble_eq_true rfl) zd_Mo_swap_100 (fun H locs hP hD hS => ?_)
            have hP : va_P (dC, dI) vwCl [(ad 1, .inl (cI, 8, .inl mver)), (ad 0, .inr (5, [.int mgc, .ref (ad 1), .int mpn, .ref (ad 2), .ref (ad 3), .ref (ad 4), .ref (ad 5), .ref (ad 6), .int (y10.1 - (1 : Int32)), .ref (ad 7), .ref (ad 8), .ref (ad 9), .ref (ad 10), .ref (ad 11), .ref (ad 12), .int msz, .ref (ad 13), .int mwc, .int mhf, .ref (ad 14), .ref (ad 15), .ref (ad 16), .ref (ad 17), .ref (ad 18)])), (ad 2, .inl (cI, 24, .inl mho)), (ad 3, .inl (cI, 24, .inl mki)), (ad 4, .inl (cJ, 24, .inr (.inl mgr))), (ad 6, .inl (cI, 24, .inl min_)), (ad 7, .inl (cI, 20, .inl y10.2.1)), (ad 8, .inl (cJ, 20, .inr (.inl y10.2.2.1))), (ad 9, .inl (cI, 20, .inl y10.2.2.2.1)), (ad 10, .inl (cJ, 20, .inr (.inl y10.2.2.2.2))), (ad 13, .inl (cI, 150, .inl mwo)), (ad 15, .inl (cJ, 150, .inr (.inl y12.2.1))), (ad 16, .inl (cJ, 8, .inr (.inl y12.2.2.1))), (ad 17, .inl (cJ, 8, .inr (.inl y12.2.2.2.1))), (ad 18, .inl (cJ, 8, .inr (.inl y12.2.2.2.2)))] H := hP
            have hD : va_D A [(ad 1, .inl (cI, 8, .inl mver)), (ad 0, .inr (5, [.int mgc, .ref (ad 1), .int mpn, .ref (ad 2), .ref (ad 3), .ref (ad 4), .ref (ad 5), .ref (ad 6), .int (y10.1 - (1 : Int32)), .ref (ad 7), .ref (ad 8), .ref (ad 9), .ref (ad 10), .ref (ad 11), .ref (ad 12), .int msz, .ref (ad 13), .int mwc, .int mhf, .ref (ad 14), .ref (ad 15), .ref (ad 16), .ref (ad 17), .ref (ad 18)])), (ad 2, .inl (cI, 24, .inl mho)), (ad 3, .inl (cI, 24, .inl mki)), (ad 4, .inl (cJ, 24, .inr (.inl mgr))), (ad 6, .inl (cI, 24, .inl min_)), (ad 7, .inl (cI, 20, .inl y10.2.1)), (ad 8, .inl (cJ, 20, .inr (.inl y10.2.2.1))), (ad 9, .inl (cI, 20, .inl y10.2.2.2.1)), (ad 10, .inl (cJ, 20, .inr (.inl y10.2.2.2.2))), (ad 13, .inl (cI, 150, .inl mwo)), (ad 15, .inl (cJ, 150, .inr (.inl y12.2.1))), (ad 16, .inl (cJ, 8, .inr (.inl y12.2.2.1))), (ad 17, .inl (cJ, 8, .inr (.inl y12.2.2.2.1))), (ad 18, .inl (cJ, 8, .inr (.inl y12.2.2.2.2)))] := hD
            refine lv_iconst (v := 0) hx hb zd_Mo_swap_103 (by decide) ?_
            have hf := Option.some.inj hf
            subst hf
            have hP := hP.sub (ws' := [(ad 0, .inr (5, [.int mgc, .ref (ad 1), .int mpn, .ref (ad 2), .ref (ad 3), .ref (ad 4), .ref (ad 5), .ref (ad 6), .int (y10.1 - (1 : Int32)), .ref (ad 7), .ref (ad 8), .ref (ad 9), .ref (ad 10), .ref (ad 11), .ref (ad 12), .int msz, .ref (ad 13), .int mwc, .int mhf, .ref (ad 14), .ref (ad 15), .ref (ad 16), .ref (ad 17), .ref (ad 18)])), (ad 1, .inl (cI, 8, .inl mver)), (ad 2, .inl (cI, 24, .inl mho)), (ad 3, .inl (cI, 24, .inl mki)), (ad 4, .inl (cJ, 24, .inr (.inl mgr))), (ad 6, .inl (cI, 24, .inl min_)), (ad 7, .inl (cI, 20, .inl y10.2.1)), (ad 8, .inl (cJ, 20, .inr (.inl y10.2.2.1))), (ad 9, .inl (cI, 20, .inl y10.2.2.2.1)), (ad 10, .inl (cJ, 20, .inr (.inl y10.2.2.2.2))), (ad 13, .inl (cI, 150, .inl mwo)), (ad 15, .inl (cJ, 150, .inr (.inl y12.2.1))), (ad 16, .inl (cJ, 8, .inr (.inl y12.2.2.1))), (ad 17, .inl (cJ, 8, .inr (.inl y12.2.2.2.1))), (ad 18, .inl (cJ, 8, .inr (.inl y12.2.2.2.2)))]) [1, 0, 2, 3, 4, 5, 6, 7, 8, 9, 10, 11, 12, 13, 14] rfl
            have hD := hD.sub (ws' := [(ad 0, .inr (5, [.int mgc, .ref (ad 1), .int mpn, .ref (ad 2), .ref (ad 3), .ref (ad 4), .ref (ad 5), .ref (ad 6), .int (y10.1 - (1 : Int32)), .ref (ad 7), .ref (ad 8), .ref (ad 9), .ref (ad 10), .ref (ad 11), .ref (ad 12), .int msz, .ref (ad 13), .int mwc, .int mhf, .ref (ad 14), .ref (ad 15), .ref (ad 16), .ref (ad 17), .ref (ad 18)])), (ad 1, .inl (cI, 8, .inl mver)), (ad 2, .inl (cI, 24, .inl mho)), (ad 3, .inl (cI, 24, .inl mki)), (ad 4, .inl (cJ, 24, .inr (.inl mgr))), (ad 6, .inl (cI, 24, .inl min_)), (ad 7, .inl (cI, 20, .inl y10.2.1)), (ad 8, .inl (cJ, 20, .inr (.inl y10.2.2.1))), (ad 9, .inl (cI, 20, .inl y10.2.2.2.1)), (ad 10, .inl (cJ, 20, .inr (.inl y10.2.2.2.2))), (ad 13, .inl (cI, 150, .inl mwo)), (ad 15, .inl (cJ, 150, .inr (.inl y12.2.1))), (ad 16, .inl (cJ, 8, .inr (.inl y12.2.2.1))), (ad 17, .inl (cJ, 8, .inr (.inl y12.2.2.2.1))), (ad 18, .inl (cJ, 8, .inr (.inl y12.2.2.2.2)))]) [1, 0, 2, 3, 4, 5, 6, 7, 8, 9, 10, 11, 12, 13, 14] (by decide) rfl
            exact W.iret (v := (0 : Int32)) hx hb hr (fun t ht hW => ⟨⟨(0 : Int32), (), rfl, rfl, by rw [ht]; exact hP, hD⟩, hS.F ht⟩) hS.2.2 zd_Mo_swap_104
          · have c_13 := fun h9 => c_13 ((lg_cmp_le _ _).mpr h9)
            have hf := mp_f c_13 hf
            refine lv_aload_n hx hb zd_Mo_swap_76 rfl (lv_at hl 1 rfl) ?_
            refine va_get (D := (dC, dI)) (ci := 5) (v := .ref (ad 1)) (C := zR_Mo) (T := zT_Mo) (N := 24) hx hb hts (fun w h => hsub w (zi_Mo w h)) hown hK hP 1 rfl rfl 1 (by decide) (hw _ zq_444) (fun _ h9 => h9) rfl zd_Mo_swap_77 ?_
            refine lv_aload_n hx hb zd_Mo_swap_80 rfl (lv_at hl 1 rfl) ?_
            refine va_get (D := (dC, dI)) (ci := 5) (v := .ref (ad 2)) (C := zR_Mo) (T := zT_Mo) (N := 24) hx hb hts (fun w h => hsub w (zi_Mo w h)) hown hK hP 1 rfl rfl 3 (by decide) (hw _ zq_446) (fun _ h9 => h9) rfl zd_Mo_swap_81 ?_
            refine lv_iload_n hx hb zd_Mo_swap_84 rfl (lv_at hl 2 rfl) ?_
            obtain ⟨h_14, hf⟩ := mp_in hf
            refine va_iald hx hb hK hP 2 0 rfl rfl (i := u1) h_14 zd_Mo_swap_85 ?_
            refine lv_dup2_11 hx hb zd_Mo_swap_86 rfl rfl ?_
            obtain ⟨h_15, hf⟩ := mp_in hf
            refine va_iald hx hb hK hP 0 0 rfl rfl (i := (mho u1.toNatClampNeg)) h_15 zd_Mo_swap_87 ?_
            refine lv_iconst (v := 1) hx hb zd_Mo_swap_88 (by decide) ?_
            refine lv_iadd hx hb zd_Mo_swap_89 ?_
            obtain ⟨h_16, hf⟩ := mp_in hf
            refine va_iast hx hb hK hP hD hS 0 0 rfl rfl (i := (mho u1.toNatClampNeg)) (x := ((mver (mho u1.toNatClampNeg).toNatClampNeg) + (1 : Int32))) h_16 zd_Mo_swap_90 (fun H locs hP hD hS => ?_)
            have hP : va_P (dC, dI) vwCl [(ad 1, .inl (cI, 8, .inl (upd mver (mho u1.toNatClampNeg).toNatClampNeg ((mver (mho u1.toNatClampNeg).toNatClampNeg) + (1 : Int32))))), (ad 0, .inr (5, [.int mgc, .ref (ad 1), .int mpn, .ref (ad 2), .ref (ad 3), .ref (ad 4), .ref (ad 5), .ref (ad 6), .int y10.1, .ref (ad 7), .ref (ad 8), .ref (ad 9), .ref (ad 10), .ref (ad 11), .ref (ad 12), .int msz, .ref (ad 13), .int mwc, .int mhf, .ref (ad 14), .ref (ad 15), .ref (ad 16), .ref (ad 17), .ref (ad 18)])), (ad 2, .inl (cI, 24, .inl mho)), (ad 3, .inl (cI, 24, .inl mki)), (ad 4, .inl (cJ, 24, .inr (.inl mgr))), (ad 6, .inl (cI, 24, .inl min_)), (ad 7, .inl (cI, 20, .inl y10.2.1)), (ad 8, .inl (cJ, 20, .inr (.inl y10.2.2.1))), (ad 9, .inl (cI, 20, .inl y10.2.2.2.1)), (ad 10, .inl (cJ, 20, .inr (.inl y10.2.2.2.2))), (ad 13, .inl (cI, 150, .inl mwo)), (ad 15, .inl (cJ, 150, .inr (.inl y12.2.1))), (ad 16, .inl (cJ, 8, .inr (.inl y12.2.2.1))), (ad 17, .inl (cJ, 8, .inr (.inl y12.2.2.2.1))), (ad 18, .inl (cJ, 8, .inr (.inl y12.2.2.2.2)))] H := hP
            have hD : va_D A [(ad 1, .inl (cI, 8, .inl (upd mver (mho u1.toNatClampNeg).toNatClampNeg ((mver (mho u1.toNatClampNeg).toNatClampNeg) + (1 : Int32))))), (ad 0, .inr (5, [.int mgc, .ref (ad 1), .int mpn, .ref (ad 2), .ref (ad 3), .ref (ad 4), .ref (ad 5), .ref (ad 6), .int y10.1, .ref (ad 7), .ref (ad 8), .ref (ad 9), .ref (ad 10), .ref (ad 11), .ref (ad 12), .int msz, .ref (ad 13), .int mwc, .int mhf, .ref (ad 14), .ref (ad 15), .ref (ad 16), .ref (ad 17), .ref (ad 18)])), (ad 2, .inl (cI, 24, .inl mho)), (ad 3, .inl (cI, 24, .inl mki)), (ad 4, .inl (cJ, 24, .inr (.inl mgr))), (ad 6, .inl (cI, 24, .inl min_)), (ad 7, .inl (cI, 20, .inl y10.2.1)), (ad 8, .inl (cJ, 20, .inr (.inl y10.2.2.1))), (ad 9, .inl (cI, 20, .inl y10.2.2.2.1)), (ad 10, .inl (cJ, 20, .inr (.inl y10.2.2.2.2))), (ad 13, .inl (cI, 150, .inl mwo)), (ad 15, .inl (cJ, 150, .inr (.inl y12.2.1))), (ad 16, .inl (cJ, 8, .inr (.inl y12.2.2.1))), (ad 17, .inl (cJ, 8, .inr (.inl y12.2.2.2.1))), (ad 18, .inl (cJ, 8, .inr (.inl y12.2.2.2.2)))] := hD
            refine lv_iconst (v := 1) hx hb zd_Mo_swap_91 (by decide) ?_
            have hf := Option.some.inj hf
            subst hf
            have hP := hP.sub (ws' := [(ad 0, .inr (5, [.int mgc, .ref (ad 1), .int mpn, .ref (ad 2), .ref (ad 3), .ref (ad 4), .ref (ad 5), .ref (ad 6), .int y10.1, .ref (ad 7), .ref (ad 8), .ref (ad 9), .ref (ad 10), .ref (ad 11), .ref (ad 12), .int msz, .ref (ad 13), .int mwc, .int mhf, .ref (ad 14), .ref (ad 15), .ref (ad 16), .ref (ad 17), .ref (ad 18)])), (ad 1, .inl (cI, 8, .inl (upd mver (mho u1.toNatClampNeg).toNatClampNeg ((mver (mho u1.toNatClampNeg).toNatClampNeg) + (1 : Int32))))), (ad 2, .inl (cI, 24, .inl mho)), (ad 3, .inl (cI, 24, .inl mki)), (ad 4, .inl (cJ, 24, .inr (.inl mgr))), (ad 6, .inl (cI, 24, .inl min_)), (ad 7, .inl (cI, 20, .inl y10.2.1)), (ad 8, .inl (cJ, 20, .inr (.inl y10.2.2.1))), (ad 9, .inl (cI, 20, .inl y10.2.2.2.1)), (ad 10, .inl (cJ, 20, .inr (.inl y10.2.2.2.2))), (ad 13, .inl (cI, 150, .inl mwo)), (ad 15, .inl (cJ, 150, .inr (.inl y12.2.1))), (ad 16, .inl (cJ, 8, .inr (.inl y12.2.2.1))), (ad 17, .inl (cJ, 8, .inr (.inl y12.2.2.2.1))), (ad 18, .inl (cJ, 8, .inr (.inl y12.2.2.2.2)))]) [1, 0, 2, 3, 4, 5, 6, 7, 8, 9, 10, 11, 12, 13, 14] rfl
            have hD := hD.sub (ws' := [(ad 0, .inr (5, [.int mgc, .ref (ad 1), .int mpn, .ref (ad 2), .ref (ad 3), .ref (ad 4), .ref (ad 5), .ref (ad 6), .int y10.1, .ref (ad 7), .ref (ad 8), .ref (ad 9), .ref (ad 10), .ref (ad 11), .ref (ad 12), .int msz, .ref (ad 13), .int mwc, .int mhf, .ref (ad 14), .ref (ad 15), .ref (ad 16), .ref (ad 17), .ref (ad 18)])), (ad 1, .inl (cI, 8, .inl (upd mver (mho u1.toNatClampNeg).toNatClampNeg ((mver (mho u1.toNatClampNeg).toNatClampNeg) + (1 : Int32))))), (ad 2, .inl (cI, 24, .inl mho)), (ad 3, .inl (cI, 24, .inl mki)), (ad 4, .inl (cJ, 24, .inr (.inl mgr))), (ad 6, .inl (cI, 24, .inl min_)), (ad 7, .inl (cI, 20, .inl y10.2.1)), (ad 8, .inl (cJ, 20, .inr (.inl y10.2.2.1))), (ad 9, .inl (cI, 20, .inl y10.2.2.2.1)), (ad 10, .inl (cJ, 20, .inr (.inl y10.2.2.2.2))), (ad 13, .inl (cI, 150, .inl mwo)), (ad 15, .inl (cJ, 150, .inr (.inl y12.2.1))), (ad 16, .inl (cJ, 8, .inr (.inl y12.2.2.1))), (ad 17, .inl (cJ, 8, .inr (.inl y12.2.2.2.1))), (ad 18, .inl (cJ, 8, .inr (.inl y12.2.2.2.2)))]) [1, 0, 2, 3, 4, 5, 6, 7, 8, 9, 10, 11, 12, 13, 14] (by decide) rfl
            exact W.iret (v := (1 : Int32)) hx hb hr (fun t ht hW => ⟨⟨(1 : Int32), (), rfl, rfl, by rw [ht]; exact hP, hD⟩, hS.F ht⟩) hS.2.2 zd_Mo_swap_92
        · have hf := mp_t c_6 hf
          refine lv_iconst (v := -1) hx hb zd_Mo_swap_31 (by decide) ?_
          have hf := Option.some.inj hf
          subst hf
          exact W.iret (v := (-1 : Int32)) hx hb hr (fun t ht hW => ⟨⟨(-1 : Int32), (), rfl, rfl, by rw [ht]; exact hP, hD⟩, hS.F ht⟩) hS.2.2 zd_Mo_swap_32
set_option maxHeartbeats 4000000 in
set_option maxRecDepth 100000 in
theorem zc_Mo_mark (l : Launch) (dC : Nat → ClassId) (dI : Nat → Nat → Nat) (cI cJ cZ : ClassId) (ad : Nat → Nat) (sz : Nat) (mgc : Int32) (mpn : Int32) (mcn : Int32) (msz : Int32) (mwc : Int32) (mhf : Int32) (mver : Nat → Int32) (mho : Nat → Int32) (mki : Nat → Int32) (mgr : Nat → Int64) (min_ : Nat → Int32) (mcp : Nat → Int32) (mcd : Nat → Int64) (mck : Nat → Int32) (mcg : Nat → Int64) (mow : Nat → Int64) (msu : Nat → Int64) (mne : Nat → Int64) (u1 : Int32) (u2 : Int64) (u4 : Int32) (res : Int32 × (Nat → Int64) × (Nat → Int64) × (Nat → Int64)) (hf : zf_Mo_mark u1 u2 u4 mgc mpn mcn mver mho mki mgr min_ mcp mcd mck mcg mow msu mne = some res) : Met l zy_Mo_mark zw_Mo_mark ({ frames := 3, cells := 0, slots := 0, locals := 75 } : Room) (mp_PM (dC, dI) vwCl (mp_tys cI cJ cZ) [(ad 0, .inr (5, [.int mgc, .ref (ad 1), .int mpn, .ref (ad 2), .ref (ad 3), .ref (ad 4), .ref (ad 5), .ref (ad 6), .int mcn, .ref (ad 7), .ref (ad 8), .ref (ad 9), .ref (ad 10), .ref (ad 11), .ref (ad 12), .int msz, .ref (ad 13), .int mwc, .int mhf, .ref (ad 14), .ref (ad 15), .ref (ad 16), .ref (ad 17), .ref (ad 18)])), (ad 1, .inl (cI, 8, .inl mver)), (ad 2, .inl (cI, 24, .inl mho)), (ad 3, .inl (cI, 24, .inl mki)), (ad 4, .inl (cJ, 24, .inr (.inl mgr))), (ad 6, .inl (cI, 24, .inl min_)), (ad 7, .inl (cI, 20, .inl mcp)), (ad 8, .inl (cJ, 20, .inr (.inl mcd))), (ad 9, .inl (cI, 20, .inl mck)), (ad 10, .inl (cJ, 20, .inr (.inl mcg))), (ad 16, .inl (cJ, 8, .inr (.inl mow))), (ad 17, .inl (cJ, 8, .inr (.inl msu))), (ad 18, .inl (cJ, 8, .inr (.inl mne)))] sz [.ref (ad 0), .int u1, .long u2, .int u4]) (va_Qi (fun r (_ : Unit) => r = res.1) (mp_BM (dC, dI) vwCl [(ad 0, .inr (5, [.int mgc, .ref (ad 1), .int mpn, .ref (ad 2), .ref (ad 3), .ref (ad 4), .ref (ad 5), .ref (ad 6), .int mcn, .ref (ad 7), .ref (ad 8), .ref (ad 9), .ref (ad 10), .ref (ad 11), .ref (ad 12), .int msz, .ref (ad 13), .int mwc, .int mhf, .ref (ad 14), .ref (ad 15), .ref (ad 16), .ref (ad 17), .ref (ad 18)])), (ad 1, .inl (cI, 8, .inl mver)), (ad 2, .inl (cI, 24, .inl mho)), (ad 3, .inl (cI, 24, .inl mki)), (ad 4, .inl (cJ, 24, .inr (.inl mgr))), (ad 6, .inl (cI, 24, .inl min_)), (ad 7, .inl (cI, 20, .inl mcp)), (ad 8, .inl (cJ, 20, .inr (.inl mcd))), (ad 9, .inl (cI, 20, .inl mck)), (ad 10, .inl (cJ, 20, .inr (.inl mcg))), (ad 16, .inl (cJ, 8, .inr (.inl res.2.1))), (ad 17, .inl (cJ, 8, .inr (.inl res.2.2.1))), (ad 18, .inl (cJ, 8, .inr (.inl res.2.2.2)))] (va_A [(ad 0, .inr (5, [.int mgc, .ref (ad 1), .int mpn, .ref (ad 2), .ref (ad 3), .ref (ad 4), .ref (ad 5), .ref (ad 6), .int mcn, .ref (ad 7), .ref (ad 8), .ref (ad 9), .ref (ad 10), .ref (ad 11), .ref (ad 12), .int msz, .ref (ad 13), .int mwc, .int mhf, .ref (ad 14), .ref (ad 15), .ref (ad 16), .ref (ad 17), .ref (ad 18)])), (ad 1, .inl (cI, 8, .inl mver)), (ad 2, .inl (cI, 24, .inl mho)), (ad 3, .inl (cI, 24, .inl mki)), (ad 4, .inl (cJ, 24, .inr (.inl mgr))), (ad 6, .inl (cI, 24, .inl min_)), (ad 7, .inl (cI, 20, .inl mcp)), (ad 8, .inl (cJ, 20, .inr (.inl mcd))), (ad 9, .inl (cI, 20, .inl mck)), (ad 10, .inl (cJ, 20, .inr (.inl mcg))), (ad 16, .inl (cJ, 8, .inr (.inl mow))), (ad 17, .inl (cJ, 8, .inr (.inl msu))), (ad 18, .inl (cJ, 8, .inr (.inl mne)))] sz)) (va_A [(ad 0, .inr (5, [.int mgc, .ref (ad 1), .int mpn, .ref (ad 2), .ref (ad 3), .ref (ad 4), .ref (ad 5), .ref (ad 6), .int mcn, .ref (ad 7), .ref (ad 8), .ref (ad 9), .ref (ad 10), .ref (ad 11), .ref (ad 12), .int msz, .ref (ad 13), .int mwc, .int mhf, .ref (ad 14), .ref (ad 15), .ref (ad 16), .ref (ad 17), .ref (ad 18)])), (ad 1, .inl (cI, 8, .inl mver)), (ad 2, .inl (cI, 24, .inl mho)), (ad 3, .inl (cI, 24, .inl mki)), (ad 4, .inl (cJ, 24, .inr (.inl mgr))), (ad 6, .inl (cI, 24, .inl min_)), (ad 7, .inl (cI, 20, .inl mcp)), (ad 8, .inl (cJ, 20, .inr (.inl mcd))), (ad 9, .inl (cI, 20, .inl mck)), (ad 10, .inl (cJ, 20, .inr (.inl mcg))), (ad 16, .inl (cJ, 8, .inr (.inl mow))), (ad 17, .inl (cJ, 8, .inr (.inl msu))), (ad 18, .inl (cJ, 8, .inr (.inl mne)))] sz)) 0 0 ((va_A [(ad 0, .inr (5, [.int mgc, .ref (ad 1), .int mpn, .ref (ad 2), .ref (ad 3), .ref (ad 4), .ref (ad 5), .ref (ad 6), .int mcn, .ref (ad 7), .ref (ad 8), .ref (ad 9), .ref (ad 10), .ref (ad 11), .ref (ad 12), .int msz, .ref (ad 13), .int mwc, .int mhf, .ref (ad 14), .ref (ad 15), .ref (ad 16), .ref (ad 17), .ref (ad 18)])), (ad 1, .inl (cI, 8, .inl mver)), (ad 2, .inl (cI, 24, .inl mho)), (ad 3, .inl (cI, 24, .inl mki)), (ad 4, .inl (cJ, 24, .inr (.inl mgr))), (ad 6, .inl (cI, 24, .inl min_)), (ad 7, .inl (cI, 20, .inl mcp)), (ad 8, .inl (cJ, 20, .inr (.inl mcd))), (ad 9, .inl (cI, 20, .inl mck)), (ad 10, .inl (cJ, 20, .inr (.inl mcg))), (ad 16, .inl (cJ, 8, .inr (.inl mow))), (ad 17, .inl (cJ, 8, .inr (.inl msu))), (ad 18, .inl (cJ, 8, .inr (.inl mne)))] sz)) := by
  refine Met.ofW (cc := zb_Mo_mark) (maxL := 8) (ret := (some .int)) (by decide) rfl ?_
  intro p e s m args below meth c s₁ B hml hv
  obtain ⟨rfl, hsz, hP, hK, hD0, hN⟩ := hv
  have hx := B.exec
  have hb := B.bytes
  have hr := B.returns
  have hts := atoms_spec (ws := zw_Mo_mark) B.pre
  have hsub : ∀ w ∈ mp_tbl, w ∈ zw_Mo_mark := fun w h => List.mem_cons_of_mem _ h
  have hw : ∀ w ∈ mp_tbl, w.before _ s = true := fun w h => hts w (hsub w h)
  have hown : s.vm.findClass zR_Mo = some m.cls := findClass_of_methodNamed B.named
  have hlocks := B.notSynchronized
  subst hsz
  have hD := hD0.self (sz := s.heap.size)
  generalize hAe : va_A [(ad 0, .inr (5, [.int mgc, .ref (ad 1), .int mpn, .ref (ad 2), .ref (ad 3), .ref (ad 4), .ref (ad 5), .ref (ad 6), .int mcn, .ref (ad 7), .ref (ad 8), .ref (ad 9), .ref (ad 10), .ref (ad 11), .ref (ad 12), .int msz, .ref (ad 13), .int mwc, .int mhf, .ref (ad 14), .ref (ad 15), .ref (ad 16), .ref (ad 17), .ref (ad 18)])), (ad 1, .inl (cI, 8, .inl mver)), (ad 2, .inl (cI, 24, .inl mho)), (ad 3, .inl (cI, 24, .inl mki)), (ad 4, .inl (cJ, 24, .inr (.inl mgr))), (ad 6, .inl (cI, 24, .inl min_)), (ad 7, .inl (cI, 20, .inl mcp)), (ad 8, .inl (cJ, 20, .inr (.inl mcd))), (ad 9, .inl (cI, 20, .inl mck)), (ad 10, .inl (cJ, 20, .inr (.inl mcg))), (ad 16, .inl (cJ, 8, .inr (.inl mow))), (ad 17, .inl (cJ, 8, .inr (.inl msu))), (ad 18, .inl (cJ, 8, .inr (.inl mne)))] s.heap.size = A at hD ⊢
  have hA : ∀ q : Nat, s.heap.size ≤ q → A q := fun q h => by rw [← hAe]; exact Or.inr h
  have hS : va_S A s.heap s.heap [] := va_S.rf
  have hP : va_P (dC, dI) vwCl [(ad 0, .inr (5, [.int mgc, .ref (ad 1), .int mpn, .ref (ad 2), .ref (ad 3), .ref (ad 4), .ref (ad 5), .ref (ad 6), .int mcn, .ref (ad 7), .ref (ad 8), .ref (ad 9), .ref (ad 10), .ref (ad 11), .ref (ad 12), .int msz, .ref (ad 13), .int mwc, .int mhf, .ref (ad 14), .ref (ad 15), .ref (ad 16), .ref (ad 17), .ref (ad 18)])), (ad 1, .inl (cI, 8, .inl mver)), (ad 2, .inl (cI, 24, .inl mho)), (ad 3, .inl (cI, 24, .inl mki)), (ad 4, .inl (cJ, 24, .inr (.inl mgr))), (ad 6, .inl (cI, 24, .inl min_)), (ad 7, .inl (cI, 20, .inl mcp)), (ad 8, .inl (cJ, 20, .inr (.inl mcd))), (ad 9, .inl (cI, 20, .inl mck)), (ad 10, .inl (cJ, 20, .inr (.inl mcg))), (ad 16, .inl (cJ, 8, .inr (.inl mow))), (ad 17, .inl (cJ, 8, .inr (.inl msu))), (ad 18, .inl (cJ, 8, .inr (.inl mne)))] s.heap := hP
  clear hAe hD0
  have loop29 : ∀ (v1 : Int32) (v2 : Int64) (v4 : Int32) (n : Nat) (v5 : Int64) (v7 : Int32) (mow : Nat → Int64) (msu : Nat → Int64) (mne : Nat → Int64) (H : Heap) (locs : List Loc) (ls : Array Slot), zf_Mo_mark_L29 v1 v2 v4 mgc mpn mcn mver mho mki mgr min_ mcp mcd mck mcg n v5 v7 mow msu mne = some res → va_P (dC, dI) vwCl [(ad 0, .inr (5, [.int mgc, .ref (ad 1), .int mpn, .ref (ad 2), .ref (ad 3), .ref (ad 4), .ref (ad 5), .ref (ad 6), .int mcn, .ref (ad 7), .ref (ad 8), .ref (ad 9), .ref (ad 10), .ref (ad 11), .ref (ad 12), .int msz, .ref (ad 13), .int mwc, .int mhf, .ref (ad 14), .ref (ad 15), .ref (ad 16), .ref (ad 17), .ref (ad 18)])), (ad 1, .inl (cI, 8, .inl mver)), (ad 2, .inl (cI, 24, .inl mho)), (ad 3, .inl (cI, 24, .inl mki)), (ad 4, .inl (cJ, 24, .inr (.inl mgr))), (ad 6, .inl (cI, 24, .inl min_)), (ad 7, .inl (cI, 20, .inl mcp)), (ad 8, .inl (cJ, 20, .inr (.inl mcd))), (ad 9, .inl (cI, 20, .inl mck)), (ad 10, .inl (cJ, 20, .inr (.inl mcg))), (ad 16, .inl (cJ, 8, .inr (.inl mow))), (ad 17, .inl (cJ, 8, .inr (.inl msu))), (ad 18, .inl (cJ, 8, .inr (.inl mne)))] H → va_D A [(ad 0, .inr (5, [.int mgc, .ref (ad 1), .int mpn, .ref (ad 2), .ref (ad 3), .ref (ad 4), .ref (ad 5), .ref (ad 6), .int mcn, .ref (ad 7), .ref (ad 8), .ref (ad 9), .ref (ad 10), .ref (ad 11), .ref (ad 12), .int msz, .ref (ad 13), .int mwc, .int mhf, .ref (ad 14), .ref (ad 15), .ref (ad 16), .ref (ad 17), .ref (ad 18)])), (ad 1, .inl (cI, 8, .inl mver)), (ad 2, .inl (cI, 24, .inl mho)), (ad 3, .inl (cI, 24, .inl mki)), (ad 4, .inl (cJ, 24, .inr (.inl mgr))), (ad 6, .inl (cI, 24, .inl min_)), (ad 7, .inl (cI, 20, .inl mcp)), (ad 8, .inl (cJ, 20, .inr (.inl mcd))), (ad 9, .inl (cI, 20, .inl mck)), (ad 10, .inl (cJ, 20, .inr (.inl mcg))), (ad 16, .inl (cJ, 8, .inr (.inl mow))), (ad 17, .inl (cJ, 8, .inr (.inl msu))), (ad 18, .inl (cJ, 8, .inr (.inl mne)))] → va_S A s.heap H locs → lv_has ls 8 [(0, .ref (ad 0)), (1, .int v1), (2, .long v2), (4, .int v4), (5, .long v5), (7, .int v7)] → W p l e (headSpec zw_Mo_mark ({ frames := 3, cells := 0, slots := 0, locals := 75 } : Room)).room s m ([.ref (ad 0), .int u1, .long u2, .int u4] : List Value).toArray below meth c H locs 0 0 (MQ below (va_Qi (fun r (_ : Unit) => r = res.1) (mp_BM (dC, dI) vwCl [(ad 0, .inr (5, [.int mgc, .ref (ad 1), .int mpn, .ref (ad 2), .ref (ad 3), .ref (ad 4), .ref (ad 5), .ref (ad 6), .int mcn, .ref (ad 7), .ref (ad 8), .ref (ad 9), .ref (ad 10), .ref (ad 11), .ref (ad 12), .int msz, .ref (ad 13), .int mwc, .int mhf, .ref (ad 14), .ref (ad 15), .ref (ad 16), .ref (ad 17), .ref (ad 18)])), (ad 1, .inl (cI, 8, .inl mver)), (ad 2, .inl (cI, 24, .inl mho)), (ad 3, .inl (cI, 24, .inl mki)), (ad 4, .inl (cJ, 24, .inr (.inl mgr))), (ad 6, .inl (cI, 24, .inl min_)), (ad 7, .inl (cI, 20, .inl mcp)), (ad 8, .inl (cJ, 20, .inr (.inl mcd))), (ad 9, .inl (cI, 20, .inl mck)), (ad 10, .inl (cJ, 20, .inr (.inl mcg))), (ad 16, .inl (cJ, 8, .inr (.inl res.2.1))), (ad 17, .inl (cJ, 8, .inr (.inl res.2.2.1))), (ad 18, .inl (cJ, 8, .inr (.inl res.2.2.2)))] A) A) ([.ref (ad 0), .int u1, .long u2, .int u4] : List Value).toArray s 0 0 (A)) (F0 m 29 ls []) := by
    intro v1 v2 v4 n
    induction n with
    | zero => intro v5 v7 mow msu mne H locs ls hf; simp [zf_Mo_mark_L29] at hf
    | succ n ih =>
      intro v5 v7 mow msu mne H locs ls hf hP hD hS hl
      rw [zf_Mo_mark_L29] at hf
      refine lv_iload hx hb zd_Mo_mark_29 (lv_at hl 5 rfl) ?_
      refine lv_iconst (v := 5) hx hb zd_Mo_mark_31 (by decide) ?_
      refine lv_icmp_ge (tgt := 77) hx hb zd_Mo_mark_32 (by decide) (fun c_5 => ?_) (fun c_5 => ?_)
      · have hf := mp_t c_5 hf
        refine lv_lload hx hb zd_Mo_mark_77 (lv_at hl 4 rfl) ?_
        refine lv_aload_n hx hb zd_Mo_mark_79 rfl (lv_at hl 0 rfl) ?_
        refine va_get (D := (dC, dI)) (ci := 5) (v := .ref (ad 1)) (C := zR_Mo) (T := zT_Mo) (N := 24) hx hb hts (fun w h => hsub w (zi_Mo w h)) hown hK hP 0 rfl rfl 1 (by decide) (hw _ zq_444) (fun _ h9 => h9) rfl zd_Mo_mark_80 ?_
        refine lv_iload_n hx hb zd_Mo_mark_83 rfl (lv_at hl 1 rfl) ?_
        obtain ⟨h_6, hf⟩ := mp_in hf
        refine va_iald hx hb hK hP 1 0 rfl rfl (i := v1) h_6 zd_Mo_mark_84 ?_
        refine lv_i2l hx hb zd_Mo_mark_85 rfl ?_
        refine lv_ladd hx hb zd_Mo_mark_86 ?_
        refine lv_ldc2 (v := 6364136223846793005) hx hb hown (hw _ zq_670) zd_Mo_mark_87 ?_
        refine lv_lmul hx hb zd_Mo_mark_90 ?_
        refine lv_lstore (lv' := [(5, .long ((v5 + (mver v1.toNatClampNeg).toInt64) * (6364136223846793005 : Int64))), (0, .ref (ad 0)), (1, .int v1), (2, .long v2), (4, .int v4), (7, .int v7)]) hx hb zd_Mo_mark_91 hl (by decide) rfl (fun ls hl => ?_)
        refine lv_lload hx hb zd_Mo_mark_93 (lv_at hl 0 rfl) ?_
        refine lv_bipush (v := 56) hx hb zd_Mo_mark_95 (by decide) ?_
        refine lv_bipush (v := 8) hx hb zd_Mo_mark_97 (by decide) ?_
        refine lv_iload hx hb zd_Mo_mark_99 (lv_at hl 4 rfl) ?_
        refine lv_imul hx hb zd_Mo_mark_101 ?_
        refine lv_isub hx hb zd_Mo_mark_102 ?_
        refine lv_lushr hx hb zd_Mo_mark_103 rfl ?_
        refine lv_ldc2 (v := 255) hx hb hown (hw _ zq_614) zd_Mo_mark_104 ?_
        refine lv_land hx hb zd_Mo_mark_107 ?_
        refine lv_l2i hx hb zd_Mo_mark_108 rfl ?_
        have hf := Option.some.inj hf
        subst hf
        exact W.iret (v := ((((v5 + (mver v1.toNatClampNeg).toInt64) * (6364136223846793005 : Int64)).toUInt64 >>> (((56 : Int32) - ((8 : Int32) * v4)).toInt64.toUInt64 &&& Int64.toUInt64 63)).toInt64 &&& (255 : Int64)).toInt32) hx hb hr (fun t ht hW => ⟨⟨((((v5 + (mver v1.toNatClampNeg).toInt64) * (6364136223846793005 : Int64)).toUInt64 >>> (((56 : Int32) - ((8 : Int32) * v4)).toInt64.toUInt64 &&& Int64.toUInt64 63)).toInt64 &&& (255 : Int64)).toInt32, (), rfl, rfl, by rw [ht]; exact hP, hD⟩, hS.F ht⟩) hS.2.2 zd_Mo_mark_109
      · have hf := mp_f c_5 hf
        refine lv_aload_n hx hb zd_Mo_mark_35 rfl (lv_at hl 0 rfl) ?_
        refine lv_iload hx hb zd_Mo_mark_36 (lv_at hl 5 rfl) ?_
        refine lv_ldc2 (v := 100000) hx hb hown (hw _ zq_556) zd_Mo_mark_38 ?_
        obtain ⟨y7, hg7, hf⟩ := mp_bd hf
        refine mp_Mv (wr := [(ad 1, .inl (cI, 8, .inl mver))]) (va_runV (As := [.int v7, .long (100000 : Int64)]) (rest := []) ⟨hx, hb, hml, hown, hts⟩ (zc_Mo_sum l dC dI cI cJ cZ ad _ mgc mpn mcn msz mwc mhf mho mki mgr min_ mcp mcd mck mcg mow msu mne v7 (100000 : Int64) y7 hg7) (cwV 2 hts (mp_gV hsub zq_570 zq_572 zq_13 zq_30 zq_573) rfl rfl rfl (by decide +kernel) ⟨Nat.le_of_ble_eq_true rfl, Nat.le_of_ble_eq_true rfl⟩) ⟨mp_blM, va_recv hK hP (ci := 5) (q0 := 0) rfl rfl, mp_preM hN hK (hP.sub [0, 2, 3, 4, 5, 6, 7, 8, 9, 10, 11, 12] rfl) (hD.sub [0, 2, 3, 4, 5, 6, 7, 8, 9, 10, 11, 12] (by decide) rfl)⟩ rfl rfl hl.1 rfl (lv_room (Nat.le_of_ble_eq_true rfl)) zd_Mo_mark_41 ⟨Nat.zero_le _, Nat.zero_le _⟩) hP hD hS hA [0, 2, 3, 4, 5, 6, 7, 8, 9, 10, 11, 12] [1] rfl rfl (by decide) (by decide) (fun H locs hP hD hS => ?_)
        have hP : va_P (dC, dI) vwCl [(ad 1, .inl (cI, 8, .inl mver)), (ad 0, .inr (5, [.int mgc, .ref (ad 1), .int mpn, .ref (ad 2), .ref (ad 3), .ref (ad 4), .ref (ad 5), .ref (ad 6), .int mcn, .ref (ad 7), .ref (ad 8), .ref (ad 9), .ref (ad 10), .ref (ad 11), .ref (ad 12), .int msz, .ref (ad 13), .int mwc, .int mhf, .ref (ad 14), .ref (ad 15), .ref (ad 16), .ref (ad 17), .ref (ad 18)])), (ad 2, .inl (cI, 24, .inl mho)), (ad 3, .inl (cI, 24, .inl mki)), (ad 4, .inl (cJ, 24, .inr (.inl mgr))), (ad 6, .inl (cI, 24, .inl min_)), (ad 7, .inl (cI, 20, .inl mcp)), (ad 8, .inl (cJ, 20, .inr (.inl mcd))), (ad 9, .inl (cI, 20, .inl mck)), (ad 10, .inl (cJ, 20, .inr (.inl mcg))), (ad 16, .inl (cJ, 8, .inr (.inl y7.1))), (ad 17, .inl (cJ, 8, .inr (.inl y7.2.1))), (ad 18, .inl (cJ, 8, .inr (.inl y7.2.2)))] H := hP
        have hD : va_D A [(ad 1, .inl (cI, 8, .inl mver)), (ad 0, .inr (5, [.int mgc, .ref (ad 1), .int mpn, .ref (ad 2), .ref (ad 3), .ref (ad 4), .ref (ad 5), .ref (ad 6), .int mcn, .ref (ad 7), .ref (ad 8), .ref (ad 9), .ref (ad 10), .ref (ad 11), .ref (ad 12), .int msz, .ref (ad 13), .int mwc, .int mhf, .ref (ad 14), .ref (ad 15), .ref (ad 16), .ref (ad 17), .ref (ad 18)])), (ad 2, .inl (cI, 24, .inl mho)), (ad 3, .inl (cI, 24, .inl mki)), (ad 4, .inl (cJ, 24, .inr (.inl mgr))), (ad 6, .inl (cI, 24, .inl min_)), (ad 7, .inl (cI, 20, .inl mcp)), (ad 8, .inl (cJ, 20, .inr (.inl mcd))), (ad 9, .inl (cI, 20, .inl mck)), (ad 10, .inl (cJ, 20, .inr (.inl mcg))), (ad 16, .inl (cJ, 8, .inr (.inl y7.1))), (ad 17, .inl (cJ, 8, .inr (.inl y7.2.1))), (ad 18, .inl (cJ, 8, .inr (.inl y7.2.2)))] := hD
        refine lv_lload hx hb zd_Mo_mark_44 (lv_at hl 4 rfl) ?_
        refine lv_aload_n hx hb zd_Mo_mark_46 rfl (lv_at hl 0 rfl) ?_
        refine va_get (D := (dC, dI)) (ci := 5) (v := .ref (ad 17)) (C := zR_Mo) (T := zT_Mo) (N := 24) hx hb hts (fun w h => hsub w (zi_Mo w h)) hown hK hP 1 rfl rfl 22 (by decide) (hw _ zq_465) (fun _ h9 => h9) rfl zd_Mo_mark_47 ?_
        refine lv_iload_n hx hb zd_Mo_mark_50 rfl (lv_at hl 1 rfl) ?_
        obtain ⟨h_8, hf⟩ := mp_in hf
        refine va_lald hx hb hK hP 11 1 rfl rfl (i := v1) h_8 zd_Mo_mark_51 ?_
        refine lv_ladd hx hb zd_Mo_mark_52 ?_
        refine lv_lconst (v := 1) hx hb zd_Mo_mark_53 (by decide) ?_
        refine lv_ladd hx hb zd_Mo_mark_54 ?_
        refine lv_ldc2 (v := 6364136223846793005) hx hb hown (hw _ zq_670) zd_Mo_mark_55 ?_
        refine lv_lmul hx hb zd_Mo_mark_58 ?_
        refine lv_lstore (lv' := [(5, .long (((v5 + (y7.2.1 v1.toNatClampNeg)) + (1 : Int64)) * (6364136223846793005 : Int64))), (0, .ref (ad 0)), (1, .int v1), (2, .long v2), (4, .int v4), (7, .int v7)]) hx hb zd_Mo_mark_59 hl (by decide) rfl (fun ls hl => ?_)
        refine lv_lload hx hb zd_Mo_mark_61 (lv_at hl 0 rfl) ?_
        refine lv_lload hx hb zd_Mo_mark_63 (lv_at hl 0 rfl) ?_
        refine lv_bipush (v := 32) hx hb zd_Mo_mark_65 (by decide) ?_
        refine lv_lushr hx hb zd_Mo_mark_67 rfl ?_
        refine lv_lxor hx hb zd_Mo_mark_68 ?_
        refine lv_lstore (lv' := [(5, .long ((((v5 + (y7.2.1 v1.toNatClampNeg)) + (1 : Int64)) * (6364136223846793005 : Int64)) ^^^ ((((v5 + (y7.2.1 v1.toNatClampNeg)) + (1 : Int64)) * (6364136223846793005 : Int64)).toUInt64 >>> ((32 : Int32).toInt64.toUInt64 &&& Int64.toUInt64 63)).toInt64)), (0, .ref (ad 0)), (1, .int v1), (2, .long v2), (4, .int v4), (7, .int v7)]) hx hb zd_Mo_mark_69 hl (by decide) rfl (fun ls hl => ?_)
        refine lv_iinc (v := (v7 + (1 : Int32))) (lv' := [(7, .int (v7 + (1 : Int32))), (5, .long ((((v5 + (y7.2.1 v1.toNatClampNeg)) + (1 : Int64)) * (6364136223846793005 : Int64)) ^^^ ((((v5 + (y7.2.1 v1.toNatClampNeg)) + (1 : Int64)) * (6364136223846793005 : Int64)).toUInt64 >>> ((32 : Int32).toInt64.toUInt64 &&& Int64.toUInt64 63)).toInt64)), (0, .ref (ad 0)), (1, .int v1), (2, .long v2), (4, .int v4)]) hx hb zd_Mo_mark_71 hl (k := 5) rfl rfl (by decide) rfl (fun ls hl => ?_)
        refine lv_goto (tgt := 29) hx hb zd_Mo_mark_74 (by decide) ?_
        exact ih ((((v5 + (y7.2.1 v1.toNatClampNeg)) + (1 : Int64)) * (6364136223846793005 : Int64)) ^^^ ((((v5 + (y7.2.1 v1.toNatClampNeg)) + (1 : Int64)) * (6364136223846793005 : Int64)).toUInt64 >>> ((32 : Int32).toInt64.toUInt64 &&& Int64.toUInt64 63)).toInt64) (v7 + (1 : Int32)) y7.1 y7.2.1 y7.2.2 _ _ _ hf (hP.sub [1, 0, 2, 3, 4, 5, 6, 7, 8, 9, 10, 11, 12] rfl) (hD.sub [1, 0, 2, 3, 4, 5, 6, 7, 8, 9, 10, 11, 12] (by decide) rfl) hS (lv_sub hl [2, 3, 4, 5, 1, 0] rfl)
  have hl := lv_entry ([.ref (ad 0), .int u1, .long u2, .int u4]) (n := 8) (Nat.le_of_ble_eq_true rfl)
  rw [lg_entry_eq]
  generalize (lg_sl ([.ref (ad 0), .int u1, .long u2, .int u4]) ++ List.replicate (8 - (lg_sl ([.ref (ad 0), .int u1, .long u2, .int u4])).length) Slot.unset).toArray = ls at hl ⊢
  have hl : lv_has ls 8 [(0, .ref (ad 0)), (1, .int u1), (2, .long u2), (4, .int u4)] := hl
  unfold zf_Mo_mark at hf
  refine lv_aload_n hx hb zd_Mo_mark_0 rfl (lv_at hl 0 rfl) ?_
  refine lv_iload_n hx hb zd_Mo_mark_1 rfl (lv_at hl 1 rfl) ?_
  obtain ⟨y1, hg1, hf⟩ := mp_bd hf
  refine mp_Rz (va_runV (As := [.int u1]) (rest := []) ⟨hx, hb, hml, hown, hts⟩ (zc_Mo_isGood l dC dI cI cJ cZ ad mgc mpn mcn msz mwc mhf u1 y1 hg1) (cwV 1 hts (mp_gV hsub zq_524 zq_526 zq_9 zq_30 zq_527) rfl rfl rfl (by decide +kernel) ⟨Nat.le_of_ble_eq_true rfl, Nat.le_of_ble_eq_true rfl⟩) ⟨mp_blR, va_recv hK hP (ci := 5) (q0 := 0) rfl rfl, mp_preR hN hK (hP.sub [0] rfl)⟩ rfl rfl hl.1 rfl (lv_room (Nat.le_of_ble_eq_true rfl)) zd_Mo_mark_2 ⟨Nat.zero_le _, Nat.zero_le _⟩) (fun hz1 => ?_)
  refine lv_if_eq (tgt := 21) hx hb zd_Mo_mark_5 (by decide) (fun c_2 => ?_) (fun c_2 => ?_)
  · have hf := mp_t c_2 hf
    refine lv_iconst (v := -1) hx hb zd_Mo_mark_21 (by decide) ?_
    have hf := Option.some.inj hf
    subst hf
    exact W.iret (v := (-1 : Int32)) hx hb hr (fun t ht hW => ⟨⟨(-1 : Int32), (), rfl, rfl, by rw [ht]; exact hP, hD⟩, hS.F ht⟩) hS.2.2 zd_Mo_mark_22
  · have hf := mp_f c_2 hf
    refine lv_iload hx hb zd_Mo_mark_8 (lv_at hl 3 rfl) ?_
    refine lv_i2l hx hb zd_Mo_mark_10 rfl ?_
    refine lv_lconst (v := 0) hx hb zd_Mo_mark_11 (by decide) ?_
    refine lv_ldc2 (v := 7) hx hb hown (hw _ zq_599) zd_Mo_mark_12 ?_
    obtain ⟨y3, hg3, hf⟩ := mp_bd hf
    refine mp_Rz (va_runS (As := [.long u4.toInt64, .long (0 : Int64), .long (7 : Int64)]) (rest := []) ⟨hx, hb, hml, hown, hts⟩ (zc_Mo_isIn l dC dI cI cJ cZ ad u4.toInt64 (0 : Int64) (7 : Int64) y3 hg3) (va_cwS 3 hts (mp_gS hsub zq_532 zq_533 zq_30 zq_534) rfl rfl rfl (by decide +kernel) ⟨Nat.le_of_ble_eq_true rfl, Nat.le_of_ble_eq_true rfl⟩) ⟨mp_blR, mp_preR hN hK (hP.sub [] rfl)⟩ rfl rfl hl.1 rfl (lv_room (Nat.le_of_ble_eq_true rfl)) zd_Mo_mark_15 ⟨Nat.zero_le _, Nat.zero_le _⟩) (fun hz3 => ?_)
    refine lv_if_ne (tgt := 23) hx hb zd_Mo_mark_18 (by decide) (fun c_4 => ?_) (fun c_4 => ?_)
    · have hf := mp_f c_4 hf
      refine lv_lload_n hx hb zd_Mo_mark_23 rfl (lv_at hl 2 rfl) ?_
      refine lv_lstore (lv' := [(5, .long u2), (0, .ref (ad 0)), (1, .int u1), (2, .long u2), (4, .int u4)]) hx hb zd_Mo_mark_24 hl (by decide) rfl (fun ls hl => ?_)
      refine lv_iconst (v := 0) hx hb zd_Mo_mark_26 (by decide) ?_
      refine lv_istore (lv' := [(7, .int (0 : Int32)), (5, .long u2), (0, .ref (ad 0)), (1, .int u1), (2, .long u2), (4, .int u4)]) hx hb zd_Mo_mark_27 hl (by decide) rfl (fun ls hl => ?_)
      exact loop29 u1 u2 u4 2000 u2 (0 : Int32) mow msu mne _ _ _ hf hP hD hS (lv_sub hl [2, 3, 4, 5, 1, 0] rfl)
    · have hf := mp_t c_4 hf
      refine lv_iconst (v := -1) hx hb zd_Mo_mark_21 (by decide) ?_
      have hf := Option.some.inj hf
      subst hf
      exact W.iret (v := (-1 : Int32)) hx hb hr (fun t ht hW => ⟨⟨(-1 : Int32), (), rfl, rfl, by rw [ht]; exact hP, hD⟩, hS.F ht⟩) hS.2.2 zd_Mo_mark_22
set_option maxHeartbeats 4000000 in
set_option maxRecDepth 100000 in
theorem zc_Mo_allOf (l : Launch) (dC : Nat → ClassId) (dI : Nat → Nat → Nat) (cI cJ cZ : ClassId) (ad : Nat → Nat) (mgc : Int32) (mpn : Int32) (mcn : Int32) (msz : Int32) (mwc : Int32) (mhf : Int32) (mki : Nat → Int32) (mgr : Nat → Int64) (mcp : Nat → Int32) (mcd : Nat → Int64) (mck : Nat → Int32) (mcg : Nat → Int64) (u1 : Int32) (res : Int64) (hf : zf_Mo_allOf u1 mpn mcn mki mgr mcp mcd mck mcg = some res) : Met l zy_Mo_allOf zw_Mo_allOf ({ frames := 2, cells := 0, slots := 0, locals := 50 } : Room) (mp_PR (dC, dI) vwCl (mp_tys cI cJ cZ) [(ad 0, .inr (5, [.int mgc, .ref (ad 1), .int mpn, .ref (ad 2), .ref (ad 3), .ref (ad 4), .ref (ad 5), .ref (ad 6), .int mcn, .ref (ad 7), .ref (ad 8), .ref (ad 9), .ref (ad 10), .ref (ad 11), .ref (ad 12), .int msz, .ref (ad 13), .int mwc, .int mhf, .ref (ad 14), .ref (ad 15), .ref (ad 16), .ref (ad 17), .ref (ad 18)])), (ad 3, .inl (cI, 24, .inl mki)), (ad 4, .inl (cJ, 24, .inr (.inl mgr))), (ad 7, .inl (cI, 20, .inl mcp)), (ad 8, .inl (cJ, 20, .inr (.inl mcd))), (ad 9, .inl (cI, 20, .inl mck)), (ad 10, .inl (cJ, 20, .inr (.inl mcg)))] [.ref (ad 0), .int u1]) (vp_Sl (fun r => r = res)) 0 0 (fun _ => False) := by
  refine Met.ofW (cc := zb_Mo_allOf) (maxL := 5) (ret := (some .long)) (by decide) rfl ?_
  intro p e s m args below meth c s₁ B hml hv
  obtain ⟨rfl, hP, hK, hN⟩ := hv
  have hx := B.exec
  have hb := B.bytes
  have hr := B.returns
  have hts := atoms_spec (ws := zw_Mo_allOf) B.pre
  have hsub : ∀ w ∈ mp_tbl, w ∈ zw_Mo_allOf := fun w h => List.mem_cons_of_mem _ h
  have hw : ∀ w ∈ mp_tbl, w.before _ s = true := fun w h => hts w (hsub w h)
  have hown : s.vm.findClass zR_Mo = some m.cls := findClass_of_methodNamed B.named
  have hlocks := B.notSynchronized
  have loop5 : ∀ (v1 : Int32) (n : Nat) (v2 : Int64) (v4 : Int32) (ls : Array Slot), zf_Mo_allOf_L5 v1 mpn mcn mki mgr mcp mcd mck mcg n v2 v4 = some res → lv_has ls 5 [(0, .ref (ad 0)), (1, .int v1), (2, .long v2), (4, .int v4)] → W p l e (headSpec zw_Mo_allOf ({ frames := 2, cells := 0, slots := 0, locals := 50 } : Room)).room s m ([.ref (ad 0), .int u1] : List Value).toArray below meth c s.heap [] 0 0 (MQ below (vp_Sl (fun r => r = res)) ([.ref (ad 0), .int u1] : List Value).toArray s 0 0 (fun _ => False)) (F0 m 5 ls []) := by
    intro v1 n
    induction n with
    | zero => intro v2 v4 ls hf; simp [zf_Mo_allOf_L5] at hf
    | succ n ih =>
      intro v2 v4 ls hf hl
      rw [zf_Mo_allOf_L5] at hf
      refine lv_iload hx hb zd_Mo_allOf_5 (lv_at hl 3 rfl) ?_
      refine lv_aload_n hx hb zd_Mo_allOf_7 rfl (lv_at hl 0 rfl) ?_
      refine va_get (D := (dC, dI)) (ci := 5) (v := .int mpn) (C := zR_Mo) (T := zT_Mo) (N := 24) hx hb hts (fun w h => hsub w (zi_Mo w h)) hown hK hP 0 rfl rfl 2 (by decide) (hw _ zq_445) (fun _ h9 => h9) rfl zd_Mo_allOf_8 ?_
      refine lv_icmp_ge (tgt := 49) hx hb zd_Mo_allOf_11 (by decide) (fun c_1 => ?_) (fun c_1 => ?_)
      · have hf := mp_t c_1 hf
        refine lv_lload_n hx hb zd_Mo_allOf_49 rfl (lv_at hl 2 rfl) ?_
        have hf := Option.some.inj hf
        subst hf
        exact W.lret (v := v2) hx hb hr (fun t ht hW => ⟨v2, rfl, rfl, ht⟩) (fun q h => by cases h) zd_Mo_allOf_50
      · have hf := mp_f c_1 hf
        refine lv_lload_n hx hb zd_Mo_allOf_14 rfl (lv_at hl 2 rfl) ?_
        refine lv_aload_n hx hb zd_Mo_allOf_15 rfl (lv_at hl 0 rfl) ?_
        refine lv_iload hx hb zd_Mo_allOf_16 (lv_at hl 3 rfl) ?_
        refine lv_ldc2 (v := 100000) hx hb hown (hw _ zq_556) zd_Mo_allOf_18 ?_
        obtain ⟨y2, hg2, hf⟩ := mp_bd hf
        refine mp_Ri (va_runV (As := [.int v4, .long (100000 : Int64)]) (rest := [.long v2]) ⟨hx, hb, hml, hown, hts⟩ (zc_Mo_kindOn l dC dI cI cJ cZ ad mgc mpn mcn msz mwc mhf mki mcp mcd mck v4 (100000 : Int64) y2 hg2) (cwV 2 hts (mp_gV hsub zq_574 zq_576 zq_14 zq_30 zq_577) rfl rfl rfl (by decide +kernel) ⟨Nat.le_of_ble_eq_true rfl, Nat.le_of_ble_eq_true rfl⟩) ⟨mp_blR, va_recv hK hP (ci := 5) (q0 := 0) rfl rfl, mp_preR hN hK (hP.sub [0, 1, 3, 4, 5] rfl)⟩ rfl rfl hl.1 rfl (lv_room (Nat.le_of_ble_eq_true rfl)) zd_Mo_allOf_21 ⟨Nat.zero_le _, Nat.zero_le _⟩) ?_
        refine lv_iload_n hx hb zd_Mo_allOf_24 rfl (lv_at hl 1 rfl) ?_
        refine lv_icmp_ne (tgt := 40) hx hb zd_Mo_allOf_25 (by decide) (fun c_3 => ?_) (fun c_3 => ?_)
        · have hf := mp_f c_3 hf
          refine lv_lconst (v := 0) hx hb zd_Mo_allOf_40 (by decide) ?_
          refine lv_ladd hx hb zd_Mo_allOf_41 ?_
          refine lv_lstore_n (lv' := [(2, .long (v2 + (0 : Int64))), (0, .ref (ad 0)), (1, .int v1), (4, .int v4)]) hx hb zd_Mo_allOf_42 rfl hl (by decide) rfl (fun ls hl => ?_)
          refine lv_iinc (v := (v4 + (1 : Int32))) (lv' := [(4, .int (v4 + (1 : Int32))), (2, .long (v2 + (0 : Int64))), (0, .ref (ad 0)), (1, .int v1)]) hx hb zd_Mo_allOf_43 hl (k := 3) rfl rfl (by decide) rfl (fun ls hl => ?_)
          refine lv_goto (tgt := 5) hx hb zd_Mo_allOf_46 (by decide) ?_
          exact ih (v2 + (0 : Int64)) (v4 + (1 : Int32)) _ hf (lv_sub hl [2, 3, 1, 0] rfl)
        · have hf := mp_t c_3 hf
          refine lv_aload_n hx hb zd_Mo_allOf_28 rfl (lv_at hl 0 rfl) ?_
          refine lv_iload hx hb zd_Mo_allOf_29 (lv_at hl 3 rfl) ?_
          refine lv_ldc2 (v := 100000) hx hb hown (hw _ zq_556) zd_Mo_allOf_31 ?_
          obtain ⟨y4, hg4, hf⟩ := mp_bd hf
          refine mp_Rl (va_runV (As := [.int v4, .long (100000 : Int64)]) (rest := [.long v2]) ⟨hx, hb, hml, hown, hts⟩ (zc_Mo_gramsOn l dC dI cI cJ cZ ad mgc mpn mcn msz mwc mhf mgr mcp mcd mcg v4 (100000 : Int64) y4 hg4) (cwV 2 hts (mp_gV hsub zq_582 zq_584 zq_16 zq_30 zq_585) rfl rfl rfl (by decide +kernel) ⟨Nat.le_of_ble_eq_true rfl, Nat.le_of_ble_eq_true rfl⟩) ⟨mp_blR, va_recv hK hP (ci := 5) (q0 := 0) rfl rfl, mp_preR hN hK (hP.sub [0, 2, 3, 4, 6] rfl)⟩ rfl rfl hl.1 rfl (lv_room (Nat.le_of_ble_eq_true rfl)) zd_Mo_allOf_34 ⟨Nat.zero_le _, Nat.zero_le _⟩) ?_
          refine lv_goto (tgt := 41) hx hb zd_Mo_allOf_37 (by decide) ?_
          refine lv_ladd hx hb zd_Mo_allOf_41 ?_
          refine lv_lstore_n (lv' := [(2, .long (v2 + y4)), (0, .ref (ad 0)), (1, .int v1), (4, .int v4)]) hx hb zd_Mo_allOf_42 rfl hl (by decide) rfl (fun ls hl => ?_)
          refine lv_iinc (v := (v4 + (1 : Int32))) (lv' := [(4, .int (v4 + (1 : Int32))), (2, .long (v2 + y4)), (0, .ref (ad 0)), (1, .int v1)]) hx hb zd_Mo_allOf_43 hl (k := 3) rfl rfl (by decide) rfl (fun ls hl => ?_)
          refine lv_goto (tgt := 5) hx hb zd_Mo_allOf_46 (by decide) ?_
          exact ih (v2 + y4) (v4 + (1 : Int32)) _ hf (lv_sub hl [2, 3, 1, 0] rfl)
  have hl := lv_entry ([.ref (ad 0), .int u1]) (n := 5) (Nat.le_of_ble_eq_true rfl)
  rw [lg_entry_eq]
  generalize (lg_sl ([.ref (ad 0), .int u1]) ++ List.replicate (5 - (lg_sl ([.ref (ad 0), .int u1])).length) Slot.unset).toArray = ls at hl ⊢
  have hl : lv_has ls 5 [(0, .ref (ad 0)), (1, .int u1)] := hl
  unfold zf_Mo_allOf at hf
  refine lv_lconst (v := 0) hx hb zd_Mo_allOf_0 (by decide) ?_
  refine lv_lstore_n (lv' := [(2, .long (0 : Int64)), (0, .ref (ad 0)), (1, .int u1)]) hx hb zd_Mo_allOf_1 rfl hl (by decide) rfl (fun ls hl => ?_)
  refine lv_iconst (v := 0) hx hb zd_Mo_allOf_2 (by decide) ?_
  refine lv_istore (lv' := [(4, .int (0 : Int32)), (2, .long (0 : Int64)), (0, .ref (ad 0)), (1, .int u1)]) hx hb zd_Mo_allOf_3 hl (by decide) rfl (fun ls hl => ?_)
  exact loop5 u1 2000 (0 : Int64) (0 : Int32) _ hf (lv_sub hl [2, 3, 1, 0] rfl)
set_option maxHeartbeats 4000000 in
set_option maxRecDepth 100000 in
theorem zc_Mo_most (l : Launch) (dC : Nat → ClassId) (dI : Nat → Nat → Nat) (cI cJ cZ : ClassId) (ad : Nat → Nat) (mgc : Int32) (mpn : Int32) (mcn : Int32) (msz : Int32) (mwc : Int32) (mhf : Int32) (mki : Nat → Int32) (mgr : Nat → Int64) (mcp : Nat → Int32) (mcd : Nat → Int64) (mck : Nat → Int32) (mcg : Nat → Int64) (u1 : Int32) (res : Int32) (hf : zf_Mo_most u1 mpn mcn mki mgr mcp mcd mck mcg = some res) : Met l zy_Mo_most zw_Mo_most ({ frames := 3, cells := 0, slots := 0, locals := 74 } : Room) (mp_PR (dC, dI) vwCl (mp_tys cI cJ cZ) [(ad 0, .inr (5, [.int mgc, .ref (ad 1), .int mpn, .ref (ad 2), .ref (ad 3), .ref (ad 4), .ref (ad 5), .ref (ad 6), .int mcn, .ref (ad 7), .ref (ad 8), .ref (ad 9), .ref (ad 10), .ref (ad 11), .ref (ad 12), .int msz, .ref (ad 13), .int mwc, .int mhf, .ref (ad 14), .ref (ad 15), .ref (ad 16), .ref (ad 17), .ref (ad 18)])), (ad 3, .inl (cI, 24, .inl mki)), (ad 4, .inl (cJ, 24, .inr (.inl mgr))), (ad 7, .inl (cI, 20, .inl mcp)), (ad 8, .inl (cJ, 20, .inr (.inl mcd))), (ad 9, .inl (cI, 20, .inl mck)), (ad 10, .inl (cJ, 20, .inr (.inl mcg)))] [.ref (ad 0), .int u1]) (vp_Si (fun r => r = res)) 0 0 (fun _ => False) := by
  refine Met.ofW (cc := zb_Mo_most) (maxL := 9) (ret := (some .int)) (by decide) rfl ?_
  intro p e s m args below meth c s₁ B hml hv
  obtain ⟨rfl, hP, hK, hN⟩ := hv
  have hx := B.exec
  have hb := B.bytes
  have hr := B.returns
  have hts := atoms_spec (ws := zw_Mo_most) B.pre
  have hsub : ∀ w ∈ mp_tbl, w ∈ zw_Mo_most := fun w h => List.mem_cons_of_mem _ h
  have hw : ∀ w ∈ mp_tbl, w.before _ s = true := fun w h => hts w (hsub w h)
  have hown : s.vm.findClass zR_Mo = some m.cls := findClass_of_methodNamed B.named
  have hlocks := B.notSynchronized
  have loop19 : ∀ (v1 : Int32) (v2 : Int32) (v3 : Int64) (K2 : Int32 → Option (Int32)) (hk2 : ∀ (v2 : Int32) (ls : Array Slot), K2 v2 = some res → lv_has ls 9 [(0, .ref (ad 0)), (1, .int v1), (2, .int v2)] → W p l e (headSpec zw_Mo_most ({ frames := 3, cells := 0, slots := 0, locals := 74 } : Room)).room s m ([.ref (ad 0), .int u1] : List Value).toArray below meth c s.heap [] 0 0 (MQ below (vp_Si (fun r => r = res)) ([.ref (ad 0), .int u1] : List Value).toArray s 0 0 (fun _ => False)) (F0 m 2 ls [])) (n : Nat) (v5 : Int32) (v6 : Int32) (ls : Array Slot), zf_Mo_most_L19 v1 v2 v3 mpn mcn mki mgr mcp mcd mck mcg K2 n v5 v6 = some res → lv_has ls 9 [(0, .ref (ad 0)), (1, .int v1), (2, .int v2), (3, .long v3), (5, .int v5), (6, .int v6)] → W p l e (headSpec zw_Mo_most ({ frames := 3, cells := 0, slots := 0, locals := 74 } : Room)).room s m ([.ref (ad 0), .int u1] : List Value).toArray below meth c s.heap [] 0 0 (MQ below (vp_Si (fun r => r = res)) ([.ref (ad 0), .int u1] : List Value).toArray s 0 0 (fun _ => False)) (F0 m 19 ls []) := by
    intro v1 v2 v3 K2 hk2 n
    induction n with
    | zero => intro v5 v6 ls hf; simp [zf_Mo_most_L19] at hf
    | succ n ih =>
      intro v5 v6 ls hf hl
      rw [zf_Mo_most_L19] at hf
      refine lv_iload hx hb zd_Mo_most_19 (lv_at hl 5 rfl) ?_
      refine lv_iconst (v := 5) hx hb zd_Mo_most_21 (by decide) ?_
      refine lv_icmp_ge (tgt := 69) hx hb zd_Mo_most_22 (by decide) (fun c_3 => ?_) (fun c_3 => ?_)
      · have hf := mp_t c_3 hf
        refine lv_lload_n hx hb zd_Mo_most_69 rfl (lv_at hl 3 rfl) ?_
        refine lv_lconst (v := 0) hx hb zd_Mo_most_70 (by decide) ?_
        refine W.lcmp hx hb zd_Mo_most_71 ?_
        refine lv_if_le (tgt := 83) hx hb zd_Mo_most_72 (by decide) (fun c_4 => ?_) (fun c_4 => ?_)
        · have c_4 := (lg_cmp_le _ _).mp c_4
          have hf := mp_t c_4 hf
          refine lv_iinc (v := (v2 + (1 : Int32))) (lv' := [(2, .int (v2 + (1 : Int32))), (0, .ref (ad 0)), (1, .int v1), (3, .long v3), (5, .int v5), (6, .int v6)]) hx hb zd_Mo_most_83 hl (k := 2) rfl rfl (by decide) rfl (fun ls hl => ?_)
          refine lv_goto (tgt := 2) hx hb zd_Mo_most_86 (by decide) ?_
          exact hk2 (v2 + (1 : Int32)) _ hf (lv_sub hl [1, 2, 0] rfl)
        · have c_4 := fun h9 => c_4 ((lg_cmp_le _ _).mpr h9)
          have hf := mp_f c_4 hf
          refine lv_iload hx hb zd_Mo_most_75 (lv_at hl 4 rfl) ?_
          refine lv_iload_n hx hb zd_Mo_most_77 rfl (lv_at hl 1 rfl) ?_
          refine lv_icmp_ne (tgt := 83) hx hb zd_Mo_most_78 (by decide) (fun c_5 => ?_) (fun c_5 => ?_)
          · have hf := mp_f c_5 hf
            refine lv_iinc (v := (v2 + (1 : Int32))) (lv' := [(2, .int (v2 + (1 : Int32))), (0, .ref (ad 0)), (1, .int v1), (3, .long v3), (5, .int v5), (6, .int v6)]) hx hb zd_Mo_most_83 hl (k := 2) rfl rfl (by decide) rfl (fun ls hl => ?_)
            refine lv_goto (tgt := 2) hx hb zd_Mo_most_86 (by decide) ?_
            exact hk2 (v2 + (1 : Int32)) _ hf (lv_sub hl [1, 2, 0] rfl)
          · have hf := mp_t c_5 hf
            refine lv_iload_n hx hb zd_Mo_most_81 rfl (lv_at hl 2 rfl) ?_
            have hf := Option.some.inj hf
            subst hf
            exact W.iret (v := v2) hx hb hr (fun t ht hW => ⟨v2, rfl, rfl, ht⟩) (fun q h => by cases h) zd_Mo_most_82
      · have hf := mp_f c_3 hf
        refine lv_aload_n hx hb zd_Mo_most_25 rfl (lv_at hl 0 rfl) ?_
        refine lv_iload hx hb zd_Mo_most_26 (lv_at hl 5 rfl) ?_
        obtain ⟨y6, hg6, hf⟩ := mp_bd hf
        refine mp_Rl (va_runV (As := [.int v6]) (rest := []) ⟨hx, hb, hml, hown, hts⟩ (zc_Mo_allOf l dC dI cI cJ cZ ad mgc mpn mcn msz mwc mhf mki mgr mcp mcd mck mcg v6 y6 hg6) (cwV 1 hts (mp_gV hsub zq_675 zq_677 zq_23 zq_30 zq_678) rfl rfl rfl (by decide +kernel) ⟨Nat.le_of_ble_eq_true rfl, Nat.le_of_ble_eq_true rfl⟩) ⟨mp_blR, va_recv hK hP (ci := 5) (q0 := 0) rfl rfl, mp_preR hN hK (hP.sub [0, 1, 2, 3, 4, 5, 6] rfl)⟩ rfl rfl hl.1 rfl (lv_room (Nat.le_of_ble_eq_true rfl)) zd_Mo_most_28 ⟨Nat.zero_le _, Nat.zero_le _⟩) ?_
        refine lv_lstore (lv' := [(7, .long y6), (0, .ref (ad 0)), (1, .int v1), (2, .int v2), (3, .long v3), (5, .int v5), (6, .int v6)]) hx hb zd_Mo_most_31 hl (by decide) rfl (fun ls hl => ?_)
        refine lv_iload hx hb zd_Mo_most_33 (lv_at hl 5 rfl) ?_
        refine lv_lload hx hb zd_Mo_most_35 (lv_at hl 0 rfl) ?_
        refine lv_lload_n hx hb zd_Mo_most_37 rfl (lv_at hl 4 rfl) ?_
        refine W.lcmp hx hb zd_Mo_most_38 ?_
        refine lv_if_gt (tgt := 55) hx hb zd_Mo_most_39 (by decide) (fun c_7 => ?_) (fun c_7 => ?_)
        · have c_7 := (lg_cmp_gt _ _).mp c_7
          have hf := mp_t c_7 hf
          refine lv_iconst (v := 1) hx hb zd_Mo_most_55 (by decide) ?_
          refine lv_goto (tgt := 60) hx hb zd_Mo_most_56 (by decide) ?_
          refine lv_iadd hx hb zd_Mo_most_60 ?_
          refine lv_istore (lv' := [(5, .int (v5 + (1 : Int32))), (7, .long y6), (0, .ref (ad 0)), (1, .int v1), (2, .int v2), (3, .long v3), (6, .int v6)]) hx hb zd_Mo_most_61 hl (by decide) rfl (fun ls hl => ?_)
          refine lv_iinc (v := (v6 + (1 : Int32))) (lv' := [(6, .int (v6 + (1 : Int32))), (5, .int (v5 + (1 : Int32))), (7, .long y6), (0, .ref (ad 0)), (1, .int v1), (2, .int v2), (3, .long v3)]) hx hb zd_Mo_most_63 hl (k := 6) rfl rfl (by decide) rfl (fun ls hl => ?_)
          refine lv_goto (tgt := 19) hx hb zd_Mo_most_66 (by decide) ?_
          exact ih (v5 + (1 : Int32)) (v6 + (1 : Int32)) _ hf (lv_sub hl [3, 4, 5, 6, 1, 0] rfl)
        · have c_7 := fun h9 => c_7 ((lg_cmp_gt _ _).mpr h9)
          have hf := mp_f c_7 hf
          refine lv_lload hx hb zd_Mo_most_42 (lv_at hl 0 rfl) ?_
          refine lv_lload_n hx hb zd_Mo_most_44 rfl (lv_at hl 4 rfl) ?_
          refine W.lcmp hx hb zd_Mo_most_45 ?_
          refine lv_if_ne (tgt := 59) hx hb zd_Mo_most_46 (by decide) (fun c_8 => ?_) (fun c_8 => ?_)
          · have c_8 := fun h9 => c_8 ((lg_cmp_eq _ _).mpr h9)
            have hf := mp_f c_8 hf
            refine lv_iconst (v := 0) hx hb zd_Mo_most_59 (by decide) ?_
            refine lv_iadd hx hb zd_Mo_most_60 ?_
            refine lv_istore (lv' := [(5, .int (v5 + (0 : Int32))), (7, .long y6), (0, .ref (ad 0)), (1, .int v1), (2, .int v2), (3, .long v3), (6, .int v6)]) hx hb zd_Mo_most_61 hl (by decide) rfl (fun ls hl => ?_)
            refine lv_iinc (v := (v6 + (1 : Int32))) (lv' := [(6, .int (v6 + (1 : Int32))), (5, .int (v5 + (0 : Int32))), (7, .long y6), (0, .ref (ad 0)), (1, .int v1), (2, .int v2), (3, .long v3)]) hx hb zd_Mo_most_63 hl (k := 6) rfl rfl (by decide) rfl (fun ls hl => ?_)
            refine lv_goto (tgt := 19) hx hb zd_Mo_most_66 (by decide) ?_
            exact ih (v5 + (0 : Int32)) (v6 + (1 : Int32)) _ hf (lv_sub hl [3, 4, 5, 6, 1, 0] rfl)
          · have c_8 := (lg_cmp_eq _ _).mp c_8
            have hf := mp_t c_8 hf
            refine lv_iload hx hb zd_Mo_most_49 (lv_at hl 6 rfl) ?_
            refine lv_iload_n hx hb zd_Mo_most_51 rfl (lv_at hl 3 rfl) ?_
            refine lv_icmp_ge (tgt := 59) hx hb zd_Mo_most_52 (by decide) (fun c_9 => ?_) (fun c_9 => ?_)
            · have hf := mp_t c_9 hf
              refine lv_iconst (v := 0) hx hb zd_Mo_most_59 (by decide) ?_
              refine lv_iadd hx hb zd_Mo_most_60 ?_
              refine lv_istore (lv' := [(5, .int (v5 + (0 : Int32))), (7, .long y6), (0, .ref (ad 0)), (1, .int v1), (2, .int v2), (3, .long v3), (6, .int v6)]) hx hb zd_Mo_most_61 hl (by decide) rfl (fun ls hl => ?_)
              refine lv_iinc (v := (v6 + (1 : Int32))) (lv' := [(6, .int (v6 + (1 : Int32))), (5, .int (v5 + (0 : Int32))), (7, .long y6), (0, .ref (ad 0)), (1, .int v1), (2, .int v2), (3, .long v3)]) hx hb zd_Mo_most_63 hl (k := 6) rfl rfl (by decide) rfl (fun ls hl => ?_)
              refine lv_goto (tgt := 19) hx hb zd_Mo_most_66 (by decide) ?_
              exact ih (v5 + (0 : Int32)) (v6 + (1 : Int32)) _ hf (lv_sub hl [3, 4, 5, 6, 1, 0] rfl)
            · have hf := mp_f c_9 hf
              refine lv_iconst (v := 1) hx hb zd_Mo_most_55 (by decide) ?_
              refine lv_goto (tgt := 60) hx hb zd_Mo_most_56 (by decide) ?_
              refine lv_iadd hx hb zd_Mo_most_60 ?_
              refine lv_istore (lv' := [(5, .int (v5 + (1 : Int32))), (7, .long y6), (0, .ref (ad 0)), (1, .int v1), (2, .int v2), (3, .long v3), (6, .int v6)]) hx hb zd_Mo_most_61 hl (by decide) rfl (fun ls hl => ?_)
              refine lv_iinc (v := (v6 + (1 : Int32))) (lv' := [(6, .int (v6 + (1 : Int32))), (5, .int (v5 + (1 : Int32))), (7, .long y6), (0, .ref (ad 0)), (1, .int v1), (2, .int v2), (3, .long v3)]) hx hb zd_Mo_most_63 hl (k := 6) rfl rfl (by decide) rfl (fun ls hl => ?_)
              refine lv_goto (tgt := 19) hx hb zd_Mo_most_66 (by decide) ?_
              exact ih (v5 + (1 : Int32)) (v6 + (1 : Int32)) _ hf (lv_sub hl [3, 4, 5, 6, 1, 0] rfl)
  have loop2 : ∀ (v1 : Int32) (n : Nat) (v2 : Int32) (ls : Array Slot), zf_Mo_most_L2 v1 mpn mcn mki mgr mcp mcd mck mcg n v2 = some res → lv_has ls 9 [(0, .ref (ad 0)), (1, .int v1), (2, .int v2)] → W p l e (headSpec zw_Mo_most ({ frames := 3, cells := 0, slots := 0, locals := 74 } : Room)).room s m ([.ref (ad 0), .int u1] : List Value).toArray below meth c s.heap [] 0 0 (MQ below (vp_Si (fun r => r = res)) ([.ref (ad 0), .int u1] : List Value).toArray s 0 0 (fun _ => False)) (F0 m 2 ls []) := by
    intro v1 n
    induction n with
    | zero => intro v2 ls hf; simp [zf_Mo_most_L2] at hf
    | succ n ih =>
      intro v2 ls hf hl
      rw [zf_Mo_most_L2] at hf
      refine lv_iload_n hx hb zd_Mo_most_2 rfl (lv_at hl 2 rfl) ?_
      refine lv_iconst (v := 5) hx hb zd_Mo_most_3 (by decide) ?_
      refine lv_icmp_ge (tgt := 89) hx hb zd_Mo_most_4 (by decide) (fun c_1 => ?_) (fun c_1 => ?_)
      · have hf := mp_t c_1 hf
        refine lv_iconst (v := -1) hx hb zd_Mo_most_89 (by decide) ?_
        have hf := Option.some.inj hf
        subst hf
        exact W.iret (v := (-1 : Int32)) hx hb hr (fun t ht hW => ⟨(-1 : Int32), rfl, rfl, ht⟩) (fun q h => by cases h) zd_Mo_most_90
      · have hf := mp_f c_1 hf
        refine lv_aload_n hx hb zd_Mo_most_7 rfl (lv_at hl 0 rfl) ?_
        refine lv_iload_n hx hb zd_Mo_most_8 rfl (lv_at hl 2 rfl) ?_
        obtain ⟨y2, hg2, hf⟩ := mp_bd hf
        refine mp_Rl (va_runV (As := [.int v2]) (rest := []) ⟨hx, hb, hml, hown, hts⟩ (zc_Mo_allOf l dC dI cI cJ cZ ad mgc mpn mcn msz mwc mhf mki mgr mcp mcd mck mcg v2 y2 hg2) (cwV 1 hts (mp_gV hsub zq_675 zq_677 zq_23 zq_30 zq_678) rfl rfl rfl (by decide +kernel) ⟨Nat.le_of_ble_eq_true rfl, Nat.le_of_ble_eq_true rfl⟩) ⟨mp_blR, va_recv hK hP (ci := 5) (q0 := 0) rfl rfl, mp_preR hN hK (hP.sub [0, 1, 2, 3, 4, 5, 6] rfl)⟩ rfl rfl hl.1 rfl (lv_room (Nat.le_of_ble_eq_true rfl)) zd_Mo_most_9 ⟨Nat.zero_le _, Nat.zero_le _⟩) ?_
        refine lv_lstore_n (lv' := [(3, .long y2), (0, .ref (ad 0)), (1, .int v1), (2, .int v2)]) hx hb zd_Mo_most_12 rfl hl (by decide) rfl (fun ls hl => ?_)
        refine lv_iconst (v := 0) hx hb zd_Mo_most_13 (by decide) ?_
        refine lv_istore (lv' := [(5, .int (0 : Int32)), (3, .long y2), (0, .ref (ad 0)), (1, .int v1), (2, .int v2)]) hx hb zd_Mo_most_14 hl (by decide) rfl (fun ls hl => ?_)
        refine lv_iconst (v := 0) hx hb zd_Mo_most_16 (by decide) ?_
        refine lv_istore (lv' := [(6, .int (0 : Int32)), (5, .int (0 : Int32)), (3, .long y2), (0, .ref (ad 0)), (1, .int v1), (2, .int v2)]) hx hb zd_Mo_most_17 hl (by decide) rfl (fun ls hl => ?_)
        exact loop19 v1 v2 y2 (fun uv2 => zf_Mo_most_L2 v1 mpn mcn mki mgr mcp mcd mck mcg n uv2) ih 2000 (0 : Int32) (0 : Int32) _ hf (lv_sub hl [3, 4, 5, 2, 1, 0] rfl)
  have hl := lv_entry ([.ref (ad 0), .int u1]) (n := 9) (Nat.le_of_ble_eq_true rfl)
  rw [lg_entry_eq]
  generalize (lg_sl ([.ref (ad 0), .int u1]) ++ List.replicate (9 - (lg_sl ([.ref (ad 0), .int u1])).length) Slot.unset).toArray = ls at hl ⊢
  have hl : lv_has ls 9 [(0, .ref (ad 0)), (1, .int u1)] := hl
  unfold zf_Mo_most at hf
  refine lv_iconst (v := 0) hx hb zd_Mo_most_0 (by decide) ?_
  refine lv_istore_n (lv' := [(2, .int (0 : Int32)), (0, .ref (ad 0)), (1, .int u1)]) hx hb zd_Mo_most_1 rfl hl (by decide) rfl (fun ls hl => ?_)
  exact loop2 u1 2000 (0 : Int32) _ hf (lv_sub hl [1, 2, 0] rfl)
