set_option maxHeartbeats 4000000 in
set_option maxRecDepth 100000 in
theorem zc_Mo_score (l : Launch) (dC : Nat → ClassId) (dI : Nat → Nat → Nat) (cI cJ cZ : ClassId) (ad : Nat → Nat) (sz : Nat) (mgc : Int32) (mpn : Int32) (mcn : Int32) (msz : Int32) (mwc : Int32) (mhf : Int32) (mtx : Nat → Int32) (mwo : Nat → Int32) (mnw : Nat → Int32) (res : Int32 × Int32 × Int32 × Int32 × (Nat → Int32) × (Nat → Int32)) (hf : zf_Mo_score msz mwc mhf mtx mwo mnw = some res) : Met l zy_Mo_score zw_Mo_score ({ frames := 2, cells := 0, slots := 0, locals := 49 } : Room) (mp_PM (dC, dI) vwCl (mp_tys cI cJ cZ) [(ad 0, .inr (5, [.int mgc, .ref (ad 1), .int mpn, .ref (ad 2), .ref (ad 3), .ref (ad 4), .ref (ad 5), .ref (ad 6), .int mcn, .ref (ad 7), .ref (ad 8), .ref (ad 9), .ref (ad 10), .ref (ad 11), .ref (ad 12), .int msz, .ref (ad 13), .int mwc, .int mhf, .ref (ad 14), .ref (ad 15), .ref (ad 16), .ref (ad 17), .ref (ad 18)])), (ad 12, .inl (cI, 300, .inl mtx)), (ad 13, .inl (cI, 150, .inl mwo)), (ad 14, .inl (cI, 150, .inl mnw))] sz [.ref (ad 0)]) (va_Qi (fun r (_ : Unit) => r = res.1) (mp_BM (dC, dI) vwCl [(ad 0, .inr (5, [.int mgc, .ref (ad 1), .int mpn, .ref (ad 2), .ref (ad 3), .ref (ad 4), .ref (ad 5), .ref (ad 6), .int mcn, .ref (ad 7), .ref (ad 8), .ref (ad 9), .ref (ad 10), .ref (ad 11), .ref (ad 12), .int res.2.1, .ref (ad 13), .int res.2.2.1, .int res.2.2.2.1, .ref (ad 14), .ref (ad 15), .ref (ad 16), .ref (ad 17), .ref (ad 18)])), (ad 12, .inl (cI, 300, .inl mtx)), (ad 13, .inl (cI, 150, .inl res.2.2.2.2.1)), (ad 14, .inl (cI, 150, .inl res.2.2.2.2.2))] (va_A [(ad 0, .inr (5, [.int mgc, .ref (ad 1), .int mpn, .ref (ad 2), .ref (ad 3), .ref (ad 4), .ref (ad 5), .ref (ad 6), .int mcn, .ref (ad 7), .ref (ad 8), .ref (ad 9), .ref (ad 10), .ref (ad 11), .ref (ad 12), .int msz, .ref (ad 13), .int mwc, .int mhf, .ref (ad 14), .ref (ad 15), .ref (ad 16), .ref (ad 17), .ref (ad 18)])), (ad 12, .inl (cI, 300, .inl mtx)), (ad 13, .inl (cI, 150, .inl mwo)), (ad 14, .inl (cI, 150, .inl mnw))] sz)) (va_A [(ad 0, .inr (5, [.int mgc, .ref (ad 1), .int mpn, .ref (ad 2), .ref (ad 3), .ref (ad 4), .ref (ad 5), .ref (ad 6), .int mcn, .ref (ad 7), .ref (ad 8), .ref (ad 9), .ref (ad 10), .ref (ad 11), .ref (ad 12), .int msz, .ref (ad 13), .int mwc, .int mhf, .ref (ad 14), .ref (ad 15), .ref (ad 16), .ref (ad 17), .ref (ad 18)])), (ad 12, .inl (cI, 300, .inl mtx)), (ad 13, .inl (cI, 150, .inl mwo)), (ad 14, .inl (cI, 150, .inl mnw))] sz)) 0 0 ((va_A [(ad 0, .inr (5, [.int mgc, .ref (ad 1), .int mpn, .ref (ad 2), .ref (ad 3), .ref (ad 4), .ref (ad 5), .ref (ad 6), .int mcn, .ref (ad 7), .ref (ad 8), .ref (ad 9), .ref (ad 10), .ref (ad 11), .ref (ad 12), .int msz, .ref (ad 13), .int mwc, .int mhf, .ref (ad 14), .ref (ad 15), .ref (ad 16), .ref (ad 17), .ref (ad 18)])), (ad 12, .inl (cI, 300, .inl mtx)), (ad 13, .inl (cI, 150, .inl mwo)), (ad 14, .inl (cI, 150, .inl mnw))] sz)) := by
  refine Met.ofW (cc := zb_Mo_score) (maxL := 7) (ret := (some .int)) (by decide) rfl ?_
  intro p e s m args below meth c s₁ B hml hv
  obtain ⟨rfl, hsz, hP, hK, hD0, hN⟩ := hv
  have hx := B.exec
  have hb := B.bytes
  have hr := B.returns
  have hts := atoms_spec (ws := zw_Mo_score) B.pre
  have hsub : ∀ w ∈ mp_tbl, w ∈ zw_Mo_score := fun w h => List.mem_cons_of_mem _ h
  have hw : ∀ w ∈ mp_tbl, w.before _ s = true := fun w h => hts w (hsub w h)
  have hown : s.vm.findClass zR_Mo = some m.cls := findClass_of_methodNamed B.named
  have hlocks := B.notSynchronized
  subst hsz
  have hD := hD0.self (sz := s.heap.size)
  generalize hAe : va_A [(ad 0, .inr (5, [.int mgc, .ref (ad 1), .int mpn, .ref (ad 2), .ref (ad 3), .ref (ad 4), .ref (ad 5), .ref (ad 6), .int mcn, .ref (ad 7), .ref (ad 8), .ref (ad 9), .ref (ad 10), .ref (ad 11), .ref (ad 12), .int msz, .ref (ad 13), .int mwc, .int mhf, .ref (ad 14), .ref (ad 15), .ref (ad 16), .ref (ad 17), .ref (ad 18)])), (ad 12, .inl (cI, 300, .inl mtx)), (ad 13, .inl (cI, 150, .inl mwo)), (ad 14, .inl (cI, 150, .inl mnw))] s.heap.size = A at hD ⊢
  have hA : ∀ q : Nat, s.heap.size ≤ q → A q := fun q h => by rw [← hAe]; exact Or.inr h
  have hS : va_S A s.heap s.heap [] := va_S.rf
  have hP : va_P (dC, dI) vwCl [(ad 0, .inr (5, [.int mgc, .ref (ad 1), .int mpn, .ref (ad 2), .ref (ad 3), .ref (ad 4), .ref (ad 5), .ref (ad 6), .int mcn, .ref (ad 7), .ref (ad 8), .ref (ad 9), .ref (ad 10), .ref (ad 11), .ref (ad 12), .int msz, .ref (ad 13), .int mwc, .int mhf, .ref (ad 14), .ref (ad 15), .ref (ad 16), .ref (ad 17), .ref (ad 18)])), (ad 12, .inl (cI, 300, .inl mtx)), (ad 13, .inl (cI, 150, .inl mwo)), (ad 14, .inl (cI, 150, .inl mnw))] s.heap := hP
  clear hAe hD0
  have loop168 : ∀ (v1 : Int32) (v2 : Int32) (v3 : Int32) (v4 : Int32) (msz : Int32) (mwc : Int32) (mhf : Int32) (mnw : Nat → Int32) (n : Nat) (v5 : Int32) (mwo : Nat → Int32) (H : Heap) (locs : List Loc) (ls : Array Slot), zf_Mo_score_L168 v1 v2 v3 v4 msz mwc mhf mnw mtx n v5 mwo = some res → va_P (dC, dI) vwCl [(ad 0, .inr (5, [.int mgc, .ref (ad 1), .int mpn, .ref (ad 2), .ref (ad 3), .ref (ad 4), .ref (ad 5), .ref (ad 6), .int mcn, .ref (ad 7), .ref (ad 8), .ref (ad 9), .ref (ad 10), .ref (ad 11), .ref (ad 12), .int msz, .ref (ad 13), .int mwc, .int mhf, .ref (ad 14), .ref (ad 15), .ref (ad 16), .ref (ad 17), .ref (ad 18)])), (ad 12, .inl (cI, 300, .inl mtx)), (ad 13, .inl (cI, 150, .inl mwo)), (ad 14, .inl (cI, 150, .inl mnw))] H → va_D A [(ad 0, .inr (5, [.int mgc, .ref (ad 1), .int mpn, .ref (ad 2), .ref (ad 3), .ref (ad 4), .ref (ad 5), .ref (ad 6), .int mcn, .ref (ad 7), .ref (ad 8), .ref (ad 9), .ref (ad 10), .ref (ad 11), .ref (ad 12), .int msz, .ref (ad 13), .int mwc, .int mhf, .ref (ad 14), .ref (ad 15), .ref (ad 16), .ref (ad 17), .ref (ad 18)])), (ad 12, .inl (cI, 300, .inl mtx)), (ad 13, .inl (cI, 150, .inl mwo)), (ad 14, .inl (cI, 150, .inl mnw))] → va_S A s.heap H locs → lv_has ls 7 [(0, .ref (ad 0)), (1, .int v1), (2, .int v2), (3, .int v3), (4, .int v4), (5, .int v5)] → W p l e (headSpec zw_Mo_score ({ frames := 2, cells := 0, slots := 0, locals := 49 } : Room)).room s m ([.ref (ad 0)] : List Value).toArray below meth c H locs 0 0 (MQ below (va_Qi (fun r (_ : Unit) => r = res.1) (mp_BM (dC, dI) vwCl [(ad 0, .inr (5, [.int mgc, .ref (ad 1), .int mpn, .ref (ad 2), .ref (ad 3), .ref (ad 4), .ref (ad 5), .ref (ad 6), .int mcn, .ref (ad 7), .ref (ad 8), .ref (ad 9), .ref (ad 10), .ref (ad 11), .ref (ad 12), .int res.2.1, .ref (ad 13), .int res.2.2.1, .int res.2.2.2.1, .ref (ad 14), .ref (ad 15), .ref (ad 16), .ref (ad 17), .ref (ad 18)])), (ad 12, .inl (cI, 300, .inl mtx)), (ad 13, .inl (cI, 150, .inl res.2.2.2.2.1)), (ad 14, .inl (cI, 150, .inl res.2.2.2.2.2))] A) A) ([.ref (ad 0)] : List Value).toArray s 0 0 (A)) (F0 m 168 ls []) := by
    intro v1 v2 v3 v4 msz mwc mhf mnw n
    induction n with
    | zero => intro v5 mwo H locs ls hf; simp [zf_Mo_score_L168] at hf
    | succ n ih =>
      intro v5 mwo H locs ls hf hP hD hS hl
      rw [zf_Mo_score_L168] at hf
      refine lv_iload hx hb zd_Mo_score_168 (lv_at hl 5 rfl) ?_
      refine lv_iload_n hx hb zd_Mo_score_170 rfl (lv_at hl 1 rfl) ?_
      refine lv_icmp_ge (tgt := 194) hx hb zd_Mo_score_171 (by decide) (fun c_4 => ?_) (fun c_4 => ?_)
      · have hf := mp_t c_4 hf
        refine lv_aload_n hx hb zd_Mo_score_194 rfl (lv_at hl 0 rfl) ?_
        refine lv_iload_n hx hb zd_Mo_score_195 rfl (lv_at hl 1 rfl) ?_
        refine va_put (D := (dC, dI)) (ci := 5) (v := .int v1) (ty := .int) (C := zR_Mo) (T := zT_Mo) (N := 24) hx hb hts (fun w h => hsub w (zi_Mo w h)) zt_Mo zt_Mo_ok zn_Mo hown hK hP hD hS 0 rfl rfl 17 (by decide) (hw _ zq_460) (fun _ h9 => h9) rfl (by decide +kernel) rfl rfl (Nat.le_of_ble_eq_true rfl) zd_Mo_score_196 (fun H locs hP hD hS => ?_)
        have hP : va_P (dC, dI) vwCl [(ad 0, .inr (5, [.int mgc, .ref (ad 1), .int mpn, .ref (ad 2), .ref (ad 3), .ref (ad 4), .ref (ad 5), .ref (ad 6), .int mcn, .ref (ad 7), .ref (ad 8), .ref (ad 9), .ref (ad 10), .ref (ad 11), .ref (ad 12), .int msz, .ref (ad 13), .int v1, .int mhf, .ref (ad 14), .ref (ad 15), .ref (ad 16), .ref (ad 17), .ref (ad 18)])), (ad 12, .inl (cI, 300, .inl mtx)), (ad 13, .inl (cI, 150, .inl mwo)), (ad 14, .inl (cI, 150, .inl mnw))] H := hP
        have hD : va_D A [(ad 0, .inr (5, [.int mgc, .ref (ad 1), .int mpn, .ref (ad 2), .ref (ad 3), .ref (ad 4), .ref (ad 5), .ref (ad 6), .int mcn, .ref (ad 7), .ref (ad 8), .ref (ad 9), .ref (ad 10), .ref (ad 11), .ref (ad 12), .int msz, .ref (ad 13), .int v1, .int mhf, .ref (ad 14), .ref (ad 15), .ref (ad 16), .ref (ad 17), .ref (ad 18)])), (ad 12, .inl (cI, 300, .inl mtx)), (ad 13, .inl (cI, 150, .inl mwo)), (ad 14, .inl (cI, 150, .inl mnw))] := hD
        refine lv_aload_n hx hb zd_Mo_score_199 rfl (lv_at hl 0 rfl) ?_
        refine lv_iconst (v := 1) hx hb zd_Mo_score_200 (by decide) ?_
        refine va_put (D := (dC, dI)) (ci := 5) (v := .int (1 : Int32)) (ty := .boolean) (C := zR_Mo) (T := zT_Mo) (N := 24) hx hb hts (fun w h => hsub w (zi_Mo w h)) zt_Mo zt_Mo_ok zn_Mo hown hK hP hD hS 0 rfl rfl 18 (by decide) (hw _ zq_461) (fun _ h9 => h9) rfl (by decide +kernel) rfl rfl (Nat.le_of_ble_eq_true rfl) zd_Mo_score_201 (fun H locs hP hD hS => ?_)
        have hP : va_P (dC, dI) vwCl [(ad 0, .inr (5, [.int mgc, .ref (ad 1), .int mpn, .ref (ad 2), .ref (ad 3), .ref (ad 4), .ref (ad 5), .ref (ad 6), .int mcn, .ref (ad 7), .ref (ad 8), .ref (ad 9), .ref (ad 10), .ref (ad 11), .ref (ad 12), .int msz, .ref (ad 13), .int v1, .int (1 : Int32), .ref (ad 14), .ref (ad 15), .ref (ad 16), .ref (ad 17), .ref (ad 18)])), (ad 12, .inl (cI, 300, .inl mtx)), (ad 13, .inl (cI, 150, .inl mwo)), (ad 14, .inl (cI, 150, .inl mnw))] H := hP
        have hD : va_D A [(ad 0, .inr (5, [.int mgc, .ref (ad 1), .int mpn, .ref (ad 2), .ref (ad 3), .ref (ad 4), .ref (ad 5), .ref (ad 6), .int mcn, .ref (ad 7), .ref (ad 8), .ref (ad 9), .ref (ad 10), .ref (ad 11), .ref (ad 12), .int msz, .ref (ad 13), .int v1, .int (1 : Int32), .ref (ad 14), .ref (ad 15), .ref (ad 16), .ref (ad 17), .ref (ad 18)])), (ad 12, .inl (cI, 300, .inl mtx)), (ad 13, .inl (cI, 150, .inl mwo)), (ad 14, .inl (cI, 150, .inl mnw))] := hD
        refine lv_iload_n hx hb zd_Mo_score_204 rfl (lv_at hl 1 rfl) ?_
        have hf := Option.some.inj hf
        subst hf
        exact W.iret (v := v1) hx hb hr (fun t ht hW => ⟨⟨v1, (), rfl, rfl, by rw [ht]; exact hP, hD⟩, hS.F ht⟩) hS.2.2 zd_Mo_score_205
      · have hf := mp_f c_4 hf
        refine lv_aload_n hx hb zd_Mo_score_174 rfl (lv_at hl 0 rfl) ?_
        refine va_get (D := (dC, dI)) (ci := 5) (v := .ref (ad 13)) (C := zR_Mo) (T := zT_Mo) (N := 24) hx hb hts (fun w h => hsub w (zi_Mo w h)) hown hK hP 0 rfl rfl 16 (by decide) (hw _ zq_459) (fun _ h9 => h9) rfl zd_Mo_score_175 ?_
        refine lv_iload hx hb zd_Mo_score_178 (lv_at hl 5 rfl) ?_
        refine lv_aload_n hx hb zd_Mo_score_180 rfl (lv_at hl 0 rfl) ?_
        refine va_get (D := (dC, dI)) (ci := 5) (v := .ref (ad 14)) (C := zR_Mo) (T := zT_Mo) (N := 24) hx hb hts (fun w h => hsub w (zi_Mo w h)) hown hK hP 0 rfl rfl 19 (by decide) (hw _ zq_462) (fun _ h9 => h9) rfl zd_Mo_score_181 ?_
        refine lv_iload hx hb zd_Mo_score_184 (lv_at hl 5 rfl) ?_
        obtain ⟨h_5, hf⟩ := mp_in hf
        refine va_iald hx hb hK hP 3 0 rfl rfl (i := v5) h_5 zd_Mo_score_186 ?_
        obtain ⟨h_6, hf⟩ := mp_in hf
        refine va_iast hx hb hK hP hD hS 2 0 rfl rfl (i := v5) (x := (mnw v5.toNatClampNeg)) h_6 zd_Mo_score_187 (fun H locs hP hD hS => ?_)
        have hP : va_P (dC, dI) vwCl [(ad 0, .inr (5, [.int mgc, .ref (ad 1), .int mpn, .ref (ad 2), .ref (ad 3), .ref (ad 4), .ref (ad 5), .ref (ad 6), .int mcn, .ref (ad 7), .ref (ad 8), .ref (ad 9), .ref (ad 10), .ref (ad 11), .ref (ad 12), .int msz, .ref (ad 13), .int mwc, .int mhf, .ref (ad 14), .ref (ad 15), .ref (ad 16), .ref (ad 17), .ref (ad 18)])), (ad 12, .inl (cI, 300, .inl mtx)), (ad 13, .inl (cI, 150, .inl (upd mwo v5.toNatClampNeg (mnw v5.toNatClampNeg)))), (ad 14, .inl (cI, 150, .inl mnw))] H := hP
        have hD : va_D A [(ad 0, .inr (5, [.int mgc, .ref (ad 1), .int mpn, .ref (ad 2), .ref (ad 3), .ref (ad 4), .ref (ad 5), .ref (ad 6), .int mcn, .ref (ad 7), .ref (ad 8), .ref (ad 9), .ref (ad 10), .ref (ad 11), .ref (ad 12), .int msz, .ref (ad 13), .int mwc, .int mhf, .ref (ad 14), .ref (ad 15), .ref (ad 16), .ref (ad 17), .ref (ad 18)])), (ad 12, .inl (cI, 300, .inl mtx)), (ad 13, .inl (cI, 150, .inl (upd mwo v5.toNatClampNeg (mnw v5.toNatClampNeg)))), (ad 14, .inl (cI, 150, .inl mnw))] := hD
        refine lv_iinc (v := (v5 + (1 : Int32))) (lv' := [(5, .int (v5 + (1 : Int32))), (0, .ref (ad 0)), (1, .int v1), (2, .int v2), (3, .int v3), (4, .int v4)]) hx hb zd_Mo_score_188 hl (k := 5) rfl rfl (by decide) rfl (fun ls hl => ?_)
        refine lv_goto (tgt := 168) hx hb zd_Mo_score_191 (by decide) ?_
        exact ih (v5 + (1 : Int32)) (upd mwo v5.toNatClampNeg (mnw v5.toNatClampNeg)) _ _ _ hf hP hD hS (lv_sub hl [1, 2, 3, 4, 5, 0] rfl)
  have loop45 : ∀ (v1 : Int32) (v2 : Int32) (v3 : Int32) (v5 : Int32) (msz : Int32) (mwc : Int32) (mhf : Int32) (mwo : Nat → Int32) (mnw : Nat → Int32) (K9 : Int32 → Int32 → Int32 → Int32 → (Nat → Int32) → Option (Int32 × Int32 × Int32 × Int32 × (Nat → Int32) × (Nat → Int32))) (hk9 : ∀ (v1 : Int32) (v2 : Int32) (v3 : Int32) (v4 : Int32) (mnw : Nat → Int32) (H : Heap) (locs : List Loc) (ls : Array Slot), K9 v1 v2 v3 v4 mnw = some res → va_P (dC, dI) vwCl [(ad 0, .inr (5, [.int mgc, .ref (ad 1), .int mpn, .ref (ad 2), .ref (ad 3), .ref (ad 4), .ref (ad 5), .ref (ad 6), .int mcn, .ref (ad 7), .ref (ad 8), .ref (ad 9), .ref (ad 10), .ref (ad 11), .ref (ad 12), .int msz, .ref (ad 13), .int mwc, .int mhf, .ref (ad 14), .ref (ad 15), .ref (ad 16), .ref (ad 17), .ref (ad 18)])), (ad 12, .inl (cI, 300, .inl mtx)), (ad 13, .inl (cI, 150, .inl mwo)), (ad 14, .inl (cI, 150, .inl mnw))] H → va_D A [(ad 0, .inr (5, [.int mgc, .ref (ad 1), .int mpn, .ref (ad 2), .ref (ad 3), .ref (ad 4), .ref (ad 5), .ref (ad 6), .int mcn, .ref (ad 7), .ref (ad 8), .ref (ad 9), .ref (ad 10), .ref (ad 11), .ref (ad 12), .int msz, .ref (ad 13), .int mwc, .int mhf, .ref (ad 14), .ref (ad 15), .ref (ad 16), .ref (ad 17), .ref (ad 18)])), (ad 12, .inl (cI, 300, .inl mtx)), (ad 13, .inl (cI, 150, .inl mwo)), (ad 14, .inl (cI, 150, .inl mnw))] → va_S A s.heap H locs → lv_has ls 7 [(0, .ref (ad 0)), (1, .int v1), (2, .int v2), (3, .int v3), (4, .int v4)] → W p l e (headSpec zw_Mo_score ({ frames := 2, cells := 0, slots := 0, locals := 49 } : Room)).room s m ([.ref (ad 0)] : List Value).toArray below meth c H locs 0 0 (MQ below (va_Qi (fun r (_ : Unit) => r = res.1) (mp_BM (dC, dI) vwCl [(ad 0, .inr (5, [.int mgc, .ref (ad 1), .int mpn, .ref (ad 2), .ref (ad 3), .ref (ad 4), .ref (ad 5), .ref (ad 6), .int mcn, .ref (ad 7), .ref (ad 8), .ref (ad 9), .ref (ad 10), .ref (ad 11), .ref (ad 12), .int res.2.1, .ref (ad 13), .int res.2.2.1, .int res.2.2.2.1, .ref (ad 14), .ref (ad 15), .ref (ad 16), .ref (ad 17), .ref (ad 18)])), (ad 12, .inl (cI, 300, .inl mtx)), (ad 13, .inl (cI, 150, .inl res.2.2.2.2.1)), (ad 14, .inl (cI, 150, .inl res.2.2.2.2.2))] A) A) ([.ref (ad 0)] : List Value).toArray s 0 0 (A)) (F0 m 9 ls [])) (n : Nat) (v4 : Int32) (H : Heap) (locs : List Loc) (ls : Array Slot), zf_Mo_score_L45 v1 v2 v3 v5 msz mwc mhf mwo mnw mtx K9 n v4 = some res → va_P (dC, dI) vwCl [(ad 0, .inr (5, [.int mgc, .ref (ad 1), .int mpn, .ref (ad 2), .ref (ad 3), .ref (ad 4), .ref (ad 5), .ref (ad 6), .int mcn, .ref (ad 7), .ref (ad 8), .ref (ad 9), .ref (ad 10), .ref (ad 11), .ref (ad 12), .int msz, .ref (ad 13), .int mwc, .int mhf, .ref (ad 14), .ref (ad 15), .ref (ad 16), .ref (ad 17), .ref (ad 18)])), (ad 12, .inl (cI, 300, .inl mtx)), (ad 13, .inl (cI, 150, .inl mwo)), (ad 14, .inl (cI, 150, .inl mnw))] H → va_D A [(ad 0, .inr (5, [.int mgc, .ref (ad 1), .int mpn, .ref (ad 2), .ref (ad 3), .ref (ad 4), .ref (ad 5), .ref (ad 6), .int mcn, .ref (ad 7), .ref (ad 8), .ref (ad 9), .ref (ad 10), .ref (ad 11), .ref (ad 12), .int msz, .ref (ad 13), .int mwc, .int mhf, .ref (ad 14), .ref (ad 15), .ref (ad 16), .ref (ad 17), .ref (ad 18)])), (ad 12, .inl (cI, 300, .inl mtx)), (ad 13, .inl (cI, 150, .inl mwo)), (ad 14, .inl (cI, 150, .inl mnw))] → va_S A s.heap H locs → lv_has ls 7 [(0, .ref (ad 0)), (1, .int v1), (2, .int v2), (3, .int v3), (4, .int v4), (5, .int v5)] → W p l e (headSpec zw_Mo_score ({ frames := 2, cells := 0, slots := 0, locals := 49 } : Room)).room s m ([.ref (ad 0)] : List Value).toArray below meth c H locs 0 0 (MQ below (va_Qi (fun r (_ : Unit) => r = res.1) (mp_BM (dC, dI) vwCl [(ad 0, .inr (5, [.int mgc, .ref (ad 1), .int mpn, .ref (ad 2), .ref (ad 3), .ref (ad 4), .ref (ad 5), .ref (ad 6), .int mcn, .ref (ad 7), .ref (ad 8), .ref (ad 9), .ref (ad 10), .ref (ad 11), .ref (ad 12), .int res.2.1, .ref (ad 13), .int res.2.2.1, .int res.2.2.2.1, .ref (ad 14), .ref (ad 15), .ref (ad 16), .ref (ad 17), .ref (ad 18)])), (ad 12, .inl (cI, 300, .inl mtx)), (ad 13, .inl (cI, 150, .inl res.2.2.2.2.1)), (ad 14, .inl (cI, 150, .inl res.2.2.2.2.2))] A) A) ([.ref (ad 0)] : List Value).toArray s 0 0 (A)) (F0 m 45 ls []) := by
    intro v1 v2 v3 v5 msz mwc mhf mwo mnw K9 hk9 n
    induction n with
    | zero => intro v4 H locs ls hf; simp [zf_Mo_score_L45] at hf
    | succ n ih =>
      intro v4 H locs ls hf hP hD hS hl
      rw [zf_Mo_score_L45] at hf
      refine lv_iload hx hb zd_Mo_score_45 (lv_at hl 4 rfl) ?_
      refine lv_aload_n hx hb zd_Mo_score_47 rfl (lv_at hl 0 rfl) ?_
      refine va_get (D := (dC, dI)) (ci := 5) (v := .int msz) (C := zR_Mo) (T := zT_Mo) (N := 24) hx hb hts (fun w h => hsub w (zi_Mo w h)) hown hK hP 0 rfl rfl 15 (by decide) (hw _ zq_458) (fun _ h9 => h9) rfl zd_Mo_score_48 ?_
      refine lv_icmp_ge (tgt := 73) hx hb zd_Mo_score_51 (by decide) (fun c_19 => ?_) (fun c_19 => ?_)
      · have hf := mp_t c_19 hf
        refine lv_aload_n hx hb zd_Mo_score_73 rfl (lv_at hl 0 rfl) ?_
        refine lv_iload hx hb zd_Mo_score_74 (lv_at hl 5 rfl) ?_
        refine lv_iload hx hb zd_Mo_score_76 (lv_at hl 4 rfl) ?_
        refine lv_iload hx hb zd_Mo_score_78 (lv_at hl 5 rfl) ?_
        refine lv_isub hx hb zd_Mo_score_80 ?_
        obtain ⟨y20, hg20, hf⟩ := mp_bd hf
        refine mp_Ri (va_runV (As := [.int v5, .int (v4 - v5)]) (rest := []) ⟨hx, hb, hml, hown, hts⟩ (zc_Mo_wordAt l dC dI cI cJ cZ ad mgc mpn mcn msz mwc mhf mtx v5 (v4 - v5) y20 hg20) (cwV 2 hts (mp_gV hsub zq_622 zq_624 zq_18 zq_30 zq_625) rfl rfl rfl (by decide +kernel) ⟨Nat.le_of_ble_eq_true rfl, Nat.le_of_ble_eq_true rfl⟩) ⟨mp_blR, va_recv hK hP (ci := 5) (q0 := 0) rfl rfl, mp_preR hN hK (hP.sub [0, 1] rfl)⟩ rfl rfl hl.1 rfl (lv_room (Nat.le_of_ble_eq_true rfl)) zd_Mo_score_81 ⟨Nat.zero_le _, Nat.zero_le _⟩) ?_
        refine lv_istore (lv' := [(6, .int y20), (0, .ref (ad 0)), (1, .int v1), (2, .int v2), (3, .int v3), (4, .int v4), (5, .int v5)]) hx hb zd_Mo_score_84 hl (by decide) rfl (fun ls hl => ?_)
        refine lv_iload hx hb zd_Mo_score_86 (lv_at hl 0 rfl) ?_
        refine lv_bipush (v := -12) hx hb zd_Mo_score_88 (by decide) ?_
        refine lv_icmp_eq (tgt := 106) hx hb zd_Mo_score_90 (by decide) (fun c_21 => ?_) (fun c_21 => ?_)
        · have hf := mp_t c_21 hf
          refine lv_iload_n hx hb zd_Mo_score_106 rfl (lv_at hl 2 rfl) ?_
          refine lv_istore_n (lv' := [(3, .int v1), (6, .int y20), (0, .ref (ad 0)), (1, .int v1), (2, .int v2), (4, .int v4), (5, .int v5)]) hx hb zd_Mo_score_107 rfl hl (by decide) rfl (fun ls hl => ?_)
          refine lv_goto (tgt := 138) hx hb zd_Mo_score_108 (by decide) ?_
          refine lv_goto (tgt := 9) hx hb zd_Mo_score_138 (by decide) ?_
          exact hk9 v1 v2 v1 v4 mnw _ _ _ hf hP hD hS (lv_sub hl [2, 3, 4, 0, 5] rfl)
        · have hf := mp_f c_21 hf
          refine lv_iload hx hb zd_Mo_score_93 (lv_at hl 0 rfl) ?_
          obtain ⟨y22, hg22, hf⟩ := mp_bd hf
          refine mp_Rz (va_runS (As := [.int y20]) (rest := []) ⟨hx, hb, hml, hown, hts⟩ (zc_Mo_isOfTwo l dC dI cI cJ cZ ad y20 y22 hg22) (va_cwS 1 hts (mp_gS hsub zq_630 zq_631 zq_30 zq_632) rfl rfl rfl (by decide +kernel) ⟨Nat.le_of_ble_eq_true rfl, Nat.le_of_ble_eq_true rfl⟩) ⟨mp_blR, mp_preR hN hK (hP.sub [] rfl)⟩ rfl rfl hl.1 rfl (lv_room (Nat.le_of_ble_eq_true rfl)) zd_Mo_score_95 ⟨Nat.zero_le _, Nat.zero_le _⟩) (fun hz22 => ?_)
          refine lv_if_eq (tgt := 111) hx hb zd_Mo_score_98 (by decide) (fun c_23 => ?_) (fun c_23 => ?_)
          · have hf := mp_t c_23 hf
            refine lv_aload_n hx hb zd_Mo_score_111 rfl (lv_at hl 1 rfl) ?_
            refine va_get (D := (dC, dI)) (ci := 5) (v := .ref (ad 14)) (C := zR_Mo) (T := zT_Mo) (N := 24) hx hb hts (fun w h => hsub w (zi_Mo w h)) hown hK hP 0 rfl rfl 19 (by decide) (hw _ zq_462) (fun _ h9 => h9) rfl zd_Mo_score_112 ?_
            refine lv_iload_n hx hb zd_Mo_score_115 rfl (lv_at hl 2 rfl) ?_
            refine lv_iload hx hb zd_Mo_score_116 (lv_at hl 0 rfl) ?_
            obtain ⟨h_24, hf⟩ := mp_in hf
            refine va_iast hx hb hK hP hD hS 3 0 rfl rfl (i := v1) (x := y20) h_24 zd_Mo_score_118 (fun H locs hP hD hS => ?_)
            have hP : va_P (dC, dI) vwCl [(ad 0, .inr (5, [.int mgc, .ref (ad 1), .int mpn, .ref (ad 2), .ref (ad 3), .ref (ad 4), .ref (ad 5), .ref (ad 6), .int mcn, .ref (ad 7), .ref (ad 8), .ref (ad 9), .ref (ad 10), .ref (ad 11), .ref (ad 12), .int msz, .ref (ad 13), .int mwc, .int mhf, .ref (ad 14), .ref (ad 15), .ref (ad 16), .ref (ad 17), .ref (ad 18)])), (ad 12, .inl (cI, 300, .inl mtx)), (ad 13, .inl (cI, 150, .inl mwo)), (ad 14, .inl (cI, 150, .inl (upd mnw v1.toNatClampNeg y20)))] H := hP
            have hD : va_D A [(ad 0, .inr (5, [.int mgc, .ref (ad 1), .int mpn, .ref (ad 2), .ref (ad 3), .ref (ad 4), .ref (ad 5), .ref (ad 6), .int mcn, .ref (ad 7), .ref (ad 8), .ref (ad 9), .ref (ad 10), .ref (ad 11), .ref (ad 12), .int msz, .ref (ad 13), .int mwc, .int mhf, .ref (ad 14), .ref (ad 15), .ref (ad 16), .ref (ad 17), .ref (ad 18)])), (ad 12, .inl (cI, 300, .inl mtx)), (ad 13, .inl (cI, 150, .inl mwo)), (ad 14, .inl (cI, 150, .inl (upd mnw v1.toNatClampNeg y20)))] := hD
            refine lv_iload_n hx hb zd_Mo_score_119 rfl (lv_at hl 3 rfl) ?_
            refine lv_iload hx hb zd_Mo_score_120 (lv_at hl 0 rfl) ?_
            obtain ⟨y25, hg25, hf⟩ := mp_bd hf
            refine mp_Rz (va_runS (As := [.int y20]) (rest := [.int v2]) ⟨hx, hb, hml, hown, hts⟩ (zc_Mo_isOfTwo l dC dI cI cJ cZ ad y20 y25 hg25) (va_cwS 1 hts (mp_gS hsub zq_630 zq_631 zq_30 zq_632) rfl rfl rfl (by decide +kernel) ⟨Nat.le_of_ble_eq_true rfl, Nat.le_of_ble_eq_true rfl⟩) ⟨mp_blR, mp_preR hN hK (hP.sub [] rfl)⟩ rfl rfl hl.1 rfl (lv_room (Nat.le_of_ble_eq_true rfl)) zd_Mo_score_122 ⟨Nat.zero_le _, Nat.zero_le _⟩) (fun hz25 => ?_)
            refine lv_if_eq (tgt := 132) hx hb zd_Mo_score_125 (by decide) (fun c_26 => ?_) (fun c_26 => ?_)
            · have hf := mp_t c_26 hf
              refine lv_iconst (v := 1) hx hb zd_Mo_score_132 (by decide) ?_
              refine lv_iadd hx hb zd_Mo_score_133 ?_
              refine lv_istore_n (lv' := [(2, .int (v2 + (1 : Int32))), (6, .int y20), (0, .ref (ad 0)), (1, .int v1), (3, .int v3), (4, .int v4), (5, .int v5)]) hx hb zd_Mo_score_134 rfl hl (by decide) rfl (fun ls hl => ?_)
              refine lv_iinc (v := (v1 + (1 : Int32))) (lv' := [(1, .int (v1 + (1 : Int32))), (2, .int (v2 + (1 : Int32))), (6, .int y20), (0, .ref (ad 0)), (3, .int v3), (4, .int v4), (5, .int v5)]) hx hb zd_Mo_score_135 hl (k := 3) rfl rfl (by decide) rfl (fun ls hl => ?_)
              refine lv_goto (tgt := 9) hx hb zd_Mo_score_138 (by decide) ?_
              exact hk9 (v1 + (1 : Int32)) (v2 + (1 : Int32)) v3 v4 (upd mnw v1.toNatClampNeg y20) _ _ _ hf hP hD hS (lv_sub hl [3, 0, 1, 4, 5] rfl)
            · have hf := mp_f c_26 hf
              refine lv_iconst (v := -1) hx hb zd_Mo_score_128 (by decide) ?_
              refine lv_goto (tgt := 133) hx hb zd_Mo_score_129 (by decide) ?_
              refine lv_iadd hx hb zd_Mo_score_133 ?_
              refine lv_istore_n (lv' := [(2, .int (v2 + (-1 : Int32))), (6, .int y20), (0, .ref (ad 0)), (1, .int v1), (3, .int v3), (4, .int v4), (5, .int v5)]) hx hb zd_Mo_score_134 rfl hl (by decide) rfl (fun ls hl => ?_)
              refine lv_iinc (v := (v1 + (1 : Int32))) (lv' := [(1, .int (v1 + (1 : Int32))), (2, .int (v2 + (-1 : Int32))), (6, .int y20), (0, .ref (ad 0)), (3, .int v3), (4, .int v4), (5, .int v5)]) hx hb zd_Mo_score_135 hl (k := 3) rfl rfl (by decide) rfl (fun ls hl => ?_)
              refine lv_goto (tgt := 9) hx hb zd_Mo_score_138 (by decide) ?_
              exact hk9 (v1 + (1 : Int32)) (v2 + (-1 : Int32)) v3 v4 (upd mnw v1.toNatClampNeg y20) _ _ _ hf hP hD hS (lv_sub hl [3, 0, 1, 4, 5] rfl)
          · have hf := mp_f c_23 hf
            refine lv_iload_n hx hb zd_Mo_score_101 rfl (lv_at hl 3 rfl) ?_
            refine lv_iconst (v := 2) hx hb zd_Mo_score_102 (by decide) ?_
            refine lv_icmp_ge (tgt := 111) hx hb zd_Mo_score_103 (by decide) (fun c_27 => ?_) (fun c_27 => ?_)
            · have hf := mp_t c_27 hf
              refine lv_aload_n hx hb zd_Mo_score_111 rfl (lv_at hl 1 rfl) ?_
              refine va_get (D := (dC, dI)) (ci := 5) (v := .ref (ad 14)) (C := zR_Mo) (T := zT_Mo) (N := 24) hx hb hts (fun w h => hsub w (zi_Mo w h)) hown hK hP 0 rfl rfl 19 (by decide) (hw _ zq_462) (fun _ h9 => h9) rfl zd_Mo_score_112 ?_
              refine lv_iload_n hx hb zd_Mo_score_115 rfl (lv_at hl 2 rfl) ?_
              refine lv_iload hx hb zd_Mo_score_116 (lv_at hl 0 rfl) ?_
              obtain ⟨h_28, hf⟩ := mp_in hf
              refine va_iast hx hb hK hP hD hS 3 0 rfl rfl (i := v1) (x := y20) h_28 zd_Mo_score_118 (fun H locs hP hD hS => ?_)
              have hP : va_P (dC, dI) vwCl [(ad 0, .inr (5, [.int mgc, .ref (ad 1), .int mpn, .ref (ad 2), .ref (ad 3), .ref (ad 4), .ref (ad 5), .ref (ad 6), .int mcn, .ref (ad 7), .ref (ad 8), .ref (ad 9), .ref (ad 10), .ref (ad 11), .ref (ad 12), .int msz, .ref (ad 13), .int mwc, .int mhf, .ref (ad 14), .ref (ad 15), .ref (ad 16), .ref (ad 17), .ref (ad 18)])), (ad 12, .inl (cI, 300, .inl mtx)), (ad 13, .inl (cI, 150, .inl mwo)), (ad 14, .inl (cI, 150, .inl (upd mnw v1.toNatClampNeg y20)))] H := hP
              have hD : va_D A [(ad 0, .inr (5, [.int mgc, .ref (ad 1), .int mpn, .ref (ad 2), .ref (ad 3), .ref (ad 4), .ref (ad 5), .ref (ad 6), .int mcn, .ref (ad 7), .ref (ad 8), .ref (ad 9), .ref (ad 10), .ref (ad 11), .ref (ad 12), .int msz, .ref (ad 13), .int mwc, .int mhf, .ref (ad 14), .ref (ad 15), .ref (ad 16), .ref (ad 17), .ref (ad 18)])), (ad 12, .inl (cI, 300, .inl mtx)), (ad 13, .inl (cI, 150, .inl mwo)), (ad 14, .inl (cI, 150, .inl (upd mnw v1.toNatClampNeg y20)))] := hD
              refine lv_iload_n hx hb zd_Mo_score_119 rfl (lv_at hl 3 rfl) ?_
              refine lv_iload hx hb zd_Mo_score_120 (lv_at hl 0 rfl) ?_
              obtain ⟨y29, hg29, hf⟩ := mp_bd hf
              refine mp_Rz (va_runS (As := [.int y20]) (rest := [.int v2]) ⟨hx, hb, hml, hown, hts⟩ (zc_Mo_isOfTwo l dC dI cI cJ cZ ad y20 y29 hg29) (va_cwS 1 hts (mp_gS hsub zq_630 zq_631 zq_30 zq_632) rfl rfl rfl (by decide +kernel) ⟨Nat.le_of_ble_eq_true rfl, Nat.le_of_ble_eq_true rfl⟩) ⟨mp_blR, mp_preR hN hK (hP.sub [] rfl)⟩ rfl rfl hl.1 rfl (lv_room (Nat.le_of_ble_eq_true rfl)) zd_Mo_score_122 ⟨Nat.zero_le _, Nat.zero_le _⟩) (fun hz29 => ?_)
              refine lv_if_eq (tgt := 132) hx hb zd_Mo_score_125 (by decide) (fun c_30 => ?_) (fun c_30 => ?_)
              · have hf := mp_t c_30 hf
                refine lv_iconst (v := 1) hx hb zd_Mo_score_132 (by decide) ?_
                refine lv_iadd hx hb zd_Mo_score_133 ?_
                refine lv_istore_n (lv' := [(2, .int (v2 + (1 : Int32))), (6, .int y20), (0, .ref (ad 0)), (1, .int v1), (3, .int v3), (4, .int v4), (5, .int v5)]) hx hb zd_Mo_score_134 rfl hl (by decide) rfl (fun ls hl => ?_)
                refine lv_iinc (v := (v1 + (1 : Int32))) (lv' := [(1, .int (v1 + (1 : Int32))), (2, .int (v2 + (1 : Int32))), (6, .int y20), (0, .ref (ad 0)), (3, .int v3), (4, .int v4), (5, .int v5)]) hx hb zd_Mo_score_135 hl (k := 3) rfl rfl (by decide) rfl (fun ls hl => ?_)
                refine lv_goto (tgt := 9) hx hb zd_Mo_score_138 (by decide) ?_
                exact hk9 (v1 + (1 : Int32)) (v2 + (1 : Int32)) v3 v4 (upd mnw v1.toNatClampNeg y20) _ _ _ hf hP hD hS (lv_sub hl [3, 0, 1, 4, 5] rfl)
              · have hf := mp_f c_30 hf
                refine lv_iconst (v := -1) hx hb zd_Mo_score_128 (by decide) ?_
                refine lv_goto (tgt := 133) hx hb zd_Mo_score_129 (by decide) ?_
                refine lv_iadd hx hb zd_Mo_score_133 ?_
                refine lv_istore_n (lv' := [(2, .int (v2 + (-1 : Int32))), (6, .int y20), (0, .ref (ad 0)), (1, .int v1), (3, .int v3), (4, .int v4), (5, .int v5)]) hx hb zd_Mo_score_134 rfl hl (by decide) rfl (fun ls hl => ?_)
                refine lv_iinc (v := (v1 + (1 : Int32))) (lv' := [(1, .int (v1 + (1 : Int32))), (2, .int (v2 + (-1 : Int32))), (6, .int y20), (0, .ref (ad 0)), (3, .int v3), (4, .int v4), (5, .int v5)]) hx hb zd_Mo_score_135 hl (k := 3) rfl rfl (by decide) rfl (fun ls hl => ?_)
                refine lv_goto (tgt := 9) hx hb zd_Mo_score_138 (by decide) ?_
                exact hk9 (v1 + (1 : Int32)) (v2 + (-1 : Int32)) v3 v4 (upd mnw v1.toNatClampNeg y20) _ _ _ hf hP hD hS (lv_sub hl [3, 0, 1, 4, 5] rfl)
            · have hf := mp_f c_27 hf
              refine lv_iload_n hx hb zd_Mo_score_106 rfl (lv_at hl 2 rfl) ?_
              refine lv_istore_n (lv' := [(3, .int v1), (6, .int y20), (0, .ref (ad 0)), (1, .int v1), (2, .int v2), (4, .int v4), (5, .int v5)]) hx hb zd_Mo_score_107 rfl hl (by decide) rfl (fun ls hl => ?_)
              refine lv_goto (tgt := 138) hx hb zd_Mo_score_108 (by decide) ?_
              refine lv_goto (tgt := 9) hx hb zd_Mo_score_138 (by decide) ?_
              exact hk9 v1 v2 v1 v4 mnw _ _ _ hf hP hD hS (lv_sub hl [2, 3, 4, 0, 5] rfl)
      · have hf := mp_f c_19 hf
        refine lv_aload_n hx hb zd_Mo_score_54 rfl (lv_at hl 0 rfl) ?_
        refine va_get (D := (dC, dI)) (ci := 5) (v := .ref (ad 12)) (C := zR_Mo) (T := zT_Mo) (N := 24) hx hb hts (fun w h => hsub w (zi_Mo w h)) hown hK hP 0 rfl rfl 14 (by decide) (hw _ zq_457) (fun _ h9 => h9) rfl zd_Mo_score_55 ?_
        refine lv_iload hx hb zd_Mo_score_58 (lv_at hl 4 rfl) ?_
        obtain ⟨h_31, hf⟩ := mp_in hf
        refine va_iald hx hb hK hP 1 0 rfl rfl (i := v4) h_31 zd_Mo_score_60 ?_
        obtain ⟨y32, hg32, hf⟩ := mp_bd hf
        refine mp_Rz (va_runS (As := [.int (mtx v4.toNatClampNeg)]) (rest := []) ⟨hx, hb, hml, hown, hts⟩ (zc_Mo_isBlank l dC dI cI cJ cZ ad (mtx v4.toNatClampNeg) y32 hg32) (va_cwS 1 hts (mp_gS hsub zq_619 zq_620 zq_30 zq_621) rfl rfl rfl (by decide +kernel) ⟨Nat.le_of_ble_eq_true rfl, Nat.le_of_ble_eq_true rfl⟩) ⟨mp_blR, mp_preR hN hK (hP.sub [] rfl)⟩ rfl rfl hl.1 rfl (lv_room (Nat.le_of_ble_eq_true rfl)) zd_Mo_score_61 ⟨Nat.zero_le _, Nat.zero_le _⟩) (fun hz32 => ?_)
        refine lv_if_ne (tgt := 73) hx hb zd_Mo_score_64 (by decide) (fun c_33 => ?_) (fun c_33 => ?_)
        · have hf := mp_f c_33 hf
          refine lv_aload_n hx hb zd_Mo_score_73 rfl (lv_at hl 0 rfl) ?_
          refine lv_iload hx hb zd_Mo_score_74 (lv_at hl 5 rfl) ?_
          refine lv_iload hx hb zd_Mo_score_76 (lv_at hl 4 rfl) ?_
          refine lv_iload hx hb zd_Mo_score_78 (lv_at hl 5 rfl) ?_
          refine lv_isub hx hb zd_Mo_score_80 ?_
          obtain ⟨y34, hg34, hf⟩ := mp_bd hf
          refine mp_Ri (va_runV (As := [.int v5, .int (v4 - v5)]) (rest := []) ⟨hx, hb, hml, hown, hts⟩ (zc_Mo_wordAt l dC dI cI cJ cZ ad mgc mpn mcn msz mwc mhf mtx v5 (v4 - v5) y34 hg34) (cwV 2 hts (mp_gV hsub zq_622 zq_624 zq_18 zq_30 zq_625) rfl rfl rfl (by decide +kernel) ⟨Nat.le_of_ble_eq_true rfl, Nat.le_of_ble_eq_true rfl⟩) ⟨mp_blR, va_recv hK hP (ci := 5) (q0 := 0) rfl rfl, mp_preR hN hK (hP.sub [0, 1] rfl)⟩ rfl rfl hl.1 rfl (lv_room (Nat.le_of_ble_eq_true rfl)) zd_Mo_score_81 ⟨Nat.zero_le _, Nat.zero_le _⟩) ?_
          refine lv_istore (lv' := [(6, .int y34), (0, .ref (ad 0)), (1, .int v1), (2, .int v2), (3, .int v3), (4, .int v4), (5, .int v5)]) hx hb zd_Mo_score_84 hl (by decide) rfl (fun ls hl => ?_)
          refine lv_iload hx hb zd_Mo_score_86 (lv_at hl 0 rfl) ?_
          refine lv_bipush (v := -12) hx hb zd_Mo_score_88 (by decide) ?_
          refine lv_icmp_eq (tgt := 106) hx hb zd_Mo_score_90 (by decide) (fun c_35 => ?_) (fun c_35 => ?_)
          · have hf := mp_t c_35 hf
            refine lv_iload_n hx hb zd_Mo_score_106 rfl (lv_at hl 2 rfl) ?_
            refine lv_istore_n (lv' := [(3, .int v1), (6, .int y34), (0, .ref (ad 0)), (1, .int v1), (2, .int v2), (4, .int v4), (5, .int v5)]) hx hb zd_Mo_score_107 rfl hl (by decide) rfl (fun ls hl => ?_)
            refine lv_goto (tgt := 138) hx hb zd_Mo_score_108 (by decide) ?_
            refine lv_goto (tgt := 9) hx hb zd_Mo_score_138 (by decide) ?_
            exact hk9 v1 v2 v1 v4 mnw _ _ _ hf hP hD hS (lv_sub hl [2, 3, 4, 0, 5] rfl)
          · have hf := mp_f c_35 hf
            refine lv_iload hx hb zd_Mo_score_93 (lv_at hl 0 rfl) ?_
            obtain ⟨y36, hg36, hf⟩ := mp_bd hf
            refine mp_Rz (va_runS (As := [.int y34]) (rest := []) ⟨hx, hb, hml, hown, hts⟩ (zc_Mo_isOfTwo l dC dI cI cJ cZ ad y34 y36 hg36) (va_cwS 1 hts (mp_gS hsub zq_630 zq_631 zq_30 zq_632) rfl rfl rfl (by decide +kernel) ⟨Nat.le_of_ble_eq_true rfl, Nat.le_of_ble_eq_true rfl⟩) ⟨mp_blR, mp_preR hN hK (hP.sub [] rfl)⟩ rfl rfl hl.1 rfl (lv_room (Nat.le_of_ble_eq_true rfl)) zd_Mo_score_95 ⟨Nat.zero_le _, Nat.zero_le _⟩) (fun hz36 => ?_)
            refine lv_if_eq (tgt := 111) hx hb zd_Mo_score_98 (by decide) (fun c_37 => ?_) (fun c_37 => ?_)
            · have hf := mp_t c_37 hf
              refine lv_aload_n hx hb zd_Mo_score_111 rfl (lv_at hl 1 rfl) ?_
              refine va_get (D := (dC, dI)) (ci := 5) (v := .ref (ad 14)) (C := zR_Mo) (T := zT_Mo) (N := 24) hx hb hts (fun w h => hsub w (zi_Mo w h)) hown hK hP 0 rfl rfl 19 (by decide) (hw _ zq_462) (fun _ h9 => h9) rfl zd_Mo_score_112 ?_
              refine lv_iload_n hx hb zd_Mo_score_115 rfl (lv_at hl 2 rfl) ?_
              refine lv_iload hx hb zd_Mo_score_116 (lv_at hl 0 rfl) ?_
              obtain ⟨h_38, hf⟩ := mp_in hf
              refine va_iast hx hb hK hP hD hS 3 0 rfl rfl (i := v1) (x := y34) h_38 zd_Mo_score_118 (fun H locs hP hD hS => ?_)
              have hP : va_P (dC, dI) vwCl [(ad 0, .inr (5, [.int mgc, .ref (ad 1), .int mpn, .ref (ad 2), .ref (ad 3), .ref (ad 4), .ref (ad 5), .ref (ad 6), .int mcn, .ref (ad 7), .ref (ad 8), .ref (ad 9), .ref (ad 10), .ref (ad 11), .ref (ad 12), .int msz, .ref (ad 13), .int mwc, .int mhf, .ref (ad 14), .ref (ad 15), .ref (ad 16), .ref (ad 17), .ref (ad 18)])), (ad 12, .inl (cI, 300, .inl mtx)), (ad 13, .inl (cI, 150, .inl mwo)), (ad 14, .inl (cI, 150, .inl (upd mnw v1.toNatClampNeg y34)))] H := hP
              have hD : va_D A [(ad 0, .inr (5, [.int mgc, .ref (ad 1), .int mpn, .ref (ad 2), .ref (ad 3), .ref (ad 4), .ref (ad 5), .ref (ad 6), .int mcn, .ref (ad 7), .ref (ad 8), .ref (ad 9), .ref (ad 10), .ref (ad 11), .ref (ad 12), .int msz, .ref (ad 13), .int mwc, .int mhf, .ref (ad 14), .ref (ad 15), .ref (ad 16), .ref (ad 17), .ref (ad 18)])), (ad 12, .inl (cI, 300, .inl mtx)), (ad 13, .inl (cI, 150, .inl mwo)), (ad 14, .inl (cI, 150, .inl (upd mnw v1.toNatClampNeg y34)))] := hD
              refine lv_iload_n hx hb zd_Mo_score_119 rfl (lv_at hl 3 rfl) ?_
              refine lv_iload hx hb zd_Mo_score_120 (lv_at hl 0 rfl) ?_
              obtain ⟨y39, hg39, hf⟩ := mp_bd hf
              refine mp_Rz (va_runS (As := [.int y34]) (rest := [.int v2]) ⟨hx, hb, hml, hown, hts⟩ (zc_Mo_isOfTwo l dC dI cI cJ cZ ad y34 y39 hg39) (va_cwS 1 hts (mp_gS hsub zq_630 zq_631 zq_30 zq_632) rfl rfl rfl (by decide +kernel) ⟨Nat.le_of_ble_eq_true rfl, Nat.le_of_ble_eq_true rfl⟩) ⟨mp_blR, mp_preR hN hK (hP.sub [] rfl)⟩ rfl rfl hl.1 rfl (lv_room (Nat.le_of_ble_eq_true rfl)) zd_Mo_score_122 ⟨Nat.zero_le _, Nat.zero_le _⟩) (fun hz39 => ?_)
              refine lv_if_eq (tgt := 132) hx hb zd_Mo_score_125 (by decide) (fun c_40 => ?_) (fun c_40 => ?_)
              · have hf := mp_t c_40 hf
                refine lv_iconst (v := 1) hx hb zd_Mo_score_132 (by decide) ?_
                refine lv_iadd hx hb zd_Mo_score_133 ?_
                refine lv_istore_n (lv' := [(2, .int (v2 + (1 : Int32))), (6, .int y34), (0, .ref (ad 0)), (1, .int v1), (3, .int v3), (4, .int v4), (5, .int v5)]) hx hb zd_Mo_score_134 rfl hl (by decide) rfl (fun ls hl => ?_)
                refine lv_iinc (v := (v1 + (1 : Int32))) (lv' := [(1, .int (v1 + (1 : Int32))), (2, .int (v2 + (1 : Int32))), (6, .int y34), (0, .ref (ad 0)), (3, .int v3), (4, .int v4), (5, .int v5)]) hx hb zd_Mo_score_135 hl (k := 3) rfl rfl (by decide) rfl (fun ls hl => ?_)
                refine lv_goto (tgt := 9) hx hb zd_Mo_score_138 (by decide) ?_
                exact hk9 (v1 + (1 : Int32)) (v2 + (1 : Int32)) v3 v4 (upd mnw v1.toNatClampNeg y34) _ _ _ hf hP hD hS (lv_sub hl [3, 0, 1, 4, 5] rfl)
              · have hf := mp_f c_40 hf
                refine lv_iconst (v := -1) hx hb zd_Mo_score_128 (by decide) ?_
                refine lv_goto (tgt := 133) hx hb zd_Mo_score_129 (by decide) ?_
                refine lv_iadd hx hb zd_Mo_score_133 ?_
                refine lv_istore_n (lv' := [(2, .int (v2 + (-1 : Int32))), (6, .int y34), (0, .ref (ad 0)), (1, .int v1), (3, .int v3), (4, .int v4), (5, .int v5)]) hx hb zd_Mo_score_134 rfl hl (by decide) rfl (fun ls hl => ?_)
                refine lv_iinc (v := (v1 + (1 : Int32))) (lv' := [(1, .int (v1 + (1 : Int32))), (2, .int (v2 + (-1 : Int32))), (6, .int y34), (0, .ref (ad 0)), (3, .int v3), (4, .int v4), (5, .int v5)]) hx hb zd_Mo_score_135 hl (k := 3) rfl rfl (by decide) rfl (fun ls hl => ?_)
                refine lv_goto (tgt := 9) hx hb zd_Mo_score_138 (by decide) ?_
                exact hk9 (v1 + (1 : Int32)) (v2 + (-1 : Int32)) v3 v4 (upd mnw v1.toNatClampNeg y34) _ _ _ hf hP hD hS (lv_sub hl [3, 0, 1, 4, 5] rfl)
            · have hf := mp_f c_37 hf
              refine lv_iload_n hx hb zd_Mo_score_101 rfl (lv_at hl 3 rfl) ?_
              refine lv_iconst (v := 2) hx hb zd_Mo_score_102 (by decide) ?_
              refine lv_icmp_ge (tgt := 111) hx hb zd_Mo_score_103 (by decide) (fun c_41 => ?_) (fun c_41 => ?_)
              · have hf := mp_t c_41 hf
                refine lv_aload_n hx hb zd_Mo_score_111 rfl (lv_at hl 1 rfl) ?_
                refine va_get (D := (dC, dI)) (ci := 5) (v := .ref (ad 14)) (C := zR_Mo) (T := zT_Mo) (N := 24) hx hb hts (fun w h => hsub w (zi_Mo w h)) hown hK hP 0 rfl rfl 19 (by decide) (hw _ zq_462) (fun _ h9 => h9) rfl zd_Mo_score_112 ?_
                refine lv_iload_n hx hb zd_Mo_score_115 rfl (lv_at hl 2 rfl) ?_
                refine lv_iload hx hb zd_Mo_score_116 (lv_at hl 0 rfl) ?_
                obtain ⟨h_42, hf⟩ := mp_in hf
                refine va_iast hx hb hK hP hD hS 3 0 rfl rfl (i := v1) (x := y34) h_42 zd_Mo_score_118 (fun H locs hP hD hS => ?_)
                have hP : va_P (dC, dI) vwCl [(ad 0, .inr (5, [.int mgc, .ref (ad 1), .int mpn, .ref (ad 2), .ref (ad 3), .ref (ad 4), .ref (ad 5), .ref (ad 6), .int mcn, .ref (ad 7), .ref (ad 8), .ref (ad 9), .ref (ad 10), .ref (ad 11), .ref (ad 12), .int msz, .ref (ad 13), .int mwc, .int mhf, .ref (ad 14), .ref (ad 15), .ref (ad 16), .ref (ad 17), .ref (ad 18)])), (ad 12, .inl (cI, 300, .inl mtx)), (ad 13, .inl (cI, 150, .inl mwo)), (ad 14, .inl (cI, 150, .inl (upd mnw v1.toNatClampNeg y34)))] H := hP
                have hD : va_D A [(ad 0, .inr (5, [.int mgc, .ref (ad 1), .int mpn, .ref (ad 2), .ref (ad 3), .ref (ad 4), .ref (ad 5), .ref (ad 6), .int mcn, .ref (ad 7), .ref (ad 8), .ref (ad 9), .ref (ad 10), .ref (ad 11), .ref (ad 12), .int msz, .ref (ad 13), .int mwc, .int mhf, .ref (ad 14), .ref (ad 15), .ref (ad 16), .ref (ad 17), .ref (ad 18)])), (ad 12, .inl (cI, 300, .inl mtx)), (ad 13, .inl (cI, 150, .inl mwo)), (ad 14, .inl (cI, 150, .inl (upd mnw v1.toNatClampNeg y34)))] := hD
                refine lv_iload_n hx hb zd_Mo_score_119 rfl (lv_at hl 3 rfl) ?_
                refine lv_iload hx hb zd_Mo_score_120 (lv_at hl 0 rfl) ?_
                obtain ⟨y43, hg43, hf⟩ := mp_bd hf
                refine mp_Rz (va_runS (As := [.int y34]) (rest := [.int v2]) ⟨hx, hb, hml, hown, hts⟩ (zc_Mo_isOfTwo l dC dI cI cJ cZ ad y34 y43 hg43) (va_cwS 1 hts (mp_gS hsub zq_630 zq_631 zq_30 zq_632) rfl rfl rfl (by decide +kernel) ⟨Nat.le_of_ble_eq_true rfl, Nat.le_of_ble_eq_true rfl⟩) ⟨mp_blR, mp_preR hN hK (hP.sub [] rfl)⟩ rfl rfl hl.1 rfl (lv_room (Nat.le_of_ble_eq_true rfl)) zd_Mo_score_122 ⟨Nat.zero_le _, Nat.zero_le _⟩) (fun hz43 => ?_)
                refine lv_if_eq (tgt := 132) hx hb zd_Mo_score_125 (by decide) (fun c_44 => ?_) (fun c_44 => ?_)
                · have hf := mp_t c_44 hf
                  refine lv_iconst (v := 1) hx hb zd_Mo_score_132 (by decide) ?_
                  refine lv_iadd hx hb zd_Mo_score_133 ?_
                  refine lv_istore_n (lv' := [(2, .int (v2 + (1 : Int32))), (6, .int y34), (0, .ref (ad 0)), (1, .int v1), (3, .int v3), (4, .int v4), (5, .int v5)]) hx hb zd_Mo_score_134 rfl hl (by decide) rfl (fun ls hl => ?_)
                  refine lv_iinc (v := (v1 + (1 : Int32))) (lv' := [(1, .int (v1 + (1 : Int32))), (2, .int (v2 + (1 : Int32))), (6, .int y34), (0, .ref (ad 0)), (3, .int v3), (4, .int v4), (5, .int v5)]) hx hb zd_Mo_score_135 hl (k := 3) rfl rfl (by decide) rfl (fun ls hl => ?_)
                  refine lv_goto (tgt := 9) hx hb zd_Mo_score_138 (by decide) ?_
                  exact hk9 (v1 + (1 : Int32)) (v2 + (1 : Int32)) v3 v4 (upd mnw v1.toNatClampNeg y34) _ _ _ hf hP hD hS (lv_sub hl [3, 0, 1, 4, 5] rfl)
                · have hf := mp_f c_44 hf
                  refine lv_iconst (v := -1) hx hb zd_Mo_score_128 (by decide) ?_
                  refine lv_goto (tgt := 133) hx hb zd_Mo_score_129 (by decide) ?_
                  refine lv_iadd hx hb zd_Mo_score_133 ?_
                  refine lv_istore_n (lv' := [(2, .int (v2 + (-1 : Int32))), (6, .int y34), (0, .ref (ad 0)), (1, .int v1), (3, .int v3), (4, .int v4), (5, .int v5)]) hx hb zd_Mo_score_134 rfl hl (by decide) rfl (fun ls hl => ?_)
                  refine lv_iinc (v := (v1 + (1 : Int32))) (lv' := [(1, .int (v1 + (1 : Int32))), (2, .int (v2 + (-1 : Int32))), (6, .int y34), (0, .ref (ad 0)), (3, .int v3), (4, .int v4), (5, .int v5)]) hx hb zd_Mo_score_135 hl (k := 3) rfl rfl (by decide) rfl (fun ls hl => ?_)
                  refine lv_goto (tgt := 9) hx hb zd_Mo_score_138 (by decide) ?_
                  exact hk9 (v1 + (1 : Int32)) (v2 + (-1 : Int32)) v3 v4 (upd mnw v1.toNatClampNeg y34) _ _ _ hf hP hD hS (lv_sub hl [3, 0, 1, 4, 5] rfl)
              · have hf := mp_f c_41 hf
                refine lv_iload_n hx hb zd_Mo_score_106 rfl (lv_at hl 2 rfl) ?_
                refine lv_istore_n (lv' := [(3, .int v1), (6, .int y34), (0, .ref (ad 0)), (1, .int v1), (2, .int v2), (4, .int v4), (5, .int v5)]) hx hb zd_Mo_score_107 rfl hl (by decide) rfl (fun ls hl => ?_)
                refine lv_goto (tgt := 138) hx hb zd_Mo_score_108 (by decide) ?_
                refine lv_goto (tgt := 9) hx hb zd_Mo_score_138 (by decide) ?_
                exact hk9 v1 v2 v1 v4 mnw _ _ _ hf hP hD hS (lv_sub hl [2, 3, 4, 0, 5] rfl)
        · have hf := mp_t c_33 hf
          refine lv_iinc (v := (v4 + (1 : Int32))) (lv' := [(4, .int (v4 + (1 : Int32))), (0, .ref (ad 0)), (1, .int v1), (2, .int v2), (3, .int v3), (5, .int v5)]) hx hb zd_Mo_score_67 hl (k := 4) rfl rfl (by decide) rfl (fun ls hl => ?_)
          refine lv_goto (tgt := 45) hx hb zd_Mo_score_70 (by decide) ?_
          exact ih (v4 + (1 : Int32)) _ _ _ hf hP hD hS (lv_sub hl [1, 2, 3, 4, 0, 5] rfl)
  have loop9 : ∀ (msz : Int32) (mwc : Int32) (mhf : Int32) (mwo : Nat → Int32) (n : Nat) (v1 : Int32) (v2 : Int32) (v3 : Int32) (v4 : Int32) (mnw : Nat → Int32) (H : Heap) (locs : List Loc) (ls : Array Slot), zf_Mo_score_L9 msz mwc mhf mwo mtx n v1 v2 v3 v4 mnw = some res → va_P (dC, dI) vwCl [(ad 0, .inr (5, [.int mgc, .ref (ad 1), .int mpn, .ref (ad 2), .ref (ad 3), .ref (ad 4), .ref (ad 5), .ref (ad 6), .int mcn, .ref (ad 7), .ref (ad 8), .ref (ad 9), .ref (ad 10), .ref (ad 11), .ref (ad 12), .int msz, .ref (ad 13), .int mwc, .int mhf, .ref (ad 14), .ref (ad 15), .ref (ad 16), .ref (ad 17), .ref (ad 18)])), (ad 12, .inl (cI, 300, .inl mtx)), (ad 13, .inl (cI, 150, .inl mwo)), (ad 14, .inl (cI, 150, .inl mnw))] H → va_D A [(ad 0, .inr (5, [.int mgc, .ref (ad 1), .int mpn, .ref (ad 2), .ref (ad 3), .ref (ad 4), .ref (ad 5), .ref (ad 6), .int mcn, .ref (ad 7), .ref (ad 8), .ref (ad 9), .ref (ad 10), .ref (ad 11), .ref (ad 12), .int msz, .ref (ad 13), .int mwc, .int mhf, .ref (ad 14), .ref (ad 15), .ref (ad 16), .ref (ad 17), .ref (ad 18)])), (ad 12, .inl (cI, 300, .inl mtx)), (ad 13, .inl (cI, 150, .inl mwo)), (ad 14, .inl (cI, 150, .inl mnw))] → va_S A s.heap H locs → lv_has ls 7 [(0, .ref (ad 0)), (1, .int v1), (2, .int v2), (3, .int v3), (4, .int v4)] → W p l e (headSpec zw_Mo_score ({ frames := 2, cells := 0, slots := 0, locals := 49 } : Room)).room s m ([.ref (ad 0)] : List Value).toArray below meth c H locs 0 0 (MQ below (va_Qi (fun r (_ : Unit) => r = res.1) (mp_BM (dC, dI) vwCl [(ad 0, .inr (5, [.int mgc, .ref (ad 1), .int mpn, .ref (ad 2), .ref (ad 3), .ref (ad 4), .ref (ad 5), .ref (ad 6), .int mcn, .ref (ad 7), .ref (ad 8), .ref (ad 9), .ref (ad 10), .ref (ad 11), .ref (ad 12), .int res.2.1, .ref (ad 13), .int res.2.2.1, .int res.2.2.2.1, .ref (ad 14), .ref (ad 15), .ref (ad 16), .ref (ad 17), .ref (ad 18)])), (ad 12, .inl (cI, 300, .inl mtx)), (ad 13, .inl (cI, 150, .inl res.2.2.2.2.1)), (ad 14, .inl (cI, 150, .inl res.2.2.2.2.2))] A) A) ([.ref (ad 0)] : List Value).toArray s 0 0 (A)) (F0 m 9 ls []) := by
    intro msz mwc mhf mwo n
    induction n with
    | zero => intro v1 v2 v3 v4 mnw H locs ls hf; simp [zf_Mo_score_L9] at hf
    | succ n ih =>
      intro v1 v2 v3 v4 mnw H locs ls hf hP hD hS hl
      rw [zf_Mo_score_L9] at hf
      refine lv_iload hx hb zd_Mo_score_9 (lv_at hl 4 rfl) ?_
      refine lv_aload_n hx hb zd_Mo_score_11 rfl (lv_at hl 0 rfl) ?_
      refine va_get (D := (dC, dI)) (ci := 5) (v := .int msz) (C := zR_Mo) (T := zT_Mo) (N := 24) hx hb hts (fun w h => hsub w (zi_Mo w h)) hown hK hP 0 rfl rfl 15 (by decide) (hw _ zq_458) (fun _ h9 => h9) rfl zd_Mo_score_12 ?_
      refine lv_icmp_ge (tgt := 141) hx hb zd_Mo_score_15 (by decide) (fun c_1 => ?_) (fun c_1 => ?_)
      · have hf := mp_t c_1 hf
        refine lv_aload_n hx hb zd_Mo_score_141 rfl (lv_at hl 0 rfl) ?_
        refine lv_iconst (v := 0) hx hb zd_Mo_score_142 (by decide) ?_
        refine va_put (D := (dC, dI)) (ci := 5) (v := .int (0 : Int32)) (ty := .int) (C := zR_Mo) (T := zT_Mo) (N := 24) hx hb hts (fun w h => hsub w (zi_Mo w h)) zt_Mo zt_Mo_ok zn_Mo hown hK hP hD hS 0 rfl rfl 15 (by decide) (hw _ zq_458) (fun _ h9 => h9) rfl (by decide +kernel) rfl rfl (Nat.le_of_ble_eq_true rfl) zd_Mo_score_143 (fun H locs hP hD hS => ?_)
        have hP : va_P (dC, dI) vwCl [(ad 0, .inr (5, [.int mgc, .ref (ad 1), .int mpn, .ref (ad 2), .ref (ad 3), .ref (ad 4), .ref (ad 5), .ref (ad 6), .int mcn, .ref (ad 7), .ref (ad 8), .ref (ad 9), .ref (ad 10), .ref (ad 11), .ref (ad 12), .int (0 : Int32), .ref (ad 13), .int mwc, .int mhf, .ref (ad 14), .ref (ad 15), .ref (ad 16), .ref (ad 17), .ref (ad 18)])), (ad 12, .inl (cI, 300, .inl mtx)), (ad 13, .inl (cI, 150, .inl mwo)), (ad 14, .inl (cI, 150, .inl mnw))] H := hP
        have hD : va_D A [(ad 0, .inr (5, [.int mgc, .ref (ad 1), .int mpn, .ref (ad 2), .ref (ad 3), .ref (ad 4), .ref (ad 5), .ref (ad 6), .int mcn, .ref (ad 7), .ref (ad 8), .ref (ad 9), .ref (ad 10), .ref (ad 11), .ref (ad 12), .int (0 : Int32), .ref (ad 13), .int mwc, .int mhf, .ref (ad 14), .ref (ad 15), .ref (ad 16), .ref (ad 17), .ref (ad 18)])), (ad 12, .inl (cI, 300, .inl mtx)), (ad 13, .inl (cI, 150, .inl mwo)), (ad 14, .inl (cI, 150, .inl mnw))] := hD
        refine lv_iload_n hx hb zd_Mo_score_146 rfl (lv_at hl 3 rfl) ?_
        refine lv_if_ge (tgt := 157) hx hb zd_Mo_score_147 (by decide) (fun c_2 => ?_) (fun c_2 => ?_)
        · have hf := mp_t c_2 hf
          refine lv_iload_n hx hb zd_Mo_score_157 rfl (lv_at hl 3 rfl) ?_
          refine lv_if_lt (tgt := 165) hx hb zd_Mo_score_158 (by decide) (fun c_3 => ?_) (fun c_3 => ?_)
          · have hf := mp_t c_3 hf
            refine lv_iconst (v := 0) hx hb zd_Mo_score_165 (by decide) ?_
            refine lv_istore (lv' := [(5, .int (0 : Int32)), (0, .ref (ad 0)), (1, .int v1), (2, .int v2), (3, .int v3), (4, .int v4)]) hx hb zd_Mo_score_166 hl (by decide) rfl (fun ls hl => ?_)
            exact loop168 v1 v2 v3 v4 (0 : Int32) mwc mhf mnw 2000 (0 : Int32) mwo _ _ _ hf hP hD hS (lv_sub hl [1, 2, 3, 4, 5, 0] rfl)
          · have hf := mp_f c_3 hf
            refine lv_iconst (v := -1) hx hb zd_Mo_score_161 (by decide) ?_
            refine lv_iload_n hx hb zd_Mo_score_162 rfl (lv_at hl 3 rfl) ?_
            refine lv_isub hx hb zd_Mo_score_163 ?_
            have hf := Option.some.inj hf
            subst hf
            exact W.iret (v := ((-1 : Int32) - v3)) hx hb hr (fun t ht hW => ⟨⟨((-1 : Int32) - v3), (), rfl, rfl, by rw [ht]; exact hP, hD⟩, hS.F ht⟩) hS.2.2 zd_Mo_score_164
        · have hf := mp_f c_2 hf
          refine lv_iload_n hx hb zd_Mo_score_150 rfl (lv_at hl 2 rfl) ?_
          refine lv_iconst (v := 1) hx hb zd_Mo_score_151 (by decide) ?_
          refine lv_icmp_eq (tgt := 157) hx hb zd_Mo_score_152 (by decide) (fun c_7 => ?_) (fun c_7 => ?_)
          · have hf := mp_t c_7 hf
            refine lv_iload_n hx hb zd_Mo_score_157 rfl (lv_at hl 3 rfl) ?_
            refine lv_if_lt (tgt := 165) hx hb zd_Mo_score_158 (by decide) (fun c_8 => ?_) (fun c_8 => ?_)
            · have hf := mp_t c_8 hf
              refine lv_iconst (v := 0) hx hb zd_Mo_score_165 (by decide) ?_
              refine lv_istore (lv' := [(5, .int (0 : Int32)), (0, .ref (ad 0)), (1, .int v1), (2, .int v2), (3, .int v3), (4, .int v4)]) hx hb zd_Mo_score_166 hl (by decide) rfl (fun ls hl => ?_)
              exact loop168 v1 v2 v3 v4 (0 : Int32) mwc mhf mnw 2000 (0 : Int32) mwo _ _ _ hf hP hD hS (lv_sub hl [1, 2, 3, 4, 5, 0] rfl)
            · have hf := mp_f c_8 hf
              refine lv_iconst (v := -1) hx hb zd_Mo_score_161 (by decide) ?_
              refine lv_iload_n hx hb zd_Mo_score_162 rfl (lv_at hl 3 rfl) ?_
              refine lv_isub hx hb zd_Mo_score_163 ?_
              have hf := Option.some.inj hf
              subst hf
              exact W.iret (v := ((-1 : Int32) - v3)) hx hb hr (fun t ht hW => ⟨⟨((-1 : Int32) - v3), (), rfl, rfl, by rw [ht]; exact hP, hD⟩, hS.F ht⟩) hS.2.2 zd_Mo_score_164
          · have hf := mp_f c_7 hf
            refine lv_iload_n hx hb zd_Mo_score_155 rfl (lv_at hl 1 rfl) ?_
            refine lv_istore_n (lv' := [(3, .int v1), (0, .ref (ad 0)), (1, .int v1), (2, .int v2), (4, .int v4)]) hx hb zd_Mo_score_156 rfl hl (by decide) rfl (fun ls hl => ?_)
            refine lv_iload_n hx hb zd_Mo_score_157 rfl (lv_at hl 0 rfl) ?_
            refine lv_if_lt (tgt := 165) hx hb zd_Mo_score_158 (by decide) (fun c_9 => ?_) (fun c_9 => ?_)
            · have hf := mp_t c_9 hf
              refine lv_iconst (v := 0) hx hb zd_Mo_score_165 (by decide) ?_
              refine lv_istore (lv' := [(5, .int (0 : Int32)), (3, .int v1), (0, .ref (ad 0)), (1, .int v1), (2, .int v2), (4, .int v4)]) hx hb zd_Mo_score_166 hl (by decide) rfl (fun ls hl => ?_)
              exact loop168 v1 v2 v1 v4 (0 : Int32) mwc mhf mnw 2000 (0 : Int32) mwo _ _ _ hf hP hD hS (lv_sub hl [2, 3, 4, 1, 5, 0] rfl)
            · have hf := mp_f c_9 hf
              refine lv_iconst (v := -1) hx hb zd_Mo_score_161 (by decide) ?_
              refine lv_iload_n hx hb zd_Mo_score_162 rfl (lv_at hl 0 rfl) ?_
              refine lv_isub hx hb zd_Mo_score_163 ?_
              have hf := Option.some.inj hf
              subst hf
              exact W.iret (v := ((-1 : Int32) - v1)) hx hb hr (fun t ht hW => ⟨⟨((-1 : Int32) - v1), (), rfl, rfl, by rw [ht]; exact hP, hD⟩, hS.F ht⟩) hS.2.2 zd_Mo_score_164
      · have hf := mp_f c_1 hf
        refine lv_iload_n hx hb zd_Mo_score_18 rfl (lv_at hl 3 rfl) ?_
        refine lv_if_ge (tgt := 141) hx hb zd_Mo_score_19 (by decide) (fun c_10 => ?_) (fun c_10 => ?_)
        · have hf := mp_t c_10 hf
          refine lv_aload_n hx hb zd_Mo_score_141 rfl (lv_at hl 0 rfl) ?_
          refine lv_iconst (v := 0) hx hb zd_Mo_score_142 (by decide) ?_
          refine va_put (D := (dC, dI)) (ci := 5) (v := .int (0 : Int32)) (ty := .int) (C := zR_Mo) (T := zT_Mo) (N := 24) hx hb hts (fun w h => hsub w (zi_Mo w h)) zt_Mo zt_Mo_ok zn_Mo hown hK hP hD hS 0 rfl rfl 15 (by decide) (hw _ zq_458) (fun _ h9 => h9) rfl (by decide +kernel) rfl rfl (Nat.le_of_ble_eq_true rfl) zd_Mo_score_143 (fun H locs hP hD hS => ?_)
          have hP : va_P (dC, dI) vwCl [(ad 0, .inr (5, [.int mgc, .ref (ad 1), .int mpn, .ref (ad 2), .ref (ad 3), .ref (ad 4), .ref (ad 5), .ref (ad 6), .int mcn, .ref (ad 7), .ref (ad 8), .ref (ad 9), .ref (ad 10), .ref (ad 11), .ref (ad 12), .int (0 : Int32), .ref (ad 13), .int mwc, .int mhf, .ref (ad 14), .ref (ad 15), .ref (ad 16), .ref (ad 17), .ref (ad 18)])), (ad 12, .inl (cI, 300, .inl mtx)), (ad 13, .inl (cI, 150, .inl mwo)), (ad 14, .inl (cI, 150, .inl mnw))] H := hP
          have hD : va_D A [(ad 0, .inr (5, [.int mgc, .ref (ad 1), .int mpn, .ref (ad 2), .ref (ad 3), .ref (ad 4), .ref (ad 5), .ref (ad 6), .int mcn, .ref (ad 7), .ref (ad 8), .ref (ad 9), .ref (ad 10), .ref (ad 11), .ref (ad 12), .int (0 : Int32), .ref (ad 13), .int mwc, .int mhf, .ref (ad 14), .ref (ad 15), .ref (ad 16), .ref (ad 17), .ref (ad 18)])), (ad 12, .inl (cI, 300, .inl mtx)), (ad 13, .inl (cI, 150, .inl mwo)), (ad 14, .inl (cI, 150, .inl mnw))] := hD
          refine lv_iload_n hx hb zd_Mo_score_146 rfl (lv_at hl 3 rfl) ?_
          refine lv_if_ge (tgt := 157) hx hb zd_Mo_score_147 (by decide) (fun c_11 => ?_) (fun c_11 => ?_)
          · have hf := mp_t c_11 hf
            refine lv_iload_n hx hb zd_Mo_score_157 rfl (lv_at hl 3 rfl) ?_
            refine lv_if_lt (tgt := 165) hx hb zd_Mo_score_158 (by decide) (fun c_12 => ?_) (fun c_12 => ?_)
            · have hf := mp_t c_12 hf
              refine lv_iconst (v := 0) hx hb zd_Mo_score_165 (by decide) ?_
              refine lv_istore (lv' := [(5, .int (0 : Int32)), (0, .ref (ad 0)), (1, .int v1), (2, .int v2), (3, .int v3), (4, .int v4)]) hx hb zd_Mo_score_166 hl (by decide) rfl (fun ls hl => ?_)
              exact loop168 v1 v2 v3 v4 (0 : Int32) mwc mhf mnw 2000 (0 : Int32) mwo _ _ _ hf hP hD hS (lv_sub hl [1, 2, 3, 4, 5, 0] rfl)
            · have hf := mp_f c_12 hf
              refine lv_iconst (v := -1) hx hb zd_Mo_score_161 (by decide) ?_
              refine lv_iload_n hx hb zd_Mo_score_162 rfl (lv_at hl 3 rfl) ?_
              refine lv_isub hx hb zd_Mo_score_163 ?_
              have hf := Option.some.inj hf
              subst hf
              exact W.iret (v := ((-1 : Int32) - v3)) hx hb hr (fun t ht hW => ⟨⟨((-1 : Int32) - v3), (), rfl, rfl, by rw [ht]; exact hP, hD⟩, hS.F ht⟩) hS.2.2 zd_Mo_score_164
          · have hf := mp_f c_11 hf
            refine lv_iload_n hx hb zd_Mo_score_150 rfl (lv_at hl 2 rfl) ?_
            refine lv_iconst (v := 1) hx hb zd_Mo_score_151 (by decide) ?_
            refine lv_icmp_eq (tgt := 157) hx hb zd_Mo_score_152 (by decide) (fun c_13 => ?_) (fun c_13 => ?_)
            · have hf := mp_t c_13 hf
              refine lv_iload_n hx hb zd_Mo_score_157 rfl (lv_at hl 3 rfl) ?_
              refine lv_if_lt (tgt := 165) hx hb zd_Mo_score_158 (by decide) (fun c_14 => ?_) (fun c_14 => ?_)
              · have hf := mp_t c_14 hf
                refine lv_iconst (v := 0) hx hb zd_Mo_score_165 (by decide) ?_
                refine lv_istore (lv' := [(5, .int (0 : Int32)), (0, .ref (ad 0)), (1, .int v1), (2, .int v2), (3, .int v3), (4, .int v4)]) hx hb zd_Mo_score_166 hl (by decide) rfl (fun ls hl => ?_)
                exact loop168 v1 v2 v3 v4 (0 : Int32) mwc mhf mnw 2000 (0 : Int32) mwo _ _ _ hf hP hD hS (lv_sub hl [1, 2, 3, 4, 5, 0] rfl)
              · have hf := mp_f c_14 hf
                refine lv_iconst (v := -1) hx hb zd_Mo_score_161 (by decide) ?_
                refine lv_iload_n hx hb zd_Mo_score_162 rfl (lv_at hl 3 rfl) ?_
                refine lv_isub hx hb zd_Mo_score_163 ?_
                have hf := Option.some.inj hf
                subst hf
                exact W.iret (v := ((-1 : Int32) - v3)) hx hb hr (fun t ht hW => ⟨⟨((-1 : Int32) - v3), (), rfl, rfl, by rw [ht]; exact hP, hD⟩, hS.F ht⟩) hS.2.2 zd_Mo_score_164
            · have hf := mp_f c_13 hf
              refine lv_iload_n hx hb zd_Mo_score_155 rfl (lv_at hl 1 rfl) ?_
              refine lv_istore_n (lv' := [(3, .int v1), (0, .ref (ad 0)), (1, .int v1), (2, .int v2), (4, .int v4)]) hx hb zd_Mo_score_156 rfl hl (by decide) rfl (fun ls hl => ?_)
              refine lv_iload_n hx hb zd_Mo_score_157 rfl (lv_at hl 0 rfl) ?_
              refine lv_if_lt (tgt := 165) hx hb zd_Mo_score_158 (by decide) (fun c_15 => ?_) (fun c_15 => ?_)
              · have hf := mp_t c_15 hf
                refine lv_iconst (v := 0) hx hb zd_Mo_score_165 (by decide) ?_
                refine lv_istore (lv' := [(5, .int (0 : Int32)), (3, .int v1), (0, .ref (ad 0)), (1, .int v1), (2, .int v2), (4, .int v4)]) hx hb zd_Mo_score_166 hl (by decide) rfl (fun ls hl => ?_)
                exact loop168 v1 v2 v1 v4 (0 : Int32) mwc mhf mnw 2000 (0 : Int32) mwo _ _ _ hf hP hD hS (lv_sub hl [2, 3, 4, 1, 5, 0] rfl)
              · have hf := mp_f c_15 hf
                refine lv_iconst (v := -1) hx hb zd_Mo_score_161 (by decide) ?_
                refine lv_iload_n hx hb zd_Mo_score_162 rfl (lv_at hl 0 rfl) ?_
                refine lv_isub hx hb zd_Mo_score_163 ?_
                have hf := Option.some.inj hf
                subst hf
                exact W.iret (v := ((-1 : Int32) - v1)) hx hb hr (fun t ht hW => ⟨⟨((-1 : Int32) - v1), (), rfl, rfl, by rw [ht]; exact hP, hD⟩, hS.F ht⟩) hS.2.2 zd_Mo_score_164
        · have hf := mp_f c_10 hf
          refine lv_aload_n hx hb zd_Mo_score_22 rfl (lv_at hl 0 rfl) ?_
          refine va_get (D := (dC, dI)) (ci := 5) (v := .ref (ad 12)) (C := zR_Mo) (T := zT_Mo) (N := 24) hx hb hts (fun w h => hsub w (zi_Mo w h)) hown hK hP 0 rfl rfl 14 (by decide) (hw _ zq_457) (fun _ h9 => h9) rfl zd_Mo_score_23 ?_
          refine lv_iload hx hb zd_Mo_score_26 (lv_at hl 4 rfl) ?_
          obtain ⟨h_16, hf⟩ := mp_in hf
          refine va_iald hx hb hK hP 1 0 rfl rfl (i := v4) h_16 zd_Mo_score_28 ?_
          obtain ⟨y17, hg17, hf⟩ := mp_bd hf
          refine mp_Rz (va_runS (As := [.int (mtx v4.toNatClampNeg)]) (rest := []) ⟨hx, hb, hml, hown, hts⟩ (zc_Mo_isBlank l dC dI cI cJ cZ ad (mtx v4.toNatClampNeg) y17 hg17) (va_cwS 1 hts (mp_gS hsub zq_619 zq_620 zq_30 zq_621) rfl rfl rfl (by decide +kernel) ⟨Nat.le_of_ble_eq_true rfl, Nat.le_of_ble_eq_true rfl⟩) ⟨mp_blR, mp_preR hN hK (hP.sub [] rfl)⟩ rfl rfl hl.1 rfl (lv_room (Nat.le_of_ble_eq_true rfl)) zd_Mo_score_29 ⟨Nat.zero_le _, Nat.zero_le _⟩) (fun hz17 => ?_)
          refine lv_if_eq (tgt := 41) hx hb zd_Mo_score_32 (by decide) (fun c_18 => ?_) (fun c_18 => ?_)
          · have hf := mp_t c_18 hf
            refine lv_iload hx hb zd_Mo_score_41 (lv_at hl 4 rfl) ?_
            refine lv_istore (lv' := [(5, .int v4), (0, .ref (ad 0)), (1, .int v1), (2, .int v2), (3, .int v3), (4, .int v4)]) hx hb zd_Mo_score_43 hl (by decide) rfl (fun ls hl => ?_)
            exact loop45 v1 v2 v3 v4 msz mwc mhf mwo mnw (fun uv1 uv2 uv3 uv4 umnw => zf_Mo_score_L9 msz mwc mhf mwo mtx n uv1 uv2 uv3 uv4 umnw) ih 2000 v4 _ _ _ hf hP hD hS (lv_sub hl [1, 2, 3, 4, 5, 0] rfl)
          · have hf := mp_f c_18 hf
            refine lv_iinc (v := (v4 + (1 : Int32))) (lv' := [(4, .int (v4 + (1 : Int32))), (0, .ref (ad 0)), (1, .int v1), (2, .int v2), (3, .int v3)]) hx hb zd_Mo_score_35 hl (k := 4) rfl rfl (by decide) rfl (fun ls hl => ?_)
            refine lv_goto (tgt := 9) hx hb zd_Mo_score_38 (by decide) ?_
            exact ih v1 v2 v3 (v4 + (1 : Int32)) mnw _ _ _ hf hP hD hS (lv_sub hl [1, 2, 3, 4, 0] rfl)
  have hl := lv_entry ([.ref (ad 0)]) (n := 7) (Nat.le_of_ble_eq_true rfl)
  rw [lg_entry_eq]
  generalize (lg_sl ([.ref (ad 0)]) ++ List.replicate (7 - (lg_sl ([.ref (ad 0)])).length) Slot.unset).toArray = ls at hl ⊢
  have hl : lv_has ls 7 [(0, .ref (ad 0))] := hl
  unfold zf_Mo_score at hf
  refine lv_iconst (v := 0) hx hb zd_Mo_score_0 (by decide) ?_
  refine lv_istore_n (lv' := [(1, .int (0 : Int32)), (0, .ref (ad 0))]) hx hb zd_Mo_score_1 rfl hl (by decide) rfl (fun ls hl => ?_)
  refine lv_iconst (v := 0) hx hb zd_Mo_score_2 (by decide) ?_
  refine lv_istore_n (lv' := [(2, .int (0 : Int32)), (1, .int (0 : Int32)), (0, .ref (ad 0))]) hx hb zd_Mo_score_3 rfl hl (by decide) rfl (fun ls hl => ?_)
  refine lv_iconst (v := -1) hx hb zd_Mo_score_4 (by decide) ?_
  refine lv_istore_n (lv' := [(3, .int (-1 : Int32)), (2, .int (0 : Int32)), (1, .int (0 : Int32)), (0, .ref (ad 0))]) hx hb zd_Mo_score_5 rfl hl (by decide) rfl (fun ls hl => ?_)
  refine lv_iconst (v := 0) hx hb zd_Mo_score_6 (by decide) ?_
  refine lv_istore (lv' := [(4, .int (0 : Int32)), (3, .int (-1 : Int32)), (2, .int (0 : Int32)), (1, .int (0 : Int32)), (0, .ref (ad 0))]) hx hb zd_Mo_score_7 hl (by decide) rfl (fun ls hl => ?_)
  exact loop9 msz mwc mhf mwo 2000 (0 : Int32) (0 : Int32) (-1 : Int32) (0 : Int32) mnw _ _ _ hf hP hD hS (lv_sub hl [4, 3, 2, 1, 0] rfl)
set_option maxHeartbeats 4000000 in
set_option maxRecDepth 100000 in
theorem zc_Mo_shareOf (l : Launch) (dC : Nat → ClassId) (dI : Nat → Nat → Nat) (cI cJ cZ : ClassId) (ad : Nat → Nat) (sz : Nat) (mgc : Int32) (mpn : Int32) (mcn : Int32) (msz : Int32) (mwc : Int32) (mhf : Int32) (mho : Nat → Int32) (mki : Nat → Int32) (mgr : Nat → Int64) (min_ : Nat → Int32) (mcp : Nat → Int32) (mcd : Nat → Int64) (mck : Nat → Int32) (mcg : Nat → Int64) (mow : Nat → Int64) (msu : Nat → Int64) (mne : Nat → Int64) (u1 : Int32) (u2 : Int32) (res : Int64 × (Nat → Int64) × (Nat → Int64) × (Nat → Int64)) (hf : zf_Mo_shareOf u1 u2 mpn mcn mho mki mgr min_ mcp mcd mck mcg mow msu mne = some res) : Met l zy_Mo_shareOf zw_Mo_shareOf ({ frames := 3, cells := 0, slots := 0, locals := 75 } : Room) (mp_PM (dC, dI) vwCl (mp_tys cI cJ cZ) [(ad 0, .inr (5, [.int mgc, .ref (ad 1), .int mpn, .ref (ad 2), .ref (ad 3), .ref (ad 4), .ref (ad 5), .ref (ad 6), .int mcn, .ref (ad 7), .ref (ad 8), .ref (ad 9), .ref (ad 10), .ref (ad 11), .ref (ad 12), .int msz, .ref (ad 13), .int mwc, .int mhf, .ref (ad 14), .ref (ad 15), .ref (ad 16), .ref (ad 17), .ref (ad 18)])), (ad 2, .inl (cI, 24, .inl mho)), (ad 3, .inl (cI, 24, .inl mki)), (ad 4, .inl (cJ, 24, .inr (.inl mgr))), (ad 6, .inl (cI, 24, .inl min_)), (ad 7, .inl (cI, 20, .inl mcp)), (ad 8, .inl (cJ, 20, .inr (.inl mcd))), (ad 9, .inl (cI, 20, .inl mck)), (ad 10, .inl (cJ, 20, .inr (.inl mcg))), (ad 16, .inl (cJ, 8, .inr (.inl mow))), (ad 17, .inl (cJ, 8, .inr (.inl msu))), (ad 18, .inl (cJ, 8, .inr (.inl mne)))] sz [.ref (ad 0), .int u1, .int u2]) (va_Ql (fun r (_ : Unit) => r = res.1) (mp_BM (dC, dI) vwCl [(ad 0, .inr (5, [.int mgc, .ref (ad 1), .int mpn, .ref (ad 2), .ref (ad 3), .ref (ad 4), .ref (ad 5), .ref (ad 6), .int mcn, .ref (ad 7), .ref (ad 8), .ref (ad 9), .ref (ad 10), .ref (ad 11), .ref (ad 12), .int msz, .ref (ad 13), .int mwc, .int mhf, .ref (ad 14), .ref (ad 15), .ref (ad 16), .ref (ad 17), .ref (ad 18)])), (ad 2, .inl (cI, 24, .inl mho)), (ad 3, .inl (cI, 24, .inl mki)), (ad 4, .inl (cJ, 24, .inr (.inl mgr))), (ad 6, .inl (cI, 24, .inl min_)), (ad 7, .inl (cI, 20, .inl mcp)), (ad 8, .inl (cJ, 20, .inr (.inl mcd))), (ad 9, .inl (cI, 20, .inl mck)), (ad 10, .inl (cJ, 20, .inr (.inl mcg))), (ad 16, .inl (cJ, 8, .inr (.inl res.2.1))), (ad 17, .inl (cJ, 8, .inr (.inl res.2.2.1))), (ad 18, .inl (cJ, 8, .inr (.inl res.2.2.2)))] (va_A [(ad 0, .inr (5, [.int mgc, .ref (ad 1), .int mpn, .ref (ad 2), .ref (ad 3), .ref (ad 4), .ref (ad 5), .ref (ad 6), .int mcn, .ref (ad 7), .ref (ad 8), .ref (ad 9), .ref (ad 10), .ref (ad 11), .ref (ad 12), .int msz, .ref (ad 13), .int mwc, .int mhf, .ref (ad 14), .ref (ad 15), .ref (ad 16), .ref (ad 17), .ref (ad 18)])), (ad 2, .inl (cI, 24, .inl mho)), (ad 3, .inl (cI, 24, .inl mki)), (ad 4, .inl (cJ, 24, .inr (.inl mgr))), (ad 6, .inl (cI, 24, .inl min_)), (ad 7, .inl (cI, 20, .inl mcp)), (ad 8, .inl (cJ, 20, .inr (.inl mcd))), (ad 9, .inl (cI, 20, .inl mck)), (ad 10, .inl (cJ, 20, .inr (.inl mcg))), (ad 16, .inl (cJ, 8, .inr (.inl mow))), (ad 17, .inl (cJ, 8, .inr (.inl msu))), (ad 18, .inl (cJ, 8, .inr (.inl mne)))] sz)) (va_A [(ad 0, .inr (5, [.int mgc, .ref (ad 1), .int mpn, .ref (ad 2), .ref (ad 3), .ref (ad 4), .ref (ad 5), .ref (ad 6), .int mcn, .ref (ad 7), .ref (ad 8), .ref (ad 9), .ref (ad 10), .ref (ad 11), .ref (ad 12), .int msz, .ref (ad 13), .int mwc, .int mhf, .ref (ad 14), .ref (ad 15), .ref (ad 16), .ref (ad 17), .ref (ad 18)])), (ad 2, .inl (cI, 24, .inl mho)), (ad 3, .inl (cI, 24, .inl mki)), (ad 4, .inl (cJ, 24, .inr (.inl mgr))), (ad 6, .inl (cI, 24, .inl min_)), (ad 7, .inl (cI, 20, .inl mcp)), (ad 8, .inl (cJ, 20, .inr (.inl mcd))), (ad 9, .inl (cI, 20, .inl mck)), (ad 10, .inl (cJ, 20, .inr (.inl mcg))), (ad 16, .inl (cJ, 8, .inr (.inl mow))), (ad 17, .inl (cJ, 8, .inr (.inl msu))), (ad 18, .inl (cJ, 8, .inr (.inl mne)))] sz)) 0 0 ((va_A [(ad 0, .inr (5, [.int mgc, .ref (ad 1), .int mpn, .ref (ad 2), .ref (ad 3), .ref (ad 4), .ref (ad 5), .ref (ad 6), .int mcn, .ref (ad 7), .ref (ad 8), .ref (ad 9), .ref (ad 10), .ref (ad 11), .ref (ad 12), .int msz, .ref (ad 13), .int mwc, .int mhf, .ref (ad 14), .ref (ad 15), .ref (ad 16), .ref (ad 17), .ref (ad 18)])), (ad 2, .inl (cI, 24, .inl mho)), (ad 3, .inl (cI, 24, .inl mki)), (ad 4, .inl (cJ, 24, .inr (.inl mgr))), (ad 6, .inl (cI, 24, .inl min_)), (ad 7, .inl (cI, 20, .inl mcp)), (ad 8, .inl (cJ, 20, .inr (.inl mcd))), (ad 9, .inl (cI, 20, .inl mck)), (ad 10, .inl (cJ, 20, .inr (.inl mcg))), (ad 16, .inl (cJ, 8, .inr (.inl mow))), (ad 17, .inl (cJ, 8, .inr (.inl msu))), (ad 18, .inl (cJ, 8, .inr (.inl mne)))] sz)) := by
  refine Met.ofW (cc := zb_Mo_shareOf) (maxL := 8) (ret := (some .long)) (by decide) rfl ?_
  intro p e s m args below meth c s₁ B hml hv
  obtain ⟨rfl, hsz, hP, hK, hD0, hN⟩ := hv
  have hx := B.exec
  have hb := B.bytes
  have hr := B.returns
  have hts := atoms_spec (ws := zw_Mo_shareOf) B.pre
  have hsub : ∀ w ∈ mp_tbl, w ∈ zw_Mo_shareOf := fun w h => List.mem_cons_of_mem _ h
  have hw : ∀ w ∈ mp_tbl, w.before _ s = true := fun w h => hts w (hsub w h)
  have hown : s.vm.findClass zR_Mo = some m.cls := findClass_of_methodNamed B.named
  have hlocks := B.notSynchronized
  subst hsz
  have hD := hD0.self (sz := s.heap.size)
  generalize hAe : va_A [(ad 0, .inr (5, [.int mgc, .ref (ad 1), .int mpn, .ref (ad 2), .ref (ad 3), .ref (ad 4), .ref (ad 5), .ref (ad 6), .int mcn, .ref (ad 7), .ref (ad 8), .ref (ad 9), .ref (ad 10), .ref (ad 11), .ref (ad 12), .int msz, .ref (ad 13), .int mwc, .int mhf, .ref (ad 14), .ref (ad 15), .ref (ad 16), .ref (ad 17), .ref (ad 18)])), (ad 2, .inl (cI, 24, .inl mho)), (ad 3, .inl (cI, 24, .inl mki)), (ad 4, .inl (cJ, 24, .inr (.inl mgr))), (ad 6, .inl (cI, 24, .inl min_)), (ad 7, .inl (cI, 20, .inl mcp)), (ad 8, .inl (cJ, 20, .inr (.inl mcd))), (ad 9, .inl (cI, 20, .inl mck)), (ad 10, .inl (cJ, 20, .inr (.inl mcg))), (ad 16, .inl (cJ, 8, .inr (.inl mow))), (ad 17, .inl (cJ, 8, .inr (.inl msu))), (ad 18, .inl (cJ, 8, .inr (.inl mne)))] s.heap.size = A at hD ⊢
  have hA : ∀ q : Nat, s.heap.size ≤ q → A q := fun q h => by rw [← hAe]; exact Or.inr h
  have hS : va_S A s.heap s.heap [] := va_S.rf
  have hP : va_P (dC, dI) vwCl [(ad 0, .inr (5, [.int mgc, .ref (ad 1), .int mpn, .ref (ad 2), .ref (ad 3), .ref (ad 4), .ref (ad 5), .ref (ad 6), .int mcn, .ref (ad 7), .ref (ad 8), .ref (ad 9), .ref (ad 10), .ref (ad 11), .ref (ad 12), .int msz, .ref (ad 13), .int mwc, .int mhf, .ref (ad 14), .ref (ad 15), .ref (ad 16), .ref (ad 17), .ref (ad 18)])), (ad 2, .inl (cI, 24, .inl mho)), (ad 3, .inl (cI, 24, .inl mki)), (ad 4, .inl (cJ, 24, .inr (.inl mgr))), (ad 6, .inl (cI, 24, .inl min_)), (ad 7, .inl (cI, 20, .inl mcp)), (ad 8, .inl (cJ, 20, .inr (.inl mcd))), (ad 9, .inl (cI, 20, .inl mck)), (ad 10, .inl (cJ, 20, .inr (.inl mcg))), (ad 16, .inl (cJ, 8, .inr (.inl mow))), (ad 17, .inl (cJ, 8, .inr (.inl msu))), (ad 18, .inl (cJ, 8, .inr (.inl mne)))] s.heap := hP
  clear hAe hD0
  have loop8 : ∀ (v1 : Int32) (v2 : Int32) (n : Nat) (v3 : Int64) (v5 : Int64) (v7 : Int32) (mow : Nat → Int64) (msu : Nat → Int64) (mne : Nat → Int64) (H : Heap) (locs : List Loc) (ls : Array Slot), zf_Mo_shareOf_L8 v1 v2 mpn mcn mho mki mgr min_ mcp mcd mck mcg n v3 v5 v7 mow msu mne = some res → va_P (dC, dI) vwCl [(ad 0, .inr (5, [.int mgc, .ref (ad 1), .int mpn, .ref (ad 2), .ref (ad 3), .ref (ad 4), .ref (ad 5), .ref (ad 6), .int mcn, .ref (ad 7), .ref (ad 8), .ref (ad 9), .ref (ad 10), .ref (ad 11), .ref (ad 12), .int msz, .ref (ad 13), .int mwc, .int mhf, .ref (ad 14), .ref (ad 15), .ref (ad 16), .ref (ad 17), .ref (ad 18)])), (ad 2, .inl (cI, 24, .inl mho)), (ad 3, .inl (cI, 24, .inl mki)), (ad 4, .inl (cJ, 24, .inr (.inl mgr))), (ad 6, .inl (cI, 24, .inl min_)), (ad 7, .inl (cI, 20, .inl mcp)), (ad 8, .inl (cJ, 20, .inr (.inl mcd))), (ad 9, .inl (cI, 20, .inl mck)), (ad 10, .inl (cJ, 20, .inr (.inl mcg))), (ad 16, .inl (cJ, 8, .inr (.inl mow))), (ad 17, .inl (cJ, 8, .inr (.inl msu))), (ad 18, .inl (cJ, 8, .inr (.inl mne)))] H → va_D A [(ad 0, .inr (5, [.int mgc, .ref (ad 1), .int mpn, .ref (ad 2), .ref (ad 3), .ref (ad 4), .ref (ad 5), .ref (ad 6), .int mcn, .ref (ad 7), .ref (ad 8), .ref (ad 9), .ref (ad 10), .ref (ad 11), .ref (ad 12), .int msz, .ref (ad 13), .int mwc, .int mhf, .ref (ad 14), .ref (ad 15), .ref (ad 16), .ref (ad 17), .ref (ad 18)])), (ad 2, .inl (cI, 24, .inl mho)), (ad 3, .inl (cI, 24, .inl mki)), (ad 4, .inl (cJ, 24, .inr (.inl mgr))), (ad 6, .inl (cI, 24, .inl min_)), (ad 7, .inl (cI, 20, .inl mcp)), (ad 8, .inl (cJ, 20, .inr (.inl mcd))), (ad 9, .inl (cI, 20, .inl mck)), (ad 10, .inl (cJ, 20, .inr (.inl mcg))), (ad 16, .inl (cJ, 8, .inr (.inl mow))), (ad 17, .inl (cJ, 8, .inr (.inl msu))), (ad 18, .inl (cJ, 8, .inr (.inl mne)))] → va_S A s.heap H locs → lv_has ls 8 [(0, .ref (ad 0)), (1, .int v1), (2, .int v2), (3, .long v3), (5, .long v5), (7, .int v7)] → W p l e (headSpec zw_Mo_shareOf ({ frames := 3, cells := 0, slots := 0, locals := 75 } : Room)).room s m ([.ref (ad 0), .int u1, .int u2] : List Value).toArray below meth c H locs 0 0 (MQ below (va_Ql (fun r (_ : Unit) => r = res.1) (mp_BM (dC, dI) vwCl [(ad 0, .inr (5, [.int mgc, .ref (ad 1), .int mpn, .ref (ad 2), .ref (ad 3), .ref (ad 4), .ref (ad 5), .ref (ad 6), .int mcn, .ref (ad 7), .ref (ad 8), .ref (ad 9), .ref (ad 10), .ref (ad 11), .ref (ad 12), .int msz, .ref (ad 13), .int mwc, .int mhf, .ref (ad 14), .ref (ad 15), .ref (ad 16), .ref (ad 17), .ref (ad 18)])), (ad 2, .inl (cI, 24, .inl mho)), (ad 3, .inl (cI, 24, .inl mki)), (ad 4, .inl (cJ, 24, .inr (.inl mgr))), (ad 6, .inl (cI, 24, .inl min_)), (ad 7, .inl (cI, 20, .inl mcp)), (ad 8, .inl (cJ, 20, .inr (.inl mcd))), (ad 9, .inl (cI, 20, .inl mck)), (ad 10, .inl (cJ, 20, .inr (.inl mcg))), (ad 16, .inl (cJ, 8, .inr (.inl res.2.1))), (ad 17, .inl (cJ, 8, .inr (.inl res.2.2.1))), (ad 18, .inl (cJ, 8, .inr (.inl res.2.2.2)))] A) A) ([.ref (ad 0), .int u1, .int u2] : List Value).toArray s 0 0 (A)) (F0 m 8 ls []) := by
    intro v1 v2 n
    induction n with
    | zero => intro v3 v5 v7 mow msu mne H locs ls hf; simp [zf_Mo_shareOf_L8] at hf
    | succ n ih =>
      intro v3 v5 v7 mow msu mne H locs ls hf hP hD hS hl
      rw [zf_Mo_shareOf_L8] at hf
      refine lv_iload hx hb zd_Mo_shareOf_8 (lv_at hl 5 rfl) ?_
      refine lv_iconst (v := 5) hx hb zd_Mo_shareOf_10 (by decide) ?_
      refine lv_icmp_ge (tgt := 57) hx hb zd_Mo_shareOf_11 (by decide) (fun c_1 => ?_) (fun c_1 => ?_)
      · have hf := mp_t c_1 hf
        refine lv_lload_n hx hb zd_Mo_shareOf_57 rfl (lv_at hl 3 rfl) ?_
        refine lv_lconst (v := 0) hx hb zd_Mo_shareOf_58 (by decide) ?_
        refine W.lcmp hx hb zd_Mo_shareOf_59 ?_
        refine lv_if_ne (tgt := 67) hx hb zd_Mo_shareOf_60 (by decide) (fun c_2 => ?_) (fun c_2 => ?_)
        · have c_2 := fun h9 => c_2 ((lg_cmp_eq _ _).mpr h9)
          have hf := mp_f c_2 hf
          refine lv_ldc2 (v := 1000) hx hb hown (hw _ zq_660) zd_Mo_shareOf_67 ?_
          refine lv_lload hx hb zd_Mo_shareOf_70 (lv_at hl 4 rfl) ?_
          refine lv_lmul hx hb zd_Mo_shareOf_72 ?_
          refine lv_lload_n hx hb zd_Mo_shareOf_73 rfl (lv_at hl 3 rfl) ?_
          obtain ⟨h_3, hf⟩ := mp_in hf
          refine lv_ldiv hx hb zd_Mo_shareOf_74 h_3 ?_
          have hf := Option.some.inj hf
          subst hf
          exact W.lret (v := (((1000 : Int64) * v5) / v3)) hx hb hr (fun t ht hW => ⟨⟨(((1000 : Int64) * v5) / v3), (), rfl, rfl, by rw [ht]; exact hP, hD⟩, hS.F ht⟩) hS.2.2 zd_Mo_shareOf_75
        · have c_2 := (lg_cmp_eq _ _).mp c_2
          have hf := mp_t c_2 hf
          refine lv_lconst (v := 0) hx hb zd_Mo_shareOf_63 (by decide) ?_
          refine lv_goto (tgt := 75) hx hb zd_Mo_shareOf_64 (by decide) ?_
          have hf := Option.some.inj hf
          subst hf
          exact W.lret (v := (0 : Int64)) hx hb hr (fun t ht hW => ⟨⟨(0 : Int64), (), rfl, rfl, by rw [ht]; exact hP, hD⟩, hS.F ht⟩) hS.2.2 zd_Mo_shareOf_75
      · have hf := mp_f c_1 hf
        refine lv_aload_n hx hb zd_Mo_shareOf_14 rfl (lv_at hl 0 rfl) ?_
        refine lv_iload hx hb zd_Mo_shareOf_15 (lv_at hl 5 rfl) ?_
        refine lv_ldc2 (v := 100000) hx hb hown (hw _ zq_556) zd_Mo_shareOf_17 ?_
        obtain ⟨y4, hg4, hf⟩ := mp_bd hf
        refine mp_Mv (wr := []) (va_runV (As := [.int v7, .long (100000 : Int64)]) (rest := []) ⟨hx, hb, hml, hown, hts⟩ (zc_Mo_sum l dC dI cI cJ cZ ad _ mgc mpn mcn msz mwc mhf mho mki mgr min_ mcp mcd mck mcg mow msu mne v7 (100000 : Int64) y4 hg4) (cwV 2 hts (mp_gV hsub zq_570 zq_572 zq_13 zq_30 zq_573) rfl rfl rfl (by decide +kernel) ⟨Nat.le_of_ble_eq_true rfl, Nat.le_of_ble_eq_true rfl⟩) ⟨mp_blM, va_recv hK hP (ci := 5) (q0 := 0) rfl rfl, mp_preM hN hK (hP.sub [0, 1, 2, 3, 4, 5, 6, 7, 8, 9, 10, 11] rfl) (hD.sub [0, 1, 2, 3, 4, 5, 6, 7, 8, 9, 10, 11] (by decide) rfl)⟩ rfl rfl hl.1 rfl (lv_room (Nat.le_of_ble_eq_true rfl)) zd_Mo_shareOf_20 ⟨Nat.zero_le _, Nat.zero_le _⟩) hP hD hS hA [0, 1, 2, 3, 4, 5, 6, 7, 8, 9, 10, 11] [] rfl rfl (by decide) (by decide) (fun H locs hP hD hS => ?_)
        have hP : va_P (dC, dI) vwCl [(ad 0, .inr (5, [.int mgc, .ref (ad 1), .int mpn, .ref (ad 2), .ref (ad 3), .ref (ad 4), .ref (ad 5), .ref (ad 6), .int mcn, .ref (ad 7), .ref (ad 8), .ref (ad 9), .ref (ad 10), .ref (ad 11), .ref (ad 12), .int msz, .ref (ad 13), .int mwc, .int mhf, .ref (ad 14), .ref (ad 15), .ref (ad 16), .ref (ad 17), .ref (ad 18)])), (ad 2, .inl (cI, 24, .inl mho)), (ad 3, .inl (cI, 24, .inl mki)), (ad 4, .inl (cJ, 24, .inr (.inl mgr))), (ad 6, .inl (cI, 24, .inl min_)), (ad 7, .inl (cI, 20, .inl mcp)), (ad 8, .inl (cJ, 20, .inr (.inl mcd))), (ad 9, .inl (cI, 20, .inl mck)), (ad 10, .inl (cJ, 20, .inr (.inl mcg))), (ad 16, .inl (cJ, 8, .inr (.inl y4.1))), (ad 17, .inl (cJ, 8, .inr (.inl y4.2.1))), (ad 18, .inl (cJ, 8, .inr (.inl y4.2.2)))] H := hP
        have hD : va_D A [(ad 0, .inr (5, [.int mgc, .ref (ad 1), .int mpn, .ref (ad 2), .ref (ad 3), .ref (ad 4), .ref (ad 5), .ref (ad 6), .int mcn, .ref (ad 7), .ref (ad 8), .ref (ad 9), .ref (ad 10), .ref (ad 11), .ref (ad 12), .int msz, .ref (ad 13), .int mwc, .int mhf, .ref (ad 14), .ref (ad 15), .ref (ad 16), .ref (ad 17), .ref (ad 18)])), (ad 2, .inl (cI, 24, .inl mho)), (ad 3, .inl (cI, 24, .inl mki)), (ad 4, .inl (cJ, 24, .inr (.inl mgr))), (ad 6, .inl (cI, 24, .inl min_)), (ad 7, .inl (cI, 20, .inl mcp)), (ad 8, .inl (cJ, 20, .inr (.inl mcd))), (ad 9, .inl (cI, 20, .inl mck)), (ad 10, .inl (cJ, 20, .inr (.inl mcg))), (ad 16, .inl (cJ, 8, .inr (.inl y4.1))), (ad 17, .inl (cJ, 8, .inr (.inl y4.2.1))), (ad 18, .inl (cJ, 8, .inr (.inl y4.2.2)))] := hD
        refine lv_lload_n hx hb zd_Mo_shareOf_23 rfl (lv_at hl 3 rfl) ?_
        refine lv_aload_n hx hb zd_Mo_shareOf_24 rfl (lv_at hl 0 rfl) ?_
        refine va_get (D := (dC, dI)) (ci := 5) (v := .ref (ad 17)) (C := zR_Mo) (T := zT_Mo) (N := 24) hx hb hts (fun w h => hsub w (zi_Mo w h)) hown hK hP 0 rfl rfl 22 (by decide) (hw _ zq_465) (fun _ h9 => h9) rfl zd_Mo_shareOf_25 ?_
        refine lv_iload_n hx hb zd_Mo_shareOf_28 rfl (lv_at hl 1 rfl) ?_
        obtain ⟨h_5, hf⟩ := mp_in hf
        refine va_lald hx hb hK hP 10 1 rfl rfl (i := v1) h_5 zd_Mo_shareOf_29 ?_
        refine lv_ladd hx hb zd_Mo_shareOf_30 ?_
        refine lv_lstore_n (lv' := [(3, .long (v3 + (y4.2.1 v1.toNatClampNeg))), (0, .ref (ad 0)), (1, .int v1), (2, .int v2), (5, .long v5), (7, .int v7)]) hx hb zd_Mo_shareOf_31 rfl hl (by decide) rfl (fun ls hl => ?_)
        refine lv_iload hx hb zd_Mo_shareOf_32 (lv_at hl 5 rfl) ?_
        refine lv_iload_n hx hb zd_Mo_shareOf_34 rfl (lv_at hl 3 rfl) ?_
        refine lv_icmp_ne (tgt := 47) hx hb zd_Mo_shareOf_35 (by decide) (fun c_6 => ?_) (fun c_6 => ?_)
        · have hf := mp_f c_6 hf
          refine lv_lload hx hb zd_Mo_shareOf_47 (lv_at hl 4 rfl) ?_
          refine lv_lstore (lv' := [(5, .long v5), (3, .long (v3 + (y4.2.1 v1.toNatClampNeg))), (0, .ref (ad 0)), (1, .int v1), (2, .int v2), (7, .int v7)]) hx hb zd_Mo_shareOf_49 hl (by decide) rfl (fun ls hl => ?_)
          refine lv_iinc (v := (v7 + (1 : Int32))) (lv' := [(7, .int (v7 + (1 : Int32))), (5, .long v5), (3, .long (v3 + (y4.2.1 v1.toNatClampNeg))), (0, .ref (ad 0)), (1, .int v1), (2, .int v2)]) hx hb zd_Mo_shareOf_51 hl (k := 5) rfl rfl (by decide) rfl (fun ls hl => ?_)
          refine lv_goto (tgt := 8) hx hb zd_Mo_shareOf_54 (by decide) ?_
          exact ih (v3 + (y4.2.1 v1.toNatClampNeg)) v5 (v7 + (1 : Int32)) y4.1 y4.2.1 y4.2.2 _ _ _ hf hP hD hS (lv_sub hl [3, 4, 5, 2, 1, 0] rfl)
        · have hf := mp_t c_6 hf
          refine lv_aload_n hx hb zd_Mo_shareOf_38 rfl (lv_at hl 1 rfl) ?_
          refine va_get (D := (dC, dI)) (ci := 5) (v := .ref (ad 17)) (C := zR_Mo) (T := zT_Mo) (N := 24) hx hb hts (fun w h => hsub w (zi_Mo w h)) hown hK hP 0 rfl rfl 22 (by decide) (hw _ zq_465) (fun _ h9 => h9) rfl zd_Mo_shareOf_39 ?_
          refine lv_iload_n hx hb zd_Mo_shareOf_42 rfl (lv_at hl 2 rfl) ?_
          obtain ⟨h_7, hf⟩ := mp_in hf
          refine va_lald hx hb hK hP 10 1 rfl rfl (i := v1) h_7 zd_Mo_shareOf_43 ?_
          refine lv_goto (tgt := 49) hx hb zd_Mo_shareOf_44 (by decide) ?_
          refine lv_lstore (lv' := [(5, .long (y4.2.1 v1.toNatClampNeg)), (3, .long (v3 + (y4.2.1 v1.toNatClampNeg))), (0, .ref (ad 0)), (1, .int v1), (2, .int v2), (7, .int v7)]) hx hb zd_Mo_shareOf_49 hl (by decide) rfl (fun ls hl => ?_)
          refine lv_iinc (v := (v7 + (1 : Int32))) (lv' := [(7, .int (v7 + (1 : Int32))), (5, .long (y4.2.1 v1.toNatClampNeg)), (3, .long (v3 + (y4.2.1 v1.toNatClampNeg))), (0, .ref (ad 0)), (1, .int v1), (2, .int v2)]) hx hb zd_Mo_shareOf_51 hl (k := 5) rfl rfl (by decide) rfl (fun ls hl => ?_)
          refine lv_goto (tgt := 8) hx hb zd_Mo_shareOf_54 (by decide) ?_
          exact ih (v3 + (y4.2.1 v1.toNatClampNeg)) (y4.2.1 v1.toNatClampNeg) (v7 + (1 : Int32)) y4.1 y4.2.1 y4.2.2 _ _ _ hf hP hD hS (lv_sub hl [3, 4, 5, 2, 1, 0] rfl)
  have hl := lv_entry ([.ref (ad 0), .int u1, .int u2]) (n := 8) (Nat.le_of_ble_eq_true rfl)
  rw [lg_entry_eq]
  generalize (lg_sl ([.ref (ad 0), .int u1, .int u2]) ++ List.replicate (8 - (lg_sl ([.ref (ad 0), .int u1, .int u2])).length) Slot.unset).toArray = ls at hl ⊢
  have hl : lv_has ls 8 [(0, .ref (ad 0)), (1, .int u1), (2, .int u2)] := hl
  unfold zf_Mo_shareOf at hf
  refine lv_lconst (v := 0) hx hb zd_Mo_shareOf_0 (by decide) ?_
  refine lv_lstore_n (lv' := [(3, .long (0 : Int64)), (0, .ref (ad 0)), (1, .int u1), (2, .int u2)]) hx hb zd_Mo_shareOf_1 rfl hl (by decide) rfl (fun ls hl => ?_)
  refine lv_lconst (v := 0) hx hb zd_Mo_shareOf_2 (by decide) ?_
  refine lv_lstore (lv' := [(5, .long (0 : Int64)), (3, .long (0 : Int64)), (0, .ref (ad 0)), (1, .int u1), (2, .int u2)]) hx hb zd_Mo_shareOf_3 hl (by decide) rfl (fun ls hl => ?_)
  refine lv_iconst (v := 0) hx hb zd_Mo_shareOf_5 (by decide) ?_
  refine lv_istore (lv' := [(7, .int (0 : Int32)), (5, .long (0 : Int64)), (3, .long (0 : Int64)), (0, .ref (ad 0)), (1, .int u1), (2, .int u2)]) hx hb zd_Mo_shareOf_6 hl (by decide) rfl (fun ls hl => ?_)
  exact loop8 u1 u2 2000 (0 : Int64) (0 : Int64) (0 : Int32) mow msu mne _ _ _ hf hP hD hS (lv_sub hl [3, 4, 5, 2, 1, 0] rfl)
set_option maxHeartbeats 4000000 in
set_option maxRecDepth 100000 in
theorem zc_Mo_countOf (l : Launch) (dC : Nat → ClassId) (dI : Nat → Nat → Nat) (cI cJ cZ : ClassId) (ad : Nat → Nat) (mgc : Int32) (mpn : Int32) (mcn : Int32) (msz : Int32) (mwc : Int32) (mhf : Int32) (mho : Nat → Int32) (u1 : Int32) (res : Int64) (hf : zf_Mo_countOf u1 mpn mho = some res) : Met l zy_Mo_countOf zw_Mo_countOf ({ frames := 0, cells := 0, slots := 0, locals := 0 } : Room) (mp_PR (dC, dI) vwCl (mp_tys cI cJ cZ) [(ad 0, .inr (5, [.int mgc, .ref (ad 1), .int mpn, .ref (ad 2), .ref (ad 3), .ref (ad 4), .ref (ad 5), .ref (ad 6), .int mcn, .ref (ad 7), .ref (ad 8), .ref (ad 9), .ref (ad 10), .ref (ad 11), .ref (ad 12), .int msz, .ref (ad 13), .int mwc, .int mhf, .ref (ad 14), .ref (ad 15), .ref (ad 16), .ref (ad 17), .ref (ad 18)])), (ad 2, .inl (cI, 24, .inl mho))] [.ref (ad 0), .int u1]) (vp_Sl (fun r => r = res)) 0 0 (fun _ => False) := by
  refine Met.ofW (cc := zb_Mo_countOf) (maxL := 4) (ret := (some .long)) (by decide) rfl ?_
  intro p e s m args below meth c s₁ B hml hv
  obtain ⟨rfl, hP, hK, hN⟩ := hv
  have hx := B.exec
  have hb := B.bytes
  have hr := B.returns
  have hts := atoms_spec (ws := zw_Mo_countOf) B.pre
  have hsub : ∀ w ∈ mp_tbl, w ∈ zw_Mo_countOf := fun w h => List.mem_cons_of_mem _ h
  have hw : ∀ w ∈ mp_tbl, w.before _ s = true := fun w h => hts w (hsub w h)
  have hown : s.vm.findClass zR_Mo = some m.cls := findClass_of_methodNamed B.named
  have hlocks := B.notSynchronized
  have loop4 : ∀ (v1 : Int32) (n : Nat) (v2 : Int32) (v3 : Int32) (ls : Array Slot), zf_Mo_countOf_L4 v1 mpn mho n v2 v3 = some res → lv_has ls 4 [(0, .ref (ad 0)), (1, .int v1), (2, .int v2), (3, .int v3)] → W p l e (headSpec zw_Mo_countOf ({ frames := 0, cells := 0, slots := 0, locals := 0 } : Room)).room s m ([.ref (ad 0), .int u1] : List Value).toArray below meth c s.heap [] 0 0 (MQ below (vp_Sl (fun r => r = res)) ([.ref (ad 0), .int u1] : List Value).toArray s 0 0 (fun _ => False)) (F0 m 4 ls []) := by
    intro v1 n
    induction n with
    | zero => intro v2 v3 ls hf; simp [zf_Mo_countOf_L4] at hf
    | succ n ih =>
      intro v2 v3 ls hf hl
      rw [zf_Mo_countOf_L4] at hf
      refine lv_iload_n hx hb zd_Mo_countOf_4 rfl (lv_at hl 3 rfl) ?_
      refine lv_aload_n hx hb zd_Mo_countOf_5 rfl (lv_at hl 0 rfl) ?_
      refine va_get (D := (dC, dI)) (ci := 5) (v := .int mpn) (C := zR_Mo) (T := zT_Mo) (N := 24) hx hb hts (fun w h => hsub w (zi_Mo w h)) hown hK hP 0 rfl rfl 2 (by decide) (hw _ zq_445) (fun _ h9 => h9) rfl zd_Mo_countOf_6 ?_
      refine lv_icmp_ge (tgt := 36) hx hb zd_Mo_countOf_9 (by decide) (fun c_1 => ?_) (fun c_1 => ?_)
      · have hf := mp_t c_1 hf
        refine lv_iload_n hx hb zd_Mo_countOf_36 rfl (lv_at hl 2 rfl) ?_
        refine lv_i2l hx hb zd_Mo_countOf_37 rfl ?_
        have hf := Option.some.inj hf
        subst hf
        exact W.lret (v := v2.toInt64) hx hb hr (fun t ht hW => ⟨v2.toInt64, rfl, rfl, ht⟩) (fun q h => by cases h) zd_Mo_countOf_38
      · have hf := mp_f c_1 hf
        refine lv_iload_n hx hb zd_Mo_countOf_12 rfl (lv_at hl 2 rfl) ?_
        refine lv_aload_n hx hb zd_Mo_countOf_13 rfl (lv_at hl 0 rfl) ?_
        refine va_get (D := (dC, dI)) (ci := 5) (v := .ref (ad 2)) (C := zR_Mo) (T := zT_Mo) (N := 24) hx hb hts (fun w h => hsub w (zi_Mo w h)) hown hK hP 0 rfl rfl 3 (by decide) (hw _ zq_446) (fun _ h9 => h9) rfl zd_Mo_countOf_14 ?_
        refine lv_iload_n hx hb zd_Mo_countOf_17 rfl (lv_at hl 3 rfl) ?_
        obtain ⟨h_2, hf⟩ := mp_in hf
        refine va_iald hx hb hK hP 1 0 rfl rfl (i := v3) h_2 zd_Mo_countOf_18 ?_
        refine lv_iload_n hx hb zd_Mo_countOf_19 rfl (lv_at hl 1 rfl) ?_
        refine lv_icmp_ne (tgt := 27) hx hb zd_Mo_countOf_20 (by decide) (fun c_3 => ?_) (fun c_3 => ?_)
        · have hf := mp_f c_3 hf
          refine lv_iconst (v := 0) hx hb zd_Mo_countOf_27 (by decide) ?_
          refine lv_iadd hx hb zd_Mo_countOf_28 ?_
          refine lv_istore_n (lv' := [(2, .int (v2 + (0 : Int32))), (0, .ref (ad 0)), (1, .int v1), (3, .int v3)]) hx hb zd_Mo_countOf_29 rfl hl (by decide) rfl (fun ls hl => ?_)
          refine lv_iinc (v := (v3 + (1 : Int32))) (lv' := [(3, .int (v3 + (1 : Int32))), (2, .int (v2 + (0 : Int32))), (0, .ref (ad 0)), (1, .int v1)]) hx hb zd_Mo_countOf_30 hl (k := 3) rfl rfl (by decide) rfl (fun ls hl => ?_)
          refine lv_goto (tgt := 4) hx hb zd_Mo_countOf_33 (by decide) ?_
          exact ih (v2 + (0 : Int32)) (v3 + (1 : Int32)) _ hf (lv_sub hl [2, 3, 1, 0] rfl)
        · have hf := mp_t c_3 hf
          refine lv_iconst (v := 1) hx hb zd_Mo_countOf_23 (by decide) ?_
          refine lv_goto (tgt := 28) hx hb zd_Mo_countOf_24 (by decide) ?_
          refine lv_iadd hx hb zd_Mo_countOf_28 ?_
          refine lv_istore_n (lv' := [(2, .int (v2 + (1 : Int32))), (0, .ref (ad 0)), (1, .int v1), (3, .int v3)]) hx hb zd_Mo_countOf_29 rfl hl (by decide) rfl (fun ls hl => ?_)
          refine lv_iinc (v := (v3 + (1 : Int32))) (lv' := [(3, .int (v3 + (1 : Int32))), (2, .int (v2 + (1 : Int32))), (0, .ref (ad 0)), (1, .int v1)]) hx hb zd_Mo_countOf_30 hl (k := 3) rfl rfl (by decide) rfl (fun ls hl => ?_)
          refine lv_goto (tgt := 4) hx hb zd_Mo_countOf_33 (by decide) ?_
          exact ih (v2 + (1 : Int32)) (v3 + (1 : Int32)) _ hf (lv_sub hl [2, 3, 1, 0] rfl)
  have hl := lv_entry ([.ref (ad 0), .int u1]) (n := 4) (Nat.le_of_ble_eq_true rfl)
  rw [lg_entry_eq]
  generalize (lg_sl ([.ref (ad 0), .int u1]) ++ List.replicate (4 - (lg_sl ([.ref (ad 0), .int u1])).length) Slot.unset).toArray = ls at hl ⊢
  have hl : lv_has ls 4 [(0, .ref (ad 0)), (1, .int u1)] := hl
  unfold zf_Mo_countOf at hf
  refine lv_iconst (v := 0) hx hb zd_Mo_countOf_0 (by decide) ?_
  refine lv_istore_n (lv' := [(2, .int (0 : Int32)), (0, .ref (ad 0)), (1, .int u1)]) hx hb zd_Mo_countOf_1 rfl hl (by decide) rfl (fun ls hl => ?_)
  refine lv_iconst (v := 0) hx hb zd_Mo_countOf_2 (by decide) ?_
  refine lv_istore_n (lv' := [(3, .int (0 : Int32)), (2, .int (0 : Int32)), (0, .ref (ad 0)), (1, .int u1)]) hx hb zd_Mo_countOf_3 rfl hl (by decide) rfl (fun ls hl => ?_)
  exact loop4 u1 2000 (0 : Int32) (0 : Int32) _ hf (lv_sub hl [2, 3, 1, 0] rfl)
set_option maxHeartbeats 4000000 in
set_option maxRecDepth 100000 in
theorem zc_Mo_product (l : Launch) (dC : Nat → ClassId) (dI : Nat → Nat → Nat) (cI cJ cZ : ClassId) (ad : Nat → Nat) (u0 : Int64) (u2 : Int64) (res : Int64) (hf : zf_Mo_product u0 u2 = some res) : Met l zy_Mo_product zw_Mo_product ({ frames := 0, cells := 0, slots := 0, locals := 0 } : Room) (mp_PR (dC, dI) vwCl (mp_tys cI cJ cZ) [] [.long u0, .long u2]) (vp_Sl (fun r => r = res)) 0 0 (fun _ => False) := by
  refine Met.ofW (cc := zb_Mo_product) (maxL := 10) (ret := (some .long)) (by decide) rfl ?_
  intro p e s m args below meth c s₁ B hml hv
  obtain ⟨rfl, hP, hK, hN⟩ := hv
  have hx := B.exec
  have hb := B.bytes
  have hr := B.returns
  have hts := atoms_spec (ws := zw_Mo_product) B.pre
  have hsub : ∀ w ∈ mp_tbl, w ∈ zw_Mo_product := fun w h => List.mem_cons_of_mem _ h
  have hw : ∀ w ∈ mp_tbl, w.before _ s = true := fun w h => hts w (hsub w h)
  have hown : s.vm.findClass zR_Mo = some m.cls := findClass_of_methodNamed B.named
  have hlocks := B.notSynchronized
  have hl := lv_entry ([.long u0, .long u2]) (n := 10) (Nat.le_of_ble_eq_true rfl)
  rw [lg_entry_eq]
  generalize (lg_sl ([.long u0, .long u2]) ++ List.replicate (10 - (lg_sl ([.long u0, .long u2])).length) Slot.unset).toArray = ls at hl ⊢
  have hl : lv_has ls 10 [(0, .long u0), (2, .long u2)] := hl
  unfold zf_Mo_product at hf
  refine lv_lload_n hx hb zd_Mo_product_0 rfl (lv_at hl 0 rfl) ?_
  refine lv_lconst (v := 0) hx hb zd_Mo_product_1 (by decide) ?_
  refine W.lcmp hx hb zd_Mo_product_2 ?_
  refine lv_if_eq (tgt := 12) hx hb zd_Mo_product_3 (by decide) (fun c_1 => ?_) (fun c_1 => ?_)
  · have c_1 := (lg_cmp_eq _ _).mp c_1
    have hf := mp_t c_1 hf
    refine lv_lconst (v := 0) hx hb zd_Mo_product_12 (by decide) ?_
    have hf := Option.some.inj hf
    subst hf
    exact W.lret (v := (0 : Int64)) hx hb hr (fun t ht hW => ⟨(0 : Int64), rfl, rfl, ht⟩) (fun q h => by cases h) zd_Mo_product_13
  · have c_1 := fun h9 => c_1 ((lg_cmp_eq _ _).mpr h9)
    have hf := mp_f c_1 hf
    refine lv_lload_n hx hb zd_Mo_product_6 rfl (lv_at hl 1 rfl) ?_
    refine lv_lconst (v := 0) hx hb zd_Mo_product_7 (by decide) ?_
    refine W.lcmp hx hb zd_Mo_product_8 ?_
    refine lv_if_ne (tgt := 14) hx hb zd_Mo_product_9 (by decide) (fun c_2 => ?_) (fun c_2 => ?_)
    · have c_2 := fun h9 => c_2 ((lg_cmp_eq _ _).mpr h9)
      have hf := mp_f c_2 hf
      refine lv_lload_n hx hb zd_Mo_product_14 rfl (lv_at hl 0 rfl) ?_
      refine lv_lconst (v := 0) hx hb zd_Mo_product_15 (by decide) ?_
      refine W.lcmp hx hb zd_Mo_product_16 ?_
      refine lv_if_ge (tgt := 25) hx hb zd_Mo_product_17 (by decide) (fun c_3 => ?_) (fun c_3 => ?_)
      · have c_3 := (lg_cmp_ge _ _).mp c_3
        have hf := mp_t c_3 hf
        refine lv_lload_n hx hb zd_Mo_product_25 rfl (lv_at hl 0 rfl) ?_
        refine lv_lstore (lv' := [(4, .long u0), (0, .long u0), (2, .long u2)]) hx hb zd_Mo_product_26 hl (by decide) rfl (fun ls hl => ?_)
        refine lv_lload_n hx hb zd_Mo_product_28 rfl (lv_at hl 2 rfl) ?_
        refine lv_lconst (v := 0) hx hb zd_Mo_product_29 (by decide) ?_
        refine W.lcmp hx hb zd_Mo_product_30 ?_
        refine lv_if_ge (tgt := 39) hx hb zd_Mo_product_31 (by decide) (fun c_4 => ?_) (fun c_4 => ?_)
        · have c_4 := (lg_cmp_ge _ _).mp c_4
          have hf := mp_t c_4 hf
          refine lv_lload_n hx hb zd_Mo_product_39 rfl (lv_at hl 2 rfl) ?_
          refine lv_lstore (lv' := [(6, .long u2), (4, .long u0), (0, .long u0), (2, .long u2)]) hx hb zd_Mo_product_40 hl (by decide) rfl (fun ls hl => ?_)
          refine lv_lload hx hb zd_Mo_product_42 (lv_at hl 0 rfl) ?_
          refine lv_ldc2 (v := 1000000000000) hx hb hown (hw _ zq_647) zd_Mo_product_44 ?_
          refine lv_lload hx hb zd_Mo_product_47 (lv_at hl 1 rfl) ?_
          obtain ⟨h_5, hf⟩ := mp_in hf
          refine lv_ldiv hx hb zd_Mo_product_49 h_5 ?_
          refine W.lcmp hx hb zd_Mo_product_50 ?_
          refine lv_if_le (tgt := 60) hx hb zd_Mo_product_51 (by decide) (fun c_6 => ?_) (fun c_6 => ?_)
          · have c_6 := (lg_cmp_le _ _).mp c_6
            have hf := mp_t c_6 hf
            refine lv_lload hx hb zd_Mo_product_60 (lv_at hl 1 rfl) ?_
            refine lv_lload hx hb zd_Mo_product_62 (lv_at hl 0 rfl) ?_
            refine lv_lmul hx hb zd_Mo_product_64 ?_
            refine lv_lstore (lv' := [(8, .long (u0 * u2)), (6, .long u2), (4, .long u0), (0, .long u0), (2, .long u2)]) hx hb zd_Mo_product_65 hl (by decide) rfl (fun ls hl => ?_)
            refine lv_lload_n hx hb zd_Mo_product_67 rfl (lv_at hl 3 rfl) ?_
            refine lv_lconst (v := 0) hx hb zd_Mo_product_68 (by decide) ?_
            refine W.lcmp hx hb zd_Mo_product_69 ?_
            refine lv_if_ge (tgt := 77) hx hb zd_Mo_product_70 (by decide) (fun c_7 => ?_) (fun c_7 => ?_)
            · have c_7 := (lg_cmp_ge _ _).mp c_7
              have hf := mp_t c_7 hf
              refine lv_iconst (v := 0) hx hb zd_Mo_product_77 (by decide) ?_
              refine lv_lload_n hx hb zd_Mo_product_78 rfl (lv_at hl 4 rfl) ?_
              refine lv_lconst (v := 0) hx hb zd_Mo_product_79 (by decide) ?_
              refine W.lcmp hx hb zd_Mo_product_80 ?_
              refine lv_if_ge (tgt := 88) hx hb zd_Mo_product_81 (by decide) (fun c_8 => ?_) (fun c_8 => ?_)
              · have c_8 := (lg_cmp_ge _ _).mp c_8
                have hf := mp_t c_8 hf
                refine lv_iconst (v := 0) hx hb zd_Mo_product_88 (by decide) ?_
                refine lv_icmp_ne (tgt := 97) hx hb zd_Mo_product_89 (by decide) (fun c_9 => ?_) (fun c_9 => ?_)
                · have hf := mp_f c_9 hf
                  refine lv_lload hx hb zd_Mo_product_97 (lv_at hl 0 rfl) ?_
                  refine lv_lneg hx hb zd_Mo_product_99 ?_
                  have hf := Option.some.inj hf
                  subst hf
                  exact W.lret (v := (-(u0 * u2))) hx hb hr (fun t ht hW => ⟨(-(u0 * u2)), rfl, rfl, ht⟩) (fun q h => by cases h) zd_Mo_product_100
                · have hf := mp_t c_9 hf
                  refine lv_lload hx hb zd_Mo_product_92 (lv_at hl 0 rfl) ?_
                  refine lv_goto (tgt := 100) hx hb zd_Mo_product_94 (by decide) ?_
                  have hf := Option.some.inj hf
                  subst hf
                  exact W.lret (v := (u0 * u2)) hx hb hr (fun t ht hW => ⟨(u0 * u2), rfl, rfl, ht⟩) (fun q h => by cases h) zd_Mo_product_100
              · have c_8 := fun h9 => c_8 ((lg_cmp_ge _ _).mpr h9)
                have hf := mp_f c_8 hf
                refine lv_iconst (v := 1) hx hb zd_Mo_product_84 (by decide) ?_
                refine lv_goto (tgt := 89) hx hb zd_Mo_product_85 (by decide) ?_
                refine lv_icmp_ne (tgt := 97) hx hb zd_Mo_product_89 (by decide) (fun c_10 => ?_) (fun c_10 => ?_)
                · have hf := mp_f c_10 hf
                  refine lv_lload hx hb zd_Mo_product_97 (lv_at hl 0 rfl) ?_
                  refine lv_lneg hx hb zd_Mo_product_99 ?_
                  have hf := Option.some.inj hf
                  subst hf
                  exact W.lret (v := (-(u0 * u2))) hx hb hr (fun t ht hW => ⟨(-(u0 * u2)), rfl, rfl, ht⟩) (fun q h => by cases h) zd_Mo_product_100
                · have hf := mp_t c_10 hf
                  refine lv_lload hx hb zd_Mo_product_92 (lv_at hl 0 rfl) ?_
                  refine lv_goto (tgt := 100) hx hb zd_Mo_product_94 (by decide) ?_
                  have hf := Option.some.inj hf
                  subst hf
                  exact W.lret (v := (u0 * u2)) hx hb hr (fun t ht hW => ⟨(u0 * u2), rfl, rfl, ht⟩) (fun q h => by cases h) zd_Mo_product_100
            · have c_7 := fun h9 => c_7 ((lg_cmp_ge _ _).mpr h9)
              have hf := mp_f c_7 hf
              refine lv_iconst (v := 1) hx hb zd_Mo_product_73 (by decide) ?_
              refine lv_goto (tgt := 78) hx hb zd_Mo_product_74 (by decide) ?_
              refine lv_lload_n hx hb zd_Mo_product_78 rfl (lv_at hl 4 rfl) ?_
              refine lv_lconst (v := 0) hx hb zd_Mo_product_79 (by decide) ?_
              refine W.lcmp hx hb zd_Mo_product_80 ?_
              refine lv_if_ge (tgt := 88) hx hb zd_Mo_product_81 (by decide) (fun c_11 => ?_) (fun c_11 => ?_)
              · have c_11 := (lg_cmp_ge _ _).mp c_11
                have hf := mp_t c_11 hf
                refine lv_iconst (v := 0) hx hb zd_Mo_product_88 (by decide) ?_
                refine lv_icmp_ne (tgt := 97) hx hb zd_Mo_product_89 (by decide) (fun c_12 => ?_) (fun c_12 => ?_)
                · have hf := mp_f c_12 hf
                  refine lv_lload hx hb zd_Mo_product_97 (lv_at hl 0 rfl) ?_
                  refine lv_lneg hx hb zd_Mo_product_99 ?_
                  have hf := Option.some.inj hf
                  subst hf
                  exact W.lret (v := (-(u0 * u2))) hx hb hr (fun t ht hW => ⟨(-(u0 * u2)), rfl, rfl, ht⟩) (fun q h => by cases h) zd_Mo_product_100
                · have hf := mp_t c_12 hf
                  refine lv_lload hx hb zd_Mo_product_92 (lv_at hl 0 rfl) ?_
                  refine lv_goto (tgt := 100) hx hb zd_Mo_product_94 (by decide) ?_
                  have hf := Option.some.inj hf
                  subst hf
                  exact W.lret (v := (u0 * u2)) hx hb hr (fun t ht hW => ⟨(u0 * u2), rfl, rfl, ht⟩) (fun q h => by cases h) zd_Mo_product_100
              · have c_11 := fun h9 => c_11 ((lg_cmp_ge _ _).mpr h9)
                have hf := mp_f c_11 hf
                refine lv_iconst (v := 1) hx hb zd_Mo_product_84 (by decide) ?_
                refine lv_goto (tgt := 89) hx hb zd_Mo_product_85 (by decide) ?_
                refine lv_icmp_ne (tgt := 97) hx hb zd_Mo_product_89 (by decide) (fun c_13 => ?_) (fun c_13 => ?_)
                · have hf := mp_f c_13 hf
                  refine lv_lload hx hb zd_Mo_product_97 (lv_at hl 0 rfl) ?_
                  refine lv_lneg hx hb zd_Mo_product_99 ?_
                  have hf := Option.some.inj hf
                  subst hf
                  exact W.lret (v := (-(u0 * u2))) hx hb hr (fun t ht hW => ⟨(-(u0 * u2)), rfl, rfl, ht⟩) (fun q h => by cases h) zd_Mo_product_100
                · have hf := mp_t c_13 hf
                  refine lv_lload hx hb zd_Mo_product_92 (lv_at hl 0 rfl) ?_
                  refine lv_goto (tgt := 100) hx hb zd_Mo_product_94 (by decide) ?_
                  have hf := Option.some.inj hf
                  subst hf
                  exact W.lret (v := (u0 * u2)) hx hb hr (fun t ht hW => ⟨(u0 * u2), rfl, rfl, ht⟩) (fun q h => by cases h) zd_Mo_product_100
          · have c_6 := fun h9 => c_6 ((lg_cmp_le _ _).mpr h9)
            have hf := mp_f c_6 hf
            refine lv_ldc2 (v := 1000000000000) hx hb hown (hw _ zq_647) zd_Mo_product_54 ?_
            refine lv_goto (tgt := 65) hx hb zd_Mo_product_57 (by decide) ?_
            refine lv_lstore (lv' := [(8, .long (1000000000000 : Int64)), (6, .long u2), (4, .long u0), (0, .long u0), (2, .long u2)]) hx hb zd_Mo_product_65 hl (by decide) rfl (fun ls hl => ?_)
            refine lv_lload_n hx hb zd_Mo_product_67 rfl (lv_at hl 3 rfl) ?_
            refine lv_lconst (v := 0) hx hb zd_Mo_product_68 (by decide) ?_
            refine W.lcmp hx hb zd_Mo_product_69 ?_
            refine lv_if_ge (tgt := 77) hx hb zd_Mo_product_70 (by decide) (fun c_14 => ?_) (fun c_14 => ?_)
            · have c_14 := (lg_cmp_ge _ _).mp c_14
              have hf := mp_t c_14 hf
              refine lv_iconst (v := 0) hx hb zd_Mo_product_77 (by decide) ?_
              refine lv_lload_n hx hb zd_Mo_product_78 rfl (lv_at hl 4 rfl) ?_
              refine lv_lconst (v := 0) hx hb zd_Mo_product_79 (by decide) ?_
              refine W.lcmp hx hb zd_Mo_product_80 ?_
              refine lv_if_ge (tgt := 88) hx hb zd_Mo_product_81 (by decide) (fun c_15 => ?_) (fun c_15 => ?_)
              · have c_15 := (lg_cmp_ge _ _).mp c_15
                have hf := mp_t c_15 hf
                refine lv_iconst (v := 0) hx hb zd_Mo_product_88 (by decide) ?_
                refine lv_icmp_ne (tgt := 97) hx hb zd_Mo_product_89 (by decide) (fun c_16 => ?_) (fun c_16 => ?_)
                · have hf := mp_f c_16 hf
                  refine lv_lload hx hb zd_Mo_product_97 (lv_at hl 0 rfl) ?_
                  refine lv_lneg hx hb zd_Mo_product_99 ?_
                  have hf := Option.some.inj hf
                  subst hf
                  exact W.lret (v := (-(1000000000000 : Int64))) hx hb hr (fun t ht hW => ⟨(-(1000000000000 : Int64)), rfl, rfl, ht⟩) (fun q h => by cases h) zd_Mo_product_100
                · have hf := mp_t c_16 hf
                  refine lv_lload hx hb zd_Mo_product_92 (lv_at hl 0 rfl) ?_
                  refine lv_goto (tgt := 100) hx hb zd_Mo_product_94 (by decide) ?_
                  have hf := Option.some.inj hf
                  subst hf
                  exact W.lret (v := (1000000000000 : Int64)) hx hb hr (fun t ht hW => ⟨(1000000000000 : Int64), rfl, rfl, ht⟩) (fun q h => by cases h) zd_Mo_product_100
              · have c_15 := fun h9 => c_15 ((lg_cmp_ge _ _).mpr h9)
                have hf := mp_f c_15 hf
                refine lv_iconst (v := 1) hx hb zd_Mo_product_84 (by decide) ?_
                refine lv_goto (tgt := 89) hx hb zd_Mo_product_85 (by decide) ?_
                refine lv_icmp_ne (tgt := 97) hx hb zd_Mo_product_89 (by decide) (fun c_17 => ?_) (fun c_17 => ?_)
                · have hf := mp_f c_17 hf
                  refine lv_lload hx hb zd_Mo_product_97 (lv_at hl 0 rfl) ?_
                  refine lv_lneg hx hb zd_Mo_product_99 ?_
                  have hf := Option.some.inj hf
                  subst hf
                  exact W.lret (v := (-(1000000000000 : Int64))) hx hb hr (fun t ht hW => ⟨(-(1000000000000 : Int64)), rfl, rfl, ht⟩) (fun q h => by cases h) zd_Mo_product_100
                · have hf := mp_t c_17 hf
                  refine lv_lload hx hb zd_Mo_product_92 (lv_at hl 0 rfl) ?_
                  refine lv_goto (tgt := 100) hx hb zd_Mo_product_94 (by decide) ?_
                  have hf := Option.some.inj hf
                  subst hf
                  exact W.lret (v := (1000000000000 : Int64)) hx hb hr (fun t ht hW => ⟨(1000000000000 : Int64), rfl, rfl, ht⟩) (fun q h => by cases h) zd_Mo_product_100
            · have c_14 := fun h9 => c_14 ((lg_cmp_ge _ _).mpr h9)
              have hf := mp_f c_14 hf
              refine lv_iconst (v := 1) hx hb zd_Mo_product_73 (by decide) ?_
              refine lv_goto (tgt := 78) hx hb zd_Mo_product_74 (by decide) ?_
              refine lv_lload_n hx hb zd_Mo_product_78 rfl (lv_at hl 4 rfl) ?_
              refine lv_lconst (v := 0) hx hb zd_Mo_product_79 (by decide) ?_
              refine W.lcmp hx hb zd_Mo_product_80 ?_
              refine lv_if_ge (tgt := 88) hx hb zd_Mo_product_81 (by decide) (fun c_18 => ?_) (fun c_18 => ?_)
              · have c_18 := (lg_cmp_ge _ _).mp c_18
                have hf := mp_t c_18 hf
                refine lv_iconst (v := 0) hx hb zd_Mo_product_88 (by decide) ?_
                refine lv_icmp_ne (tgt := 97) hx hb zd_Mo_product_89 (by decide) (fun c_19 => ?_) (fun c_19 => ?_)
                · have hf := mp_f c_19 hf
                  refine lv_lload hx hb zd_Mo_product_97 (lv_at hl 0 rfl) ?_
                  refine lv_lneg hx hb zd_Mo_product_99 ?_
                  have hf := Option.some.inj hf
                  subst hf
                  exact W.lret (v := (-(1000000000000 : Int64))) hx hb hr (fun t ht hW => ⟨(-(1000000000000 : Int64)), rfl, rfl, ht⟩) (fun q h => by cases h) zd_Mo_product_100
                · have hf := mp_t c_19 hf
                  refine lv_lload hx hb zd_Mo_product_92 (lv_at hl 0 rfl) ?_
                  refine lv_goto (tgt := 100) hx hb zd_Mo_product_94 (by decide) ?_
                  have hf := Option.some.inj hf
                  subst hf
                  exact W.lret (v := (1000000000000 : Int64)) hx hb hr (fun t ht hW => ⟨(1000000000000 : Int64), rfl, rfl, ht⟩) (fun q h => by cases h) zd_Mo_product_100
              · have c_18 := fun h9 => c_18 ((lg_cmp_ge _ _).mpr h9)
                have hf := mp_f c_18 hf
                refine lv_iconst (v := 1) hx hb zd_Mo_product_84 (by decide) ?_
                refine lv_goto (tgt := 89) hx hb zd_Mo_product_85 (by decide) ?_
                refine lv_icmp_ne (tgt := 97) hx hb zd_Mo_product_89 (by decide) (fun c_20 => ?_) (fun c_20 => ?_)
                · have hf := mp_f c_20 hf
                  refine lv_lload hx hb zd_Mo_product_97 (lv_at hl 0 rfl) ?_
                  refine lv_lneg hx hb zd_Mo_product_99 ?_
                  have hf := Option.some.inj hf
                  subst hf
                  exact W.lret (v := (-(1000000000000 : Int64))) hx hb hr (fun t ht hW => ⟨(-(1000000000000 : Int64)), rfl, rfl, ht⟩) (fun q h => by cases h) zd_Mo_product_100
                · have hf := mp_t c_20 hf
                  refine lv_lload hx hb zd_Mo_product_92 (lv_at hl 0 rfl) ?_
                  refine lv_goto (tgt := 100) hx hb zd_Mo_product_94 (by decide) ?_
                  have hf := Option.some.inj hf
                  subst hf
                  exact W.lret (v := (1000000000000 : Int64)) hx hb hr (fun t ht hW => ⟨(1000000000000 : Int64), rfl, rfl, ht⟩) (fun q h => by cases h) zd_Mo_product_100
        · have c_4 := fun h9 => c_4 ((lg_cmp_ge _ _).mpr h9)
          have hf := mp_f c_4 hf
          refine lv_lload_n hx hb zd_Mo_product_34 rfl (lv_at hl 2 rfl) ?_
          refine lv_lneg hx hb zd_Mo_product_35 ?_
          refine lv_goto (tgt := 40) hx hb zd_Mo_product_36 (by decide) ?_
          refine lv_lstore (lv' := [(6, .long (-u2)), (4, .long u0), (0, .long u0), (2, .long u2)]) hx hb zd_Mo_product_40 hl (by decide) rfl (fun ls hl => ?_)
          refine lv_lload hx hb zd_Mo_product_42 (lv_at hl 0 rfl) ?_
          refine lv_ldc2 (v := 1000000000000) hx hb hown (hw _ zq_647) zd_Mo_product_44 ?_
          refine lv_lload hx hb zd_Mo_product_47 (lv_at hl 1 rfl) ?_
          obtain ⟨h_21, hf⟩ := mp_in hf
          refine lv_ldiv hx hb zd_Mo_product_49 h_21 ?_
          refine W.lcmp hx hb zd_Mo_product_50 ?_
          refine lv_if_le (tgt := 60) hx hb zd_Mo_product_51 (by decide) (fun c_22 => ?_) (fun c_22 => ?_)
          · have c_22 := (lg_cmp_le _ _).mp c_22
            have hf := mp_t c_22 hf
            refine lv_lload hx hb zd_Mo_product_60 (lv_at hl 1 rfl) ?_
            refine lv_lload hx hb zd_Mo_product_62 (lv_at hl 0 rfl) ?_
            refine lv_lmul hx hb zd_Mo_product_64 ?_
            refine lv_lstore (lv' := [(8, .long (u0 * (-u2))), (6, .long (-u2)), (4, .long u0), (0, .long u0), (2, .long u2)]) hx hb zd_Mo_product_65 hl (by decide) rfl (fun ls hl => ?_)
            refine lv_lload_n hx hb zd_Mo_product_67 rfl (lv_at hl 3 rfl) ?_
            refine lv_lconst (v := 0) hx hb zd_Mo_product_68 (by decide) ?_
            refine W.lcmp hx hb zd_Mo_product_69 ?_
            refine lv_if_ge (tgt := 77) hx hb zd_Mo_product_70 (by decide) (fun c_23 => ?_) (fun c_23 => ?_)
            · have c_23 := (lg_cmp_ge _ _).mp c_23
              have hf := mp_t c_23 hf
              refine lv_iconst (v := 0) hx hb zd_Mo_product_77 (by decide) ?_
              refine lv_lload_n hx hb zd_Mo_product_78 rfl (lv_at hl 4 rfl) ?_
              refine lv_lconst (v := 0) hx hb zd_Mo_product_79 (by decide) ?_
              refine W.lcmp hx hb zd_Mo_product_80 ?_
              refine lv_if_ge (tgt := 88) hx hb zd_Mo_product_81 (by decide) (fun c_24 => ?_) (fun c_24 => ?_)
              · have c_24 := (lg_cmp_ge _ _).mp c_24
                have hf := mp_t c_24 hf
                refine lv_iconst (v := 0) hx hb zd_Mo_product_88 (by decide) ?_
                refine lv_icmp_ne (tgt := 97) hx hb zd_Mo_product_89 (by decide) (fun c_25 => ?_) (fun c_25 => ?_)
                · have hf := mp_f c_25 hf
                  refine lv_lload hx hb zd_Mo_product_97 (lv_at hl 0 rfl) ?_
                  refine lv_lneg hx hb zd_Mo_product_99 ?_
                  have hf := Option.some.inj hf
                  subst hf
                  exact W.lret (v := (-(u0 * (-u2)))) hx hb hr (fun t ht hW => ⟨(-(u0 * (-u2))), rfl, rfl, ht⟩) (fun q h => by cases h) zd_Mo_product_100
                · have hf := mp_t c_25 hf
                  refine lv_lload hx hb zd_Mo_product_92 (lv_at hl 0 rfl) ?_
                  refine lv_goto (tgt := 100) hx hb zd_Mo_product_94 (by decide) ?_
                  have hf := Option.some.inj hf
                  subst hf
                  exact W.lret (v := (u0 * (-u2))) hx hb hr (fun t ht hW => ⟨(u0 * (-u2)), rfl, rfl, ht⟩) (fun q h => by cases h) zd_Mo_product_100
              · have c_24 := fun h9 => c_24 ((lg_cmp_ge _ _).mpr h9)
                have hf := mp_f c_24 hf
                refine lv_iconst (v := 1) hx hb zd_Mo_product_84 (by decide) ?_
                refine lv_goto (tgt := 89) hx hb zd_Mo_product_85 (by decide) ?_
                refine lv_icmp_ne (tgt := 97) hx hb zd_Mo_product_89 (by decide) (fun c_26 => ?_) (fun c_26 => ?_)
                · have hf := mp_f c_26 hf
                  refine lv_lload hx hb zd_Mo_product_97 (lv_at hl 0 rfl) ?_
                  refine lv_lneg hx hb zd_Mo_product_99 ?_
                  have hf := Option.some.inj hf
                  subst hf
                  exact W.lret (v := (-(u0 * (-u2)))) hx hb hr (fun t ht hW => ⟨(-(u0 * (-u2))), rfl, rfl, ht⟩) (fun q h => by cases h) zd_Mo_product_100
                · have hf := mp_t c_26 hf
                  refine lv_lload hx hb zd_Mo_product_92 (lv_at hl 0 rfl) ?_
                  refine lv_goto (tgt := 100) hx hb zd_Mo_product_94 (by decide) ?_
                  have hf := Option.some.inj hf
                  subst hf
                  exact W.lret (v := (u0 * (-u2))) hx hb hr (fun t ht hW => ⟨(u0 * (-u2)), rfl, rfl, ht⟩) (fun q h => by cases h) zd_Mo_product_100
            · have c_23 := fun h9 => c_23 ((lg_cmp_ge _ _).mpr h9)
              have hf := mp_f c_23 hf
              refine lv_iconst (v := 1) hx hb zd_Mo_product_73 (by decide) ?_
              refine lv_goto (tgt := 78) hx hb zd_Mo_product_74 (by decide) ?_
              refine lv_lload_n hx hb zd_Mo_product_78 rfl (lv_at hl 4 rfl) ?_
              refine lv_lconst (v := 0) hx hb zd_Mo_product_79 (by decide) ?_
              refine W.lcmp hx hb zd_Mo_product_80 ?_
              refine lv_if_ge (tgt := 88) hx hb zd_Mo_product_81 (by decide) (fun c_27 => ?_) (fun c_27 => ?_)
              · have c_27 := (lg_cmp_ge _ _).mp c_27
                have hf := mp_t c_27 hf
                refine lv_iconst (v := 0) hx hb zd_Mo_product_88 (by decide) ?_
                refine lv_icmp_ne (tgt := 97) hx hb zd_Mo_product_89 (by decide) (fun c_28 => ?_) (fun c_28 => ?_)
                · have hf := mp_f c_28 hf
                  refine lv_lload hx hb zd_Mo_product_97 (lv_at hl 0 rfl) ?_
                  refine lv_lneg hx hb zd_Mo_product_99 ?_
                  have hf := Option.some.inj hf
                  subst hf
                  exact W.lret (v := (-(u0 * (-u2)))) hx hb hr (fun t ht hW => ⟨(-(u0 * (-u2))), rfl, rfl, ht⟩) (fun q h => by cases h) zd_Mo_product_100
                · have hf := mp_t c_28 hf
                  refine lv_lload hx hb zd_Mo_product_92 (lv_at hl 0 rfl) ?_
                  refine lv_goto (tgt := 100) hx hb zd_Mo_product_94 (by decide) ?_
                  have hf := Option.some.inj hf
                  subst hf
                  exact W.lret (v := (u0 * (-u2))) hx hb hr (fun t ht hW => ⟨(u0 * (-u2)), rfl, rfl, ht⟩) (fun q h => by cases h) zd_Mo_product_100
              · have c_27 := fun h9 => c_27 ((lg_cmp_ge _ _).mpr h9)
                have hf := mp_f c_27 hf
                refine lv_iconst (v := 1) hx hb zd_Mo_product_84 (by decide) ?_
                refine lv_goto (tgt := 89) hx hb zd_Mo_product_85 (by decide) ?_
                refine lv_icmp_ne (tgt := 97) hx hb zd_Mo_product_89 (by decide) (fun c_29 => ?_) (fun c_29 => ?_)
                · have hf := mp_f c_29 hf
                  refine lv_lload hx hb zd_Mo_product_97 (lv_at hl 0 rfl) ?_
                  refine lv_lneg hx hb zd_Mo_product_99 ?_
                  have hf := Option.some.inj hf
                  subst hf
                  exact W.lret (v := (-(u0 * (-u2)))) hx hb hr (fun t ht hW => ⟨(-(u0 * (-u2))), rfl, rfl, ht⟩) (fun q h => by cases h) zd_Mo_product_100
                · have hf := mp_t c_29 hf
                  refine lv_lload hx hb zd_Mo_product_92 (lv_at hl 0 rfl) ?_
                  refine lv_goto (tgt := 100) hx hb zd_Mo_product_94 (by decide) ?_
                  have hf := Option.some.inj hf
                  subst hf
                  exact W.lret (v := (u0 * (-u2))) hx hb hr (fun t ht hW => ⟨(u0 * (-u2)), rfl, rfl, ht⟩) (fun q h => by cases h) zd_Mo_product_100
          · have c_22 := fun h9 => c_22 ((lg_cmp_le _ _).mpr h9)
            have hf := mp_f c_22 hf
            refine lv_ldc2 (v := 1000000000000) hx hb hown (hw _ zq_647) zd_Mo_product_54 ?_
            refine lv_goto (tgt := 65) hx hb zd_Mo_product_57 (by decide) ?_
            refine lv_lstore (lv' := [(8, .long (1000000000000 : Int64)), (6, .long (-u2)), (4, .long u0), (0, .long u0), (2, .long u2)]) hx hb zd_Mo_product_65 hl (by decide) rfl (fun ls hl => ?_)
            refine lv_lload_n hx hb zd_Mo_product_67 rfl (lv_at hl 3 rfl) ?_
            refine lv_lconst (v := 0) hx hb zd_Mo_product_68 (by decide) ?_
            refine W.lcmp hx hb zd_Mo_product_69 ?_
            refine lv_if_ge (tgt := 77) hx hb zd_Mo_product_70 (by decide) (fun c_30 => ?_) (fun c_30 => ?_)
            · have c_30 := (lg_cmp_ge _ _).mp c_30
              have hf := mp_t c_30 hf
              refine lv_iconst (v := 0) hx hb zd_Mo_product_77 (by decide) ?_
              refine lv_lload_n hx hb zd_Mo_product_78 rfl (lv_at hl 4 rfl) ?_
              refine lv_lconst (v := 0) hx hb zd_Mo_product_79 (by decide) ?_
              refine W.lcmp hx hb zd_Mo_product_80 ?_
              refine lv_if_ge (tgt := 88) hx hb zd_Mo_product_81 (by decide) (fun c_31 => ?_) (fun c_31 => ?_)
              · have c_31 := (lg_cmp_ge _ _).mp c_31
                have hf := mp_t c_31 hf
                refine lv_iconst (v := 0) hx hb zd_Mo_product_88 (by decide) ?_
                refine lv_icmp_ne (tgt := 97) hx hb zd_Mo_product_89 (by decide) (fun c_32 => ?_) (fun c_32 => ?_)
                · have hf := mp_f c_32 hf
                  refine lv_lload hx hb zd_Mo_product_97 (lv_at hl 0 rfl) ?_
                  refine lv_lneg hx hb zd_Mo_product_99 ?_
                  have hf := Option.some.inj hf
                  subst hf
                  exact W.lret (v := (-(1000000000000 : Int64))) hx hb hr (fun t ht hW => ⟨(-(1000000000000 : Int64)), rfl, rfl, ht⟩) (fun q h => by cases h) zd_Mo_product_100
                · have hf := mp_t c_32 hf
                  refine lv_lload hx hb zd_Mo_product_92 (lv_at hl 0 rfl) ?_
                  refine lv_goto (tgt := 100) hx hb zd_Mo_product_94 (by decide) ?_
                  have hf := Option.some.inj hf
                  subst hf
                  exact W.lret (v := (1000000000000 : Int64)) hx hb hr (fun t ht hW => ⟨(1000000000000 : Int64), rfl, rfl, ht⟩) (fun q h => by cases h) zd_Mo_product_100
              · have c_31 := fun h9 => c_31 ((lg_cmp_ge _ _).mpr h9)
                have hf := mp_f c_31 hf
                refine lv_iconst (v := 1) hx hb zd_Mo_product_84 (by decide) ?_
                refine lv_goto (tgt := 89) hx hb zd_Mo_product_85 (by decide) ?_
                refine lv_icmp_ne (tgt := 97) hx hb zd_Mo_product_89 (by decide) (fun c_33 => ?_) (fun c_33 => ?_)
                · have hf := mp_f c_33 hf
                  refine lv_lload hx hb zd_Mo_product_97 (lv_at hl 0 rfl) ?_
                  refine lv_lneg hx hb zd_Mo_product_99 ?_
                  have hf := Option.some.inj hf
                  subst hf
                  exact W.lret (v := (-(1000000000000 : Int64))) hx hb hr (fun t ht hW => ⟨(-(1000000000000 : Int64)), rfl, rfl, ht⟩) (fun q h => by cases h) zd_Mo_product_100
                · have hf := mp_t c_33 hf
                  refine lv_lload hx hb zd_Mo_product_92 (lv_at hl 0 rfl) ?_
                  refine lv_goto (tgt := 100) hx hb zd_Mo_product_94 (by decide) ?_
                  have hf := Option.some.inj hf
                  subst hf
                  exact W.lret (v := (1000000000000 : Int64)) hx hb hr (fun t ht hW => ⟨(1000000000000 : Int64), rfl, rfl, ht⟩) (fun q h => by cases h) zd_Mo_product_100
            · have c_30 := fun h9 => c_30 ((lg_cmp_ge _ _).mpr h9)
              have hf := mp_f c_30 hf
              refine lv_iconst (v := 1) hx hb zd_Mo_product_73 (by decide) ?_
              refine lv_goto (tgt := 78) hx hb zd_Mo_product_74 (by decide) ?_
              refine lv_lload_n hx hb zd_Mo_product_78 rfl (lv_at hl 4 rfl) ?_
              refine lv_lconst (v := 0) hx hb zd_Mo_product_79 (by decide) ?_
              refine W.lcmp hx hb zd_Mo_product_80 ?_
              refine lv_if_ge (tgt := 88) hx hb zd_Mo_product_81 (by decide) (fun c_34 => ?_) (fun c_34 => ?_)
              · have c_34 := (lg_cmp_ge _ _).mp c_34
                have hf := mp_t c_34 hf
                refine lv_iconst (v := 0) hx hb zd_Mo_product_88 (by decide) ?_
                refine lv_icmp_ne (tgt := 97) hx hb zd_Mo_product_89 (by decide) (fun c_35 => ?_) (fun c_35 => ?_)
                · have hf := mp_f c_35 hf
                  refine lv_lload hx hb zd_Mo_product_97 (lv_at hl 0 rfl) ?_
                  refine lv_lneg hx hb zd_Mo_product_99 ?_
                  have hf := Option.some.inj hf
                  subst hf
                  exact W.lret (v := (-(1000000000000 : Int64))) hx hb hr (fun t ht hW => ⟨(-(1000000000000 : Int64)), rfl, rfl, ht⟩) (fun q h => by cases h) zd_Mo_product_100
                · have hf := mp_t c_35 hf
                  refine lv_lload hx hb zd_Mo_product_92 (lv_at hl 0 rfl) ?_
                  refine lv_goto (tgt := 100) hx hb zd_Mo_product_94 (by decide) ?_
                  have hf := Option.some.inj hf
                  subst hf
                  exact W.lret (v := (1000000000000 : Int64)) hx hb hr (fun t ht hW => ⟨(1000000000000 : Int64), rfl, rfl, ht⟩) (fun q h => by cases h) zd_Mo_product_100
              · have c_34 := fun h9 => c_34 ((lg_cmp_ge _ _).mpr h9)
                have hf := mp_f c_34 hf
                refine lv_iconst (v := 1) hx hb zd_Mo_product_84 (by decide) ?_
                refine lv_goto (tgt := 89) hx hb zd_Mo_product_85 (by decide) ?_
                refine lv_icmp_ne (tgt := 97) hx hb zd_Mo_product_89 (by decide) (fun c_36 => ?_) (fun c_36 => ?_)
                · have hf := mp_f c_36 hf
                  refine lv_lload hx hb zd_Mo_product_97 (lv_at hl 0 rfl) ?_
                  refine lv_lneg hx hb zd_Mo_product_99 ?_
                  have hf := Option.some.inj hf
                  subst hf
                  exact W.lret (v := (-(1000000000000 : Int64))) hx hb hr (fun t ht hW => ⟨(-(1000000000000 : Int64)), rfl, rfl, ht⟩) (fun q h => by cases h) zd_Mo_product_100
                · have hf := mp_t c_36 hf
                  refine lv_lload hx hb zd_Mo_product_92 (lv_at hl 0 rfl) ?_
                  refine lv_goto (tgt := 100) hx hb zd_Mo_product_94 (by decide) ?_
                  have hf := Option.some.inj hf
                  subst hf
                  exact W.lret (v := (1000000000000 : Int64)) hx hb hr (fun t ht hW => ⟨(1000000000000 : Int64), rfl, rfl, ht⟩) (fun q h => by cases h) zd_Mo_product_100
      · have c_3 := fun h9 => c_3 ((lg_cmp_ge _ _).mpr h9)
        have hf := mp_f c_3 hf
        refine lv_lload_n hx hb zd_Mo_product_20 rfl (lv_at hl 0 rfl) ?_
        refine lv_lneg hx hb zd_Mo_product_21 ?_
        refine lv_goto (tgt := 26) hx hb zd_Mo_product_22 (by decide) ?_
        refine lv_lstore (lv' := [(4, .long (-u0)), (0, .long u0), (2, .long u2)]) hx hb zd_Mo_product_26 hl (by decide) rfl (fun ls hl => ?_)
        refine lv_lload_n hx hb zd_Mo_product_28 rfl (lv_at hl 2 rfl) ?_
        refine lv_lconst (v := 0) hx hb zd_Mo_product_29 (by decide) ?_
        refine W.lcmp hx hb zd_Mo_product_30 ?_
        refine lv_if_ge (tgt := 39) hx hb zd_Mo_product_31 (by decide) (fun c_37 => ?_) (fun c_37 => ?_)
        · have c_37 := (lg_cmp_ge _ _).mp c_37
          have hf := mp_t c_37 hf
          refine lv_lload_n hx hb zd_Mo_product_39 rfl (lv_at hl 2 rfl) ?_
          refine lv_lstore (lv' := [(6, .long u2), (4, .long (-u0)), (0, .long u0), (2, .long u2)]) hx hb zd_Mo_product_40 hl (by decide) rfl (fun ls hl => ?_)
          refine lv_lload hx hb zd_Mo_product_42 (lv_at hl 0 rfl) ?_
          refine lv_ldc2 (v := 1000000000000) hx hb hown (hw _ zq_647) zd_Mo_product_44 ?_
          refine lv_lload hx hb zd_Mo_product_47 (lv_at hl 1 rfl) ?_
          obtain ⟨h_38, hf⟩ := mp_in hf
          refine lv_ldiv hx hb zd_Mo_product_49 h_38 ?_
          refine W.lcmp hx hb zd_Mo_product_50 ?_
          refine lv_if_le (tgt := 60) hx hb zd_Mo_product_51 (by decide) (fun c_39 => ?_) (fun c_39 => ?_)
          · have c_39 := (lg_cmp_le _ _).mp c_39
            have hf := mp_t c_39 hf
            refine lv_lload hx hb zd_Mo_product_60 (lv_at hl 1 rfl) ?_
            refine lv_lload hx hb zd_Mo_product_62 (lv_at hl 0 rfl) ?_
            refine lv_lmul hx hb zd_Mo_product_64 ?_
            refine lv_lstore (lv' := [(8, .long ((-u0) * u2)), (6, .long u2), (4, .long (-u0)), (0, .long u0), (2, .long u2)]) hx hb zd_Mo_product_65 hl (by decide) rfl (fun ls hl => ?_)
            refine lv_lload_n hx hb zd_Mo_product_67 rfl (lv_at hl 3 rfl) ?_
            refine lv_lconst (v := 0) hx hb zd_Mo_product_68 (by decide) ?_
            refine W.lcmp hx hb zd_Mo_product_69 ?_
            refine lv_if_ge (tgt := 77) hx hb zd_Mo_product_70 (by decide) (fun c_40 => ?_) (fun c_40 => ?_)
            · have c_40 := (lg_cmp_ge _ _).mp c_40
              have hf := mp_t c_40 hf
              refine lv_iconst (v := 0) hx hb zd_Mo_product_77 (by decide) ?_
              refine lv_lload_n hx hb zd_Mo_product_78 rfl (lv_at hl 4 rfl) ?_
              refine lv_lconst (v := 0) hx hb zd_Mo_product_79 (by decide) ?_
              refine W.lcmp hx hb zd_Mo_product_80 ?_
              refine lv_if_ge (tgt := 88) hx hb zd_Mo_product_81 (by decide) (fun c_41 => ?_) (fun c_41 => ?_)
              · have c_41 := (lg_cmp_ge _ _).mp c_41
                have hf := mp_t c_41 hf
                refine lv_iconst (v := 0) hx hb zd_Mo_product_88 (by decide) ?_
                refine lv_icmp_ne (tgt := 97) hx hb zd_Mo_product_89 (by decide) (fun c_42 => ?_) (fun c_42 => ?_)
                · have hf := mp_f c_42 hf
                  refine lv_lload hx hb zd_Mo_product_97 (lv_at hl 0 rfl) ?_
                  refine lv_lneg hx hb zd_Mo_product_99 ?_
                  have hf := Option.some.inj hf
                  subst hf
                  exact W.lret (v := (-((-u0) * u2))) hx hb hr (fun t ht hW => ⟨(-((-u0) * u2)), rfl, rfl, ht⟩) (fun q h => by cases h) zd_Mo_product_100
                · have hf := mp_t c_42 hf
                  refine lv_lload hx hb zd_Mo_product_92 (lv_at hl 0 rfl) ?_
                  refine lv_goto (tgt := 100) hx hb zd_Mo_product_94 (by decide) ?_
                  have hf := Option.some.inj hf
                  subst hf
                  exact W.lret (v := ((-u0) * u2)) hx hb hr (fun t ht hW => ⟨((-u0) * u2), rfl, rfl, ht⟩) (fun q h => by cases h) zd_Mo_product_100
              · have c_41 := fun h9 => c_41 ((lg_cmp_ge _ _).mpr h9)
                have hf := mp_f c_41 hf
                refine lv_iconst (v := 1) hx hb zd_Mo_product_84 (by decide) ?_
                refine lv_goto (tgt := 89) hx hb zd_Mo_product_85 (by decide) ?_
                refine lv_icmp_ne (tgt := 97) hx hb zd_Mo_product_89 (by decide) (fun c_43 => ?_) (fun c_43 => ?_)
                · have hf := mp_f c_43 hf
                  refine lv_lload hx hb zd_Mo_product_97 (lv_at hl 0 rfl) ?_
                  refine lv_lneg hx hb zd_Mo_product_99 ?_
                  have hf := Option.some.inj hf
                  subst hf
                  exact W.lret (v := (-((-u0) * u2))) hx hb hr (fun t ht hW => ⟨(-((-u0) * u2)), rfl, rfl, ht⟩) (fun q h => by cases h) zd_Mo_product_100
                · have hf := mp_t c_43 hf
                  refine lv_lload hx hb zd_Mo_product_92 (lv_at hl 0 rfl) ?_
                  refine lv_goto (tgt := 100) hx hb zd_Mo_product_94 (by decide) ?_
                  have hf := Option.some.inj hf
                  subst hf
                  exact W.lret (v := ((-u0) * u2)) hx hb hr (fun t ht hW => ⟨((-u0) * u2), rfl, rfl, ht⟩) (fun q h => by cases h) zd_Mo_product_100
            · have c_40 := fun h9 => c_40 ((lg_cmp_ge _ _).mpr h9)
              have hf := mp_f c_40 hf
              refine lv_iconst (v := 1) hx hb zd_Mo_product_73 (by decide) ?_
              refine lv_goto (tgt := 78) hx hb zd_Mo_product_74 (by decide) ?_
              refine lv_lload_n hx hb zd_Mo_product_78 rfl (lv_at hl 4 rfl) ?_
              refine lv_lconst (v := 0) hx hb zd_Mo_product_79 (by decide) ?_
              refine W.lcmp hx hb zd_Mo_product_80 ?_
              refine lv_if_ge (tgt := 88) hx hb zd_Mo_product_81 (by decide) (fun c_44 => ?_) (fun c_44 => ?_)
              · have c_44 := (lg_cmp_ge _ _).mp c_44
                have hf := mp_t c_44 hf
                refine lv_iconst (v := 0) hx hb zd_Mo_product_88 (by decide) ?_
                refine lv_icmp_ne (tgt := 97) hx hb zd_Mo_product_89 (by decide) (fun c_45 => ?_) (fun c_45 => ?_)
                · have hf := mp_f c_45 hf
                  refine lv_lload hx hb zd_Mo_product_97 (lv_at hl 0 rfl) ?_
                  refine lv_lneg hx hb zd_Mo_product_99 ?_
                  have hf := Option.some.inj hf
                  subst hf
                  exact W.lret (v := (-((-u0) * u2))) hx hb hr (fun t ht hW => ⟨(-((-u0) * u2)), rfl, rfl, ht⟩) (fun q h => by cases h) zd_Mo_product_100
                · have hf := mp_t c_45 hf
                  refine lv_lload hx hb zd_Mo_product_92 (lv_at hl 0 rfl) ?_
                  refine lv_goto (tgt := 100) hx hb zd_Mo_product_94 (by decide) ?_
                  have hf := Option.some.inj hf
                  subst hf
                  exact W.lret (v := ((-u0) * u2)) hx hb hr (fun t ht hW => ⟨((-u0) * u2), rfl, rfl, ht⟩) (fun q h => by cases h) zd_Mo_product_100
              · have c_44 := fun h9 => c_44 ((lg_cmp_ge _ _).mpr h9)
                have hf := mp_f c_44 hf
                refine lv_iconst (v := 1) hx hb zd_Mo_product_84 (by decide) ?_
                refine lv_goto (tgt := 89) hx hb zd_Mo_product_85 (by decide) ?_
                refine lv_icmp_ne (tgt := 97) hx hb zd_Mo_product_89 (by decide) (fun c_46 => ?_) (fun c_46 => ?_)
                · have hf := mp_f c_46 hf
                  refine lv_lload hx hb zd_Mo_product_97 (lv_at hl 0 rfl) ?_
                  refine lv_lneg hx hb zd_Mo_product_99 ?_
                  have hf := Option.some.inj hf
                  subst hf
                  exact W.lret (v := (-((-u0) * u2))) hx hb hr (fun t ht hW => ⟨(-((-u0) * u2)), rfl, rfl, ht⟩) (fun q h => by cases h) zd_Mo_product_100
                · have hf := mp_t c_46 hf
                  refine lv_lload hx hb zd_Mo_product_92 (lv_at hl 0 rfl) ?_
                  refine lv_goto (tgt := 100) hx hb zd_Mo_product_94 (by decide) ?_
                  have hf := Option.some.inj hf
                  subst hf
                  exact W.lret (v := ((-u0) * u2)) hx hb hr (fun t ht hW => ⟨((-u0) * u2), rfl, rfl, ht⟩) (fun q h => by cases h) zd_Mo_product_100
          · have c_39 := fun h9 => c_39 ((lg_cmp_le _ _).mpr h9)
            have hf := mp_f c_39 hf
            refine lv_ldc2 (v := 1000000000000) hx hb hown (hw _ zq_647) zd_Mo_product_54 ?_
            refine lv_goto (tgt := 65) hx hb zd_Mo_product_57 (by decide) ?_
            refine lv_lstore (lv' := [(8, .long (1000000000000 : Int64)), (6, .long u2), (4, .long (-u0)), (0, .long u0), (2, .long u2)]) hx hb zd_Mo_product_65 hl (by decide) rfl (fun ls hl => ?_)
            refine lv_lload_n hx hb zd_Mo_product_67 rfl (lv_at hl 3 rfl) ?_
            refine lv_lconst (v := 0) hx hb zd_Mo_product_68 (by decide) ?_
            refine W.lcmp hx hb zd_Mo_product_69 ?_
            refine lv_if_ge (tgt := 77) hx hb zd_Mo_product_70 (by decide) (fun c_47 => ?_) (fun c_47 => ?_)
            · have c_47 := (lg_cmp_ge _ _).mp c_47
              have hf := mp_t c_47 hf
              refine lv_iconst (v := 0) hx hb zd_Mo_product_77 (by decide) ?_
              refine lv_lload_n hx hb zd_Mo_product_78 rfl (lv_at hl 4 rfl) ?_
              refine lv_lconst (v := 0) hx hb zd_Mo_product_79 (by decide) ?_
              refine W.lcmp hx hb zd_Mo_product_80 ?_
              refine lv_if_ge (tgt := 88) hx hb zd_Mo_product_81 (by decide) (fun c_48 => ?_) (fun c_48 => ?_)
              · have c_48 := (lg_cmp_ge _ _).mp c_48
                have hf := mp_t c_48 hf
                refine lv_iconst (v := 0) hx hb zd_Mo_product_88 (by decide) ?_
                refine lv_icmp_ne (tgt := 97) hx hb zd_Mo_product_89 (by decide) (fun c_49 => ?_) (fun c_49 => ?_)
                · have hf := mp_f c_49 hf
                  refine lv_lload hx hb zd_Mo_product_97 (lv_at hl 0 rfl) ?_
                  refine lv_lneg hx hb zd_Mo_product_99 ?_
                  have hf := Option.some.inj hf
                  subst hf
                  exact W.lret (v := (-(1000000000000 : Int64))) hx hb hr (fun t ht hW => ⟨(-(1000000000000 : Int64)), rfl, rfl, ht⟩) (fun q h => by cases h) zd_Mo_product_100
                · have hf := mp_t c_49 hf
                  refine lv_lload hx hb zd_Mo_product_92 (lv_at hl 0 rfl) ?_
                  refine lv_goto (tgt := 100) hx hb zd_Mo_product_94 (by decide) ?_
                  have hf := Option.some.inj hf
                  subst hf
                  exact W.lret (v := (1000000000000 : Int64)) hx hb hr (fun t ht hW => ⟨(1000000000000 : Int64), rfl, rfl, ht⟩) (fun q h => by cases h) zd_Mo_product_100
              · have c_48 := fun h9 => c_48 ((lg_cmp_ge _ _).mpr h9)
                have hf := mp_f c_48 hf
                refine lv_iconst (v := 1) hx hb zd_Mo_product_84 (by decide) ?_
                refine lv_goto (tgt := 89) hx hb zd_Mo_product_85 (by decide) ?_
                refine lv_icmp_ne (tgt := 97) hx hb zd_Mo_product_89 (by decide) (fun c_50 => ?_) (fun c_50 => ?_)
                · have hf := mp_f c_50 hf
                  refine lv_lload hx hb zd_Mo_product_97 (lv_at hl 0 rfl) ?_
                  refine lv_lneg hx hb zd_Mo_product_99 ?_
                  have hf := Option.some.inj hf
                  subst hf
                  exact W.lret (v := (-(1000000000000 : Int64))) hx hb hr (fun t ht hW => ⟨(-(1000000000000 : Int64)), rfl, rfl, ht⟩) (fun q h => by cases h) zd_Mo_product_100
                · have hf := mp_t c_50 hf
                  refine lv_lload hx hb zd_Mo_product_92 (lv_at hl 0 rfl) ?_
                  refine lv_goto (tgt := 100) hx hb zd_Mo_product_94 (by decide) ?_
                  have hf := Option.some.inj hf
                  subst hf
                  exact W.lret (v := (1000000000000 : Int64)) hx hb hr (fun t ht hW => ⟨(1000000000000 : Int64), rfl, rfl, ht⟩) (fun q h => by cases h) zd_Mo_product_100
            · have c_47 := fun h9 => c_47 ((lg_cmp_ge _ _).mpr h9)
              have hf := mp_f c_47 hf
              refine lv_iconst (v := 1) hx hb zd_Mo_product_73 (by decide) ?_
              refine lv_goto (tgt := 78) hx hb zd_Mo_product_74 (by decide) ?_
              refine lv_lload_n hx hb zd_Mo_product_78 rfl (lv_at hl 4 rfl) ?_
              refine lv_lconst (v := 0) hx hb zd_Mo_product_79 (by decide) ?_
              refine W.lcmp hx hb zd_Mo_product_80 ?_
              refine lv_if_ge (tgt := 88) hx hb zd_Mo_product_81 (by decide) (fun c_51 => ?_) (fun c_51 => ?_)
              · have c_51 := (lg_cmp_ge _ _).mp c_51
                have hf := mp_t c_51 hf
                refine lv_iconst (v := 0) hx hb zd_Mo_product_88 (by decide) ?_
                refine lv_icmp_ne (tgt := 97) hx hb zd_Mo_product_89 (by decide) (fun c_52 => ?_) (fun c_52 => ?_)
                · have hf := mp_f c_52 hf
                  refine lv_lload hx hb zd_Mo_product_97 (lv_at hl 0 rfl) ?_
                  refine lv_lneg hx hb zd_Mo_product_99 ?_
                  have hf := Option.some.inj hf
                  subst hf
                  exact W.lret (v := (-(1000000000000 : Int64))) hx hb hr (fun t ht hW => ⟨(-(1000000000000 : Int64)), rfl, rfl, ht⟩) (fun q h => by cases h) zd_Mo_product_100
                · have hf := mp_t c_52 hf
                  refine lv_lload hx hb zd_Mo_product_92 (lv_at hl 0 rfl) ?_
                  refine lv_goto (tgt := 100) hx hb zd_Mo_product_94 (by decide) ?_
                  have hf := Option.some.inj hf
                  subst hf
                  exact W.lret (v := (1000000000000 : Int64)) hx hb hr (fun t ht hW => ⟨(1000000000000 : Int64), rfl, rfl, ht⟩) (fun q h => by cases h) zd_Mo_product_100
              · have c_51 := fun h9 => c_51 ((lg_cmp_ge _ _).mpr h9)
                have hf := mp_f c_51 hf
                refine lv_iconst (v := 1) hx hb zd_Mo_product_84 (by decide) ?_
                refine lv_goto (tgt := 89) hx hb zd_Mo_product_85 (by decide) ?_
                refine lv_icmp_ne (tgt := 97) hx hb zd_Mo_product_89 (by decide) (fun c_53 => ?_) (fun c_53 => ?_)
                · have hf := mp_f c_53 hf
                  refine lv_lload hx hb zd_Mo_product_97 (lv_at hl 0 rfl) ?_
                  refine lv_lneg hx hb zd_Mo_product_99 ?_
                  have hf := Option.some.inj hf
                  subst hf
                  exact W.lret (v := (-(1000000000000 : Int64))) hx hb hr (fun t ht hW => ⟨(-(1000000000000 : Int64)), rfl, rfl, ht⟩) (fun q h => by cases h) zd_Mo_product_100
                · have hf := mp_t c_53 hf
                  refine lv_lload hx hb zd_Mo_product_92 (lv_at hl 0 rfl) ?_
                  refine lv_goto (tgt := 100) hx hb zd_Mo_product_94 (by decide) ?_
                  have hf := Option.some.inj hf
                  subst hf
                  exact W.lret (v := (1000000000000 : Int64)) hx hb hr (fun t ht hW => ⟨(1000000000000 : Int64), rfl, rfl, ht⟩) (fun q h => by cases h) zd_Mo_product_100
        · have c_37 := fun h9 => c_37 ((lg_cmp_ge _ _).mpr h9)
          have hf := mp_f c_37 hf
          refine lv_lload_n hx hb zd_Mo_product_34 rfl (lv_at hl 2 rfl) ?_
          refine lv_lneg hx hb zd_Mo_product_35 ?_
          refine lv_goto (tgt := 40) hx hb zd_Mo_product_36 (by decide) ?_
          refine lv_lstore (lv' := [(6, .long (-u2)), (4, .long (-u0)), (0, .long u0), (2, .long u2)]) hx hb zd_Mo_product_40 hl (by decide) rfl (fun ls hl => ?_)
          refine lv_lload hx hb zd_Mo_product_42 (lv_at hl 0 rfl) ?_
          refine lv_ldc2 (v := 1000000000000) hx hb hown (hw _ zq_647) zd_Mo_product_44 ?_
          refine lv_lload hx hb zd_Mo_product_47 (lv_at hl 1 rfl) ?_
          obtain ⟨h_54, hf⟩ := mp_in hf
          refine lv_ldiv hx hb zd_Mo_product_49 h_54 ?_
          refine W.lcmp hx hb zd_Mo_product_50 ?_
          refine lv_if_le (tgt := 60) hx hb zd_Mo_product_51 (by decide) (fun c_55 => ?_) (fun c_55 => ?_)
          · have c_55 := (lg_cmp_le _ _).mp c_55
            have hf := mp_t c_55 hf
            refine lv_lload hx hb zd_Mo_product_60 (lv_at hl 1 rfl) ?_
            refine lv_lload hx hb zd_Mo_product_62 (lv_at hl 0 rfl) ?_
            refine lv_lmul hx hb zd_Mo_product_64 ?_
            refine lv_lstore (lv' := [(8, .long ((-u0) * (-u2))), (6, .long (-u2)), (4, .long (-u0)), (0, .long u0), (2, .long u2)]) hx hb zd_Mo_product_65 hl (by decide) rfl (fun ls hl => ?_)
            refine lv_lload_n hx hb zd_Mo_product_67 rfl (lv_at hl 3 rfl) ?_
            refine lv_lconst (v := 0) hx hb zd_Mo_product_68 (by decide) ?_
            refine W.lcmp hx hb zd_Mo_product_69 ?_
            refine lv_if_ge (tgt := 77) hx hb zd_Mo_product_70 (by decide) (fun c_56 => ?_) (fun c_56 => ?_)
            · have c_56 := (lg_cmp_ge _ _).mp c_56
              have hf := mp_t c_56 hf
              refine lv_iconst (v := 0) hx hb zd_Mo_product_77 (by decide) ?_
              refine lv_lload_n hx hb zd_Mo_product_78 rfl (lv_at hl 4 rfl) ?_
              refine lv_lconst (v := 0) hx hb zd_Mo_product_79 (by decide) ?_
              refine W.lcmp hx hb zd_Mo_product_80 ?_
              refine lv_if_ge (tgt := 88) hx hb zd_Mo_product_81 (by decide) (fun c_57 => ?_) (fun c_57 => ?_)
              · have c_57 := (lg_cmp_ge _ _).mp c_57
                have hf := mp_t c_57 hf
                refine lv_iconst (v := 0) hx hb zd_Mo_product_88 (by decide) ?_
                refine lv_icmp_ne (tgt := 97) hx hb zd_Mo_product_89 (by decide) (fun c_58 => ?_) (fun c_58 => ?_)
                · have hf := mp_f c_58 hf
                  refine lv_lload hx hb zd_Mo_product_97 (lv_at hl 0 rfl) ?_
                  refine lv_lneg hx hb zd_Mo_product_99 ?_
                  have hf := Option.some.inj hf
                  subst hf
                  exact W.lret (v := (-((-u0) * (-u2)))) hx hb hr (fun t ht hW => ⟨(-((-u0) * (-u2))), rfl, rfl, ht⟩) (fun q h => by cases h) zd_Mo_product_100
                · have hf := mp_t c_58 hf
                  refine lv_lload hx hb zd_Mo_product_92 (lv_at hl 0 rfl) ?_
                  refine lv_goto (tgt := 100) hx hb zd_Mo_product_94 (by decide) ?_
                  have hf := Option.some.inj hf
                  subst hf
                  exact W.lret (v := ((-u0) * (-u2))) hx hb hr (fun t ht hW => ⟨((-u0) * (-u2)), rfl, rfl, ht⟩) (fun q h => by cases h) zd_Mo_product_100
              · have c_57 := fun h9 => c_57 ((lg_cmp_ge _ _).mpr h9)
                have hf := mp_f c_57 hf
                refine lv_iconst (v := 1) hx hb zd_Mo_product_84 (by decide) ?_
                refine lv_goto (tgt := 89) hx hb zd_Mo_product_85 (by decide) ?_
                refine lv_icmp_ne (tgt := 97) hx hb zd_Mo_product_89 (by decide) (fun c_59 => ?_) (fun c_59 => ?_)
                · have hf := mp_f c_59 hf
                  refine lv_lload hx hb zd_Mo_product_97 (lv_at hl 0 rfl) ?_
                  refine lv_lneg hx hb zd_Mo_product_99 ?_
                  have hf := Option.some.inj hf
                  subst hf
                  exact W.lret (v := (-((-u0) * (-u2)))) hx hb hr (fun t ht hW => ⟨(-((-u0) * (-u2))), rfl, rfl, ht⟩) (fun q h => by cases h) zd_Mo_product_100
                · have hf := mp_t c_59 hf
                  refine lv_lload hx hb zd_Mo_product_92 (lv_at hl 0 rfl) ?_
                  refine lv_goto (tgt := 100) hx hb zd_Mo_product_94 (by decide) ?_
                  have hf := Option.some.inj hf
                  subst hf
                  exact W.lret (v := ((-u0) * (-u2))) hx hb hr (fun t ht hW => ⟨((-u0) * (-u2)), rfl, rfl, ht⟩) (fun q h => by cases h) zd_Mo_product_100
            · have c_56 := fun h9 => c_56 ((lg_cmp_ge _ _).mpr h9)
              have hf := mp_f c_56 hf
              refine lv_iconst (v := 1) hx hb zd_Mo_product_73 (by decide) ?_
              refine lv_goto (tgt := 78) hx hb zd_Mo_product_74 (by decide) ?_
              refine lv_lload_n hx hb zd_Mo_product_78 rfl (lv_at hl 4 rfl) ?_
              refine lv_lconst (v := 0) hx hb zd_Mo_product_79 (by decide) ?_
              refine W.lcmp hx hb zd_Mo_product_80 ?_
              refine lv_if_ge (tgt := 88) hx hb zd_Mo_product_81 (by decide) (fun c_60 => ?_) (fun c_60 => ?_)
              · have c_60 := (lg_cmp_ge _ _).mp c_60
                have hf := mp_t c_60 hf
                refine lv_iconst (v := 0) hx hb zd_Mo_product_88 (by decide) ?_
                refine lv_icmp_ne (tgt := 97) hx hb zd_Mo_product_89 (by decide) (fun c_61 => ?_) (fun c_61 => ?_)
                · have hf := mp_f c_61 hf
                  refine lv_lload hx hb zd_Mo_product_97 (lv_at hl 0 rfl) ?_
                  refine lv_lneg hx hb zd_Mo_product_99 ?_
                  have hf := Option.some.inj hf
                  subst hf
                  exact W.lret (v := (-((-u0) * (-u2)))) hx hb hr (fun t ht hW => ⟨(-((-u0) * (-u2))), rfl, rfl, ht⟩) (fun q h => by cases h) zd_Mo_product_100
                · have hf := mp_t c_61 hf
                  refine lv_lload hx hb zd_Mo_product_92 (lv_at hl 0 rfl) ?_
                  refine lv_goto (tgt := 100) hx hb zd_Mo_product_94 (by decide) ?_
                  have hf := Option.some.inj hf
                  subst hf
                  exact W.lret (v := ((-u0) * (-u2))) hx hb hr (fun t ht hW => ⟨((-u0) * (-u2)), rfl, rfl, ht⟩) (fun q h => by cases h) zd_Mo_product_100
              · have c_60 := fun h9 => c_60 ((lg_cmp_ge _ _).mpr h9)
                have hf := mp_f c_60 hf
                refine lv_iconst (v := 1) hx hb zd_Mo_product_84 (by decide) ?_
                refine lv_goto (tgt := 89) hx hb zd_Mo_product_85 (by decide) ?_
                refine lv_icmp_ne (tgt := 97) hx hb zd_Mo_product_89 (by decide) (fun c_62 => ?_) (fun c_62 => ?_)
                · have hf := mp_f c_62 hf
                  refine lv_lload hx hb zd_Mo_product_97 (lv_at hl 0 rfl) ?_
                  refine lv_lneg hx hb zd_Mo_product_99 ?_
                  have hf := Option.some.inj hf
                  subst hf
                  exact W.lret (v := (-((-u0) * (-u2)))) hx hb hr (fun t ht hW => ⟨(-((-u0) * (-u2))), rfl, rfl, ht⟩) (fun q h => by cases h) zd_Mo_product_100
                · have hf := mp_t c_62 hf
                  refine lv_lload hx hb zd_Mo_product_92 (lv_at hl 0 rfl) ?_
                  refine lv_goto (tgt := 100) hx hb zd_Mo_product_94 (by decide) ?_
                  have hf := Option.some.inj hf
                  subst hf
                  exact W.lret (v := ((-u0) * (-u2))) hx hb hr (fun t ht hW => ⟨((-u0) * (-u2)), rfl, rfl, ht⟩) (fun q h => by cases h) zd_Mo_product_100
          · have c_55 := fun h9 => c_55 ((lg_cmp_le _ _).mpr h9)
            have hf := mp_f c_55 hf
            refine lv_ldc2 (v := 1000000000000) hx hb hown (hw _ zq_647) zd_Mo_product_54 ?_
            refine lv_goto (tgt := 65) hx hb zd_Mo_product_57 (by decide) ?_
            refine lv_lstore (lv' := [(8, .long (1000000000000 : Int64)), (6, .long (-u2)), (4, .long (-u0)), (0, .long u0), (2, .long u2)]) hx hb zd_Mo_product_65 hl (by decide) rfl (fun ls hl => ?_)
            refine lv_lload_n hx hb zd_Mo_product_67 rfl (lv_at hl 3 rfl) ?_
            refine lv_lconst (v := 0) hx hb zd_Mo_product_68 (by decide) ?_
            refine W.lcmp hx hb zd_Mo_product_69 ?_
            refine lv_if_ge (tgt := 77) hx hb zd_Mo_product_70 (by decide) (fun c_63 => ?_) (fun c_63 => ?_)
            · have c_63 := (lg_cmp_ge _ _).mp c_63
              have hf := mp_t c_63 hf
              refine lv_iconst (v := 0) hx hb zd_Mo_product_77 (by decide) ?_
              refine lv_lload_n hx hb zd_Mo_product_78 rfl (lv_at hl 4 rfl) ?_
              refine lv_lconst (v := 0) hx hb zd_Mo_product_79 (by decide) ?_
              refine W.lcmp hx hb zd_Mo_product_80 ?_
              refine lv_if_ge (tgt := 88) hx hb zd_Mo_product_81 (by decide) (fun c_64 => ?_) (fun c_64 => ?_)
              · have c_64 := (lg_cmp_ge _ _).mp c_64
                have hf := mp_t c_64 hf
                refine lv_iconst (v := 0) hx hb zd_Mo_product_88 (by decide) ?_
                refine lv_icmp_ne (tgt := 97) hx hb zd_Mo_product_89 (by decide) (fun c_65 => ?_) (fun c_65 => ?_)
                · have hf := mp_f c_65 hf
                  refine lv_lload hx hb zd_Mo_product_97 (lv_at hl 0 rfl) ?_
                  refine lv_lneg hx hb zd_Mo_product_99 ?_
                  have hf := Option.some.inj hf
                  subst hf
                  exact W.lret (v := (-(1000000000000 : Int64))) hx hb hr (fun t ht hW => ⟨(-(1000000000000 : Int64)), rfl, rfl, ht⟩) (fun q h => by cases h) zd_Mo_product_100
                · have hf := mp_t c_65 hf
                  refine lv_lload hx hb zd_Mo_product_92 (lv_at hl 0 rfl) ?_
                  refine lv_goto (tgt := 100) hx hb zd_Mo_product_94 (by decide) ?_
                  have hf := Option.some.inj hf
                  subst hf
                  exact W.lret (v := (1000000000000 : Int64)) hx hb hr (fun t ht hW => ⟨(1000000000000 : Int64), rfl, rfl, ht⟩) (fun q h => by cases h) zd_Mo_product_100
              · have c_64 := fun h9 => c_64 ((lg_cmp_ge _ _).mpr h9)
                have hf := mp_f c_64 hf
                refine lv_iconst (v := 1) hx hb zd_Mo_product_84 (by decide) ?_
                refine lv_goto (tgt := 89) hx hb zd_Mo_product_85 (by decide) ?_
                refine lv_icmp_ne (tgt := 97) hx hb zd_Mo_product_89 (by decide) (fun c_66 => ?_) (fun c_66 => ?_)
                · have hf := mp_f c_66 hf
                  refine lv_lload hx hb zd_Mo_product_97 (lv_at hl 0 rfl) ?_
                  refine lv_lneg hx hb zd_Mo_product_99 ?_
                  have hf := Option.some.inj hf
                  subst hf
                  exact W.lret (v := (-(1000000000000 : Int64))) hx hb hr (fun t ht hW => ⟨(-(1000000000000 : Int64)), rfl, rfl, ht⟩) (fun q h => by cases h) zd_Mo_product_100
                · have hf := mp_t c_66 hf
                  refine lv_lload hx hb zd_Mo_product_92 (lv_at hl 0 rfl) ?_
                  refine lv_goto (tgt := 100) hx hb zd_Mo_product_94 (by decide) ?_
                  have hf := Option.some.inj hf
                  subst hf
                  exact W.lret (v := (1000000000000 : Int64)) hx hb hr (fun t ht hW => ⟨(1000000000000 : Int64), rfl, rfl, ht⟩) (fun q h => by cases h) zd_Mo_product_100
            · have c_63 := fun h9 => c_63 ((lg_cmp_ge _ _).mpr h9)
              have hf := mp_f c_63 hf
              refine lv_iconst (v := 1) hx hb zd_Mo_product_73 (by decide) ?_
              refine lv_goto (tgt := 78) hx hb zd_Mo_product_74 (by decide) ?_
              refine lv_lload_n hx hb zd_Mo_product_78 rfl (lv_at hl 4 rfl) ?_
              refine lv_lconst (v := 0) hx hb zd_Mo_product_79 (by decide) ?_
              refine W.lcmp hx hb zd_Mo_product_80 ?_
              refine lv_if_ge (tgt := 88) hx hb zd_Mo_product_81 (by decide) (fun c_67 => ?_) (fun c_67 => ?_)
              · have c_67 := (lg_cmp_ge _ _).mp c_67
                have hf := mp_t c_67 hf
                refine lv_iconst (v := 0) hx hb zd_Mo_product_88 (by decide) ?_
                refine lv_icmp_ne (tgt := 97) hx hb zd_Mo_product_89 (by decide) (fun c_68 => ?_) (fun c_68 => ?_)
                · have hf := mp_f c_68 hf
                  refine lv_lload hx hb zd_Mo_product_97 (lv_at hl 0 rfl) ?_
                  refine lv_lneg hx hb zd_Mo_product_99 ?_
                  have hf := Option.some.inj hf
                  subst hf
                  exact W.lret (v := (-(1000000000000 : Int64))) hx hb hr (fun t ht hW => ⟨(-(1000000000000 : Int64)), rfl, rfl, ht⟩) (fun q h => by cases h) zd_Mo_product_100
                · have hf := mp_t c_68 hf
                  refine lv_lload hx hb zd_Mo_product_92 (lv_at hl 0 rfl) ?_
                  refine lv_goto (tgt := 100) hx hb zd_Mo_product_94 (by decide) ?_
                  have hf := Option.some.inj hf
                  subst hf
                  exact W.lret (v := (1000000000000 : Int64)) hx hb hr (fun t ht hW => ⟨(1000000000000 : Int64), rfl, rfl, ht⟩) (fun q h => by cases h) zd_Mo_product_100
              · have c_67 := fun h9 => c_67 ((lg_cmp_ge _ _).mpr h9)
                have hf := mp_f c_67 hf
                refine lv_iconst (v := 1) hx hb zd_Mo_product_84 (by decide) ?_
                refine lv_goto (tgt := 89) hx hb zd_Mo_product_85 (by decide) ?_
                refine lv_icmp_ne (tgt := 97) hx hb zd_Mo_product_89 (by decide) (fun c_69 => ?_) (fun c_69 => ?_)
                · have hf := mp_f c_69 hf
                  refine lv_lload hx hb zd_Mo_product_97 (lv_at hl 0 rfl) ?_
                  refine lv_lneg hx hb zd_Mo_product_99 ?_
                  have hf := Option.some.inj hf
                  subst hf
                  exact W.lret (v := (-(1000000000000 : Int64))) hx hb hr (fun t ht hW => ⟨(-(1000000000000 : Int64)), rfl, rfl, ht⟩) (fun q h => by cases h) zd_Mo_product_100
                · have hf := mp_t c_69 hf
                  refine lv_lload hx hb zd_Mo_product_92 (lv_at hl 0 rfl) ?_
                  refine lv_goto (tgt := 100) hx hb zd_Mo_product_94 (by decide) ?_
                  have hf := Option.some.inj hf
                  subst hf
                  exact W.lret (v := (1000000000000 : Int64)) hx hb hr (fun t ht hW => ⟨(1000000000000 : Int64), rfl, rfl, ht⟩) (fun q h => by cases h) zd_Mo_product_100
    · have c_2 := (lg_cmp_eq _ _).mp c_2
      have hf := mp_t c_2 hf
      refine lv_lconst (v := 0) hx hb zd_Mo_product_12 (by decide) ?_
      have hf := Option.some.inj hf
      subst hf
      exact W.lret (v := (0 : Int64)) hx hb hr (fun t ht hW => ⟨(0 : Int64), rfl, rfl, ht⟩) (fun q h => by cases h) zd_Mo_product_13
set_option maxHeartbeats 4000000 in
set_option maxRecDepth 100000 in
theorem zc_Mo_cut (l : Launch) (dC : Nat → ClassId) (dI : Nat → Nat → Nat) (cI cJ cZ : ClassId) (ad : Nat → Nat) (u0 : Int64) (res : Int64) (hf : zf_Mo_cut u0 = some res) : Met l zy_Mo_cut zw_Mo_cut ({ frames := 0, cells := 0, slots := 0, locals := 0 } : Room) (mp_PR (dC, dI) vwCl (mp_tys cI cJ cZ) [] [.long u0]) (vp_Sl (fun r => r = res)) 0 0 (fun _ => False) := by
  refine Met.ofW (cc := zb_Mo_cut) (maxL := 2) (ret := (some .long)) (by decide) rfl ?_
  intro p e s m args below meth c s₁ B hml hv
  obtain ⟨rfl, hP, hK, hN⟩ := hv
  have hx := B.exec
  have hb := B.bytes
  have hr := B.returns
  have hts := atoms_spec (ws := zw_Mo_cut) B.pre
  have hsub : ∀ w ∈ mp_tbl, w ∈ zw_Mo_cut := fun w h => List.mem_cons_of_mem _ h
  have hw : ∀ w ∈ mp_tbl, w.before _ s = true := fun w h => hts w (hsub w h)
  have hown : s.vm.findClass zR_Mo = some m.cls := findClass_of_methodNamed B.named
  have hlocks := B.notSynchronized
  have hl := lv_entry ([.long u0]) (n := 2) (Nat.le_of_ble_eq_true rfl)
  rw [lg_entry_eq]
  generalize (lg_sl ([.long u0]) ++ List.replicate (2 - (lg_sl ([.long u0])).length) Slot.unset).toArray = ls at hl ⊢
  have hl : lv_has ls 2 [(0, .long u0)] := hl
  unfold zf_Mo_cut at hf
  refine lv_lload_n hx hb zd_Mo_cut_0 rfl (lv_at hl 0 rfl) ?_
  refine lv_ldc2 (v := 1000000000000) hx hb hown (hw _ zq_647) zd_Mo_cut_1 ?_
  refine W.lcmp hx hb zd_Mo_cut_4 ?_
  refine lv_if_le (tgt := 14) hx hb zd_Mo_cut_5 (by decide) (fun c_1 => ?_) (fun c_1 => ?_)
  · have c_1 := (lg_cmp_le _ _).mp c_1
    have hf := mp_t c_1 hf
    refine lv_lload_n hx hb zd_Mo_cut_14 rfl (lv_at hl 0 rfl) ?_
    refine lv_ldc2 (v := -1000000000000) hx hb hown (hw _ zq_648) zd_Mo_cut_15 ?_
    refine W.lcmp hx hb zd_Mo_cut_18 ?_
    refine lv_if_ge (tgt := 28) hx hb zd_Mo_cut_19 (by decide) (fun c_2 => ?_) (fun c_2 => ?_)
    · have c_2 := (lg_cmp_ge _ _).mp c_2
      have hf := mp_t c_2 hf
      refine lv_lload_n hx hb zd_Mo_cut_28 rfl (lv_at hl 0 rfl) ?_
      have hf := Option.some.inj hf
      subst hf
      exact W.lret (v := u0) hx hb hr (fun t ht hW => ⟨u0, rfl, rfl, ht⟩) (fun q h => by cases h) zd_Mo_cut_29
    · have c_2 := fun h9 => c_2 ((lg_cmp_ge _ _).mpr h9)
      have hf := mp_f c_2 hf
      refine lv_ldc2 (v := -1000000000000) hx hb hown (hw _ zq_648) zd_Mo_cut_22 ?_
      refine lv_goto (tgt := 29) hx hb zd_Mo_cut_25 (by decide) ?_
      have hf := Option.some.inj hf
      subst hf
      exact W.lret (v := (-1000000000000 : Int64)) hx hb hr (fun t ht hW => ⟨(-1000000000000 : Int64), rfl, rfl, ht⟩) (fun q h => by cases h) zd_Mo_cut_29
  · have c_1 := fun h9 => c_1 ((lg_cmp_le _ _).mpr h9)
    have hf := mp_f c_1 hf
    refine lv_ldc2 (v := 1000000000000) hx hb hown (hw _ zq_647) zd_Mo_cut_8 ?_
    refine lv_goto (tgt := 29) hx hb zd_Mo_cut_11 (by decide) ?_
    have hf := Option.some.inj hf
    subst hf
    exact W.lret (v := (1000000000000 : Int64)) hx hb hr (fun t ht hW => ⟨(1000000000000 : Int64), rfl, rfl, ht⟩) (fun q h => by cases h) zd_Mo_cut_29
set_option maxHeartbeats 4000000 in
set_option maxRecDepth 100000 in
theorem zc_Mo_ofTwo (l : Launch) (dC : Nat → ClassId) (dI : Nat → Nat → Nat) (cI cJ cZ : ClassId) (ad : Nat → Nat) (u0 : Int32) (u1 : Int64) (u3 : Int64) (res : Int64) (hf : zf_Mo_ofTwo u0 u1 u3 = some res) : Met l zy_Mo_ofTwo zw_Mo_ofTwo ({ frames := 1, cells := 0, slots := 0, locals := 29 } : Room) (mp_PR (dC, dI) vwCl (mp_tys cI cJ cZ) [] [.int u0, .long u1, .long u3]) (vp_Sl (fun r => r = res)) 0 0 (fun _ => False) := by
  refine Met.ofW (cc := zb_Mo_ofTwo) (maxL := 5) (ret := (some .long)) (by decide) rfl ?_
  intro p e s m args below meth c s₁ B hml hv
  obtain ⟨rfl, hP, hK, hN⟩ := hv
  have hx := B.exec
  have hb := B.bytes
  have hr := B.returns
  have hts := atoms_spec (ws := zw_Mo_ofTwo) B.pre
  have hsub : ∀ w ∈ mp_tbl, w ∈ zw_Mo_ofTwo := fun w h => List.mem_cons_of_mem _ h
  have hw : ∀ w ∈ mp_tbl, w.before _ s = true := fun w h => hts w (hsub w h)
  have hown : s.vm.findClass zR_Mo = some m.cls := findClass_of_methodNamed B.named
  have hlocks := B.notSynchronized
  have hl := lv_entry ([.int u0, .long u1, .long u3]) (n := 5) (Nat.le_of_ble_eq_true rfl)
  rw [lg_entry_eq]
  generalize (lg_sl ([.int u0, .long u1, .long u3]) ++ List.replicate (5 - (lg_sl ([.int u0, .long u1, .long u3])).length) Slot.unset).toArray = ls at hl ⊢
  have hl : lv_has ls 5 [(0, .int u0), (1, .long u1), (3, .long u3)] := hl
  unfold zf_Mo_ofTwo at hf
  refine lv_iload_n hx hb zd_Mo_ofTwo_0 rfl (lv_at hl 0 rfl) ?_
  by_cases c_1 : u0 = (-10 : Int32)
  · have hf := mp_t c_1 hf
    refine lv_tableIn (tgt := 52) (off := 51) hx hb zd_Mo_ofTwo_1 (by rw [c_1]; decide) (by rw [c_1]; decide) (by rw [c_1]; rfl) (by decide) ?_
    refine lv_lload_n hx hb zd_Mo_ofTwo_52 rfl (lv_at hl 1 rfl) ?_
    refine lv_lload_n hx hb zd_Mo_ofTwo_53 rfl (lv_at hl 2 rfl) ?_
    refine W.lcmp hx hb zd_Mo_ofTwo_54 ?_
    refine lv_if_ge (tgt := 62) hx hb zd_Mo_ofTwo_55 (by decide) (fun c_2 => ?_) (fun c_2 => ?_)
    · have c_2 := (lg_cmp_ge _ _).mp c_2
      have hf := mp_t c_2 hf
      refine lv_lload_n hx hb zd_Mo_ofTwo_62 rfl (lv_at hl 2 rfl) ?_
      have hf := Option.some.inj hf
      subst hf
      exact W.lret (v := u3) hx hb hr (fun t ht hW => ⟨u3, rfl, rfl, ht⟩) (fun q h => by cases h) zd_Mo_ofTwo_63
    · have c_2 := fun h9 => c_2 ((lg_cmp_ge _ _).mpr h9)
      have hf := mp_f c_2 hf
      refine lv_lload_n hx hb zd_Mo_ofTwo_58 rfl (lv_at hl 1 rfl) ?_
      refine lv_goto (tgt := 63) hx hb zd_Mo_ofTwo_59 (by decide) ?_
      have hf := Option.some.inj hf
      subst hf
      exact W.lret (v := u1) hx hb hr (fun t ht hW => ⟨u1, rfl, rfl, ht⟩) (fun q h => by cases h) zd_Mo_ofTwo_63
  have hf := mp_f c_1 hf
  by_cases c_3 : u0 = (-9 : Int32)
  · have hf := mp_t c_3 hf
    refine lv_tableIn (tgt := 46) (off := 45) hx hb zd_Mo_ofTwo_1 (by rw [c_3]; decide) (by rw [c_3]; decide) (by rw [c_3]; rfl) (by decide) ?_
    refine lv_lload_n hx hb zd_Mo_ofTwo_46 rfl (lv_at hl 1 rfl) ?_
    refine lv_lload_n hx hb zd_Mo_ofTwo_47 rfl (lv_at hl 2 rfl) ?_
    obtain ⟨y4, hg4, hf⟩ := mp_bd hf
    refine mp_Rl (va_runS (As := [.long u1, .long u3]) (rest := []) ⟨hx, hb, hml, hown, hts⟩ (zc_Mo_product l dC dI cI cJ cZ ad u1 u3 y4 hg4) (va_cwS 2 hts (mp_gS hsub zq_649 zq_650 zq_30 zq_651) rfl rfl rfl (by decide +kernel) ⟨Nat.le_of_ble_eq_true rfl, Nat.le_of_ble_eq_true rfl⟩) ⟨mp_blR, mp_preR hN hK (hP.sub [] rfl)⟩ rfl rfl hl.1 rfl (lv_room (Nat.le_of_ble_eq_true rfl)) zd_Mo_ofTwo_48 ⟨Nat.zero_le _, Nat.zero_le _⟩) ?_
    have hf := Option.some.inj hf
    subst hf
    exact W.lret (v := y4) hx hb hr (fun t ht hW => ⟨y4, rfl, rfl, ht⟩) (fun q h => by cases h) zd_Mo_ofTwo_51
  have hf := mp_f c_3 hf
  by_cases c_5 : u0 = (-8 : Int32)
  · have hf := mp_t c_5 hf
    refine lv_tableIn (tgt := 39) (off := 38) hx hb zd_Mo_ofTwo_1 (by rw [c_5]; decide) (by rw [c_5]; decide) (by rw [c_5]; rfl) (by decide) ?_
    refine lv_lload_n hx hb zd_Mo_ofTwo_39 rfl (lv_at hl 1 rfl) ?_
    refine lv_lload_n hx hb zd_Mo_ofTwo_40 rfl (lv_at hl 2 rfl) ?_
    refine lv_lsub hx hb zd_Mo_ofTwo_41 ?_
    obtain ⟨y6, hg6, hf⟩ := mp_bd hf
    refine mp_Rl (va_runS (As := [.long (u1 - u3)]) (rest := []) ⟨hx, hb, hml, hown, hts⟩ (zc_Mo_cut l dC dI cI cJ cZ ad (u1 - u3) y6 hg6) (va_cwS 1 hts (mp_gS hsub zq_644 zq_645 zq_30 zq_646) rfl rfl rfl (by decide +kernel) ⟨Nat.le_of_ble_eq_true rfl, Nat.le_of_ble_eq_true rfl⟩) ⟨mp_blR, mp_preR hN hK (hP.sub [] rfl)⟩ rfl rfl hl.1 rfl (lv_room (Nat.le_of_ble_eq_true rfl)) zd_Mo_ofTwo_42 ⟨Nat.zero_le _, Nat.zero_le _⟩) ?_
    have hf := Option.some.inj hf
    subst hf
    exact W.lret (v := y6) hx hb hr (fun t ht hW => ⟨y6, rfl, rfl, ht⟩) (fun q h => by cases h) zd_Mo_ofTwo_45
  have hf := mp_f c_5 hf
  by_cases c_7 : u0 = (-7 : Int32)
  · have hf := mp_t c_7 hf
    refine lv_tableIn (tgt := 32) (off := 31) hx hb zd_Mo_ofTwo_1 (by rw [c_7]; decide) (by rw [c_7]; decide) (by rw [c_7]; rfl) (by decide) ?_
    refine lv_lload_n hx hb zd_Mo_ofTwo_32 rfl (lv_at hl 1 rfl) ?_
    refine lv_lload_n hx hb zd_Mo_ofTwo_33 rfl (lv_at hl 2 rfl) ?_
    refine lv_ladd hx hb zd_Mo_ofTwo_34 ?_
    obtain ⟨y8, hg8, hf⟩ := mp_bd hf
    refine mp_Rl (va_runS (As := [.long (u1 + u3)]) (rest := []) ⟨hx, hb, hml, hown, hts⟩ (zc_Mo_cut l dC dI cI cJ cZ ad (u1 + u3) y8 hg8) (va_cwS 1 hts (mp_gS hsub zq_644 zq_645 zq_30 zq_646) rfl rfl rfl (by decide +kernel) ⟨Nat.le_of_ble_eq_true rfl, Nat.le_of_ble_eq_true rfl⟩) ⟨mp_blR, mp_preR hN hK (hP.sub [] rfl)⟩ rfl rfl hl.1 rfl (lv_room (Nat.le_of_ble_eq_true rfl)) zd_Mo_ofTwo_35 ⟨Nat.zero_le _, Nat.zero_le _⟩) ?_
    have hf := Option.some.inj hf
    subst hf
    exact W.lret (v := y8) hx hb hr (fun t ht hW => ⟨y8, rfl, rfl, ht⟩) (fun q h => by cases h) zd_Mo_ofTwo_38
  have hf := mp_f c_7 hf
  have c_9 : u0.toInt < -10 ∨ -7 < u0.toInt := by
    have n_1 := lv_neT (a := -10) c_1 (by decide)
    have n_3 := lv_neT (a := -9) c_3 (by decide)
    have n_5 := lv_neT (a := -8) c_5 (by decide)
    have n_7 := lv_neT (a := -7) c_7 (by decide)
    omega
  refine lv_tableOut (tgt := 64) hx hb zd_Mo_ofTwo_1 c_9 (by decide) ?_
  refine lv_lload_n hx hb zd_Mo_ofTwo_64 rfl (lv_at hl 1 rfl) ?_
  refine lv_lload_n hx hb zd_Mo_ofTwo_65 rfl (lv_at hl 2 rfl) ?_
  refine W.lcmp hx hb zd_Mo_ofTwo_66 ?_
  refine lv_if_le (tgt := 74) hx hb zd_Mo_ofTwo_67 (by decide) (fun c_10 => ?_) (fun c_10 => ?_)
  · have c_10 := (lg_cmp_le _ _).mp c_10
    have hf := mp_t c_10 hf
    refine lv_lload_n hx hb zd_Mo_ofTwo_74 rfl (lv_at hl 2 rfl) ?_
    have hf := Option.some.inj hf
    subst hf
    exact W.lret (v := u3) hx hb hr (fun t ht hW => ⟨u3, rfl, rfl, ht⟩) (fun q h => by cases h) zd_Mo_ofTwo_75
  · have c_10 := fun h9 => c_10 ((lg_cmp_le _ _).mpr h9)
    have hf := mp_f c_10 hf
    refine lv_lload_n hx hb zd_Mo_ofTwo_70 rfl (lv_at hl 1 rfl) ?_
    refine lv_goto (tgt := 75) hx hb zd_Mo_ofTwo_71 (by decide) ?_
    have hf := Option.some.inj hf
    subst hf
    exact W.lret (v := u1) hx hb hr (fun t ht hW => ⟨u1, rfl, rfl, ht⟩) (fun q h => by cases h) zd_Mo_ofTwo_75
