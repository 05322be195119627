set_option maxHeartbeats 4000000 in
set_option maxRecDepth 100000 in
theorem zc_Mo_sum (l : Launch) (dC : Nat → ClassId) (dI : Nat → Nat → Nat) (cI cJ cZ : ClassId) (ad : Nat → Nat) (sz : Nat) (mgc : Int32) (mpn : Int32) (mcn : Int32) (msz : Int32) (mwc : Int32) (mhf : Int32) (mho : Nat → Int32) (mki : Nat → Int32) (mgr : Nat → Int64) (min_ : Nat → Int32) (mcp : Nat → Int32) (mcd : Nat → Int64) (mck : Nat → Int32) (mcg : Nat → Int64) (mow : Nat → Int64) (msu : Nat → Int64) (mne : Nat → Int64) (u1 : Int32) (u2 : Int64) (res : (Nat → Int64) × (Nat → Int64) × (Nat → Int64)) (hf : zf_Mo_sum u1 u2 mpn mcn mho mki mgr min_ mcp mcd mck mcg mow msu mne = some res) : Met l zy_Mo_sum zw_Mo_sum ({ frames := 2, cells := 0, slots := 0, locals := 50 } : Room) (mp_PM (dC, dI) vwCl (mp_tys cI cJ cZ) [(ad 0, .inr (5, [.int mgc, .ref (ad 1), .int mpn, .ref (ad 2), .ref (ad 3), .ref (ad 4), .ref (ad 5), .ref (ad 6), .int mcn, .ref (ad 7), .ref (ad 8), .ref (ad 9), .ref (ad 10), .ref (ad 11), .ref (ad 12), .int msz, .ref (ad 13), .int mwc, .int mhf, .ref (ad 14), .ref (ad 15), .ref (ad 16), .ref (ad 17), .ref (ad 18)])), (ad 2, .inl (cI, 24, .inl mho)), (ad 3, .inl (cI, 24, .inl mki)), (ad 4, .inl (cJ, 24, .inr (.inl mgr))), (ad 6, .inl (cI, 24, .inl min_)), (ad 7, .inl (cI, 20, .inl mcp)), (ad 8, .inl (cJ, 20, .inr (.inl mcd))), (ad 9, .inl (cI, 20, .inl mck)), (ad 10, .inl (cJ, 20, .inr (.inl mcg))), (ad 16, .inl (cJ, 8, .inr (.inl mow))), (ad 17, .inl (cJ, 8, .inr (.inl msu))), (ad 18, .inl (cJ, 8, .inr (.inl mne)))] sz [.ref (ad 0), .int u1, .long u2]) (va_Qv (fun (_ : Unit) => True) (mp_BM (dC, dI) vwCl [(ad 0, .inr (5, [.int mgc, .ref (ad 1), .int mpn, .ref (ad 2), .ref (ad 3), .ref (ad 4), .ref (ad 5), .ref (ad 6), .int mcn, .ref (ad 7), .ref (ad 8), .ref (ad 9), .ref (ad 10), .ref (ad 11), .ref (ad 12), .int msz, .ref (ad 13), .int mwc, .int mhf, .ref (ad 14), .ref (ad 15), .ref (ad 16), .ref (ad 17), .ref (ad 18)])), (ad 2, .inl (cI, 24, .inl mho)), (ad 3, .inl (cI, 24, .inl mki)), (ad 4, .inl (cJ, 24, .inr (.inl mgr))), (ad 6, .inl (cI, 24, .inl min_)), (ad 7, .inl (cI, 20, .inl mcp)), (ad 8, .inl (cJ, 20, .inr (.inl mcd))), (ad 9, .inl (cI, 20, .inl mck)), (ad 10, .inl (cJ, 20, .inr (.inl mcg))), (ad 16, .inl (cJ, 8, .inr (.inl res.1))), (ad 17, .inl (cJ, 8, .inr (.inl res.2.1))), (ad 18, .inl (cJ, 8, .inr (.inl res.2.2)))] (va_A [(ad 0, .inr (5, [.int mgc, .ref (ad 1), .int mpn, .ref (ad 2), .ref (ad 3), .ref (ad 4), .ref (ad 5), .ref (ad 6), .int mcn, .ref (ad 7), .ref (ad 8), .ref (ad 9), .ref (ad 10), .ref (ad 11), .ref (ad 12), .int msz, .ref (ad 13), .int mwc, .int mhf, .ref (ad 14), .ref (ad 15), .ref (ad 16), .ref (ad 17), .ref (ad 18)])), (ad 2, .inl (cI, 24, .inl mho)), (ad 3, .inl (cI, 24, .inl mki)), (ad 4, .inl (cJ, 24, .inr (.inl mgr))), (ad 6, .inl (cI, 24, .inl min_)), (ad 7, .inl (cI, 20, .inl mcp)), (ad 8, .inl (cJ, 20, .inr (.inl mcd))), (ad 9, .inl (cI, 20, .inl mck)), (ad 10, .inl (cJ, 20, .inr (.inl mcg))), (ad 16, .inl (cJ, 8, .inr (.inl mow))), (ad 17, .inl (cJ, 8, .inr (.inl msu))), (ad 18, .inl (cJ, 8, .inr (.inl mne)))] sz)) (va_A [(ad 0, .inr (5, [.int mgc, .ref (ad 1), .int mpn, .ref (ad 2), .ref (ad 3), .ref (ad 4), .ref (ad 5), .ref (ad 6), .int mcn, .ref (ad 7), .ref (ad 8), .ref (ad 9), .ref (ad 10), .ref (ad 11), .ref (ad 12), .int msz, .ref (ad 13), .int mwc, .int mhf, .ref (ad 14), .ref (ad 15), .ref (ad 16), .ref (ad 17), .ref (ad 18)])), (ad 2, .inl (cI, 24, .inl mho)), (ad 3, .inl (cI, 24, .inl mki)), (ad 4, .inl (cJ, 24, .inr (.inl mgr))), (ad 6, .inl (cI, 24, .inl min_)), (ad 7, .inl (cI, 20, .inl mcp)), (ad 8, .inl (cJ, 20, .inr (.inl mcd))), (ad 9, .inl (cI, 20, .inl mck)), (ad 10, .inl (cJ, 20, .inr (.inl mcg))), (ad 16, .inl (cJ, 8, .inr (.inl mow))), (ad 17, .inl (cJ, 8, .inr (.inl msu))), (ad 18, .inl (cJ, 8, .inr (.inl mne)))] sz)) 0 0 ((va_A [(ad 0, .inr (5, [.int mgc, .ref (ad 1), .int mpn, .ref (ad 2), .ref (ad 3), .ref (ad 4), .ref (ad 5), .ref (ad 6), .int mcn, .ref (ad 7), .ref (ad 8), .ref (ad 9), .ref (ad 10), .ref (ad 11), .ref (ad 12), .int msz, .ref (ad 13), .int mwc, .int mhf, .ref (ad 14), .ref (ad 15), .ref (ad 16), .ref (ad 17), .ref (ad 18)])), (ad 2, .inl (cI, 24, .inl mho)), (ad 3, .inl (cI, 24, .inl mki)), (ad 4, .inl (cJ, 24, .inr (.inl mgr))), (ad 6, .inl (cI, 24, .inl min_)), (ad 7, .inl (cI, 20, .inl mcp)), (ad 8, .inl (cJ, 20, .inr (.inl mcd))), (ad 9, .inl (cI, 20, .inl mck)), (ad 10, .inl (cJ, 20, .inr (.inl mcg))), (ad 16, .inl (cJ, 8, .inr (.inl mow))), (ad 17, .inl (cJ, 8, .inr (.inl msu))), (ad 18, .inl (cJ, 8, .inr (.inl mne)))] sz)) := by
  refine Met.ofW (cc := zb_Mo_sum) (maxL := 6) (ret := none) (by decide) rfl ?_
  intro p e s m args below meth c s₁ B hml hv
  obtain ⟨rfl, hsz, hP, hK, hD0, hN⟩ := hv
  have hx := B.exec
  have hb := B.bytes
  have hr := B.returns
  have hts := atoms_spec (ws := zw_Mo_sum) B.pre
  have hsub : ∀ w ∈ mp_tbl, w ∈ zw_Mo_sum := fun w h => List.mem_cons_of_mem _ h
  have hw : ∀ w ∈ mp_tbl, w.before _ s = true := fun w h => hts w (hsub w h)
  have hown : s.vm.findClass zR_Mo = some m.cls := findClass_of_methodNamed B.named
  have hlocks := B.notSynchronized
  subst hsz
  have hD := hD0.self (sz := s.heap.size)
  generalize hAe : va_A [(ad 0, .inr (5, [.int mgc, .ref (ad 1), .int mpn, .ref (ad 2), .ref (ad 3), .ref (ad 4), .ref (ad 5), .ref (ad 6), .int mcn, .ref (ad 7), .ref (ad 8), .ref (ad 9), .ref (ad 10), .ref (ad 11), .ref (ad 12), .int msz, .ref (ad 13), .int mwc, .int mhf, .ref (ad 14), .ref (ad 15), .ref (ad 16), .ref (ad 17), .ref (ad 18)])), (ad 2, .inl (cI, 24, .inl mho)), (ad 3, .inl (cI, 24, .inl mki)), (ad 4, .inl (cJ, 24, .inr (.inl mgr))), (ad 6, .inl (cI, 24, .inl min_)), (ad 7, .inl (cI, 20, .inl mcp)), (ad 8, .inl (cJ, 20, .inr (.inl mcd))), (ad 9, .inl (cI, 20, .inl mck)), (ad 10, .inl (cJ, 20, .inr (.inl mcg))), (ad 16, .inl (cJ, 8, .inr (.inl mow))), (ad 17, .inl (cJ, 8, .inr (.inl msu))), (ad 18, .inl (cJ, 8, .inr (.inl mne)))] s.heap.size = A at hD ⊢
  have hA : ∀ q : Nat, s.heap.size ≤ q → A q := fun q h => by rw [← hAe]; exact Or.inr h
  have hS : va_S A s.heap s.heap [] := va_S.rf
  have hP : va_P (dC, dI) vwCl [(ad 0, .inr (5, [.int mgc, .ref (ad 1), .int mpn, .ref (ad 2), .ref (ad 3), .ref (ad 4), .ref (ad 5), .ref (ad 6), .int mcn, .ref (ad 7), .ref (ad 8), .ref (ad 9), .ref (ad 10), .ref (ad 11), .ref (ad 12), .int msz, .ref (ad 13), .int mwc, .int mhf, .ref (ad 14), .ref (ad 15), .ref (ad 16), .ref (ad 17), .ref (ad 18)])), (ad 2, .inl (cI, 24, .inl mho)), (ad 3, .inl (cI, 24, .inl mki)), (ad 4, .inl (cJ, 24, .inr (.inl mgr))), (ad 6, .inl (cI, 24, .inl min_)), (ad 7, .inl (cI, 20, .inl mcp)), (ad 8, .inl (cJ, 20, .inr (.inl mcd))), (ad 9, .inl (cI, 20, .inl mck)), (ad 10, .inl (cJ, 20, .inr (.inl mcg))), (ad 16, .inl (cJ, 8, .inr (.inl mow))), (ad 17, .inl (cJ, 8, .inr (.inl msu))), (ad 18, .inl (cJ, 8, .inr (.inl mne)))] s.heap := hP
  clear hAe hD0
  have loop189 : ∀ (v1 : Int32) (v2 : Int64) (v4 : Int32) (mow : Nat → Int64) (mne : Nat → Int64) (K90 : Int32 → (Nat → Int64) → (Nat → Int64) → Option ((Nat → Int64) × (Nat → Int64) × (Nat → Int64))) (hk90 : ∀ (v4 : Int32) (msu : Nat → Int64) (mne : Nat → Int64) (H : Heap) (locs : List Loc) (ls : Array Slot), K90 v4 msu mne = some res → va_P (dC, dI) vwCl [(ad 0, .inr (5, [.int mgc, .ref (ad 1), .int mpn, .ref (ad 2), .ref (ad 3), .ref (ad 4), .ref (ad 5), .ref (ad 6), .int mcn, .ref (ad 7), .ref (ad 8), .ref (ad 9), .ref (ad 10), .ref (ad 11), .ref (ad 12), .int msz, .ref (ad 13), .int mwc, .int mhf, .ref (ad 14), .ref (ad 15), .ref (ad 16), .ref (ad 17), .ref (ad 18)])), (ad 2, .inl (cI, 24, .inl mho)), (ad 3, .inl (cI, 24, .inl mki)), (ad 4, .inl (cJ, 24, .inr (.inl mgr))), (ad 6, .inl (cI, 24, .inl min_)), (ad 7, .inl (cI, 20, .inl mcp)), (ad 8, .inl (cJ, 20, .inr (.inl mcd))), (ad 9, .inl (cI, 20, .inl mck)), (ad 10, .inl (cJ, 20, .inr (.inl mcg))), (ad 16, .inl (cJ, 8, .inr (.inl mow))), (ad 17, .inl (cJ, 8, .inr (.inl msu))), (ad 18, .inl (cJ, 8, .inr (.inl mne)))] H → va_D A [(ad 0, .inr (5, [.int mgc, .ref (ad 1), .int mpn, .ref (ad 2), .ref (ad 3), .ref (ad 4), .ref (ad 5), .ref (ad 6), .int mcn, .ref (ad 7), .ref (ad 8), .ref (ad 9), .ref (ad 10), .ref (ad 11), .ref (ad 12), .int msz, .ref (ad 13), .int mwc, .int mhf, .ref (ad 14), .ref (ad 15), .ref (ad 16), .ref (ad 17), .ref (ad 18)])), (ad 2, .inl (cI, 24, .inl mho)), (ad 3, .inl (cI, 24, .inl mki)), (ad 4, .inl (cJ, 24, .inr (.inl mgr))), (ad 6, .inl (cI, 24, .inl min_)), (ad 7, .inl (cI, 20, .inl mcp)), (ad 8, .inl (cJ, 20, .inr (.inl mcd))), (ad 9, .inl (cI, 20, .inl mck)), (ad 10, .inl (cJ, 20, .inr (.inl mcg))), (ad 16, .inl (cJ, 8, .inr (.inl mow))), (ad 17, .inl (cJ, 8, .inr (.inl msu))), (ad 18, .inl (cJ, 8, .inr (.inl mne)))] → va_S A s.heap H locs → lv_has ls 6 [(0, .ref (ad 0)), (1, .int v1), (2, .long v2), (4, .int v4)] → W p l e (headSpec zw_Mo_sum ({ frames := 2, cells := 0, slots := 0, locals := 50 } : Room)).room s m ([.ref (ad 0), .int u1, .long u2] : List Value).toArray below meth c H locs 0 0 (MQ below (va_Qv (fun (_ : Unit) => True) (mp_BM (dC, dI) vwCl [(ad 0, .inr (5, [.int mgc, .ref (ad 1), .int mpn, .ref (ad 2), .ref (ad 3), .ref (ad 4), .ref (ad 5), .ref (ad 6), .int mcn, .ref (ad 7), .ref (ad 8), .ref (ad 9), .ref (ad 10), .ref (ad 11), .ref (ad 12), .int msz, .ref (ad 13), .int mwc, .int mhf, .ref (ad 14), .ref (ad 15), .ref (ad 16), .ref (ad 17), .ref (ad 18)])), (ad 2, .inl (cI, 24, .inl mho)), (ad 3, .inl (cI, 24, .inl mki)), (ad 4, .inl (cJ, 24, .inr (.inl mgr))), (ad 6, .inl (cI, 24, .inl min_)), (ad 7, .inl (cI, 20, .inl mcp)), (ad 8, .inl (cJ, 20, .inr (.inl mcd))), (ad 9, .inl (cI, 20, .inl mck)), (ad 10, .inl (cJ, 20, .inr (.inl mcg))), (ad 16, .inl (cJ, 8, .inr (.inl res.1))), (ad 17, .inl (cJ, 8, .inr (.inl res.2.1))), (ad 18, .inl (cJ, 8, .inr (.inl res.2.2)))] A) A) ([.ref (ad 0), .int u1, .long u2] : List Value).toArray s 0 0 (A)) (F0 m 90 ls [])) (n : Nat) (v5 : Int32) (msu : Nat → Int64) (H : Heap) (locs : List Loc) (ls : Array Slot), zf_Mo_sum_L189 v1 v2 v4 mow mne mpn mcn mho mki mgr min_ mcp mcd mck mcg K90 n v5 msu = some res → va_P (dC, dI) vwCl [(ad 0, .inr (5, [.int mgc, .ref (ad 1), .int mpn, .ref (ad 2), .ref (ad 3), .ref (ad 4), .ref (ad 5), .ref (ad 6), .int mcn, .ref (ad 7), .ref (ad 8), .ref (ad 9), .ref (ad 10), .ref (ad 11), .ref (ad 12), .int msz, .ref (ad 13), .int mwc, .int mhf, .ref (ad 14), .ref (ad 15), .ref (ad 16), .ref (ad 17), .ref (ad 18)])), (ad 2, .inl (cI, 24, .inl mho)), (ad 3, .inl (cI, 24, .inl mki)), (ad 4, .inl (cJ, 24, .inr (.inl mgr))), (ad 6, .inl (cI, 24, .inl min_)), (ad 7, .inl (cI, 20, .inl mcp)), (ad 8, .inl (cJ, 20, .inr (.inl mcd))), (ad 9, .inl (cI, 20, .inl mck)), (ad 10, .inl (cJ, 20, .inr (.inl mcg))), (ad 16, .inl (cJ, 8, .inr (.inl mow))), (ad 17, .inl (cJ, 8, .inr (.inl msu))), (ad 18, .inl (cJ, 8, .inr (.inl mne)))] H → va_D A [(ad 0, .inr (5, [.int mgc, .ref (ad 1), .int mpn, .ref (ad 2), .ref (ad 3), .ref (ad 4), .ref (ad 5), .ref (ad 6), .int mcn, .ref (ad 7), .ref (ad 8), .ref (ad 9), .ref (ad 10), .ref (ad 11), .ref (ad 12), .int msz, .ref (ad 13), .int mwc, .int mhf, .ref (ad 14), .ref (ad 15), .ref (ad 16), .ref (ad 17), .ref (ad 18)])), (ad 2, .inl (cI, 24, .inl mho)), (ad 3, .inl (cI, 24, .inl mki)), (ad 4, .inl (cJ, 24, .inr (.inl mgr))), (ad 6, .inl (cI, 24, .inl min_)), (ad 7, .inl (cI, 20, .inl mcp)), (ad 8, .inl (cJ, 20, .inr (.inl mcd))), (ad 9, .inl (cI, 20, .inl mck)), (ad 10, .inl (cJ, 20, .inr (.inl mcg))), (ad 16, .inl (cJ, 8, .inr (.inl mow))), (ad 17, .inl (cJ, 8, .inr (.inl msu))), (ad 18, .inl (cJ, 8, .inr (.inl mne)))] → va_S A s.heap H locs → lv_has ls 6 [(0, .ref (ad 0)), (1, .int v1), (2, .long v2), (4, .int v4), (5, .int v5)] → W p l e (headSpec zw_Mo_sum ({ frames := 2, cells := 0, slots := 0, locals := 50 } : Room)).room s m ([.ref (ad 0), .int u1, .long u2] : List Value).toArray below meth c H locs 0 0 (MQ below (va_Qv (fun (_ : Unit) => True) (mp_BM (dC, dI) vwCl [(ad 0, .inr (5, [.int mgc, .ref (ad 1), .int mpn, .ref (ad 2), .ref (ad 3), .ref (ad 4), .ref (ad 5), .ref (ad 6), .int mcn, .ref (ad 7), .ref (ad 8), .ref (ad 9), .ref (ad 10), .ref (ad 11), .ref (ad 12), .int msz, .ref (ad 13), .int mwc, .int mhf, .ref (ad 14), .ref (ad 15), .ref (ad 16), .ref (ad 17), .ref (ad 18)])), (ad 2, .inl (cI, 24, .inl mho)), (ad 3, .inl (cI, 24, .inl mki)), (ad 4, .inl (cJ, 24, .inr (.inl mgr))), (ad 6, .inl (cI, 24, .inl min_)), (ad 7, .inl (cI, 20, .inl mcp)), (ad 8, .inl (cJ, 20, .inr (.inl mcd))), (ad 9, .inl (cI, 20, .inl mck)), (ad 10, .inl (cJ, 20, .inr (.inl mcg))), (ad 16, .inl (cJ, 8, .inr (.inl res.1))), (ad 17, .inl (cJ, 8, .inr (.inl res.2.1))), (ad 18, .inl (cJ, 8, .inr (.inl res.2.2)))] A) A) ([.ref (ad 0), .int u1, .long u2] : List Value).toArray s 0 0 (A)) (F0 m 189 ls []) := by
    intro v1 v2 v4 mow mne K90 hk90 n
    induction n with
    | zero => intro v5 msu H locs ls hf; simp [zf_Mo_sum_L189] at hf
    | succ n ih =>
      intro v5 msu H locs ls hf hP hD hS hl
      rw [zf_Mo_sum_L189] at hf
      refine lv_iload hx hb zd_Mo_sum_189 (lv_at hl 4 rfl) ?_
      refine lv_bipush (v := 8) hx hb zd_Mo_sum_191 (by decide) ?_
      refine lv_icmp_ge (tgt := 216) hx hb zd_Mo_sum_193 (by decide) (fun c_6 => ?_) (fun c_6 => ?_)
      · have hf := mp_t c_6 hf
        refine lv_iinc (v := (v4 + (1 : Int32))) (lv' := [(4, .int (v4 + (1 : Int32))), (0, .ref (ad 0)), (1, .int v1), (2, .long v2), (5, .int v5)]) hx hb zd_Mo_sum_216 hl (k := 3) rfl rfl (by decide) rfl (fun ls hl => ?_)
        refine lv_goto (tgt := 90) hx hb zd_Mo_sum_219 (by decide) ?_
        exact hk90 (v4 + (1 : Int32)) msu mne _ _ _ hf hP hD hS (lv_sub hl [1, 2, 3, 0] rfl)
      · have hf := mp_f c_6 hf
        refine lv_aload_n hx hb zd_Mo_sum_196 rfl (lv_at hl 0 rfl) ?_
        refine va_get (D := (dC, dI)) (ci := 5) (v := .ref (ad 17)) (C := zR_Mo) (T := zT_Mo) (N := 24) hx hb hts (fun w h => hsub w (zi_Mo w h)) hown hK hP 0 rfl rfl 22 (by decide) (hw _ zq_465) (fun _ h9 => h9) rfl zd_Mo_sum_197 ?_
        refine lv_iload hx hb zd_Mo_sum_200 (lv_at hl 4 rfl) ?_
        refine lv_aload_n hx hb zd_Mo_sum_202 rfl (lv_at hl 0 rfl) ?_
        refine va_get (D := (dC, dI)) (ci := 5) (v := .ref (ad 18)) (C := zR_Mo) (T := zT_Mo) (N := 24) hx hb hts (fun w h => hsub w (zi_Mo w h)) hown hK hP 0 rfl rfl 23 (by decide) (hw _ zq_466) (fun _ h9 => h9) rfl zd_Mo_sum_203 ?_
        refine lv_iload hx hb zd_Mo_sum_206 (lv_at hl 4 rfl) ?_
        obtain ⟨h_7, hf⟩ := mp_in hf
        refine va_lald hx hb hK hP 11 1 rfl rfl (i := v5) h_7 zd_Mo_sum_208 ?_
        obtain ⟨h_8, hf⟩ := mp_in hf
        refine va_last hx hb hK hP hD hS 10 1 rfl rfl (i := v5) (x := (mne v5.toNatClampNeg)) h_8 zd_Mo_sum_209 (fun H locs hP hD hS => ?_)
        have hP : va_P (dC, dI) vwCl [(ad 0, .inr (5, [.int mgc, .ref (ad 1), .int mpn, .ref (ad 2), .ref (ad 3), .ref (ad 4), .ref (ad 5), .ref (ad 6), .int mcn, .ref (ad 7), .ref (ad 8), .ref (ad 9), .ref (ad 10), .ref (ad 11), .ref (ad 12), .int msz, .ref (ad 13), .int mwc, .int mhf, .ref (ad 14), .ref (ad 15), .ref (ad 16), .ref (ad 17), .ref (ad 18)])), (ad 2, .inl (cI, 24, .inl mho)), (ad 3, .inl (cI, 24, .inl mki)), (ad 4, .inl (cJ, 24, .inr (.inl mgr))), (ad 6, .inl (cI, 24, .inl min_)), (ad 7, .inl (cI, 20, .inl mcp)), (ad 8, .inl (cJ, 20, .inr (.inl mcd))), (ad 9, .inl (cI, 20, .inl mck)), (ad 10, .inl (cJ, 20, .inr (.inl mcg))), (ad 16, .inl (cJ, 8, .inr (.inl mow))), (ad 17, .inl (cJ, 8, .inr (.inl (vp_updL msu v5.toNatClampNeg (mne v5.toNatClampNeg))))), (ad 18, .inl (cJ, 8, .inr (.inl mne)))] H := hP
        have hD : va_D A [(ad 0, .inr (5, [.int mgc, .ref (ad 1), .int mpn, .ref (ad 2), .ref (ad 3), .ref (ad 4), .ref (ad 5), .ref (ad 6), .int mcn, .ref (ad 7), .ref (ad 8), .ref (ad 9), .ref (ad 10), .ref (ad 11), .ref (ad 12), .int msz, .ref (ad 13), .int mwc, .int mhf, .ref (ad 14), .ref (ad 15), .ref (ad 16), .ref (ad 17), .ref (ad 18)])), (ad 2, .inl (cI, 24, .inl mho)), (ad 3, .inl (cI, 24, .inl mki)), (ad 4, .inl (cJ, 24, .inr (.inl mgr))), (ad 6, .inl (cI, 24, .inl min_)), (ad 7, .inl (cI, 20, .inl mcp)), (ad 8, .inl (cJ, 20, .inr (.inl mcd))), (ad 9, .inl (cI, 20, .inl mck)), (ad 10, .inl (cJ, 20, .inr (.inl mcg))), (ad 16, .inl (cJ, 8, .inr (.inl mow))), (ad 17, .inl (cJ, 8, .inr (.inl (vp_updL msu v5.toNatClampNeg (mne v5.toNatClampNeg))))), (ad 18, .inl (cJ, 8, .inr (.inl mne)))] := hD
        refine lv_iinc (v := (v5 + (1 : Int32))) (lv' := [(5, .int (v5 + (1 : Int32))), (0, .ref (ad 0)), (1, .int v1), (2, .long v2), (4, .int v4)]) hx hb zd_Mo_sum_210 hl (k := 4) rfl rfl (by decide) rfl (fun ls hl => ?_)
        refine lv_goto (tgt := 189) hx hb zd_Mo_sum_213 (by decide) ?_
        exact ih (v5 + (1 : Int32)) (vp_updL msu v5.toNatClampNeg (mne v5.toNatClampNeg)) _ _ _ hf hP hD hS (lv_sub hl [1, 2, 3, 4, 0] rfl)
  have loop130 : ∀ (v1 : Int32) (v2 : Int64) (v4 : Int32) (mow : Nat → Int64) (msu : Nat → Int64) (K90 : Int32 → (Nat → Int64) → (Nat → Int64) → Option ((Nat → Int64) × (Nat → Int64) × (Nat → Int64))) (hk90 : ∀ (v4 : Int32) (msu : Nat → Int64) (mne : Nat → Int64) (H : Heap) (locs : List Loc) (ls : Array Slot), K90 v4 msu mne = some res → va_P (dC, dI) vwCl [(ad 0, .inr (5, [.int mgc, .ref (ad 1), .int mpn, .ref (ad 2), .ref (ad 3), .ref (ad 4), .ref (ad 5), .ref (ad 6), .int mcn, .ref (ad 7), .ref (ad 8), .ref (ad 9), .ref (ad 10), .ref (ad 11), .ref (ad 12), .int msz, .ref (ad 13), .int mwc, .int mhf, .ref (ad 14), .ref (ad 15), .ref (ad 16), .ref (ad 17), .ref (ad 18)])), (ad 2, .inl (cI, 24, .inl mho)), (ad 3, .inl (cI, 24, .inl mki)), (ad 4, .inl (cJ, 24, .inr (.inl mgr))), (ad 6, .inl (cI, 24, .inl min_)), (ad 7, .inl (cI, 20, .inl mcp)), (ad 8, .inl (cJ, 20, .inr (.inl mcd))), (ad 9, .inl (cI, 20, .inl mck)), (ad 10, .inl (cJ, 20, .inr (.inl mcg))), (ad 16, .inl (cJ, 8, .inr (.inl mow))), (ad 17, .inl (cJ, 8, .inr (.inl msu))), (ad 18, .inl (cJ, 8, .inr (.inl mne)))] H → va_D A [(ad 0, .inr (5, [.int mgc, .ref (ad 1), .int mpn, .ref (ad 2), .ref (ad 3), .ref (ad 4), .ref (ad 5), .ref (ad 6), .int mcn, .ref (ad 7), .ref (ad 8), .ref (ad 9), .ref (ad 10), .ref (ad 11), .ref (ad 12), .int msz, .ref (ad 13), .int mwc, .int mhf, .ref (ad 14), .ref (ad 15), .ref (ad 16), .ref (ad 17), .ref (ad 18)])), (ad 2, .inl (cI, 24, .inl mho)), (ad 3, .inl (cI, 24, .inl mki)), (ad 4, .inl (cJ, 24, .inr (.inl mgr))), (ad 6, .inl (cI, 24, .inl min_)), (ad 7, .inl (cI, 20, .inl mcp)), (ad 8, .inl (cJ, 20, .inr (.inl mcd))), (ad 9, .inl (cI, 20, .inl mck)), (ad 10, .inl (cJ, 20, .inr (.inl mcg))), (ad 16, .inl (cJ, 8, .inr (.inl mow))), (ad 17, .inl (cJ, 8, .inr (.inl msu))), (ad 18, .inl (cJ, 8, .inr (.inl mne)))] → va_S A s.heap H locs → lv_has ls 6 [(0, .ref (ad 0)), (1, .int v1), (2, .long v2), (4, .int v4)] → W p l e (headSpec zw_Mo_sum ({ frames := 2, cells := 0, slots := 0, locals := 50 } : Room)).room s m ([.ref (ad 0), .int u1, .long u2] : List Value).toArray below meth c H locs 0 0 (MQ below (va_Qv (fun (_ : Unit) => True) (mp_BM (dC, dI) vwCl [(ad 0, .inr (5, [.int mgc, .ref (ad 1), .int mpn, .ref (ad 2), .ref (ad 3), .ref (ad 4), .ref (ad 5), .ref (ad 6), .int mcn, .ref (ad 7), .ref (ad 8), .ref (ad 9), .ref (ad 10), .ref (ad 11), .ref (ad 12), .int msz, .ref (ad 13), .int mwc, .int mhf, .ref (ad 14), .ref (ad 15), .ref (ad 16), .ref (ad 17), .ref (ad 18)])), (ad 2, .inl (cI, 24, .inl mho)), (ad 3, .inl (cI, 24, .inl mki)), (ad 4, .inl (cJ, 24, .inr (.inl mgr))), (ad 6, .inl (cI, 24, .inl min_)), (ad 7, .inl (cI, 20, .inl mcp)), (ad 8, .inl (cJ, 20, .inr (.inl mcd))), (ad 9, .inl (cI, 20, .inl mck)), (ad 10, .inl (cJ, 20, .inr (.inl mcg))), (ad 16, .inl (cJ, 8, .inr (.inl res.1))), (ad 17, .inl (cJ, 8, .inr (.inl res.2.1))), (ad 18, .inl (cJ, 8, .inr (.inl res.2.2)))] A) A) ([.ref (ad 0), .int u1, .long u2] : List Value).toArray s 0 0 (A)) (F0 m 90 ls [])) (n : Nat) (v5 : Int32) (mne : Nat → Int64) (H : Heap) (locs : List Loc) (ls : Array Slot), zf_Mo_sum_L130 v1 v2 v4 mow msu mpn mcn mho mki mgr min_ mcp mcd mck mcg K90 n v5 mne = some res → va_P (dC, dI) vwCl [(ad 0, .inr (5, [.int mgc, .ref (ad 1), .int mpn, .ref (ad 2), .ref (ad 3), .ref (ad 4), .ref (ad 5), .ref (ad 6), .int mcn, .ref (ad 7), .ref (ad 8), .ref (ad 9), .ref (ad 10), .ref (ad 11), .ref (ad 12), .int msz, .ref (ad 13), .int mwc, .int mhf, .ref (ad 14), .ref (ad 15), .ref (ad 16), .ref (ad 17), .ref (ad 18)])), (ad 2, .inl (cI, 24, .inl mho)), (ad 3, .inl (cI, 24, .inl mki)), (ad 4, .inl (cJ, 24, .inr (.inl mgr))), (ad 6, .inl (cI, 24, .inl min_)), (ad 7, .inl (cI, 20, .inl mcp)), (ad 8, .inl (cJ, 20, .inr (.inl mcd))), (ad 9, .inl (cI, 20, .inl mck)), (ad 10, .inl (cJ, 20, .inr (.inl mcg))), (ad 16, .inl (cJ, 8, .inr (.inl mow))), (ad 17, .inl (cJ, 8, .inr (.inl msu))), (ad 18, .inl (cJ, 8, .inr (.inl mne)))] H → va_D A [(ad 0, .inr (5, [.int mgc, .ref (ad 1), .int mpn, .ref (ad 2), .ref (ad 3), .ref (ad 4), .ref (ad 5), .ref (ad 6), .int mcn, .ref (ad 7), .ref (ad 8), .ref (ad 9), .ref (ad 10), .ref (ad 11), .ref (ad 12), .int msz, .ref (ad 13), .int mwc, .int mhf, .ref (ad 14), .ref (ad 15), .ref (ad 16), .ref (ad 17), .ref (ad 18)])), (ad 2, .inl (cI, 24, .inl mho)), (ad 3, .inl (cI, 24, .inl mki)), (ad 4, .inl (cJ, 24, .inr (.inl mgr))), (ad 6, .inl (cI, 24, .inl min_)), (ad 7, .inl (cI, 20, .inl mcp)), (ad 8, .inl (cJ, 20, .inr (.inl mcd))), (ad 9, .inl (cI, 20, .inl mck)), (ad 10, .inl (cJ, 20, .inr (.inl mcg))), (ad 16, .inl (cJ, 8, .inr (.inl mow))), (ad 17, .inl (cJ, 8, .inr (.inl msu))), (ad 18, .inl (cJ, 8, .inr (.inl mne)))] → va_S A s.heap H locs → lv_has ls 6 [(0, .ref (ad 0)), (1, .int v1), (2, .long v2), (4, .int v4), (5, .int v5)] → W p l e (headSpec zw_Mo_sum ({ frames := 2, cells := 0, slots := 0, locals := 50 } : Room)).room s m ([.ref (ad 0), .int u1, .long u2] : List Value).toArray below meth c H locs 0 0 (MQ below (va_Qv (fun (_ : Unit) => True) (mp_BM (dC, dI) vwCl [(ad 0, .inr (5, [.int mgc, .ref (ad 1), .int mpn, .ref (ad 2), .ref (ad 3), .ref (ad 4), .ref (ad 5), .ref (ad 6), .int mcn, .ref (ad 7), .ref (ad 8), .ref (ad 9), .ref (ad 10), .ref (ad 11), .ref (ad 12), .int msz, .ref (ad 13), .int mwc, .int mhf, .ref (ad 14), .ref (ad 15), .ref (ad 16), .ref (ad 17), .ref (ad 18)])), (ad 2, .inl (cI, 24, .inl mho)), (ad 3, .inl (cI, 24, .inl mki)), (ad 4, .inl (cJ, 24, .inr (.inl mgr))), (ad 6, .inl (cI, 24, .inl min_)), (ad 7, .inl (cI, 20, .inl mcp)), (ad 8, .inl (cJ, 20, .inr (.inl mcd))), (ad 9, .inl (cI, 20, .inl mck)), (ad 10, .inl (cJ, 20, .inr (.inl mcg))), (ad 16, .inl (cJ, 8, .inr (.inl res.1))), (ad 17, .inl (cJ, 8, .inr (.inl res.2.1))), (ad 18, .inl (cJ, 8, .inr (.inl res.2.2)))] A) A) ([.ref (ad 0), .int u1, .long u2] : List Value).toArray s 0 0 (A)) (F0 m 130 ls []) := by
    intro v1 v2 v4 mow msu K90 hk90 n
    induction n with
    | zero => intro v5 mne H locs ls hf; simp [zf_Mo_sum_L130] at hf
    | succ n ih =>
      intro v5 mne H locs ls hf hP hD hS hl
      rw [zf_Mo_sum_L130] at hf
      refine lv_iload hx hb zd_Mo_sum_130 (lv_at hl 4 rfl) ?_
      refine lv_aload_n hx hb zd_Mo_sum_132 rfl (lv_at hl 0 rfl) ?_
      refine va_get (D := (dC, dI)) (ci := 5) (v := .int mpn) (C := zR_Mo) (T := zT_Mo) (N := 24) hx hb hts (fun w h => hsub w (zi_Mo w h)) hown hK hP 0 rfl rfl 2 (by decide) (hw _ zq_445) (fun _ h9 => h9) rfl zd_Mo_sum_133 ?_
      refine lv_icmp_ge (tgt := 186) hx hb zd_Mo_sum_136 (by decide) (fun c_5 => ?_) (fun c_5 => ?_)
      · have hf := mp_t c_5 hf
        refine lv_iconst (v := 0) hx hb zd_Mo_sum_186 (by decide) ?_
        refine lv_istore (lv' := [(5, .int (0 : Int32)), (0, .ref (ad 0)), (1, .int v1), (2, .long v2), (4, .int v4)]) hx hb zd_Mo_sum_187 hl (by decide) rfl (fun ls hl => ?_)
        exact loop189 v1 v2 v4 mow mne K90 hk90 2000 (0 : Int32) msu _ _ _ hf hP hD hS (lv_sub hl [1, 2, 3, 4, 0] rfl)
      · have hf := mp_f c_5 hf
        refine lv_aload_n hx hb zd_Mo_sum_139 rfl (lv_at hl 0 rfl) ?_
        refine va_get (D := (dC, dI)) (ci := 5) (v := .ref (ad 18)) (C := zR_Mo) (T := zT_Mo) (N := 24) hx hb hts (fun w h => hsub w (zi_Mo w h)) hown hK hP 0 rfl rfl 23 (by decide) (hw _ zq_466) (fun _ h9 => h9) rfl zd_Mo_sum_140 ?_
        refine lv_aload_n hx hb zd_Mo_sum_143 rfl (lv_at hl 0 rfl) ?_
        refine va_get (D := (dC, dI)) (ci := 5) (v := .ref (ad 2)) (C := zR_Mo) (T := zT_Mo) (N := 24) hx hb hts (fun w h => hsub w (zi_Mo w h)) hown hK hP 0 rfl rfl 3 (by decide) (hw _ zq_446) (fun _ h9 => h9) rfl zd_Mo_sum_144 ?_
        refine lv_iload hx hb zd_Mo_sum_147 (lv_at hl 4 rfl) ?_
        obtain ⟨h_9, hf⟩ := mp_in hf
        refine va_iald hx hb hK hP 1 0 rfl rfl (i := v5) h_9 zd_Mo_sum_149 ?_
        refine lv_dup2_11 hx hb zd_Mo_sum_150 rfl rfl ?_
        obtain ⟨h_10, hf⟩ := mp_in hf
        refine va_lald hx hb hK hP 11 1 rfl rfl (i := (mho v5.toNatClampNeg)) h_10 zd_Mo_sum_151 ?_
        refine lv_aload_n hx hb zd_Mo_sum_152 rfl (lv_at hl 0 rfl) ?_
        refine va_get (D := (dC, dI)) (ci := 5) (v := .ref (ad 6)) (C := zR_Mo) (T := zT_Mo) (N := 24) hx hb hts (fun w h => hsub w (zi_Mo w h)) hown hK hP 0 rfl rfl 7 (by decide) (hw _ zq_450) (fun _ h9 => h9) rfl zd_Mo_sum_153 ?_
        refine lv_iload hx hb zd_Mo_sum_156 (lv_at hl 4 rfl) ?_
        obtain ⟨h_11, hf⟩ := mp_in hf
        refine va_iald hx hb hK hP 4 0 rfl rfl (i := v5) h_11 zd_Mo_sum_158 ?_
        refine lv_if_ge (tgt := 166) hx hb zd_Mo_sum_159 (by decide) (fun c_12 => ?_) (fun c_12 => ?_)
        · have hf := mp_t c_12 hf
          refine lv_aload_n hx hb zd_Mo_sum_166 rfl (lv_at hl 0 rfl) ?_
          refine va_get (D := (dC, dI)) (ci := 5) (v := .ref (ad 17)) (C := zR_Mo) (T := zT_Mo) (N := 24) hx hb hts (fun w h => hsub w (zi_Mo w h)) hown hK hP 0 rfl rfl 22 (by decide) (hw _ zq_465) (fun _ h9 => h9) rfl zd_Mo_sum_167 ?_
          refine lv_aload_n hx hb zd_Mo_sum_170 rfl (lv_at hl 0 rfl) ?_
          refine va_get (D := (dC, dI)) (ci := 5) (v := .ref (ad 6)) (C := zR_Mo) (T := zT_Mo) (N := 24) hx hb hts (fun w h => hsub w (zi_Mo w h)) hown hK hP 0 rfl rfl 7 (by decide) (hw _ zq_450) (fun _ h9 => h9) rfl zd_Mo_sum_171 ?_
          refine lv_iload hx hb zd_Mo_sum_174 (lv_at hl 4 rfl) ?_
          obtain ⟨h_13, hf⟩ := mp_in hf
          refine va_iald hx hb hK hP 4 0 rfl rfl (i := v5) h_13 zd_Mo_sum_176 ?_
          obtain ⟨h_14, hf⟩ := mp_in hf
          refine va_lald hx hb hK hP 10 1 rfl rfl (i := (min_ v5.toNatClampNeg)) h_14 zd_Mo_sum_177 ?_
          refine lv_ladd hx hb zd_Mo_sum_178 ?_
          obtain ⟨h_15, hf⟩ := mp_in hf
          refine va_last hx hb hK hP hD hS 11 1 rfl rfl (i := (mho v5.toNatClampNeg)) (x := ((mne (mho v5.toNatClampNeg).toNatClampNeg) + (msu (min_ v5.toNatClampNeg).toNatClampNeg))) h_15 zd_Mo_sum_179 (fun H locs hP hD hS => ?_)
          have hP : va_P (dC, dI) vwCl [(ad 0, .inr (5, [.int mgc, .ref (ad 1), .int mpn, .ref (ad 2), .ref (ad 3), .ref (ad 4), .ref (ad 5), .ref (ad 6), .int mcn, .ref (ad 7), .ref (ad 8), .ref (ad 9), .ref (ad 10), .ref (ad 11), .ref (ad 12), .int msz, .ref (ad 13), .int mwc, .int mhf, .ref (ad 14), .ref (ad 15), .ref (ad 16), .ref (ad 17), .ref (ad 18)])), (ad 2, .inl (cI, 24, .inl mho)), (ad 3, .inl (cI, 24, .inl mki)), (ad 4, .inl (cJ, 24, .inr (.inl mgr))), (ad 6, .inl (cI, 24, .inl min_)), (ad 7, .inl (cI, 20, .inl mcp)), (ad 8, .inl (cJ, 20, .inr (.inl mcd))), (ad 9, .inl (cI, 20, .inl mck)), (ad 10, .inl (cJ, 20, .inr (.inl mcg))), (ad 16, .inl (cJ, 8, .inr (.inl mow))), (ad 17, .inl (cJ, 8, .inr (.inl msu))), (ad 18, .inl (cJ, 8, .inr (.inl (vp_updL mne (mho v5.toNatClampNeg).toNatClampNeg ((mne (mho v5.toNatClampNeg).toNatClampNeg) + (msu (min_ v5.toNatClampNeg).toNatClampNeg))))))] H := hP
          have hD : va_D A [(ad 0, .inr (5, [.int mgc, .ref (ad 1), .int mpn, .ref (ad 2), .ref (ad 3), .ref (ad 4), .ref (ad 5), .ref (ad 6), .int mcn, .ref (ad 7), .ref (ad 8), .ref (ad 9), .ref (ad 10), .ref (ad 11), .ref (ad 12), .int msz, .ref (ad 13), .int mwc, .int mhf, .ref (ad 14), .ref (ad 15), .ref (ad 16), .ref (ad 17), .ref (ad 18)])), (ad 2, .inl (cI, 24, .inl mho)), (ad 3, .inl (cI, 24, .inl mki)), (ad 4, .inl (cJ, 24, .inr (.inl mgr))), (ad 6, .inl (cI, 24, .inl min_)), (ad 7, .inl (cI, 20, .inl mcp)), (ad 8, .inl (cJ, 20, .inr (.inl mcd))), (ad 9, .inl (cI, 20, .inl mck)), (ad 10, .inl (cJ, 20, .inr (.inl mcg))), (ad 16, .inl (cJ, 8, .inr (.inl mow))), (ad 17, .inl (cJ, 8, .inr (.inl msu))), (ad 18, .inl (cJ, 8, .inr (.inl (vp_updL mne (mho v5.toNatClampNeg).toNatClampNeg ((mne (mho v5.toNatClampNeg).toNatClampNeg) + (msu (min_ v5.toNatClampNeg).toNatClampNeg))))))] := hD
          refine lv_iinc (v := (v5 + (1 : Int32))) (lv' := [(5, .int (v5 + (1 : Int32))), (0, .ref (ad 0)), (1, .int v1), (2, .long v2), (4, .int v4)]) hx hb zd_Mo_sum_180 hl (k := 4) rfl rfl (by decide) rfl (fun ls hl => ?_)
          refine lv_goto (tgt := 130) hx hb zd_Mo_sum_183 (by decide) ?_
          exact ih (v5 + (1 : Int32)) (vp_updL mne (mho v5.toNatClampNeg).toNatClampNeg ((mne (mho v5.toNatClampNeg).toNatClampNeg) + (msu (min_ v5.toNatClampNeg).toNatClampNeg))) _ _ _ hf hP hD hS (lv_sub hl [1, 2, 3, 4, 0] rfl)
        · have hf := mp_f c_12 hf
          refine lv_lconst (v := 0) hx hb zd_Mo_sum_162 (by decide) ?_
          refine lv_goto (tgt := 178) hx hb zd_Mo_sum_163 (by decide) ?_
          refine lv_ladd hx hb zd_Mo_sum_178 ?_
          obtain ⟨h_16, hf⟩ := mp_in hf
          refine va_last hx hb hK hP hD hS 11 1 rfl rfl (i := (mho v5.toNatClampNeg)) (x := ((mne (mho v5.toNatClampNeg).toNatClampNeg) + (0 : Int64))) h_16 zd_Mo_sum_179 (fun H locs hP hD hS => ?_)
          have hP : va_P (dC, dI) vwCl [(ad 0, .inr (5, [.int mgc, .ref (ad 1), .int mpn, .ref (ad 2), .ref (ad 3), .ref (ad 4), .ref (ad 5), .ref (ad 6), .int mcn, .ref (ad 7), .ref (ad 8), .ref (ad 9), .ref (ad 10), .ref (ad 11), .ref (ad 12), .int msz, .ref (ad 13), .int mwc, .int mhf, .ref (ad 14), .ref (ad 15), .ref (ad 16), .ref (ad 17), .ref (ad 18)])), (ad 2, .inl (cI, 24, .inl mho)), (ad 3, .inl (cI, 24, .inl mki)), (ad 4, .inl (cJ, 24, .inr (.inl mgr))), (ad 6, .inl (cI, 24, .inl min_)), (ad 7, .inl (cI, 20, .inl mcp)), (ad 8, .inl (cJ, 20, .inr (.inl mcd))), (ad 9, .inl (cI, 20, .inl mck)), (ad 10, .inl (cJ, 20, .inr (.inl mcg))), (ad 16, .inl (cJ, 8, .inr (.inl mow))), (ad 17, .inl (cJ, 8, .inr (.inl msu))), (ad 18, .inl (cJ, 8, .inr (.inl (vp_updL mne (mho v5.toNatClampNeg).toNatClampNeg ((mne (mho v5.toNatClampNeg).toNatClampNeg) + (0 : Int64))))))] H := hP
          have hD : va_D A [(ad 0, .inr (5, [.int mgc, .ref (ad 1), .int mpn, .ref (ad 2), .ref (ad 3), .ref (ad 4), .ref (ad 5), .ref (ad 6), .int mcn, .ref (ad 7), .ref (ad 8), .ref (ad 9), .ref (ad 10), .ref (ad 11), .ref (ad 12), .int msz, .ref (ad 13), .int mwc, .int mhf, .ref (ad 14), .ref (ad 15), .ref (ad 16), .ref (ad 17), .ref (ad 18)])), (ad 2, .inl (cI, 24, .inl mho)), (ad 3, .inl (cI, 24, .inl mki)), (ad 4, .inl (cJ, 24, .inr (.inl mgr))), (ad 6, .inl (cI, 24, .inl min_)), (ad 7, .inl (cI, 20, .inl mcp)), (ad 8, .inl (cJ, 20, .inr (.inl mcd))), (ad 9, .inl (cI, 20, .inl mck)), (ad 10, .inl (cJ, 20, .inr (.inl mcg))), (ad 16, .inl (cJ, 8, .inr (.inl mow))), (ad 17, .inl (cJ, 8, .inr (.inl msu))), (ad 18, .inl (cJ, 8, .inr (.inl (vp_updL mne (mho v5.toNatClampNeg).toNatClampNeg ((mne (mho v5.toNatClampNeg).toNatClampNeg) + (0 : Int64))))))] := hD
          refine lv_iinc (v := (v5 + (1 : Int32))) (lv' := [(5, .int (v5 + (1 : Int32))), (0, .ref (ad 0)), (1, .int v1), (2, .long v2), (4, .int v4)]) hx hb zd_Mo_sum_180 hl (k := 4) rfl rfl (by decide) rfl (fun ls hl => ?_)
          refine lv_goto (tgt := 130) hx hb zd_Mo_sum_183 (by decide) ?_
          exact ih (v5 + (1 : Int32)) (vp_updL mne (mho v5.toNatClampNeg).toNatClampNeg ((mne (mho v5.toNatClampNeg).toNatClampNeg) + (0 : Int64))) _ _ _ hf hP hD hS (lv_sub hl [1, 2, 3, 4, 0] rfl)
  have loop100 : ∀ (v1 : Int32) (v2 : Int64) (v4 : Int32) (mow : Nat → Int64) (msu : Nat → Int64) (K90 : Int32 → (Nat → Int64) → (Nat → Int64) → Option ((Nat → Int64) × (Nat → Int64) × (Nat → Int64))) (hk90 : ∀ (v4 : Int32) (msu : Nat → Int64) (mne : Nat → Int64) (H : Heap) (locs : List Loc) (ls : Array Slot), K90 v4 msu mne = some res → va_P (dC, dI) vwCl [(ad 0, .inr (5, [.int mgc, .ref (ad 1), .int mpn, .ref (ad 2), .ref (ad 3), .ref (ad 4), .ref (ad 5), .ref (ad 6), .int mcn, .ref (ad 7), .ref (ad 8), .ref (ad 9), .ref (ad 10), .ref (ad 11), .ref (ad 12), .int msz, .ref (ad 13), .int mwc, .int mhf, .ref (ad 14), .ref (ad 15), .ref (ad 16), .ref (ad 17), .ref (ad 18)])), (ad 2, .inl (cI, 24, .inl mho)), (ad 3, .inl (cI, 24, .inl mki)), (ad 4, .inl (cJ, 24, .inr (.inl mgr))), (ad 6, .inl (cI, 24, .inl min_)), (ad 7, .inl (cI, 20, .inl mcp)), (ad 8, .inl (cJ, 20, .inr (.inl mcd))), (ad 9, .inl (cI, 20, .inl mck)), (ad 10, .inl (cJ, 20, .inr (.inl mcg))), (ad 16, .inl (cJ, 8, .inr (.inl mow))), (ad 17, .inl (cJ, 8, .inr (.inl msu))), (ad 18, .inl (cJ, 8, .inr (.inl mne)))] H → va_D A [(ad 0, .inr (5, [.int mgc, .ref (ad 1), .int mpn, .ref (ad 2), .ref (ad 3), .ref (ad 4), .ref (ad 5), .ref (ad 6), .int mcn, .ref (ad 7), .ref (ad 8), .ref (ad 9), .ref (ad 10), .ref (ad 11), .ref (ad 12), .int msz, .ref (ad 13), .int mwc, .int mhf, .ref (ad 14), .ref (ad 15), .ref (ad 16), .ref (ad 17), .ref (ad 18)])), (ad 2, .inl (cI, 24, .inl mho)), (ad 3, .inl (cI, 24, .inl mki)), (ad 4, .inl (cJ, 24, .inr (.inl mgr))), (ad 6, .inl (cI, 24, .inl min_)), (ad 7, .inl (cI, 20, .inl mcp)), (ad 8, .inl (cJ, 20, .inr (.inl mcd))), (ad 9, .inl (cI, 20, .inl mck)), (ad 10, .inl (cJ, 20, .inr (.inl mcg))), (ad 16, .inl (cJ, 8, .inr (.inl mow))), (ad 17, .inl (cJ, 8, .inr (.inl msu))), (ad 18, .inl (cJ, 8, .inr (.inl mne)))] → va_S A s.heap H locs → lv_has ls 6 [(0, .ref (ad 0)), (1, .int v1), (2, .long v2), (4, .int v4)] → W p l e (headSpec zw_Mo_sum ({ frames := 2, cells := 0, slots := 0, locals := 50 } : Room)).room s m ([.ref (ad 0), .int u1, .long u2] : List Value).toArray below meth c H locs 0 0 (MQ below (va_Qv (fun (_ : Unit) => True) (mp_BM (dC, dI) vwCl [(ad 0, .inr (5, [.int mgc, .ref (ad 1), .int mpn, .ref (ad 2), .ref (ad 3), .ref (ad 4), .ref (ad 5), .ref (ad 6), .int mcn, .ref (ad 7), .ref (ad 8), .ref (ad 9), .ref (ad 10), .ref (ad 11), .ref (ad 12), .int msz, .ref (ad 13), .int mwc, .int mhf, .ref (ad 14), .ref (ad 15), .ref (ad 16), .ref (ad 17), .ref (ad 18)])), (ad 2, .inl (cI, 24, .inl mho)), (ad 3, .inl (cI, 24, .inl mki)), (ad 4, .inl (cJ, 24, .inr (.inl mgr))), (ad 6, .inl (cI, 24, .inl min_)), (ad 7, .inl (cI, 20, .inl mcp)), (ad 8, .inl (cJ, 20, .inr (.inl mcd))), (ad 9, .inl (cI, 20, .inl mck)), (ad 10, .inl (cJ, 20, .inr (.inl mcg))), (ad 16, .inl (cJ, 8, .inr (.inl res.1))), (ad 17, .inl (cJ, 8, .inr (.inl res.2.1))), (ad 18, .inl (cJ, 8, .inr (.inl res.2.2)))] A) A) ([.ref (ad 0), .int u1, .long u2] : List Value).toArray s 0 0 (A)) (F0 m 90 ls [])) (n : Nat) (v5 : Int32) (mne : Nat → Int64) (H : Heap) (locs : List Loc) (ls : Array Slot), zf_Mo_sum_L100 v1 v2 v4 mow msu mpn mcn mho mki mgr min_ mcp mcd mck mcg K90 n v5 mne = some res → va_P (dC, dI) vwCl [(ad 0, .inr (5, [.int mgc, .ref (ad 1), .int mpn, .ref (ad 2), .ref (ad 3), .ref (ad 4), .ref (ad 5), .ref (ad 6), .int mcn, .ref (ad 7), .ref (ad 8), .ref (ad 9), .ref (ad 10), .ref (ad 11), .ref (ad 12), .int msz, .ref (ad 13), .int mwc, .int mhf, .ref (ad 14), .ref (ad 15), .ref (ad 16), .ref (ad 17), .ref (ad 18)])), (ad 2, .inl (cI, 24, .inl mho)), (ad 3, .inl (cI, 24, .inl mki)), (ad 4, .inl (cJ, 24, .inr (.inl mgr))), (ad 6, .inl (cI, 24, .inl min_)), (ad 7, .inl (cI, 20, .inl mcp)), (ad 8, .inl (cJ, 20, .inr (.inl mcd))), (ad 9, .inl (cI, 20, .inl mck)), (ad 10, .inl (cJ, 20, .inr (.inl mcg))), (ad 16, .inl (cJ, 8, .inr (.inl mow))), (ad 17, .inl (cJ, 8, .inr (.inl msu))), (ad 18, .inl (cJ, 8, .inr (.inl mne)))] H → va_D A [(ad 0, .inr (5, [.int mgc, .ref (ad 1), .int mpn, .ref (ad 2), .ref (ad 3), .ref (ad 4), .ref (ad 5), .ref (ad 6), .int mcn, .ref (ad 7), .ref (ad 8), .ref (ad 9), .ref (ad 10), .ref (ad 11), .ref (ad 12), .int msz, .ref (ad 13), .int mwc, .int mhf, .ref (ad 14), .ref (ad 15), .ref (ad 16), .ref (ad 17), .ref (ad 18)])), (ad 2, .inl (cI, 24, .inl mho)), (ad 3, .inl (cI, 24, .inl mki)), (ad 4, .inl (cJ, 24, .inr (.inl mgr))), (ad 6, .inl (cI, 24, .inl min_)), (ad 7, .inl (cI, 20, .inl mcp)), (ad 8, .inl (cJ, 20, .inr (.inl mcd))), (ad 9, .inl (cI, 20, .inl mck)), (ad 10, .inl (cJ, 20, .inr (.inl mcg))), (ad 16, .inl (cJ, 8, .inr (.inl mow))), (ad 17, .inl (cJ, 8, .inr (.inl msu))), (ad 18, .inl (cJ, 8, .inr (.inl mne)))] → va_S A s.heap H locs → lv_has ls 6 [(0, .ref (ad 0)), (1, .int v1), (2, .long v2), (4, .int v4), (5, .int v5)] → W p l e (headSpec zw_Mo_sum ({ frames := 2, cells := 0, slots := 0, locals := 50 } : Room)).room s m ([.ref (ad 0), .int u1, .long u2] : List Value).toArray below meth c H locs 0 0 (MQ below (va_Qv (fun (_ : Unit) => True) (mp_BM (dC, dI) vwCl [(ad 0, .inr (5, [.int mgc, .ref (ad 1), .int mpn, .ref (ad 2), .ref (ad 3), .ref (ad 4), .ref (ad 5), .ref (ad 6), .int mcn, .ref (ad 7), .ref (ad 8), .ref (ad 9), .ref (ad 10), .ref (ad 11), .ref (ad 12), .int msz, .ref (ad 13), .int mwc, .int mhf, .ref (ad 14), .ref (ad 15), .ref (ad 16), .ref (ad 17), .ref (ad 18)])), (ad 2, .inl (cI, 24, .inl mho)), (ad 3, .inl (cI, 24, .inl mki)), (ad 4, .inl (cJ, 24, .inr (.inl mgr))), (ad 6, .inl (cI, 24, .inl min_)), (ad 7, .inl (cI, 20, .inl mcp)), (ad 8, .inl (cJ, 20, .inr (.inl mcd))), (ad 9, .inl (cI, 20, .inl mck)), (ad 10, .inl (cJ, 20, .inr (.inl mcg))), (ad 16, .inl (cJ, 8, .inr (.inl res.1))), (ad 17, .inl (cJ, 8, .inr (.inl res.2.1))), (ad 18, .inl (cJ, 8, .inr (.inl res.2.2)))] A) A) ([.ref (ad 0), .int u1, .long u2] : List Value).toArray s 0 0 (A)) (F0 m 100 ls []) := by
    intro v1 v2 v4 mow msu K90 hk90 n
    induction n with
    | zero => intro v5 mne H locs ls hf; simp [zf_Mo_sum_L100] at hf
    | succ n ih =>
      intro v5 mne H locs ls hf hP hD hS hl
      rw [zf_Mo_sum_L100] at hf
      refine lv_iload hx hb zd_Mo_sum_100 (lv_at hl 4 rfl) ?_
      refine lv_bipush (v := 8) hx hb zd_Mo_sum_102 (by decide) ?_
      refine lv_icmp_ge (tgt := 127) hx hb zd_Mo_sum_104 (by decide) (fun c_4 => ?_) (fun c_4 => ?_)
      · have hf := mp_t c_4 hf
        refine lv_iconst (v := 0) hx hb zd_Mo_sum_127 (by decide) ?_
        refine lv_istore (lv' := [(5, .int (0 : Int32)), (0, .ref (ad 0)), (1, .int v1), (2, .long v2), (4, .int v4)]) hx hb zd_Mo_sum_128 hl (by decide) rfl (fun ls hl => ?_)
        exact loop130 v1 v2 v4 mow msu K90 hk90 2000 (0 : Int32) mne _ _ _ hf hP hD hS (lv_sub hl [1, 2, 3, 4, 0] rfl)
      · have hf := mp_f c_4 hf
        refine lv_aload_n hx hb zd_Mo_sum_107 rfl (lv_at hl 0 rfl) ?_
        refine va_get (D := (dC, dI)) (ci := 5) (v := .ref (ad 18)) (C := zR_Mo) (T := zT_Mo) (N := 24) hx hb hts (fun w h => hsub w (zi_Mo w h)) hown hK hP 0 rfl rfl 23 (by decide) (hw _ zq_466) (fun _ h9 => h9) rfl zd_Mo_sum_108 ?_
        refine lv_iload hx hb zd_Mo_sum_111 (lv_at hl 4 rfl) ?_
        refine lv_aload_n hx hb zd_Mo_sum_113 rfl (lv_at hl 0 rfl) ?_
        refine va_get (D := (dC, dI)) (ci := 5) (v := .ref (ad 16)) (C := zR_Mo) (T := zT_Mo) (N := 24) hx hb hts (fun w h => hsub w (zi_Mo w h)) hown hK hP 0 rfl rfl 21 (by decide) (hw _ zq_464) (fun _ h9 => h9) rfl zd_Mo_sum_114 ?_
        refine lv_iload hx hb zd_Mo_sum_117 (lv_at hl 4 rfl) ?_
        obtain ⟨h_17, hf⟩ := mp_in hf
        refine va_lald hx hb hK hP 9 1 rfl rfl (i := v5) h_17 zd_Mo_sum_119 ?_
        obtain ⟨h_18, hf⟩ := mp_in hf
        refine va_last hx hb hK hP hD hS 11 1 rfl rfl (i := v5) (x := (mow v5.toNatClampNeg)) h_18 zd_Mo_sum_120 (fun H locs hP hD hS => ?_)
        have hP : va_P (dC, dI) vwCl [(ad 0, .inr (5, [.int mgc, .ref (ad 1), .int mpn, .ref (ad 2), .ref (ad 3), .ref (ad 4), .ref (ad 5), .ref (ad 6), .int mcn, .ref (ad 7), .ref (ad 8), .ref (ad 9), .ref (ad 10), .ref (ad 11), .ref (ad 12), .int msz, .ref (ad 13), .int mwc, .int mhf, .ref (ad 14), .ref (ad 15), .ref (ad 16), .ref (ad 17), .ref (ad 18)])), (ad 2, .inl (cI, 24, .inl mho)), (ad 3, .inl (cI, 24, .inl mki)), (ad 4, .inl (cJ, 24, .inr (.inl mgr))), (ad 6, .inl (cI, 24, .inl min_)), (ad 7, .inl (cI, 20, .inl mcp)), (ad 8, .inl (cJ, 20, .inr (.inl mcd))), (ad 9, .inl (cI, 20, .inl mck)), (ad 10, .inl (cJ, 20, .inr (.inl mcg))), (ad 16, .inl (cJ, 8, .inr (.inl mow))), (ad 17, .inl (cJ, 8, .inr (.inl msu))), (ad 18, .inl (cJ, 8, .inr (.inl (vp_updL mne v5.toNatClampNeg (mow v5.toNatClampNeg)))))] H := hP
        have hD : va_D A [(ad 0, .inr (5, [.int mgc, .ref (ad 1), .int mpn, .ref (ad 2), .ref (ad 3), .ref (ad 4), .ref (ad 5), .ref (ad 6), .int mcn, .ref (ad 7), .ref (ad 8), .ref (ad 9), .ref (ad 10), .ref (ad 11), .ref (ad 12), .int msz, .ref (ad 13), .int mwc, .int mhf, .ref (ad 14), .ref (ad 15), .ref (ad 16), .ref (ad 17), .ref (ad 18)])), (ad 2, .inl (cI, 24, .inl mho)), (ad 3, .inl (cI, 24, .inl mki)), (ad 4, .inl (cJ, 24, .inr (.inl mgr))), (ad 6, .inl (cI, 24, .inl min_)), (ad 7, .inl (cI, 20, .inl mcp)), (ad 8, .inl (cJ, 20, .inr (.inl mcd))), (ad 9, .inl (cI, 20, .inl mck)), (ad 10, .inl (cJ, 20, .inr (.inl mcg))), (ad 16, .inl (cJ, 8, .inr (.inl mow))), (ad 17, .inl (cJ, 8, .inr (.inl msu))), (ad 18, .inl (cJ, 8, .inr (.inl (vp_updL mne v5.toNatClampNeg (mow v5.toNatClampNeg)))))] := hD
        refine lv_iinc (v := (v5 + (1 : Int32))) (lv' := [(5, .int (v5 + (1 : Int32))), (0, .ref (ad 0)), (1, .int v1), (2, .long v2), (4, .int v4)]) hx hb zd_Mo_sum_121 hl (k := 4) rfl rfl (by decide) rfl (fun ls hl => ?_)
        refine lv_goto (tgt := 100) hx hb zd_Mo_sum_124 (by decide) ?_
        exact ih (v5 + (1 : Int32)) (vp_updL mne v5.toNatClampNeg (mow v5.toNatClampNeg)) _ _ _ hf hP hD hS (lv_sub hl [1, 2, 3, 4, 0] rfl)
  have loop90 : ∀ (v1 : Int32) (v2 : Int64) (mow : Nat → Int64) (n : Nat) (v4 : Int32) (msu : Nat → Int64) (mne : Nat → Int64) (H : Heap) (locs : List Loc) (ls : Array Slot), zf_Mo_sum_L90 v1 v2 mow mpn mcn mho mki mgr min_ mcp mcd mck mcg n v4 msu mne = some res → va_P (dC, dI) vwCl [(ad 0, .inr (5, [.int mgc, .ref (ad 1), .int mpn, .ref (ad 2), .ref (ad 3), .ref (ad 4), .ref (ad 5), .ref (ad 6), .int mcn, .ref (ad 7), .ref (ad 8), .ref (ad 9), .ref (ad 10), .ref (ad 11), .ref (ad 12), .int msz, .ref (ad 13), .int mwc, .int mhf, .ref (ad 14), .ref (ad 15), .ref (ad 16), .ref (ad 17), .ref (ad 18)])), (ad 2, .inl (cI, 24, .inl mho)), (ad 3, .inl (cI, 24, .inl mki)), (ad 4, .inl (cJ, 24, .inr (.inl mgr))), (ad 6, .inl (cI, 24, .inl min_)), (ad 7, .inl (cI, 20, .inl mcp)), (ad 8, .inl (cJ, 20, .inr (.inl mcd))), (ad 9, .inl (cI, 20, .inl mck)), (ad 10, .inl (cJ, 20, .inr (.inl mcg))), (ad 16, .inl (cJ, 8, .inr (.inl mow))), (ad 17, .inl (cJ, 8, .inr (.inl msu))), (ad 18, .inl (cJ, 8, .inr (.inl mne)))] H → va_D A [(ad 0, .inr (5, [.int mgc, .ref (ad 1), .int mpn, .ref (ad 2), .ref (ad 3), .ref (ad 4), .ref (ad 5), .ref (ad 6), .int mcn, .ref (ad 7), .ref (ad 8), .ref (ad 9), .ref (ad 10), .ref (ad 11), .ref (ad 12), .int msz, .ref (ad 13), .int mwc, .int mhf, .ref (ad 14), .ref (ad 15), .ref (ad 16), .ref (ad 17), .ref (ad 18)])), (ad 2, .inl (cI, 24, .inl mho)), (ad 3, .inl (cI, 24, .inl mki)), (ad 4, .inl (cJ, 24, .inr (.inl mgr))), (ad 6, .inl (cI, 24, .inl min_)), (ad 7, .inl (cI, 20, .inl mcp)), (ad 8, .inl (cJ, 20, .inr (.inl mcd))), (ad 9, .inl (cI, 20, .inl mck)), (ad 10, .inl (cJ, 20, .inr (.inl mcg))), (ad 16, .inl (cJ, 8, .inr (.inl mow))), (ad 17, .inl (cJ, 8, .inr (.inl msu))), (ad 18, .inl (cJ, 8, .inr (.inl mne)))] → va_S A s.heap H locs → lv_has ls 6 [(0, .ref (ad 0)), (1, .int v1), (2, .long v2), (4, .int v4)] → W p l e (headSpec zw_Mo_sum ({ frames := 2, cells := 0, slots := 0, locals := 50 } : Room)).room s m ([.ref (ad 0), .int u1, .long u2] : List Value).toArray below meth c H locs 0 0 (MQ below (va_Qv (fun (_ : Unit) => True) (mp_BM (dC, dI) vwCl [(ad 0, .inr (5, [.int mgc, .ref (ad 1), .int mpn, .ref (ad 2), .ref (ad 3), .ref (ad 4), .ref (ad 5), .ref (ad 6), .int mcn, .ref (ad 7), .ref (ad 8), .ref (ad 9), .ref (ad 10), .ref (ad 11), .ref (ad 12), .int msz, .ref (ad 13), .int mwc, .int mhf, .ref (ad 14), .ref (ad 15), .ref (ad 16), .ref (ad 17), .ref (ad 18)])), (ad 2, .inl (cI, 24, .inl mho)), (ad 3, .inl (cI, 24, .inl mki)), (ad 4, .inl (cJ, 24, .inr (.inl mgr))), (ad 6, .inl (cI, 24, .inl min_)), (ad 7, .inl (cI, 20, .inl mcp)), (ad 8, .inl (cJ, 20, .inr (.inl mcd))), (ad 9, .inl (cI, 20, .inl mck)), (ad 10, .inl (cJ, 20, .inr (.inl mcg))), (ad 16, .inl (cJ, 8, .inr (.inl res.1))), (ad 17, .inl (cJ, 8, .inr (.inl res.2.1))), (ad 18, .inl (cJ, 8, .inr (.inl res.2.2)))] A) A) ([.ref (ad 0), .int u1, .long u2] : List Value).toArray s 0 0 (A)) (F0 m 90 ls []) := by
    intro v1 v2 mow n
    induction n with
    | zero => intro v4 msu mne H locs ls hf; simp [zf_Mo_sum_L90] at hf
    | succ n ih =>
      intro v4 msu mne H locs ls hf hP hD hS hl
      rw [zf_Mo_sum_L90] at hf
      refine lv_iload hx hb zd_Mo_sum_90 (lv_at hl 3 rfl) ?_
      refine lv_bipush (v := 8) hx hb zd_Mo_sum_92 (by decide) ?_
      refine lv_icmp_ge (tgt := 222) hx hb zd_Mo_sum_94 (by decide) (fun c_3 => ?_) (fun c_3 => ?_)
      · have hf := mp_t c_3 hf
        have hf := Option.some.inj hf
        subst hf
        exact W.vret hx hb hr (fun t ht hW => ⟨⟨(), rfl, trivial, by rw [ht]; exact hP, hD⟩, hS.F ht⟩) hS.2.2 zd_Mo_sum_222
      · have hf := mp_f c_3 hf
        refine lv_iconst (v := 0) hx hb zd_Mo_sum_97 (by decide) ?_
        refine lv_istore (lv' := [(5, .int (0 : Int32)), (0, .ref (ad 0)), (1, .int v1), (2, .long v2), (4, .int v4)]) hx hb zd_Mo_sum_98 hl (by decide) rfl (fun ls hl => ?_)
        exact loop100 v1 v2 v4 mow msu (fun uv4 umsu umne => zf_Mo_sum_L90 v1 v2 mow mpn mcn mho mki mgr min_ mcp mcd mck mcg n uv4 umsu umne) ih 2000 (0 : Int32) mne _ _ _ hf hP hD hS (lv_sub hl [1, 2, 3, 4, 0] rfl)
  have loop35 : ∀ (v1 : Int32) (v2 : Int64) (msu : Nat → Int64) (mne : Nat → Int64) (n : Nat) (v4 : Int32) (mow : Nat → Int64) (H : Heap) (locs : List Loc) (ls : Array Slot), zf_Mo_sum_L35 v1 v2 msu mne mpn mcn mho mki mgr min_ mcp mcd mck mcg n v4 mow = some res → va_P (dC, dI) vwCl [(ad 0, .inr (5, [.int mgc, .ref (ad 1), .int mpn, .ref (ad 2), .ref (ad 3), .ref (ad 4), .ref (ad 5), .ref (ad 6), .int mcn, .ref (ad 7), .ref (ad 8), .ref (ad 9), .ref (ad 10), .ref (ad 11), .ref (ad 12), .int msz, .ref (ad 13), .int mwc, .int mhf, .ref (ad 14), .ref (ad 15), .ref (ad 16), .ref (ad 17), .ref (ad 18)])), (ad 2, .inl (cI, 24, .inl mho)), (ad 3, .inl (cI, 24, .inl mki)), (ad 4, .inl (cJ, 24, .inr (.inl mgr))), (ad 6, .inl (cI, 24, .inl min_)), (ad 7, .inl (cI, 20, .inl mcp)), (ad 8, .inl (cJ, 20, .inr (.inl mcd))), (ad 9, .inl (cI, 20, .inl mck)), (ad 10, .inl (cJ, 20, .inr (.inl mcg))), (ad 16, .inl (cJ, 8, .inr (.inl mow))), (ad 17, .inl (cJ, 8, .inr (.inl msu))), (ad 18, .inl (cJ, 8, .inr (.inl mne)))] H → va_D A [(ad 0, .inr (5, [.int mgc, .ref (ad 1), .int mpn, .ref (ad 2), .ref (ad 3), .ref (ad 4), .ref (ad 5), .ref (ad 6), .int mcn, .ref (ad 7), .ref (ad 8), .ref (ad 9), .ref (ad 10), .ref (ad 11), .ref (ad 12), .int msz, .ref (ad 13), .int mwc, .int mhf, .ref (ad 14), .ref (ad 15), .ref (ad 16), .ref (ad 17), .ref (ad 18)])), (ad 2, .inl (cI, 24, .inl mho)), (ad 3, .inl (cI, 24, .inl mki)), (ad 4, .inl (cJ, 24, .inr (.inl mgr))), (ad 6, .inl (cI, 24, .inl min_)), (ad 7, .inl (cI, 20, .inl mcp)), (ad 8, .inl (cJ, 20, .inr (.inl mcd))), (ad 9, .inl (cI, 20, .inl mck)), (ad 10, .inl (cJ, 20, .inr (.inl mcg))), (ad 16, .inl (cJ, 8, .inr (.inl mow))), (ad 17, .inl (cJ, 8, .inr (.inl msu))), (ad 18, .inl (cJ, 8, .inr (.inl mne)))] → va_S A s.heap H locs → lv_has ls 6 [(0, .ref (ad 0)), (1, .int v1), (2, .long v2), (4, .int v4)] → W p l e (headSpec zw_Mo_sum ({ frames := 2, cells := 0, slots := 0, locals := 50 } : Room)).room s m ([.ref (ad 0), .int u1, .long u2] : List Value).toArray below meth c H locs 0 0 (MQ below (va_Qv (fun (_ : Unit) => True) (mp_BM (dC, dI) vwCl [(ad 0, .inr (5, [.int mgc, .ref (ad 1), .int mpn, .ref (ad 2), .ref (ad 3), .ref (ad 4), .ref (ad 5), .ref (ad 6), .int mcn, .ref (ad 7), .ref (ad 8), .ref (ad 9), .ref (ad 10), .ref (ad 11), .ref (ad 12), .int msz, .ref (ad 13), .int mwc, .int mhf, .ref (ad 14), .ref (ad 15), .ref (ad 16), .ref (ad 17), .ref (ad 18)])), (ad 2, .inl (cI, 24, .inl mho)), (ad 3, .inl (cI, 24, .inl mki)), (ad 4, .inl (cJ, 24, .inr (.inl mgr))), (ad 6, .inl (cI, 24, .inl min_)), (ad 7, .inl (cI, 20, .inl mcp)), (ad 8, .inl (cJ, 20, .inr (.inl mcd))), (ad 9, .inl (cI, 20, .inl mck)), (ad 10, .inl (cJ, 20, .inr (.inl mcg))), (ad 16, .inl (cJ, 8, .inr (.inl res.1))), (ad 17, .inl (cJ, 8, .inr (.inl res.2.1))), (ad 18, .inl (cJ, 8, .inr (.inl res.2.2)))] A) A) ([.ref (ad 0), .int u1, .long u2] : List Value).toArray s 0 0 (A)) (F0 m 35 ls []) := by
    intro v1 v2 msu mne n
    induction n with
    | zero => intro v4 mow H locs ls hf; simp [zf_Mo_sum_L35] at hf
    | succ n ih =>
      intro v4 mow H locs ls hf hP hD hS hl
      rw [zf_Mo_sum_L35] at hf
      refine lv_iload hx hb zd_Mo_sum_35 (lv_at hl 3 rfl) ?_
      refine lv_aload_n hx hb zd_Mo_sum_37 rfl (lv_at hl 0 rfl) ?_
      refine va_get (D := (dC, dI)) (ci := 5) (v := .int mpn) (C := zR_Mo) (T := zT_Mo) (N := 24) hx hb hts (fun w h => hsub w (zi_Mo w h)) hown hK hP 0 rfl rfl 2 (by decide) (hw _ zq_445) (fun _ h9 => h9) rfl zd_Mo_sum_38 ?_
      refine lv_icmp_ge (tgt := 87) hx hb zd_Mo_sum_41 (by decide) (fun c_2 => ?_) (fun c_2 => ?_)
      · have hf := mp_t c_2 hf
        refine lv_iconst (v := 0) hx hb zd_Mo_sum_87 (by decide) ?_
        refine lv_istore (lv' := [(4, .int (0 : Int32)), (0, .ref (ad 0)), (1, .int v1), (2, .long v2)]) hx hb zd_Mo_sum_88 hl (by decide) rfl (fun ls hl => ?_)
        exact loop90 v1 v2 mow 2000 (0 : Int32) msu mne _ _ _ hf hP hD hS (lv_sub hl [1, 2, 3, 0] rfl)
      · have hf := mp_f c_2 hf
        refine lv_aload_n hx hb zd_Mo_sum_44 rfl (lv_at hl 0 rfl) ?_
        refine va_get (D := (dC, dI)) (ci := 5) (v := .ref (ad 16)) (C := zR_Mo) (T := zT_Mo) (N := 24) hx hb hts (fun w h => hsub w (zi_Mo w h)) hown hK hP 0 rfl rfl 21 (by decide) (hw _ zq_464) (fun _ h9 => h9) rfl zd_Mo_sum_45 ?_
        refine lv_aload_n hx hb zd_Mo_sum_48 rfl (lv_at hl 0 rfl) ?_
        refine va_get (D := (dC, dI)) (ci := 5) (v := .ref (ad 2)) (C := zR_Mo) (T := zT_Mo) (N := 24) hx hb hts (fun w h => hsub w (zi_Mo w h)) hown hK hP 0 rfl rfl 3 (by decide) (hw _ zq_446) (fun _ h9 => h9) rfl zd_Mo_sum_49 ?_
        refine lv_iload hx hb zd_Mo_sum_52 (lv_at hl 3 rfl) ?_
        obtain ⟨h_19, hf⟩ := mp_in hf
        refine va_iald hx hb hK hP 1 0 rfl rfl (i := v4) h_19 zd_Mo_sum_54 ?_
        refine lv_dup2_11 hx hb zd_Mo_sum_55 rfl rfl ?_
        obtain ⟨h_20, hf⟩ := mp_in hf
        refine va_lald hx hb hK hP 9 1 rfl rfl (i := (mho v4.toNatClampNeg)) h_20 zd_Mo_sum_56 ?_
        refine lv_aload_n hx hb zd_Mo_sum_57 rfl (lv_at hl 0 rfl) ?_
        refine lv_iload hx hb zd_Mo_sum_58 (lv_at hl 3 rfl) ?_
        refine lv_lload_n hx hb zd_Mo_sum_60 rfl (lv_at hl 2 rfl) ?_
        obtain ⟨y21, hg21, hf⟩ := mp_bd hf
        refine mp_Ri (va_runV (As := [.int v4, .long v2]) (rest := [.long (mow (mho v4.toNatClampNeg).toNatClampNeg), .int (mho v4.toNatClampNeg), .ref (ad 16)]) ⟨hx, hb, hml, hown, hts⟩ (zc_Mo_kindOn l dC dI cI cJ cZ ad mgc mpn mcn msz mwc mhf mki mcp mcd mck v4 v2 y21 hg21) (cwV 2 hts (mp_gV hsub zq_574 zq_576 zq_14 zq_30 zq_577) rfl rfl rfl (by decide +kernel) ⟨Nat.le_of_ble_eq_true rfl, Nat.le_of_ble_eq_true rfl⟩) ⟨mp_blR, va_recv hK hP (ci := 5) (q0 := 0) rfl rfl, mp_preR hN hK (hP.sub [0, 2, 5, 6, 7] rfl)⟩ rfl rfl hl.1 rfl (lv_room (Nat.le_of_ble_eq_true rfl)) zd_Mo_sum_61 ⟨Nat.zero_le _, Nat.zero_le _⟩) ?_
        refine lv_iload_n hx hb zd_Mo_sum_64 rfl (lv_at hl 1 rfl) ?_
        refine lv_icmp_ne (tgt := 78) hx hb zd_Mo_sum_65 (by decide) (fun c_22 => ?_) (fun c_22 => ?_)
        · have hf := mp_f c_22 hf
          refine lv_lconst (v := 0) hx hb zd_Mo_sum_78 (by decide) ?_
          refine lv_ladd hx hb zd_Mo_sum_79 ?_
          obtain ⟨h_23, hf⟩ := mp_in hf
          refine va_last hx hb hK hP hD hS 9 1 rfl rfl (i := (mho v4.toNatClampNeg)) (x := ((mow (mho v4.toNatClampNeg).toNatClampNeg) + (0 : Int64))) h_23 zd_Mo_sum_80 (fun H locs hP hD hS => ?_)
          have hP : va_P (dC, dI) vwCl [(ad 0, .inr (5, [.int mgc, .ref (ad 1), .int mpn, .ref (ad 2), .ref (ad 3), .ref (ad 4), .ref (ad 5), .ref (ad 6), .int mcn, .ref (ad 7), .ref (ad 8), .ref (ad 9), .ref (ad 10), .ref (ad 11), .ref (ad 12), .int msz, .ref (ad 13), .int mwc, .int mhf, .ref (ad 14), .ref (ad 15), .ref (ad 16), .ref (ad 17), .ref (ad 18)])), (ad 2, .inl (cI, 24, .inl mho)), (ad 3, .inl (cI, 24, .inl mki)), (ad 4, .inl (cJ, 24, .inr (.inl mgr))), (ad 6, .inl (cI, 24, .inl min_)), (ad 7, .inl (cI, 20, .inl mcp)), (ad 8, .inl (cJ, 20, .inr (.inl mcd))), (ad 9, .inl (cI, 20, .inl mck)), (ad 10, .inl (cJ, 20, .inr (.inl mcg))), (ad 16, .inl (cJ, 8, .inr (.inl (vp_updL mow (mho v4.toNatClampNeg).toNatClampNeg ((mow (mho v4.toNatClampNeg).toNatClampNeg) + (0 : Int64)))))), (ad 17, .inl (cJ, 8, .inr (.inl msu))), (ad 18, .inl (cJ, 8, .inr (.inl mne)))] H := hP
          have hD : va_D A [(ad 0, .inr (5, [.int mgc, .ref (ad 1), .int mpn, .ref (ad 2), .ref (ad 3), .ref (ad 4), .ref (ad 5), .ref (ad 6), .int mcn, .ref (ad 7), .ref (ad 8), .ref (ad 9), .ref (ad 10), .ref (ad 11), .ref (ad 12), .int msz, .ref (ad 13), .int mwc, .int mhf, .ref (ad 14), .ref (ad 15), .ref (ad 16), .ref (ad 17), .ref (ad 18)])), (ad 2, .inl (cI, 24, .inl mho)), (ad 3, .inl (cI, 24, .inl mki)), (ad 4, .inl (cJ, 24, .inr (.inl mgr))), (ad 6, .inl (cI, 24, .inl min_)), (ad 7, .inl (cI, 20, .inl mcp)), (ad 8, .inl (cJ, 20, .inr (.inl mcd))), (ad 9, .inl (cI, 20, .inl mck)), (ad 10, .inl (cJ, 20, .inr (.inl mcg))), (ad 16, .inl (cJ, 8, .inr (.inl (vp_updL mow (mho v4.toNatClampNeg).toNatClampNeg ((mow (mho v4.toNatClampNeg).toNatClampNeg) + (0 : Int64)))))), (ad 17, .inl (cJ, 8, .inr (.inl msu))), (ad 18, .inl (cJ, 8, .inr (.inl mne)))] := hD
          refine lv_iinc (v := (v4 + (1 : Int32))) (lv' := [(4, .int (v4 + (1 : Int32))), (0, .ref (ad 0)), (1, .int v1), (2, .long v2)]) hx hb zd_Mo_sum_81 hl (k := 3) rfl rfl (by decide) rfl (fun ls hl => ?_)
          refine lv_goto (tgt := 35) hx hb zd_Mo_sum_84 (by decide) ?_
          exact ih (v4 + (1 : Int32)) (vp_updL mow (mho v4.toNatClampNeg).toNatClampNeg ((mow (mho v4.toNatClampNeg).toNatClampNeg) + (0 : Int64))) _ _ _ hf hP hD hS (lv_sub hl [1, 2, 3, 0] rfl)
        · have hf := mp_t c_22 hf
          refine lv_aload_n hx hb zd_Mo_sum_68 rfl (lv_at hl 0 rfl) ?_
          refine lv_iload hx hb zd_Mo_sum_69 (lv_at hl 3 rfl) ?_
          refine lv_lload_n hx hb zd_Mo_sum_71 rfl (lv_at hl 2 rfl) ?_
          obtain ⟨y24, hg24, hf⟩ := mp_bd hf
          refine mp_Rl (va_runV (As := [.int v4, .long v2]) (rest := [.long (mow (mho v4.toNatClampNeg).toNatClampNeg), .int (mho v4.toNatClampNeg), .ref (ad 16)]) ⟨hx, hb, hml, hown, hts⟩ (zc_Mo_gramsOn l dC dI cI cJ cZ ad mgc mpn mcn msz mwc mhf mgr mcp mcd mcg v4 v2 y24 hg24) (cwV 2 hts (mp_gV hsub zq_582 zq_584 zq_16 zq_30 zq_585) rfl rfl rfl (by decide +kernel) ⟨Nat.le_of_ble_eq_true rfl, Nat.le_of_ble_eq_true rfl⟩) ⟨mp_blR, va_recv hK hP (ci := 5) (q0 := 0) rfl rfl, mp_preR hN hK (hP.sub [0, 3, 5, 6, 8] rfl)⟩ rfl rfl hl.1 rfl (lv_room (Nat.le_of_ble_eq_true rfl)) zd_Mo_sum_72 ⟨Nat.zero_le _, Nat.zero_le _⟩) ?_
          refine lv_goto (tgt := 79) hx hb zd_Mo_sum_75 (by decide) ?_
          refine lv_ladd hx hb zd_Mo_sum_79 ?_
          obtain ⟨h_25, hf⟩ := mp_in hf
          refine va_last hx hb hK hP hD hS 9 1 rfl rfl (i := (mho v4.toNatClampNeg)) (x := ((mow (mho v4.toNatClampNeg).toNatClampNeg) + y24)) h_25 zd_Mo_sum_80 (fun H locs hP hD hS => ?_)
          have hP : va_P (dC, dI) vwCl [(ad 0, .inr (5, [.int mgc, .ref (ad 1), .int mpn, .ref (ad 2), .ref (ad 3), .ref (ad 4), .ref (ad 5), .ref (ad 6), .int mcn, .ref (ad 7), .ref (ad 8), .ref (ad 9), .ref (ad 10), .ref (ad 11), .ref (ad 12), .int msz, .ref (ad 13), .int mwc, .int mhf, .ref (ad 14), .ref (ad 15), .ref (ad 16), .ref (ad 17), .ref (ad 18)])), (ad 2, .inl (cI, 24, .inl mho)), (ad 3, .inl (cI, 24, .inl mki)), (ad 4, .inl (cJ, 24, .inr (.inl mgr))), (ad 6, .inl (cI, 24, .inl min_)), (ad 7, .inl (cI, 20, .inl mcp)), (ad 8, .inl (cJ, 20, .inr (.inl mcd))), (ad 9, .inl (cI, 20, .inl mck)), (ad 10, .inl (cJ, 20, .inr (.inl mcg))), (ad 16, .inl (cJ, 8, .inr (.inl (vp_updL mow (mho v4.toNatClampNeg).toNatClampNeg ((mow (mho v4.toNatClampNeg).toNatClampNeg) + y24))))), (ad 17, .inl (cJ, 8, .inr (.inl msu))), (ad 18, .inl (cJ, 8, .inr (.inl mne)))] H := hP
          have hD : va_D A [(ad 0, .inr (5, [.int mgc, .ref (ad 1), .int mpn, .ref (ad 2), .ref (ad 3), .ref (ad 4), .ref (ad 5), .ref (ad 6), .int mcn, .ref (ad 7), .ref (ad 8), .ref (ad 9), .ref (ad 10), .ref (ad 11), .ref (ad 12), .int msz, .ref (ad 13), .int mwc, .int mhf, .ref (ad 14), .ref (ad 15), .ref (ad 16), .ref (ad 17), .ref (ad 18)])), (ad 2, .inl (cI, 24, .inl mho)), (ad 3, .inl (cI, 24, .inl mki)), (ad 4, .inl (cJ, 24, .inr (.inl mgr))), (ad 6, .inl (cI, 24, .inl min_)), (ad 7, .inl (cI, 20, .inl mcp)), (ad 8, .inl (cJ, 20, .inr (.inl mcd))), (ad 9, .inl (cI, 20, .inl mck)), (ad 10, .inl (cJ, 20, .inr (.inl mcg))), (ad 16, .inl (cJ, 8, .inr (.inl (vp_updL mow (mho v4.toNatClampNeg).toNatClampNeg ((mow (mho v4.toNatClampNeg).toNatClampNeg) + y24))))), (ad 17, .inl (cJ, 8, .inr (.inl msu))), (ad 18, .inl (cJ, 8, .inr (.inl mne)))] := hD
          refine lv_iinc (v := (v4 + (1 : Int32))) (lv' := [(4, .int (v4 + (1 : Int32))), (0, .ref (ad 0)), (1, .int v1), (2, .long v2)]) hx hb zd_Mo_sum_81 hl (k := 3) rfl rfl (by decide) rfl (fun ls hl => ?_)
          refine lv_goto (tgt := 35) hx hb zd_Mo_sum_84 (by decide) ?_
          exact ih (v4 + (1 : Int32)) (vp_updL mow (mho v4.toNatClampNeg).toNatClampNeg ((mow (mho v4.toNatClampNeg).toNatClampNeg) + y24)) _ _ _ hf hP hD hS (lv_sub hl [1, 2, 3, 0] rfl)
  have loop3 : ∀ (v1 : Int32) (v2 : Int64) (mne : Nat → Int64) (n : Nat) (v4 : Int32) (mow : Nat → Int64) (msu : Nat → Int64) (H : Heap) (locs : List Loc) (ls : Array Slot), zf_Mo_sum_L3 v1 v2 mne mpn mcn mho mki mgr min_ mcp mcd mck mcg n v4 mow msu = some res → va_P (dC, dI) vwCl [(ad 0, .inr (5, [.int mgc, .ref (ad 1), .int mpn, .ref (ad 2), .ref (ad 3), .ref (ad 4), .ref (ad 5), .ref (ad 6), .int mcn, .ref (ad 7), .ref (ad 8), .ref (ad 9), .ref (ad 10), .ref (ad 11), .ref (ad 12), .int msz, .ref (ad 13), .int mwc, .int mhf, .ref (ad 14), .ref (ad 15), .ref (ad 16), .ref (ad 17), .ref (ad 18)])), (ad 2, .inl (cI, 24, .inl mho)), (ad 3, .inl (cI, 24, .inl mki)), (ad 4, .inl (cJ, 24, .inr (.inl mgr))), (ad 6, .inl (cI, 24, .inl min_)), (ad 7, .inl (cI, 20, .inl mcp)), (ad 8, .inl (cJ, 20, .inr (.inl mcd))), (ad 9, .inl (cI, 20, .inl mck)), (ad 10, .inl (cJ, 20, .inr (.inl mcg))), (ad 16, .inl (cJ, 8, .inr (.inl mow))), (ad 17, .inl (cJ, 8, .inr (.inl msu))), (ad 18, .inl (cJ, 8, .inr (.inl mne)))] H → va_D A [(ad 0, .inr (5, [.int mgc, .ref (ad 1), .int mpn, .ref (ad 2), .ref (ad 3), .ref (ad 4), .ref (ad 5), .ref (ad 6), .int mcn, .ref (ad 7), .ref (ad 8), .ref (ad 9), .ref (ad 10), .ref (ad 11), .ref (ad 12), .int msz, .ref (ad 13), .int mwc, .int mhf, .ref (ad 14), .ref (ad 15), .ref (ad 16), .ref (ad 17), .ref (ad 18)])), (ad 2, .inl (cI, 24, .inl mho)), (ad 3, .inl (cI, 24, .inl mki)), (ad 4, .inl (cJ, 24, .inr (.inl mgr))), (ad 6, .inl (cI, 24, .inl min_)), (ad 7, .inl (cI, 20, .inl mcp)), (ad 8, .inl (cJ, 20, .inr (.inl mcd))), (ad 9, .inl (cI, 20, .inl mck)), (ad 10, .inl (cJ, 20, .inr (.inl mcg))), (ad 16, .inl (cJ, 8, .inr (.inl mow))), (ad 17, .inl (cJ, 8, .inr (.inl msu))), (ad 18, .inl (cJ, 8, .inr (.inl mne)))] → va_S A s.heap H locs → lv_has ls 6 [(0, .ref (ad 0)), (1, .int v1), (2, .long v2), (4, .int v4)] → W p l e (headSpec zw_Mo_sum ({ frames := 2, cells := 0, slots := 0, locals := 50 } : Room)).room s m ([.ref (ad 0), .int u1, .long u2] : List Value).toArray below meth c H locs 0 0 (MQ below (va_Qv (fun (_ : Unit) => True) (mp_BM (dC, dI) vwCl [(ad 0, .inr (5, [.int mgc, .ref (ad 1), .int mpn, .ref (ad 2), .ref (ad 3), .ref (ad 4), .ref (ad 5), .ref (ad 6), .int mcn, .ref (ad 7), .ref (ad 8), .ref (ad 9), .ref (ad 10), .ref (ad 11), .ref (ad 12), .int msz, .ref (ad 13), .int mwc, .int mhf, .ref (ad 14), .ref (ad 15), .ref (ad 16), .ref (ad 17), .ref (ad 18)])), (ad 2, .inl (cI, 24, .inl mho)), (ad 3, .inl (cI, 24, .inl mki)), (ad 4, .inl (cJ, 24, .inr (.inl mgr))), (ad 6, .inl (cI, 24, .inl min_)), (ad 7, .inl (cI, 20, .inl mcp)), (ad 8, .inl (cJ, 20, .inr (.inl mcd))), (ad 9, .inl (cI, 20, .inl mck)), (ad 10, .inl (cJ, 20, .inr (.inl mcg))), (ad 16, .inl (cJ, 8, .inr (.inl res.1))), (ad 17, .inl (cJ, 8, .inr (.inl res.2.1))), (ad 18, .inl (cJ, 8, .inr (.inl res.2.2)))] A) A) ([.ref (ad 0), .int u1, .long u2] : List Value).toArray s 0 0 (A)) (F0 m 3 ls []) := by
    intro v1 v2 mne n
    induction n with
    | zero => intro v4 mow msu H locs ls hf; simp [zf_Mo_sum_L3] at hf
    | succ n ih =>
      intro v4 mow msu H locs ls hf hP hD hS hl
      rw [zf_Mo_sum_L3] at hf
      refine lv_iload hx hb zd_Mo_sum_3 (lv_at hl 3 rfl) ?_
      refine lv_bipush (v := 8) hx hb zd_Mo_sum_5 (by decide) ?_
      refine lv_icmp_ge (tgt := 32) hx hb zd_Mo_sum_7 (by decide) (fun c_1 => ?_) (fun c_1 => ?_)
      · have hf := mp_t c_1 hf
        refine lv_iconst (v := 0) hx hb zd_Mo_sum_32 (by decide) ?_
        refine lv_istore (lv' := [(4, .int (0 : Int32)), (0, .ref (ad 0)), (1, .int v1), (2, .long v2)]) hx hb zd_Mo_sum_33 hl (by decide) rfl (fun ls hl => ?_)
        exact loop35 v1 v2 msu mne 2000 (0 : Int32) mow _ _ _ hf hP hD hS (lv_sub hl [1, 2, 3, 0] rfl)
      · have hf := mp_f c_1 hf
        refine lv_aload_n hx hb zd_Mo_sum_10 rfl (lv_at hl 0 rfl) ?_
        refine va_get (D := (dC, dI)) (ci := 5) (v := .ref (ad 16)) (C := zR_Mo) (T := zT_Mo) (N := 24) hx hb hts (fun w h => hsub w (zi_Mo w h)) hown hK hP 0 rfl rfl 21 (by decide) (hw _ zq_464) (fun _ h9 => h9) rfl zd_Mo_sum_11 ?_
        refine lv_iload hx hb zd_Mo_sum_14 (lv_at hl 3 rfl) ?_
        refine lv_lconst (v := 0) hx hb zd_Mo_sum_16 (by decide) ?_
        obtain ⟨h_26, hf⟩ := mp_in hf
        refine va_last hx hb hK hP hD hS 9 1 rfl rfl (i := v4) (x := (0 : Int64)) h_26 zd_Mo_sum_17 (fun H locs hP hD hS => ?_)
        have hP : va_P (dC, dI) vwCl [(ad 0, .inr (5, [.int mgc, .ref (ad 1), .int mpn, .ref (ad 2), .ref (ad 3), .ref (ad 4), .ref (ad 5), .ref (ad 6), .int mcn, .ref (ad 7), .ref (ad 8), .ref (ad 9), .ref (ad 10), .ref (ad 11), .ref (ad 12), .int msz, .ref (ad 13), .int mwc, .int mhf, .ref (ad 14), .ref (ad 15), .ref (ad 16), .ref (ad 17), .ref (ad 18)])), (ad 2, .inl (cI, 24, .inl mho)), (ad 3, .inl (cI, 24, .inl mki)), (ad 4, .inl (cJ, 24, .inr (.inl mgr))), (ad 6, .inl (cI, 24, .inl min_)), (ad 7, .inl (cI, 20, .inl mcp)), (ad 8, .inl (cJ, 20, .inr (.inl mcd))), (ad 9, .inl (cI, 20, .inl mck)), (ad 10, .inl (cJ, 20, .inr (.inl mcg))), (ad 16, .inl (cJ, 8, .inr (.inl (vp_updL mow v4.toNatClampNeg (0 : Int64))))), (ad 17, .inl (cJ, 8, .inr (.inl msu))), (ad 18, .inl (cJ, 8, .inr (.inl mne)))] H := hP
        have hD : va_D A [(ad 0, .inr (5, [.int mgc, .ref (ad 1), .int mpn, .ref (ad 2), .ref (ad 3), .ref (ad 4), .ref (ad 5), .ref (ad 6), .int mcn, .ref (ad 7), .ref (ad 8), .ref (ad 9), .ref (ad 10), .ref (ad 11), .ref (ad 12), .int msz, .ref (ad 13), .int mwc, .int mhf, .ref (ad 14), .ref (ad 15), .ref (ad 16), .ref (ad 17), .ref (ad 18)])), (ad 2, .inl (cI, 24, .inl mho)), (ad 3, .inl (cI, 24, .inl mki)), (ad 4, .inl (cJ, 24, .inr (.inl mgr))), (ad 6, .inl (cI, 24, .inl min_)), (ad 7, .inl (cI, 20, .inl mcp)), (ad 8, .inl (cJ, 20, .inr (.inl mcd))), (ad 9, .inl (cI, 20, .inl mck)), (ad 10, .inl (cJ, 20, .inr (.inl mcg))), (ad 16, .inl (cJ, 8, .inr (.inl (vp_updL mow v4.toNatClampNeg (0 : Int64))))), (ad 17, .inl (cJ, 8, .inr (.inl msu))), (ad 18, .inl (cJ, 8, .inr (.inl mne)))] := hD
        refine lv_aload_n hx hb zd_Mo_sum_18 rfl (lv_at hl 0 rfl) ?_
        refine va_get (D := (dC, dI)) (ci := 5) (v := .ref (ad 17)) (C := zR_Mo) (T := zT_Mo) (N := 24) hx hb hts (fun w h => hsub w (zi_Mo w h)) hown hK hP 0 rfl rfl 22 (by decide) (hw _ zq_465) (fun _ h9 => h9) rfl zd_Mo_sum_19 ?_
        refine lv_iload hx hb zd_Mo_sum_22 (lv_at hl 3 rfl) ?_
        refine lv_lconst (v := 0) hx hb zd_Mo_sum_24 (by decide) ?_
        obtain ⟨h_27, hf⟩ := mp_in hf
        refine va_last hx hb hK hP hD hS 10 1 rfl rfl (i := v4) (x := (0 : Int64)) h_27 zd_Mo_sum_25 (fun H locs hP hD hS => ?_)
        have hP : va_P (dC, dI) vwCl [(ad 0, .inr (5, [.int mgc, .ref (ad 1), .int mpn, .ref (ad 2), .ref (ad 3), .ref (ad 4), .ref (ad 5), .ref (ad 6), .int mcn, .ref (ad 7), .ref (ad 8), .ref (ad 9), .ref (ad 10), .ref (ad 11), .ref (ad 12), .int msz, .ref (ad 13), .int mwc, .int mhf, .ref (ad 14), .ref (ad 15), .ref (ad 16), .ref (ad 17), .ref (ad 18)])), (ad 2, .inl (cI, 24, .inl mho)), (ad 3, .inl (cI, 24, .inl mki)), (ad 4, .inl (cJ, 24, .inr (.inl mgr))), (ad 6, .inl (cI, 24, .inl min_)), (ad 7, .inl (cI, 20, .inl mcp)), (ad 8, .inl (cJ, 20, .inr (.inl mcd))), (ad 9, .inl (cI, 20, .inl mck)), (ad 10, .inl (cJ, 20, .inr (.inl mcg))), (ad 16, .inl (cJ, 8, .inr (.inl (vp_updL mow v4.toNatClampNeg (0 : Int64))))), (ad 17, .inl (cJ, 8, .inr (.inl (vp_updL msu v4.toNatClampNeg (0 : Int64))))), (ad 18, .inl (cJ, 8, .inr (.inl mne)))] H := hP
        have hD : va_D A [(ad 0, .inr (5, [.int mgc, .ref (ad 1), .int mpn, .ref (ad 2), .ref (ad 3), .ref (ad 4), .ref (ad 5), .ref (ad 6), .int mcn, .ref (ad 7), .ref (ad 8), .ref (ad 9), .ref (ad 10), .ref (ad 11), .ref (ad 12), .int msz, .ref (ad 13), .int mwc, .int mhf, .ref (ad 14), .ref (ad 15), .ref (ad 16), .ref (ad 17), .ref (ad 18)])), (ad 2, .inl (cI, 24, .inl mho)), (ad 3, .inl (cI, 24, .inl mki)), (ad 4, .inl (cJ, 24, .inr (.inl mgr))), (ad 6, .inl (cI, 24, .inl min_)), (ad 7, .inl (cI, 20, .inl mcp)), (ad 8, .inl (cJ, 20, .inr (.inl mcd))), (ad 9, .inl (cI, 20, .inl mck)), (ad 10, .inl (cJ, 20, .inr (.inl mcg))), (ad 16, .inl (cJ, 8, .inr (.inl (vp_updL mow v4.toNatClampNeg (0 : Int64))))), (ad 17, .inl (cJ, 8, .inr (.inl (vp_updL msu v4.toNatClampNeg (0 : Int64))))), (ad 18, .inl (cJ, 8, .inr (.inl mne)))] := hD
        refine lv_iinc (v := (v4 + (1 : Int32))) (lv' := [(4, .int (v4 + (1 : Int32))), (0, .ref (ad 0)), (1, .int v1), (2, .long v2)]) hx hb zd_Mo_sum_26 hl (k := 3) rfl rfl (by decide) rfl (fun ls hl => ?_)
        refine lv_goto (tgt := 3) hx hb zd_Mo_sum_29 (by decide) ?_
        exact ih (v4 + (1 : Int32)) (vp_updL mow v4.toNatClampNeg (0 : Int64)) (vp_updL msu v4.toNatClampNeg (0 : Int64)) _ _ _ hf hP hD hS (lv_sub hl [1, 2, 3, 0] rfl)
  have hl := lv_entry ([.ref (ad 0), .int u1, .long u2]) (n := 6) (Nat.le_of_ble_eq_true rfl)
  rw [lg_entry_eq]
  generalize (lg_sl ([.ref (ad 0), .int u1, .long u2]) ++ List.replicate (6 - (lg_sl ([.ref (ad 0), .int u1, .long u2])).length) Slot.unset).toArray = ls at hl ⊢
  have hl : lv_has ls 6 [(0, .ref (ad 0)), (1, .int u1), (2, .long u2)] := hl
  unfold zf_Mo_sum at hf
  refine lv_iconst (v := 0) hx hb zd_Mo_sum_0 (by decide) ?_
  refine lv_istore (lv' := [(4, .int (0 : Int32)), (0, .ref (ad 0)), (1, .int u1), (2, .long u2)]) hx hb zd_Mo_sum_1 hl (by decide) rfl (fun ls hl => ?_)
  exact loop3 u1 u2 mne 2000 (0 : Int32) mow msu _ _ _ hf hP hD hS (lv_sub hl [1, 2, 3, 0] rfl)
set_option maxHeartbeats 4000000 in
set_option maxRecDepth 100000 in
theorem zc_Mo_totalOn (l : Launch) (dC : Nat → ClassId) (dI : Nat → Nat → Nat) (cI cJ cZ : ClassId) (ad : Nat → Nat) (sz : Nat) (mgc : Int32) (mpn : Int32) (mcn : Int32) (msz : Int32) (mwc : Int32) (mhf : Int32) (mho : Nat → Int32) (mki : Nat → Int32) (mgr : Nat → Int64) (min_ : Nat → Int32) (mcp : Nat → Int32) (mcd : Nat → Int64) (mck : Nat → Int32) (mcg : Nat → Int64) (mow : Nat → Int64) (msu : Nat → Int64) (mne : Nat → Int64) (u1 : Int32) (u2 : Int32) (u3 : Int64) (res : Int64 × (Nat → Int64) × (Nat → Int64) × (Nat → Int64)) (hf : zf_Mo_totalOn u1 u2 u3 mgc mpn mcn mho mki mgr min_ mcp mcd mck mcg mow msu mne = some res) : Met l zy_Mo_totalOn zw_Mo_totalOn ({ frames := 3, cells := 0, slots := 0, locals := 75 } : Room) (mp_PM (dC, dI) vwCl (mp_tys cI cJ cZ) [(ad 0, .inr (5, [.int mgc, .ref (ad 1), .int mpn, .ref (ad 2), .ref (ad 3), .ref (ad 4), .ref (ad 5), .ref (ad 6), .int mcn, .ref (ad 7), .ref (ad 8), .ref (ad 9), .ref (ad 10), .ref (ad 11), .ref (ad 12), .int msz, .ref (ad 13), .int mwc, .int mhf, .ref (ad 14), .ref (ad 15), .ref (ad 16), .ref (ad 17), .ref (ad 18)])), (ad 2, .inl (cI, 24, .inl mho)), (ad 3, .inl (cI, 24, .inl mki)), (ad 4, .inl (cJ, 24, .inr (.inl mgr))), (ad 6, .inl (cI, 24, .inl min_)), (ad 7, .inl (cI, 20, .inl mcp)), (ad 8, .inl (cJ, 20, .inr (.inl mcd))), (ad 9, .inl (cI, 20, .inl mck)), (ad 10, .inl (cJ, 20, .inr (.inl mcg))), (ad 16, .inl (cJ, 8, .inr (.inl mow))), (ad 17, .inl (cJ, 8, .inr (.inl msu))), (ad 18, .inl (cJ, 8, .inr (.inl mne)))] sz [.ref (ad 0), .int u1, .int u2, .long u3]) (va_Ql (fun r (_ : Unit) => r = res.1) (mp_BM (dC, dI) vwCl [(ad 0, .inr (5, [.int mgc, .ref (ad 1), .int mpn, .ref (ad 2), .ref (ad 3), .ref (ad 4), .ref (ad 5), .ref (ad 6), .int mcn, .ref (ad 7), .ref (ad 8), .ref (ad 9), .ref (ad 10), .ref (ad 11), .ref (ad 12), .int msz, .ref (ad 13), .int mwc, .int mhf, .ref (ad 14), .ref (ad 15), .ref (ad 16), .ref (ad 17), .ref (ad 18)])), (ad 2, .inl (cI, 24, .inl mho)), (ad 3, .inl (cI, 24, .inl mki)), (ad 4, .inl (cJ, 24, .inr (.inl mgr))), (ad 6, .inl (cI, 24, .inl min_)), (ad 7, .inl (cI, 20, .inl mcp)), (ad 8, .inl (cJ, 20, .inr (.inl mcd))), (ad 9, .inl (cI, 20, .inl mck)), (ad 10, .inl (cJ, 20, .inr (.inl mcg))), (ad 16, .inl (cJ, 8, .inr (.inl res.2.1))), (ad 17, .inl (cJ, 8, .inr (.inl res.2.2.1))), (ad 18, .inl (cJ, 8, .inr (.inl res.2.2.2)))] (va_A [(ad 0, .inr (5, [.int mgc, .ref (ad 1), .int mpn, .ref (ad 2), .ref (ad 3), .ref (ad 4), .ref (ad 5), .ref (ad 6), .int mcn, .ref (ad 7), .ref (ad 8), .ref (ad 9), .ref (ad 10), .ref (ad 11), .ref (ad 12), .int msz, .ref (ad 13), .int mwc, .int mhf, .ref (ad 14), .ref (ad 15), .ref (ad 16), .ref (ad 17), .ref (ad 18)])), (ad 2, .inl (cI, 24, .inl mho)), (ad 3, .inl (cI, 24, .inl mki)), (ad 4, .inl (cJ, 24, .inr (.inl mgr))), (ad 6, .inl (cI, 24, .inl min_)), (ad 7, .inl (cI, 20, .inl mcp)), (ad 8, .inl (cJ, 20, .inr (.inl mcd))), (ad 9, .inl (cI, 20, .inl mck)), (ad 10, .inl (cJ, 20, .inr (.inl mcg))), (ad 16, .inl (cJ, 8, .inr (.inl mow))), (ad 17, .inl (cJ, 8, .inr (.inl msu))), (ad 18, .inl (cJ, 8, .inr (.inl mne)))] sz)) (va_A [(ad 0, .inr (5, [.int mgc, .ref (ad 1), .int mpn, .ref (ad 2), .ref (ad 3), .ref (ad 4), .ref (ad 5), .ref (ad 6), .int mcn, .ref (ad 7), .ref (ad 8), .ref (ad 9), .ref (ad 10), .ref (ad 11), .ref (ad 12), .int msz, .ref (ad 13), .int mwc, .int mhf, .ref (ad 14), .ref (ad 15), .ref (ad 16), .ref (ad 17), .ref (ad 18)])), (ad 2, .inl (cI, 24, .inl mho)), (ad 3, .inl (cI, 24, .inl mki)), (ad 4, .inl (cJ, 24, .inr (.inl mgr))), (ad 6, .inl (cI, 24, .inl min_)), (ad 7, .inl (cI, 20, .inl mcp)), (ad 8, .inl (cJ, 20, .inr (.inl mcd))), (ad 9, .inl (cI, 20, .inl mck)), (ad 10, .inl (cJ, 20, .inr (.inl mcg))), (ad 16, .inl (cJ, 8, .inr (.inl mow))), (ad 17, .inl (cJ, 8, .inr (.inl msu))), (ad 18, .inl (cJ, 8, .inr (.inl mne)))] sz)) 0 0 ((va_A [(ad 0, .inr (5, [.int mgc, .ref (ad 1), .int mpn, .ref (ad 2), .ref (ad 3), .ref (ad 4), .ref (ad 5), .ref (ad 6), .int mcn, .ref (ad 7), .ref (ad 8), .ref (ad 9), .ref (ad 10), .ref (ad 11), .ref (ad 12), .int msz, .ref (ad 13), .int mwc, .int mhf, .ref (ad 14), .ref (ad 15), .ref (ad 16), .ref (ad 17), .ref (ad 18)])), (ad 2, .inl (cI, 24, .inl mho)), (ad 3, .inl (cI, 24, .inl mki)), (ad 4, .inl (cJ, 24, .inr (.inl mgr))), (ad 6, .inl (cI, 24, .inl min_)), (ad 7, .inl (cI, 20, .inl mcp)), (ad 8, .inl (cJ, 20, .inr (.inl mcd))), (ad 9, .inl (cI, 20, .inl mck)), (ad 10, .inl (cJ, 20, .inr (.inl mcg))), (ad 16, .inl (cJ, 8, .inr (.inl mow))), (ad 17, .inl (cJ, 8, .inr (.inl msu))), (ad 18, .inl (cJ, 8, .inr (.inl mne)))] sz)) := by
  refine Met.ofW (cc := zb_Mo_totalOn) (maxL := 5) (ret := (some .long)) (by decide) rfl ?_
  intro p e s m args below meth c s₁ B hml hv
  obtain ⟨rfl, hsz, hP, hK, hD0, hN⟩ := hv
  have hx := B.exec
  have hb := B.bytes
  have hr := B.returns
  have hts := atoms_spec (ws := zw_Mo_totalOn) B.pre
  have hsub : ∀ w ∈ mp_tbl, w ∈ zw_Mo_totalOn := fun w h => List.mem_cons_of_mem _ h
  have hw : ∀ w ∈ mp_tbl, w.before _ s = true := fun w h => hts w (hsub w h)
  have hown : s.vm.findClass zR_Mo = some m.cls := findClass_of_methodNamed B.named
  have hlocks := B.notSynchronized
  subst hsz
  have hD := hD0.self (sz := s.heap.size)
  generalize hAe : va_A [(ad 0, .inr (5, [.int mgc, .ref (ad 1), .int mpn, .ref (ad 2), .ref (ad 3), .ref (ad 4), .ref (ad 5), .ref (ad 6), .int mcn, .ref (ad 7), .ref (ad 8), .ref (ad 9), .ref (ad 10), .ref (ad 11), .ref (ad 12), .int msz, .ref (ad 13), .int mwc, .int mhf, .ref (ad 14), .ref (ad 15), .ref (ad 16), .ref (ad 17), .ref (ad 18)])), (ad 2, .inl (cI, 24, .inl mho)), (ad 3, .inl (cI, 24, .inl mki)), (ad 4, .inl (cJ, 24, .inr (.inl mgr))), (ad 6, .inl (cI, 24, .inl min_)), (ad 7, .inl (cI, 20, .inl mcp)), (ad 8, .inl (cJ, 20, .inr (.inl mcd))), (ad 9, .inl (cI, 20, .inl mck)), (ad 10, .inl (cJ, 20, .inr (.inl mcg))), (ad 16, .inl (cJ, 8, .inr (.inl mow))), (ad 17, .inl (cJ, 8, .inr (.inl msu))), (ad 18, .inl (cJ, 8, .inr (.inl mne)))] s.heap.size = A at hD ⊢
  have hA : ∀ q : Nat, s.heap.size ≤ q → A q := fun q h => by rw [← hAe]; exact Or.inr h
  have hS : va_S A s.heap s.heap [] := va_S.rf
  have hP : va_P (dC, dI) vwCl [(ad 0, .inr (5, [.int mgc, .ref (ad 1), .int mpn, .ref (ad 2), .ref (ad 3), .ref (ad 4), .ref (ad 5), .ref (ad 6), .int mcn, .ref (ad 7), .ref (ad 8), .ref (ad 9), .ref (ad 10), .ref (ad 11), .ref (ad 12), .int msz, .ref (ad 13), .int mwc, .int mhf, .ref (ad 14), .ref (ad 15), .ref (ad 16), .ref (ad 17), .ref (ad 18)])), (ad 2, .inl (cI, 24, .inl mho)), (ad 3, .inl (cI, 24, .inl mki)), (ad 4, .inl (cJ, 24, .inr (.inl mgr))), (ad 6, .inl (cI, 24, .inl min_)), (ad 7, .inl (cI, 20, .inl mcp)), (ad 8, .inl (cJ, 20, .inr (.inl mcd))), (ad 9, .inl (cI, 20, .inl mck)), (ad 10, .inl (cJ, 20, .inr (.inl mcg))), (ad 16, .inl (cJ, 8, .inr (.inl mow))), (ad 17, .inl (cJ, 8, .inr (.inl msu))), (ad 18, .inl (cJ, 8, .inr (.inl mne)))] s.heap := hP
  clear hAe hD0
  have hl := lv_entry ([.ref (ad 0), .int u1, .int u2, .long u3]) (n := 5) (Nat.le_of_ble_eq_true rfl)
  rw [lg_entry_eq]
  generalize (lg_sl ([.ref (ad 0), .int u1, .int u2, .long u3]) ++ List.replicate (5 - (lg_sl ([.ref (ad 0), .int u1, .int u2, .long u3])).length) Slot.unset).toArray = ls at hl ⊢
  have hl : lv_has ls 5 [(0, .ref (ad 0)), (1, .int u1), (2, .int u2), (3, .long u3)] := hl
  unfold zf_Mo_totalOn at hf
  refine lv_aload_n hx hb zd_Mo_totalOn_0 rfl (lv_at hl 0 rfl) ?_
  refine lv_iload_n hx hb zd_Mo_totalOn_1 rfl (lv_at hl 1 rfl) ?_
  obtain ⟨y1, hg1, hf⟩ := mp_bd hf
  refine mp_Rz (va_runV (As := [.int u1]) (rest := []) ⟨hx, hb, hml, hown, hts⟩ (zc_Mo_isGood l dC dI cI cJ cZ ad mgc mpn mcn msz mwc mhf u1 y1 hg1) (cwV 1 hts (mp_gV hsub zq_524 zq_526 zq_9 zq_30 zq_527) rfl rfl rfl (by decide +kernel) ⟨Nat.le_of_ble_eq_true rfl, Nat.le_of_ble_eq_true rfl⟩) ⟨mp_blR, va_recv hK hP (ci := 5) (q0 := 0) rfl rfl, mp_preR hN hK (hP.sub [0] rfl)⟩ rfl rfl hl.1 rfl (lv_room (Nat.le_of_ble_eq_true rfl)) zd_Mo_totalOn_2 ⟨Nat.zero_le _, Nat.zero_le _⟩) (fun hz1 => ?_)
  refine lv_if_eq (tgt := 26) hx hb zd_Mo_totalOn_5 (by decide) (fun c_2 => ?_) (fun c_2 => ?_)
  · have hf := mp_t c_2 hf
    refine lv_ldc2 (v := -1) hx hb hown (hw _ zq_569) zd_Mo_totalOn_26 ?_
    have hf := Option.some.inj hf
    subst hf
    exact W.lret (v := (-1 : Int64)) hx hb hr (fun t ht hW => ⟨⟨(-1 : Int64), (), rfl, rfl, by rw [ht]; exact hP, hD⟩, hS.F ht⟩) hS.2.2 zd_Mo_totalOn_29
  · have hf := mp_f c_2 hf
    refine lv_iload_n hx hb zd_Mo_totalOn_8 rfl (lv_at hl 2 rfl) ?_
    obtain ⟨y3, hg3, hf⟩ := mp_bd hf
    refine mp_Rz (va_runS (As := [.int u2]) (rest := []) ⟨hx, hb, hml, hown, hts⟩ (zc_Mo_isKind l dC dI cI cJ cZ ad u2 y3 hg3) (va_cwS 1 hts (mp_gS hsub zq_528 zq_529 zq_30 zq_530) rfl rfl rfl (by decide +kernel) ⟨Nat.le_of_ble_eq_true rfl, Nat.le_of_ble_eq_true rfl⟩) ⟨mp_blR, mp_preR hN hK (hP.sub [] rfl)⟩ rfl rfl hl.1 rfl (lv_room (Nat.le_of_ble_eq_true rfl)) zd_Mo_totalOn_9 ⟨Nat.zero_le _, Nat.zero_le _⟩) (fun hz3 => ?_)
    refine lv_if_eq (tgt := 26) hx hb zd_Mo_totalOn_12 (by decide) (fun c_4 => ?_) (fun c_4 => ?_)
    · have hf := mp_t c_4 hf
      refine lv_ldc2 (v := -1) hx hb hown (hw _ zq_569) zd_Mo_totalOn_26 ?_
      have hf := Option.some.inj hf
      subst hf
      exact W.lret (v := (-1 : Int64)) hx hb hr (fun t ht hW => ⟨⟨(-1 : Int64), (), rfl, rfl, by rw [ht]; exact hP, hD⟩, hS.F ht⟩) hS.2.2 zd_Mo_totalOn_29
    · have hf := mp_f c_4 hf
      refine lv_lload_n hx hb zd_Mo_totalOn_15 rfl (lv_at hl 3 rfl) ?_
      refine lv_lconst (v := 0) hx hb zd_Mo_totalOn_16 (by decide) ?_
      refine lv_ldc2 (v := 100000) hx hb hown (hw _ zq_556) zd_Mo_totalOn_17 ?_
      obtain ⟨y5, hg5, hf⟩ := mp_bd hf
      refine mp_Rz (va_runS (As := [.long u3, .long (0 : Int64), .long (100000 : Int64)]) (rest := []) ⟨hx, hb, hml, hown, hts⟩ (zc_Mo_isIn l dC dI cI cJ cZ ad u3 (0 : Int64) (100000 : Int64) y5 hg5) (va_cwS 3 hts (mp_gS hsub zq_532 zq_533 zq_30 zq_534) rfl rfl rfl (by decide +kernel) ⟨Nat.le_of_ble_eq_true rfl, Nat.le_of_ble_eq_true rfl⟩) ⟨mp_blR, mp_preR hN hK (hP.sub [] rfl)⟩ rfl rfl hl.1 rfl (lv_room (Nat.le_of_ble_eq_true rfl)) zd_Mo_totalOn_20 ⟨Nat.zero_le _, Nat.zero_le _⟩) (fun hz5 => ?_)
      refine lv_if_ne (tgt := 30) hx hb zd_Mo_totalOn_23 (by decide) (fun c_6 => ?_) (fun c_6 => ?_)
      · have hf := mp_f c_6 hf
        refine lv_aload_n hx hb zd_Mo_totalOn_30 rfl (lv_at hl 0 rfl) ?_
        refine lv_iload_n hx hb zd_Mo_totalOn_31 rfl (lv_at hl 2 rfl) ?_
        refine lv_lload_n hx hb zd_Mo_totalOn_32 rfl (lv_at hl 3 rfl) ?_
        obtain ⟨y7, hg7, hf⟩ := mp_bd hf
        refine mp_Mv (wr := []) (va_runV (As := [.int u2, .long u3]) (rest := []) ⟨hx, hb, hml, hown, hts⟩ (zc_Mo_sum l dC dI cI cJ cZ ad _ mgc mpn mcn msz mwc mhf mho mki mgr min_ mcp mcd mck mcg mow msu mne u2 u3 y7 hg7) (cwV 2 hts (mp_gV hsub zq_570 zq_572 zq_13 zq_30 zq_573) rfl rfl rfl (by decide +kernel) ⟨Nat.le_of_ble_eq_true rfl, Nat.le_of_ble_eq_true rfl⟩) ⟨mp_blM, va_recv hK hP (ci := 5) (q0 := 0) rfl rfl, mp_preM hN hK (hP.sub [0, 1, 2, 3, 4, 5, 6, 7, 8, 9, 10, 11] rfl) (hD.sub [0, 1, 2, 3, 4, 5, 6, 7, 8, 9, 10, 11] (by decide) rfl)⟩ rfl rfl hl.1 rfl (lv_room (Nat.le_of_ble_eq_true rfl)) zd_Mo_totalOn_33 ⟨Nat.zero_le _, Nat.zero_le _⟩) hP hD hS hA [0, 1, 2, 3, 4, 5, 6, 7, 8, 9, 10, 11] [] rfl rfl (by decide) (by decide) (fun H locs hP hD hS => ?_)
        have hP : va_P (dC, dI) vwCl [(ad 0, .inr (5, [.int mgc, .ref (ad 1), .int mpn, .ref (ad 2), .ref (ad 3), .ref (ad 4), .ref (ad 5), .ref (ad 6), .int mcn, .ref (ad 7), .ref (ad 8), .ref (ad 9), .ref (ad 10), .ref (ad 11), .ref (ad 12), .int msz, .ref (ad 13), .int mwc, .int mhf, .ref (ad 14), .ref (ad 15), .ref (ad 16), .ref (ad 17), .ref (ad 18)])), (ad 2, .inl (cI, 24, .inl mho)), (ad 3, .inl (cI, 24, .inl mki)), (ad 4, .inl (cJ, 24, .inr (.inl mgr))), (ad 6, .inl (cI, 24, .inl min_)), (ad 7, .inl (cI, 20, .inl mcp)), (ad 8, .inl (cJ, 20, .inr (.inl mcd))), (ad 9, .inl (cI, 20, .inl mck)), (ad 10, .inl (cJ, 20, .inr (.inl mcg))), (ad 16, .inl (cJ, 8, .inr (.inl y7.1))), (ad 17, .inl (cJ, 8, .inr (.inl y7.2.1))), (ad 18, .inl (cJ, 8, .inr (.inl y7.2.2)))] H := hP
        have hD : va_D A [(ad 0, .inr (5, [.int mgc, .ref (ad 1), .int mpn, .ref (ad 2), .ref (ad 3), .ref (ad 4), .ref (ad 5), .ref (ad 6), .int mcn, .ref (ad 7), .ref (ad 8), .ref (ad 9), .ref (ad 10), .ref (ad 11), .ref (ad 12), .int msz, .ref (ad 13), .int mwc, .int mhf, .ref (ad 14), .ref (ad 15), .ref (ad 16), .ref (ad 17), .ref (ad 18)])), (ad 2, .inl (cI, 24, .inl mho)), (ad 3, .inl (cI, 24, .inl mki)), (ad 4, .inl (cJ, 24, .inr (.inl mgr))), (ad 6, .inl (cI, 24, .inl min_)), (ad 7, .inl (cI, 20, .inl mcp)), (ad 8, .inl (cJ, 20, .inr (.inl mcd))), (ad 9, .inl (cI, 20, .inl mck)), (ad 10, .inl (cJ, 20, .inr (.inl mcg))), (ad 16, .inl (cJ, 8, .inr (.inl y7.1))), (ad 17, .inl (cJ, 8, .inr (.inl y7.2.1))), (ad 18, .inl (cJ, 8, .inr (.inl y7.2.2)))] := hD
        refine lv_aload_n hx hb zd_Mo_totalOn_36 rfl (lv_at hl 0 rfl) ?_
        refine va_get (D := (dC, dI)) (ci := 5) (v := .ref (ad 17)) (C := zR_Mo) (T := zT_Mo) (N := 24) hx hb hts (fun w h => hsub w (zi_Mo w h)) hown hK hP 0 rfl rfl 22 (by decide) (hw _ zq_465) (fun _ h9 => h9) rfl zd_Mo_totalOn_37 ?_
        refine lv_iload_n hx hb zd_Mo_totalOn_40 rfl (lv_at hl 1 rfl) ?_
        obtain ⟨h_8, hf⟩ := mp_in hf
        refine va_lald hx hb hK hP 10 1 rfl rfl (i := u1) h_8 zd_Mo_totalOn_41 ?_
        have hf := Option.some.inj hf
        subst hf
        exact W.lret (v := (y7.2.1 u1.toNatClampNeg)) hx hb hr (fun t ht hW => ⟨⟨(y7.2.1 u1.toNatClampNeg), (), rfl, rfl, by rw [ht]; exact hP, hD⟩, hS.F ht⟩) hS.2.2 zd_Mo_totalOn_42
      · have hf := mp_t c_6 hf
        refine lv_ldc2 (v := -1) hx hb hown (hw _ zq_569) zd_Mo_totalOn_26 ?_
        have hf := Option.some.inj hf
        subst hf
        exact W.lret (v := (-1 : Int64)) hx hb hr (fun t ht hW => ⟨⟨(-1 : Int64), (), rfl, rfl, by rw [ht]; exact hP, hD⟩, hS.F ht⟩) hS.2.2 zd_Mo_totalOn_29
set_option maxHeartbeats 4000000 in
set_option maxRecDepth 100000 in
theorem zc_Mo_total (l : Launch) (dC : Nat → ClassId) (dI : Nat → Nat → Nat) (cI cJ cZ : ClassId) (ad : Nat → Nat) (sz : Nat) (mgc : Int32) (mpn : Int32) (mcn : Int32) (msz : Int32) (mwc : Int32) (mhf : Int32) (mho : Nat → Int32) (mki : Nat → Int32) (mgr : Nat → Int64) (min_ : Nat → Int32) (mcp : Nat → Int32) (mcd : Nat → Int64) (mck : Nat → Int32) (mcg : Nat → Int64) (mow : Nat → Int64) (msu : Nat → Int64) (mne : Nat → Int64) (u1 : Int32) (u2 : Int32) (res : Int64 × (Nat → Int64) × (Nat → Int64) × (Nat → Int64)) (hf : zf_Mo_total u1 u2 mgc mpn mcn mho mki mgr min_ mcp mcd mck mcg mow msu mne = some res) : Met l zy_Mo_total zw_Mo_total ({ frames := 4, cells := 0, slots := 0, locals := 99 } : Room) (mp_PM (dC, dI) vwCl (mp_tys cI cJ cZ) [(ad 0, .inr (5, [.int mgc, .ref (ad 1), .int mpn, .ref (ad 2), .ref (ad 3), .ref (ad 4), .ref (ad 5), .ref (ad 6), .int mcn, .ref (ad 7), .ref (ad 8), .ref (ad 9), .ref (ad 10), .ref (ad 11), .ref (ad 12), .int msz, .ref (ad 13), .int mwc, .int mhf, .ref (ad 14), .ref (ad 15), .ref (ad 16), .ref (ad 17), .ref (ad 18)])), (ad 2, .inl (cI, 24, .inl mho)), (ad 3, .inl (cI, 24, .inl mki)), (ad 4, .inl (cJ, 24, .inr (.inl mgr))), (ad 6, .inl (cI, 24, .inl min_)), (ad 7, .inl (cI, 20, .inl mcp)), (ad 8, .inl (cJ, 20, .inr (.inl mcd))), (ad 9, .inl (cI, 20, .inl mck)), (ad 10, .inl (cJ, 20, .inr (.inl mcg))), (ad 16, .inl (cJ, 8, .inr (.inl mow))), (ad 17, .inl (cJ, 8, .inr (.inl msu))), (ad 18, .inl (cJ, 8, .inr (.inl mne)))] sz [.ref (ad 0), .int u1, .int u2]) (va_Ql (fun r (_ : Unit) => r = res.1) (mp_BM (dC, dI) vwCl [(ad 0, .inr (5, [.int mgc, .ref (ad 1), .int mpn, .ref (ad 2), .ref (ad 3), .ref (ad 4), .ref (ad 5), .ref (ad 6), .int mcn, .ref (ad 7), .ref (ad 8), .ref (ad 9), .ref (ad 10), .ref (ad 11), .ref (ad 12), .int msz, .ref (ad 13), .int mwc, .int mhf, .ref (ad 14), .ref (ad 15), .ref (ad 16), .ref (ad 17), .ref (ad 18)])), (ad 2, .inl (cI, 24, .inl mho)), (ad 3, .inl (cI, 24, .inl mki)), (ad 4, .inl (cJ, 24, .inr (.inl mgr))), (ad 6, .inl (cI, 24, .inl min_)), (ad 7, .inl (cI, 20, .inl mcp)), (ad 8, .inl (cJ, 20, .inr (.inl mcd))), (ad 9, .inl (cI, 20, .inl mck)), (ad 10, .inl (cJ, 20, .inr (.inl mcg))), (ad 16, .inl (cJ, 8, .inr (.inl res.2.1))), (ad 17, .inl (cJ, 8, .inr (.inl res.2.2.1))), (ad 18, .inl (cJ, 8, .inr (.inl res.2.2.2)))] (va_A [(ad 0, .inr (5, [.int mgc, .ref (ad 1), .int mpn, .ref (ad 2), .ref (ad 3), .ref (ad 4), .ref (ad 5), .ref (ad 6), .int mcn, .ref (ad 7), .ref (ad 8), .ref (ad 9), .ref (ad 10), .ref (ad 11), .ref (ad 12), .int msz, .ref (ad 13), .int mwc, .int mhf, .ref (ad 14), .ref (ad 15), .ref (ad 16), .ref (ad 17), .ref (ad 18)])), (ad 2, .inl (cI, 24, .inl mho)), (ad 3, .inl (cI, 24, .inl mki)), (ad 4, .inl (cJ, 24, .inr (.inl mgr))), (ad 6, .inl (cI, 24, .inl min_)), (ad 7, .inl (cI, 20, .inl mcp)), (ad 8, .inl (cJ, 20, .inr (.inl mcd))), (ad 9, .inl (cI, 20, .inl mck)), (ad 10, .inl (cJ, 20, .inr (.inl mcg))), (ad 16, .inl (cJ, 8, .inr (.inl mow))), (ad 17, .inl (cJ, 8, .inr (.inl msu))), (ad 18, .inl (cJ, 8, .inr (.inl mne)))] sz)) (va_A [(ad 0, .inr (5, [.int mgc, .ref (ad 1), .int mpn, .ref (ad 2), .ref (ad 3), .ref (ad 4), .ref (ad 5), .ref (ad 6), .int mcn, .ref (ad 7), .ref (ad 8), .ref (ad 9), .ref (ad 10), .ref (ad 11), .ref (ad 12), .int msz, .ref (ad 13), .int mwc, .int mhf, .ref (ad 14), .ref (ad 15), .ref (ad 16), .ref (ad 17), .ref (ad 18)])), (ad 2, .inl (cI, 24, .inl mho)), (ad 3, .inl (cI, 24, .inl mki)), (ad 4, .inl (cJ, 24, .inr (.inl mgr))), (ad 6, .inl (cI, 24, .inl min_)), (ad 7, .inl (cI, 20, .inl mcp)), (ad 8, .inl (cJ, 20, .inr (.inl mcd))), (ad 9, .inl (cI, 20, .inl mck)), (ad 10, .inl (cJ, 20, .inr (.inl mcg))), (ad 16, .inl (cJ, 8, .inr (.inl mow))), (ad 17, .inl (cJ, 8, .inr (.inl msu))), (ad 18, .inl (cJ, 8, .inr (.inl mne)))] sz)) 0 0 ((va_A [(ad 0, .inr (5, [.int mgc, .ref (ad 1), .int mpn, .ref (ad 2), .ref (ad 3), .ref (ad 4), .ref (ad 5), .ref (ad 6), .int mcn, .ref (ad 7), .ref (ad 8), .ref (ad 9), .ref (ad 10), .ref (ad 11), .ref (ad 12), .int msz, .ref (ad 13), .int mwc, .int mhf, .ref (ad 14), .ref (ad 15), .ref (ad 16), .ref (ad 17), .ref (ad 18)])), (ad 2, .inl (cI, 24, .inl mho)), (ad 3, .inl (cI, 24, .inl mki)), (ad 4, .inl (cJ, 24, .inr (.inl mgr))), (ad 6, .inl (cI, 24, .inl min_)), (ad 7, .inl (cI, 20, .inl mcp)), (ad 8, .inl (cJ, 20, .inr (.inl mcd))), (ad 9, .inl (cI, 20, .inl mck)), (ad 10, .inl (cJ, 20, .inr (.inl mcg))), (ad 16, .inl (cJ, 8, .inr (.inl mow))), (ad 17, .inl (cJ, 8, .inr (.inl msu))), (ad 18, .inl (cJ, 8, .inr (.inl mne)))] sz)) := by
  refine Met.ofW (cc := zb_Mo_total) (maxL := 3) (ret := (some .long)) (by decide) rfl ?_
  intro p e s m args below meth c s₁ B hml hv
  obtain ⟨rfl, hsz, hP, hK, hD0, hN⟩ := hv
  have hx := B.exec
  have hb := B.bytes
  have hr := B.returns
  have hts := atoms_spec (ws := zw_Mo_total) B.pre
  have hsub : ∀ w ∈ mp_tbl, w ∈ zw_Mo_total := fun w h => List.mem_cons_of_mem _ h
  have hw : ∀ w ∈ mp_tbl, w.before _ s = true := fun w h => hts w (hsub w h)
  have hown : s.vm.findClass zR_Mo = some m.cls := findClass_of_methodNamed B.named
  have hlocks := B.notSynchronized
  subst hsz
  have hD := hD0.self (sz := s.heap.size)
  generalize hAe : va_A [(ad 0, .inr (5, [.int mgc, .ref (ad 1), .int mpn, .ref (ad 2), .ref (ad 3), .ref (ad 4), .ref (ad 5), .ref (ad 6), .int mcn, .ref (ad 7), .ref (ad 8), .ref (ad 9), .ref (ad 10), .ref (ad 11), .ref (ad 12), .int msz, .ref (ad 13), .int mwc, .int mhf, .ref (ad 14), .ref (ad 15), .ref (ad 16), .ref (ad 17), .ref (ad 18)])), (ad 2, .inl (cI, 24, .inl mho)), (ad 3, .inl (cI, 24, .inl mki)), (ad 4, .inl (cJ, 24, .inr (.inl mgr))), (ad 6, .inl (cI, 24, .inl min_)), (ad 7, .inl (cI, 20, .inl mcp)), (ad 8, .inl (cJ, 20, .inr (.inl mcd))), (ad 9, .inl (cI, 20, .inl mck)), (ad 10, .inl (cJ, 20, .inr (.inl mcg))), (ad 16, .inl (cJ, 8, .inr (.inl mow))), (ad 17, .inl (cJ, 8, .inr (.inl msu))), (ad 18, .inl (cJ, 8, .inr (.inl mne)))] s.heap.size = A at hD ⊢
  have hA : ∀ q : Nat, s.heap.size ≤ q → A q := fun q h => by rw [← hAe]; exact Or.inr h
  have hS : va_S A s.heap s.heap [] := va_S.rf
  have hP : va_P (dC, dI) vwCl [(ad 0, .inr (5, [.int mgc, .ref (ad 1), .int mpn, .ref (ad 2), .ref (ad 3), .ref (ad 4), .ref (ad 5), .ref (ad 6), .int mcn, .ref (ad 7), .ref (ad 8), .ref (ad 9), .ref (ad 10), .ref (ad 11), .ref (ad 12), .int msz, .ref (ad 13), .int mwc, .int mhf, .ref (ad 14), .ref (ad 15), .ref (ad 16), .ref (ad 17), .ref (ad 18)])), (ad 2, .inl (cI, 24, .inl mho)), (ad 3, .inl (cI, 24, .inl mki)), (ad 4, .inl (cJ, 24, .inr (.inl mgr))), (ad 6, .inl (cI, 24, .inl min_)), (ad 7, .inl (cI, 20, .inl mcp)), (ad 8, .inl (cJ, 20, .inr (.inl mcd))), (ad 9, .inl (cI, 20, .inl mck)), (ad 10, .inl (cJ, 20, .inr (.inl mcg))), (ad 16, .inl (cJ, 8, .inr (.inl mow))), (ad 17, .inl (cJ, 8, .inr (.inl msu))), (ad 18, .inl (cJ, 8, .inr (.inl mne)))] s.heap := hP
  clear hAe hD0
  have hl := lv_entry ([.ref (ad 0), .int u1, .int u2]) (n := 3) (Nat.le_of_ble_eq_true rfl)
  rw [lg_entry_eq]
  generalize (lg_sl ([.ref (ad 0), .int u1, .int u2]) ++ List.replicate (3 - (lg_sl ([.ref (ad 0), .int u1, .int u2])).length) Slot.unset).toArray = ls at hl ⊢
  have hl : lv_has ls 3 [(0, .ref (ad 0)), (1, .int u1), (2, .int u2)] := hl
  unfold zf_Mo_total at hf
  refine lv_aload_n hx hb zd_Mo_total_0 rfl (lv_at hl 0 rfl) ?_
  refine lv_iload_n hx hb zd_Mo_total_1 rfl (lv_at hl 1 rfl) ?_
  refine lv_iload_n hx hb zd_Mo_total_2 rfl (lv_at hl 2 rfl) ?_
  refine lv_ldc2 (v := 100000) hx hb hown (hw _ zq_556) zd_Mo_total_3 ?_
  obtain ⟨y1, hg1, hf⟩ := mp_bd hf
  refine mp_Ml (wr := []) (va_runV (As := [.int u1, .int u2, .long (100000 : Int64)]) (rest := []) ⟨hx, hb, hml, hown, hts⟩ (zc_Mo_totalOn l dC dI cI cJ cZ ad _ mgc mpn mcn msz mwc mhf mho mki mgr min_ mcp mcd mck mcg mow msu mne u1 u2 (100000 : Int64) y1 hg1) (cwV 3 hts (mp_gV hsub zq_565 zq_566 zq_567 zq_30 zq_568) rfl rfl rfl (by decide +kernel) ⟨Nat.le_of_ble_eq_true rfl, Nat.le_of_ble_eq_true rfl⟩) ⟨mp_blM, va_recv hK hP (ci := 5) (q0 := 0) rfl rfl, mp_preM hN hK (hP.sub [0, 1, 2, 3, 4, 5, 6, 7, 8, 9, 10, 11] rfl) (hD.sub [0, 1, 2, 3, 4, 5, 6, 7, 8, 9, 10, 11] (by decide) rfl)⟩ rfl rfl hl.1 rfl (lv_room (Nat.le_of_ble_eq_true rfl)) zd_Mo_total_6 ⟨Nat.zero_le _, Nat.zero_le _⟩) hP hD hS hA [0, 1, 2, 3, 4, 5, 6, 7, 8, 9, 10, 11] [] rfl rfl (by decide) (by decide) (fun H locs hP hD hS => ?_)
  have hP : va_P (dC, dI) vwCl [(ad 0, .inr (5, [.int mgc, .ref (ad 1), .int mpn, .ref (ad 2), .ref (ad 3), .ref (ad 4), .ref (ad 5), .ref (ad 6), .int mcn, .ref (ad 7), .ref (ad 8), .ref (ad 9), .ref (ad 10), .ref (ad 11), .ref (ad 12), .int msz, .ref (ad 13), .int mwc, .int mhf, .ref (ad 14), .ref (ad 15), .ref (ad 16), .ref (ad 17), .ref (ad 18)])), (ad 2, .inl (cI, 24, .inl mho)), (ad 3, .inl (cI, 24, .inl mki)), (ad 4, .inl (cJ, 24, .inr (.inl mgr))), (ad 6, .inl (cI, 24, .inl min_)), (ad 7, .inl (cI, 20, .inl mcp)), (ad 8, .inl (cJ, 20, .inr (.inl mcd))), (ad 9, .inl (cI, 20, .inl mck)), (ad 10, .inl (cJ, 20, .inr (.inl mcg))), (ad 16, .inl (cJ, 8, .inr (.inl y1.2.1))), (ad 17, .inl (cJ, 8, .inr (.inl y1.2.2.1))), (ad 18, .inl (cJ, 8, .inr (.inl y1.2.2.2)))] H := hP
  have hD : va_D A [(ad 0, .inr (5, [.int mgc, .ref (ad 1), .int mpn, .ref (ad 2), .ref (ad 3), .ref (ad 4), .ref (ad 5), .ref (ad 6), .int mcn, .ref (ad 7), .ref (ad 8), .ref (ad 9), .ref (ad 10), .ref (ad 11), .ref (ad 12), .int msz, .ref (ad 13), .int mwc, .int mhf, .ref (ad 14), .ref (ad 15), .ref (ad 16), .ref (ad 17), .ref (ad 18)])), (ad 2, .inl (cI, 24, .inl mho)), (ad 3, .inl (cI, 24, .inl mki)), (ad 4, .inl (cJ, 24, .inr (.inl mgr))), (ad 6, .inl (cI, 24, .inl min_)), (ad 7, .inl (cI, 20, .inl mcp)), (ad 8, .inl (cJ, 20, .inr (.inl mcd))), (ad 9, .inl (cI, 20, .inl mck)), (ad 10, .inl (cJ, 20, .inr (.inl mcg))), (ad 16, .inl (cJ, 8, .inr (.inl y1.2.1))), (ad 17, .inl (cJ, 8, .inr (.inl y1.2.2.1))), (ad 18, .inl (cJ, 8, .inr (.inl y1.2.2.2)))] := hD
  have hf := Option.some.inj hf
  subst hf
  exact W.lret (v := y1.1) hx hb hr (fun t ht hW => ⟨⟨y1.1, (), rfl, rfl, by rw [ht]; exact hP, hD⟩, hS.F ht⟩) hS.2.2 zd_Mo_total_9
set_option maxHeartbeats 4000000 in
set_option maxRecDepth 100000 in
theorem zc_Mo_frees (l : Launch) (dC : Nat → ClassId) (dI : Nat → Nat → Nat) (cI cJ cZ : ClassId) (ad : Nat → Nat) (mgc : Int32) (mpn : Int32) (mcn : Int32) (msz : Int32) (mwc : Int32) (mhf : Int32) (mki : Nat → Int32) (mgr : Nat → Int64) (mli : Nat → Int32) (mcp : Nat → Int32) (mcd : Nat → Int64) (mck : Nat → Int32) (mcg : Nat → Int64) (u1 : Int32) (u2 : Int32) (res : Int64) (hf : zf_Mo_frees u1 u2 mpn mcn mki mgr mli mcp mcd mck mcg = some res) : Met l zy_Mo_frees zw_Mo_frees ({ frames := 2, cells := 0, slots := 0, locals := 50 } : Room) (mp_PR (dC, dI) vwCl (mp_tys cI cJ cZ) [(ad 0, .inr (5, [.int mgc, .ref (ad 1), .int mpn, .ref (ad 2), .ref (ad 3), .ref (ad 4), .ref (ad 5), .ref (ad 6), .int mcn, .ref (ad 7), .ref (ad 8), .ref (ad 9), .ref (ad 10), .ref (ad 11), .ref (ad 12), .int msz, .ref (ad 13), .int mwc, .int mhf, .ref (ad 14), .ref (ad 15), .ref (ad 16), .ref (ad 17), .ref (ad 18)])), (ad 3, .inl (cI, 24, .inl mki)), (ad 4, .inl (cJ, 24, .inr (.inl mgr))), (ad 5, .inl (cI, 24, .inl mli)), (ad 7, .inl (cI, 20, .inl mcp)), (ad 8, .inl (cJ, 20, .inr (.inl mcd))), (ad 9, .inl (cI, 20, .inl mck)), (ad 10, .inl (cJ, 20, .inr (.inl mcg)))] [.ref (ad 0), .int u1, .int u2]) (vp_Sl (fun r => r = res)) 0 0 (fun _ => False) := by
  refine Met.ofW (cc := zb_Mo_frees) (maxL := 6) (ret := (some .long)) (by decide) rfl ?_
  intro p e s m args below meth c s₁ B hml hv
  obtain ⟨rfl, hP, hK, hN⟩ := hv
  have hx := B.exec
  have hb := B.bytes
  have hr := B.returns
  have hts := atoms_spec (ws := zw_Mo_frees) B.pre
  have hsub : ∀ w ∈ mp_tbl, w ∈ zw_Mo_frees := fun w h => List.mem_cons_of_mem _ h
  have hw : ∀ w ∈ mp_tbl, w.before _ s = true := fun w h => hts w (hsub w h)
  have hown : s.vm.findClass zR_Mo = some m.cls := findClass_of_methodNamed B.named
  have hlocks := B.notSynchronized
  have loop28 : ∀ (v1 : Int32) (v2 : Int32) (n : Nat) (v3 : Int64) (v5 : Int32) (ls : Array Slot), zf_Mo_frees_L28 v1 v2 mpn mcn mki mgr mli mcp mcd mck mcg n v3 v5 = some res → lv_has ls 6 [(0, .ref (ad 0)), (1, .int v1), (2, .int v2), (3, .long v3), (5, .int v5)] → W p l e (headSpec zw_Mo_frees ({ frames := 2, cells := 0, slots := 0, locals := 50 } : Room)).room s m ([.ref (ad 0), .int u1, .int u2] : List Value).toArray below meth c s.heap [] 0 0 (MQ below (vp_Sl (fun r => r = res)) ([.ref (ad 0), .int u1, .int u2] : List Value).toArray s 0 0 (fun _ => False)) (F0 m 28 ls []) := by
    intro v1 v2 n
    induction n with
    | zero => intro v3 v5 ls hf; simp [zf_Mo_frees_L28] at hf
    | succ n ih =>
      intro v3 v5 ls hf hl
      rw [zf_Mo_frees_L28] at hf
      refine lv_iload hx hb zd_Mo_frees_28 (lv_at hl 4 rfl) ?_
      refine lv_aload_n hx hb zd_Mo_frees_30 rfl (lv_at hl 0 rfl) ?_
      refine va_get (D := (dC, dI)) (ci := 5) (v := .int mpn) (C := zR_Mo) (T := zT_Mo) (N := 24) hx hb hts (fun w h => hsub w (zi_Mo w h)) hown hK hP 0 rfl rfl 2 (by decide) (hw _ zq_445) (fun _ h9 => h9) rfl zd_Mo_frees_31 ?_
      refine lv_icmp_ge (tgt := 83) hx hb zd_Mo_frees_34 (by decide) (fun c_5 => ?_) (fun c_5 => ?_)
      · have hf := mp_t c_5 hf
        refine lv_lload_n hx hb zd_Mo_frees_83 rfl (lv_at hl 3 rfl) ?_
        have hf := Option.some.inj hf
        subst hf
        exact W.lret (v := v3) hx hb hr (fun t ht hW => ⟨v3, rfl, rfl, ht⟩) (fun q h => by cases h) zd_Mo_frees_84
      · have hf := mp_f c_5 hf
        refine lv_lload_n hx hb zd_Mo_frees_37 rfl (lv_at hl 3 rfl) ?_
        refine lv_aload_n hx hb zd_Mo_frees_38 rfl (lv_at hl 0 rfl) ?_
        refine va_get (D := (dC, dI)) (ci := 5) (v := .ref (ad 5)) (C := zR_Mo) (T := zT_Mo) (N := 24) hx hb hts (fun w h => hsub w (zi_Mo w h)) hown hK hP 0 rfl rfl 6 (by decide) (hw _ zq_449) (fun _ h9 => h9) rfl zd_Mo_frees_39 ?_
        refine lv_iload hx hb zd_Mo_frees_42 (lv_at hl 4 rfl) ?_
        obtain ⟨h_6, hf⟩ := mp_in hf
        refine va_iald hx hb hK hP 3 0 rfl rfl (i := v5) h_6 zd_Mo_frees_44 ?_
        refine lv_iload_n hx hb zd_Mo_frees_45 rfl (lv_at hl 2 rfl) ?_
        refine lv_icmp_ne (tgt := 74) hx hb zd_Mo_frees_46 (by decide) (fun c_7 => ?_) (fun c_7 => ?_)
        · have hf := mp_f c_7 hf
          refine lv_lconst (v := 0) hx hb zd_Mo_frees_74 (by decide) ?_
          refine lv_ladd hx hb zd_Mo_frees_75 ?_
          refine lv_lstore_n (lv' := [(3, .long (v3 + (0 : Int64))), (0, .ref (ad 0)), (1, .int v1), (2, .int v2), (5, .int v5)]) hx hb zd_Mo_frees_76 rfl hl (by decide) rfl (fun ls hl => ?_)
          refine lv_iinc (v := (v5 + (1 : Int32))) (lv' := [(5, .int (v5 + (1 : Int32))), (3, .long (v3 + (0 : Int64))), (0, .ref (ad 0)), (1, .int v1), (2, .int v2)]) hx hb zd_Mo_frees_77 hl (k := 4) rfl rfl (by decide) rfl (fun ls hl => ?_)
          refine lv_goto (tgt := 28) hx hb zd_Mo_frees_80 (by decide) ?_
          exact ih (v3 + (0 : Int64)) (v5 + (1 : Int32)) _ hf (lv_sub hl [2, 3, 4, 1, 0] rfl)
        · have hf := mp_t c_7 hf
          refine lv_aload_n hx hb zd_Mo_frees_49 rfl (lv_at hl 0 rfl) ?_
          refine lv_iload hx hb zd_Mo_frees_50 (lv_at hl 4 rfl) ?_
          refine lv_ldc2 (v := 100000) hx hb hown (hw _ zq_556) zd_Mo_frees_52 ?_
          obtain ⟨y8, hg8, hf⟩ := mp_bd hf
          refine mp_Ri (va_runV (As := [.int v5, .long (100000 : Int64)]) (rest := [.long v3]) ⟨hx, hb, hml, hown, hts⟩ (zc_Mo_kindOn l dC dI cI cJ cZ ad mgc mpn mcn msz mwc mhf mki mcp mcd mck v5 (100000 : Int64) y8 hg8) (cwV 2 hts (mp_gV hsub zq_574 zq_576 zq_14 zq_30 zq_577) rfl rfl rfl (by decide +kernel) ⟨Nat.le_of_ble_eq_true rfl, Nat.le_of_ble_eq_true rfl⟩) ⟨mp_blR, va_recv hK hP (ci := 5) (q0 := 0) rfl rfl, mp_preR hN hK (hP.sub [0, 1, 4, 5, 6] rfl)⟩ rfl rfl hl.1 rfl (lv_room (Nat.le_of_ble_eq_true rfl)) zd_Mo_frees_55 ⟨Nat.zero_le _, Nat.zero_le _⟩) ?_
          refine lv_iload_n hx hb zd_Mo_frees_58 rfl (lv_at hl 1 rfl) ?_
          refine lv_icmp_ne (tgt := 74) hx hb zd_Mo_frees_59 (by decide) (fun c_9 => ?_) (fun c_9 => ?_)
          · have hf := mp_f c_9 hf
            refine lv_lconst (v := 0) hx hb zd_Mo_frees_74 (by decide) ?_
            refine lv_ladd hx hb zd_Mo_frees_75 ?_
            refine lv_lstore_n (lv' := [(3, .long (v3 + (0 : Int64))), (0, .ref (ad 0)), (1, .int v1), (2, .int v2), (5, .int v5)]) hx hb zd_Mo_frees_76 rfl hl (by decide) rfl (fun ls hl => ?_)
            refine lv_iinc (v := (v5 + (1 : Int32))) (lv' := [(5, .int (v5 + (1 : Int32))), (3, .long (v3 + (0 : Int64))), (0, .ref (ad 0)), (1, .int v1), (2, .int v2)]) hx hb zd_Mo_frees_77 hl (k := 4) rfl rfl (by decide) rfl (fun ls hl => ?_)
            refine lv_goto (tgt := 28) hx hb zd_Mo_frees_80 (by decide) ?_
            exact ih (v3 + (0 : Int64)) (v5 + (1 : Int32)) _ hf (lv_sub hl [2, 3, 4, 1, 0] rfl)
          · have hf := mp_t c_9 hf
            refine lv_aload_n hx hb zd_Mo_frees_62 rfl (lv_at hl 0 rfl) ?_
            refine lv_iload hx hb zd_Mo_frees_63 (lv_at hl 4 rfl) ?_
            refine lv_ldc2 (v := 100000) hx hb hown (hw _ zq_556) zd_Mo_frees_65 ?_
            obtain ⟨y10, hg10, hf⟩ := mp_bd hf
            refine mp_Rl (va_runV (As := [.int v5, .long (100000 : Int64)]) (rest := [.long v3]) ⟨hx, hb, hml, hown, hts⟩ (zc_Mo_gramsOn l dC dI cI cJ cZ ad mgc mpn mcn msz mwc mhf mgr mcp mcd mcg v5 (100000 : Int64) y10 hg10) (cwV 2 hts (mp_gV hsub zq_582 zq_584 zq_16 zq_30 zq_585) rfl rfl rfl (by decide +kernel) ⟨Nat.le_of_ble_eq_true rfl, Nat.le_of_ble_eq_true rfl⟩) ⟨mp_blR, va_recv hK hP (ci := 5) (q0 := 0) rfl rfl, mp_preR hN hK (hP.sub [0, 2, 4, 5, 7] rfl)⟩ rfl rfl hl.1 rfl (lv_room (Nat.le_of_ble_eq_true rfl)) zd_Mo_frees_68 ⟨Nat.zero_le _, Nat.zero_le _⟩) ?_
            refine lv_goto (tgt := 75) hx hb zd_Mo_frees_71 (by decide) ?_
            refine lv_ladd hx hb zd_Mo_frees_75 ?_
            refine lv_lstore_n (lv' := [(3, .long (v3 + y10)), (0, .ref (ad 0)), (1, .int v1), (2, .int v2), (5, .int v5)]) hx hb zd_Mo_frees_76 rfl hl (by decide) rfl (fun ls hl => ?_)
            refine lv_iinc (v := (v5 + (1 : Int32))) (lv' := [(5, .int (v5 + (1 : Int32))), (3, .long (v3 + y10)), (0, .ref (ad 0)), (1, .int v1), (2, .int v2)]) hx hb zd_Mo_frees_77 hl (k := 4) rfl rfl (by decide) rfl (fun ls hl => ?_)
            refine lv_goto (tgt := 28) hx hb zd_Mo_frees_80 (by decide) ?_
            exact ih (v3 + y10) (v5 + (1 : Int32)) _ hf (lv_sub hl [2, 3, 4, 1, 0] rfl)
  have hl := lv_entry ([.ref (ad 0), .int u1, .int u2]) (n := 6) (Nat.le_of_ble_eq_true rfl)
  rw [lg_entry_eq]
  generalize (lg_sl ([.ref (ad 0), .int u1, .int u2]) ++ List.replicate (6 - (lg_sl ([.ref (ad 0), .int u1, .int u2])).length) Slot.unset).toArray = ls at hl ⊢
  have hl : lv_has ls 6 [(0, .ref (ad 0)), (1, .int u1), (2, .int u2)] := hl
  unfold zf_Mo_frees at hf
  refine lv_iload_n hx hb zd_Mo_frees_0 rfl (lv_at hl 1 rfl) ?_
  obtain ⟨y1, hg1, hf⟩ := mp_bd hf
  refine mp_Rz (va_runS (As := [.int u1]) (rest := []) ⟨hx, hb, hml, hown, hts⟩ (zc_Mo_isKind l dC dI cI cJ cZ ad u1 y1 hg1) (va_cwS 1 hts (mp_gS hsub zq_528 zq_529 zq_30 zq_530) rfl rfl rfl (by decide +kernel) ⟨Nat.le_of_ble_eq_true rfl, Nat.le_of_ble_eq_true rfl⟩) ⟨mp_blR, mp_preR hN hK (hP.sub [] rfl)⟩ rfl rfl hl.1 rfl (lv_room (Nat.le_of_ble_eq_true rfl)) zd_Mo_frees_1 ⟨Nat.zero_le _, Nat.zero_le _⟩) (fun hz1 => ?_)
  refine lv_if_eq (tgt := 19) hx hb zd_Mo_frees_4 (by decide) (fun c_2 => ?_) (fun c_2 => ?_)
  · have hf := mp_t c_2 hf
    refine lv_ldc2 (v := -1) hx hb hown (hw _ zq_569) zd_Mo_frees_19 ?_
    have hf := Option.some.inj hf
    subst hf
    exact W.lret (v := (-1 : Int64)) hx hb hr (fun t ht hW => ⟨(-1 : Int64), rfl, rfl, ht⟩) (fun q h => by cases h) zd_Mo_frees_22
  · have hf := mp_f c_2 hf
    refine lv_iload_n hx hb zd_Mo_frees_7 rfl (lv_at hl 2 rfl) ?_
    refine lv_i2l hx hb zd_Mo_frees_8 rfl ?_
    refine lv_lconst (v := 0) hx hb zd_Mo_frees_9 (by decide) ?_
    refine lv_ldc2 (v := 200) hx hb hown (hw _ zq_535) zd_Mo_frees_10 ?_
    obtain ⟨y3, hg3, hf⟩ := mp_bd hf
    refine mp_Rz (va_runS (As := [.long u2.toInt64, .long (0 : Int64), .long (200 : Int64)]) (rest := []) ⟨hx, hb, hml, hown, hts⟩ (zc_Mo_isIn l dC dI cI cJ cZ ad u2.toInt64 (0 : Int64) (200 : Int64) y3 hg3) (va_cwS 3 hts (mp_gS hsub zq_532 zq_533 zq_30 zq_534) rfl rfl rfl (by decide +kernel) ⟨Nat.le_of_ble_eq_true rfl, Nat.le_of_ble_eq_true rfl⟩) ⟨mp_blR, mp_preR hN hK (hP.sub [] rfl)⟩ rfl rfl hl.1 rfl (lv_room (Nat.le_of_ble_eq_true rfl)) zd_Mo_frees_13 ⟨Nat.zero_le _, Nat.zero_le _⟩) (fun hz3 => ?_)
    refine lv_if_ne (tgt := 23) hx hb zd_Mo_frees_16 (by decide) (fun c_4 => ?_) (fun c_4 => ?_)
    · have hf := mp_f c_4 hf
      refine lv_lconst (v := 0) hx hb zd_Mo_frees_23 (by decide) ?_
      refine lv_lstore_n (lv' := [(3, .long (0 : Int64)), (0, .ref (ad 0)), (1, .int u1), (2, .int u2)]) hx hb zd_Mo_frees_24 rfl hl (by decide) rfl (fun ls hl => ?_)
      refine lv_iconst (v := 0) hx hb zd_Mo_frees_25 (by decide) ?_
      refine lv_istore (lv' := [(5, .int (0 : Int32)), (3, .long (0 : Int64)), (0, .ref (ad 0)), (1, .int u1), (2, .int u2)]) hx hb zd_Mo_frees_26 hl (by decide) rfl (fun ls hl => ?_)
      exact loop28 u1 u2 2000 (0 : Int64) (0 : Int32) _ hf (lv_sub hl [2, 3, 4, 1, 0] rfl)
    · have hf := mp_t c_4 hf
      refine lv_ldc2 (v := -1) hx hb hown (hw _ zq_569) zd_Mo_frees_19 ?_
      have hf := Option.some.inj hf
      subst hf
      exact W.lret (v := (-1 : Int64)) hx hb hr (fun t ht hW => ⟨(-1 : Int64), rfl, rfl, ht⟩) (fun q h => by cases h) zd_Mo_frees_22
set_option maxHeartbeats 4000000 in
set_option maxRecDepth 100000 in
theorem zc_Mo_version (l : Launch) (dC : Nat → ClassId) (dI : Nat → Nat → Nat) (cI cJ cZ : ClassId) (ad : Nat → Nat) (mgc : Int32) (mpn : Int32) (mcn : Int32) (msz : Int32) (mwc : Int32) (mhf : Int32) (mver : Nat → Int32) (u1 : Int32) (res : Int32) (hf : zf_Mo_version u1 mgc mver = some res) : Met l zy_Mo_version zw_Mo_version ({ frames := 1, cells := 0, slots := 0, locals := 21 } : Room) (mp_PR (dC, dI) vwCl (mp_tys cI cJ cZ) [(ad 0, .inr (5, [.int mgc, .ref (ad 1), .int mpn, .ref (ad 2), .ref (ad 3), .ref (ad 4), .ref (ad 5), .ref (ad 6), .int mcn, .ref (ad 7), .ref (ad 8), .ref (ad 9), .ref (ad 10), .ref (ad 11), .ref (ad 12), .int msz, .ref (ad 13), .int mwc, .int mhf, .ref (ad 14), .ref (ad 15), .ref (ad 16), .ref (ad 17), .ref (ad 18)])), (ad 1, .inl (cI, 8, .inl mver))] [.ref (ad 0), .int u1]) (vp_Si (fun r => r = res)) 0 0 (fun _ => False) := by
  refine Met.ofW (cc := zb_Mo_version) (maxL := 2) (ret := (some .int)) (by decide) rfl ?_
  intro p e s m args below meth c s₁ B hml hv
  obtain ⟨rfl, hP, hK, hN⟩ := hv
  have hx := B.exec
  have hb := B.bytes
  have hr := B.returns
  have hts := atoms_spec (ws := zw_Mo_version) B.pre
  have hsub : ∀ w ∈ mp_tbl, w ∈ zw_Mo_version := fun w h => List.mem_cons_of_mem _ h
  have hw : ∀ w ∈ mp_tbl, w.before _ s = true := fun w h => hts w (hsub w h)
  have hown : s.vm.findClass zR_Mo = some m.cls := findClass_of_methodNamed B.named
  have hlocks := B.notSynchronized
  have hl := lv_entry ([.ref (ad 0), .int u1]) (n := 2) (Nat.le_of_ble_eq_true rfl)
  rw [lg_entry_eq]
  generalize (lg_sl ([.ref (ad 0), .int u1]) ++ List.replicate (2 - (lg_sl ([.ref (ad 0), .int u1])).length) Slot.unset).toArray = ls at hl ⊢
  have hl : lv_has ls 2 [(0, .ref (ad 0)), (1, .int u1)] := hl
  unfold zf_Mo_version at hf
  refine lv_aload_n hx hb zd_Mo_version_0 rfl (lv_at hl 0 rfl) ?_
  refine lv_iload_n hx hb zd_Mo_version_1 rfl (lv_at hl 1 rfl) ?_
  obtain ⟨y1, hg1, hf⟩ := mp_bd hf
  refine mp_Rz (va_runV (As := [.int u1]) (rest := []) ⟨hx, hb, hml, hown, hts⟩ (zc_Mo_isGood l dC dI cI cJ cZ ad mgc mpn mcn msz mwc mhf u1 y1 hg1) (cwV 1 hts (mp_gV hsub zq_524 zq_526 zq_9 zq_30 zq_527) rfl rfl rfl (by decide +kernel) ⟨Nat.le_of_ble_eq_true rfl, Nat.le_of_ble_eq_true rfl⟩) ⟨mp_blR, va_recv hK hP (ci := 5) (q0 := 0) rfl rfl, mp_preR hN hK (hP.sub [0] rfl)⟩ rfl rfl hl.1 rfl (lv_room (Nat.le_of_ble_eq_true rfl)) zd_Mo_version_2 ⟨Nat.zero_le _, Nat.zero_le _⟩) (fun hz1 => ?_)
  refine lv_if_eq (tgt := 17) hx hb zd_Mo_version_5 (by decide) (fun c_2 => ?_) (fun c_2 => ?_)
  · have hf := mp_t c_2 hf
    refine lv_iconst (v := -1) hx hb zd_Mo_version_17 (by decide) ?_
    have hf := Option.some.inj hf
    subst hf
    exact W.iret (v := (-1 : Int32)) hx hb hr (fun t ht hW => ⟨(-1 : Int32), rfl, rfl, ht⟩) (fun q h => by cases h) zd_Mo_version_18
  · have hf := mp_f c_2 hf
    refine lv_aload_n hx hb zd_Mo_version_8 rfl (lv_at hl 0 rfl) ?_
    refine va_get (D := (dC, dI)) (ci := 5) (v := .ref (ad 1)) (C := zR_Mo) (T := zT_Mo) (N := 24) hx hb hts (fun w h => hsub w (zi_Mo w h)) hown hK hP 0 rfl rfl 1 (by decide) (hw _ zq_444) (fun _ h9 => h9) rfl zd_Mo_version_9 ?_
    refine lv_iload_n hx hb zd_Mo_version_12 rfl (lv_at hl 1 rfl) ?_
    obtain ⟨h_3, hf⟩ := mp_in hf
    refine va_iald hx hb hK hP 1 0 rfl rfl (i := u1) h_3 zd_Mo_version_13 ?_
    refine lv_goto (tgt := 18) hx hb zd_Mo_version_14 (by decide) ?_
    have hf := Option.some.inj hf
    subst hf
    exact W.iret (v := (mver u1.toNatClampNeg)) hx hb hr (fun t ht hW => ⟨(mver u1.toNatClampNeg), rfl, rfl, ht⟩) (fun q h => by cases h) zd_Mo_version_18
set_option maxHeartbeats 4000000 in
set_option maxRecDepth 100000 in
theorem zc_Mo_right (l : Launch) (dC : Nat → ClassId) (dI : Nat → Nat → Nat) (cI cJ cZ : ClassId) (ad : Nat → Nat) (sz : Nat) (mgc : Int32) (mpn : Int32) (mcn : Int32) (msz : Int32) (mwc : Int32) (mhf : Int32) (mri : Nat → Int32) (u1 : Int32) (u2 : Int32) (u3 : Int32) (res : Int32 × (Nat → Int32)) (hf : zf_Mo_right u1 u2 u3 mgc mri = some res) : Met l zy_Mo_right zw_Mo_right ({ frames := 1, cells := 0, slots := 0, locals := 25 } : Room) (mp_PM (dC, dI) vwCl (mp_tys cI cJ cZ) [(ad 0, .inr (5, [.int mgc, .ref (ad 1), .int mpn, .ref (ad 2), .ref (ad 3), .ref (ad 4), .ref (ad 5), .ref (ad 6), .int mcn, .ref (ad 7), .ref (ad 8), .ref (ad 9), .ref (ad 10), .ref (ad 11), .ref (ad 12), .int msz, .ref (ad 13), .int mwc, .int mhf, .ref (ad 14), .ref (ad 15), .ref (ad 16), .ref (ad 17), .ref (ad 18)])), (ad 11, .inl (cZ, 64, .inl mri))] sz [.ref (ad 0), .int u1, .int u2, .int u3]) (va_Qi (fun r (_ : Unit) => r = res.1 ∧ mp_b res.1) (mp_BM (dC, dI) vwCl [(ad 0, .inr (5, [.int mgc, .ref (ad 1), .int mpn, .ref (ad 2), .ref (ad 3), .ref (ad 4), .ref (ad 5), .ref (ad 6), .int mcn, .ref (ad 7), .ref (ad 8), .ref (ad 9), .ref (ad 10), .ref (ad 11), .ref (ad 12), .int msz, .ref (ad 13), .int mwc, .int mhf, .ref (ad 14), .ref (ad 15), .ref (ad 16), .ref (ad 17), .ref (ad 18)])), (ad 11, .inl (cZ, 64, .inl res.2))] (va_A [(ad 0, .inr (5, [.int mgc, .ref (ad 1), .int mpn, .ref (ad 2), .ref (ad 3), .ref (ad 4), .ref (ad 5), .ref (ad 6), .int mcn, .ref (ad 7), .ref (ad 8), .ref (ad 9), .ref (ad 10), .ref (ad 11), .ref (ad 12), .int msz, .ref (ad 13), .int mwc, .int mhf, .ref (ad 14), .ref (ad 15), .ref (ad 16), .ref (ad 17), .ref (ad 18)])), (ad 11, .inl (cZ, 64, .inl mri))] sz)) (va_A [(ad 0, .inr (5, [.int mgc, .ref (ad 1), .int mpn, .ref (ad 2), .ref (ad 3), .ref (ad 4), .ref (ad 5), .ref (ad 6), .int mcn, .ref (ad 7), .ref (ad 8), .ref (ad 9), .ref (ad 10), .ref (ad 11), .ref (ad 12), .int msz, .ref (ad 13), .int mwc, .int mhf, .ref (ad 14), .ref (ad 15), .ref (ad 16), .ref (ad 17), .ref (ad 18)])), (ad 11, .inl (cZ, 64, .inl mri))] sz)) 0 0 ((va_A [(ad 0, .inr (5, [.int mgc, .ref (ad 1), .int mpn, .ref (ad 2), .ref (ad 3), .ref (ad 4), .ref (ad 5), .ref (ad 6), .int mcn, .ref (ad 7), .ref (ad 8), .ref (ad 9), .ref (ad 10), .ref (ad 11), .ref (ad 12), .int msz, .ref (ad 13), .int mwc, .int mhf, .ref (ad 14), .ref (ad 15), .ref (ad 16), .ref (ad 17), .ref (ad 18)])), (ad 11, .inl (cZ, 64, .inl mri))] sz)) := by
  refine Met.ofW (cc := zb_Mo_right) (maxL := 4) (ret := (some .boolean)) (by decide) rfl ?_
  intro p e s m args below meth c s₁ B hml hv
  obtain ⟨rfl, hsz, hP, hK, hD0, hN⟩ := hv
  have hx := B.exec
  have hb := B.bytes
  have hr := B.returns
  have hts := atoms_spec (ws := zw_Mo_right) B.pre
  have hsub : ∀ w ∈ mp_tbl, w ∈ zw_Mo_right := fun w h => List.mem_cons_of_mem _ h
  have hw : ∀ w ∈ mp_tbl, w.before _ s = true := fun w h => hts w (hsub w h)
  have hown : s.vm.findClass zR_Mo = some m.cls := findClass_of_methodNamed B.named
  have hlocks := B.notSynchronized
  subst hsz
  have hD := hD0.self (sz := s.heap.size)
  generalize hAe : va_A [(ad 0, .inr (5, [.int mgc, .ref (ad 1), .int mpn, .ref (ad 2), .ref (ad 3), .ref (ad 4), .ref (ad 5), .ref (ad 6), .int mcn, .ref (ad 7), .ref (ad 8), .ref (ad 9), .ref (ad 10), .ref (ad 11), .ref (ad 12), .int msz, .ref (ad 13), .int mwc, .int mhf, .ref (ad 14), .ref (ad 15), .ref (ad 16), .ref (ad 17), .ref (ad 18)])), (ad 11, .inl (cZ, 64, .inl mri))] s.heap.size = A at hD ⊢
  have hA : ∀ q : Nat, s.heap.size ≤ q → A q := fun q h => by rw [← hAe]; exact Or.inr h
  have hS : va_S A s.heap s.heap [] := va_S.rf
  have hP : va_P (dC, dI) vwCl [(ad 0, .inr (5, [.int mgc, .ref (ad 1), .int mpn, .ref (ad 2), .ref (ad 3), .ref (ad 4), .ref (ad 5), .ref (ad 6), .int mcn, .ref (ad 7), .ref (ad 8), .ref (ad 9), .ref (ad 10), .ref (ad 11), .ref (ad 12), .int msz, .ref (ad 13), .int mwc, .int mhf, .ref (ad 14), .ref (ad 15), .ref (ad 16), .ref (ad 17), .ref (ad 18)])), (ad 11, .inl (cZ, 64, .inl mri))] s.heap := hP
  clear hAe hD0
  have hl := lv_entry ([.ref (ad 0), .int u1, .int u2, .int u3]) (n := 4) (Nat.le_of_ble_eq_true rfl)
  rw [lg_entry_eq]
  generalize (lg_sl ([.ref (ad 0), .int u1, .int u2, .int u3]) ++ List.replicate (4 - (lg_sl ([.ref (ad 0), .int u1, .int u2, .int u3])).length) Slot.unset).toArray = ls at hl ⊢
  have hl : lv_has ls 4 [(0, .ref (ad 0)), (1, .int u1), (2, .int u2), (3, .int u3)] := hl
  unfold zf_Mo_right at hf
  refine lv_iload_n hx hb zd_Mo_right_0 rfl (lv_at hl 1 rfl) ?_
  refine lv_i2l hx hb zd_Mo_right_1 rfl ?_
  refine lv_lconst (v := 0) hx hb zd_Mo_right_2 (by decide) ?_
  refine lv_ldc2 (v := 7) hx hb hown (hw _ zq_599) zd_Mo_right_3 ?_
  obtain ⟨y1, hg1, hf⟩ := mp_bd hf
  refine mp_Rz (va_runS (As := [.long u1.toInt64, .long (0 : Int64), .long (7 : Int64)]) (rest := []) ⟨hx, hb, hml, hown, hts⟩ (zc_Mo_isIn l dC dI cI cJ cZ ad u1.toInt64 (0 : Int64) (7 : Int64) y1 hg1) (va_cwS 3 hts (mp_gS hsub zq_532 zq_533 zq_30 zq_534) rfl rfl rfl (by decide +kernel) ⟨Nat.le_of_ble_eq_true rfl, Nat.le_of_ble_eq_true rfl⟩) ⟨mp_blR, mp_preR hN hK (hP.sub [] rfl)⟩ rfl rfl hl.1 rfl (lv_room (Nat.le_of_ble_eq_true rfl)) zd_Mo_right_6 ⟨Nat.zero_le _, Nat.zero_le _⟩) (fun hz1 => ?_)
  refine lv_if_eq (tgt := 20) hx hb zd_Mo_right_9 (by decide) (fun c_2 => ?_) (fun c_2 => ?_)
  · have hf := mp_t c_2 hf
    refine lv_iconst (v := 0) hx hb zd_Mo_right_20 (by decide) ?_
    have hf := Option.some.inj hf
    subst hf
    exact W.zret (v := (0 : Int32)) hx hb hr (mp_nz (Or.inl rfl)) (fun t ht hW => ⟨⟨(0 : Int32), (), rfl, ⟨rfl, (Or.inl rfl)⟩, by rw [ht]; exact hP, hD⟩, hS.F ht⟩) hS.2.2 zd_Mo_right_21
  · have hf := mp_f c_2 hf
    refine lv_aload_n hx hb zd_Mo_right_12 rfl (lv_at hl 0 rfl) ?_
    refine lv_iload_n hx hb zd_Mo_right_13 rfl (lv_at hl 2 rfl) ?_
    obtain ⟨y3, hg3, hf⟩ := mp_bd hf
    refine mp_Rz (va_runV (As := [.int u2]) (rest := []) ⟨hx, hb, hml, hown, hts⟩ (zc_Mo_isGood l dC dI cI cJ cZ ad mgc mpn mcn msz mwc mhf u2 y3 hg3) (cwV 1 hts (mp_gV hsub zq_524 zq_526 zq_9 zq_30 zq_527) rfl rfl rfl (by decide +kernel) ⟨Nat.le_of_ble_eq_true rfl, Nat.le_of_ble_eq_true rfl⟩) ⟨mp_blR, va_recv hK hP (ci := 5) (q0 := 0) rfl rfl, mp_preR hN hK (hP.sub [0] rfl)⟩ rfl rfl hl.1 rfl (lv_room (Nat.le_of_ble_eq_true rfl)) zd_Mo_right_14 ⟨Nat.zero_le _, Nat.zero_le _⟩) (fun hz3 => ?_)
    refine lv_if_ne (tgt := 22) hx hb zd_Mo_right_17 (by decide) (fun c_4 => ?_) (fun c_4 => ?_)
    · have hf := mp_f c_4 hf
      refine lv_aload_n hx hb zd_Mo_right_22 rfl (lv_at hl 0 rfl) ?_
      refine va_get (D := (dC, dI)) (ci := 5) (v := .ref (ad 11)) (C := zR_Mo) (T := zT_Mo) (N := 24) hx hb hts (fun w h => hsub w (zi_Mo w h)) hown hK hP 0 rfl rfl 13 (by decide) (hw _ zq_456) (fun _ h9 => h9) rfl zd_Mo_right_23 ?_
      refine lv_bipush (v := 8) hx hb zd_Mo_right_26 (by decide) ?_
      refine lv_iload_n hx hb zd_Mo_right_28 rfl (lv_at hl 1 rfl) ?_
      refine lv_imul hx hb zd_Mo_right_29 ?_
      refine lv_iload_n hx hb zd_Mo_right_30 rfl (lv_at hl 2 rfl) ?_
      refine lv_iadd hx hb zd_Mo_right_31 ?_
      refine lv_iload_n hx hb zd_Mo_right_32 rfl (lv_at hl 3 rfl) ?_
      obtain ⟨h_5, hf⟩ := mp_in hf
      refine va_zast hx hb hK hP hD hS 1 2 rfl rfl (i := (((8 : Int32) * u1) + u2)) (x := u3) h_5 zd_Mo_right_33 (fun H locs hP hD hS => ?_)
      have hP : va_P (dC, dI) vwCl [(ad 0, .inr (5, [.int mgc, .ref (ad 1), .int mpn, .ref (ad 2), .ref (ad 3), .ref (ad 4), .ref (ad 5), .ref (ad 6), .int mcn, .ref (ad 7), .ref (ad 8), .ref (ad 9), .ref (ad 10), .ref (ad 11), .ref (ad 12), .int msz, .ref (ad 13), .int mwc, .int mhf, .ref (ad 14), .ref (ad 15), .ref (ad 16), .ref (ad 17), .ref (ad 18)])), (ad 11, .inl (cZ, 64, .inl (upd mri (((8 : Int32) * u1) + u2).toNatClampNeg (vp_nar .boolean u3))))] H := hP
      have hD : va_D A [(ad 0, .inr (5, [.int mgc, .ref (ad 1), .int mpn, .ref (ad 2), .ref (ad 3), .ref (ad 4), .ref (ad 5), .ref (ad 6), .int mcn, .ref (ad 7), .ref (ad 8), .ref (ad 9), .ref (ad 10), .ref (ad 11), .ref (ad 12), .int msz, .ref (ad 13), .int mwc, .int mhf, .ref (ad 14), .ref (ad 15), .ref (ad 16), .ref (ad 17), .ref (ad 18)])), (ad 11, .inl (cZ, 64, .inl (upd mri (((8 : Int32) * u1) + u2).toNatClampNeg (vp_nar .boolean u3))))] := hD
      refine lv_iconst (v := 1) hx hb zd_Mo_right_34 (by decide) ?_
      have hf := Option.some.inj hf
      subst hf
      exact W.zret (v := (1 : Int32)) hx hb hr (mp_nz (Or.inr rfl)) (fun t ht hW => ⟨⟨(1 : Int32), (), rfl, ⟨rfl, (Or.inr rfl)⟩, by rw [ht]; exact hP, hD⟩, hS.F ht⟩) hS.2.2 zd_Mo_right_35
    · have hf := mp_t c_4 hf
      refine lv_iconst (v := 0) hx hb zd_Mo_right_20 (by decide) ?_
      have hf := Option.some.inj hf
      subst hf
      exact W.zret (v := (0 : Int32)) hx hb hr (mp_nz (Or.inl rfl)) (fun t ht hW => ⟨⟨(0 : Int32), (), rfl, ⟨rfl, (Or.inl rfl)⟩, by rw [ht]; exact hP, hD⟩, hS.F ht⟩) hS.2.2 zd_Mo_right_21
set_option maxHeartbeats 4000000 in
set_option maxRecDepth 100000 in
theorem zc_Mo_partOf (l : Launch) (dC : Nat → ClassId) (dI : Nat → Nat → Nat) (cI cJ cZ : ClassId) (ad : Nat → Nat) (mgc : Int32) (mpn : Int32) (mcn : Int32) (msz : Int32) (mwc : Int32) (mhf : Int32) (mho : Nat → Int32) (u1 : Int32) (u2 : Int32) (res : Int32) (hf : zf_Mo_partOf u1 u2 mpn mho = some res) : Met l zy_Mo_partOf zw_Mo_partOf ({ frames := 0, cells := 0, slots := 0, locals := 0 } : Room) (mp_PR (dC, dI) vwCl (mp_tys cI cJ cZ) [(ad 0, .inr (5, [.int mgc, .ref (ad 1), .int mpn, .ref (ad 2), .ref (ad 3), .ref (ad 4), .ref (ad 5), .ref (ad 6), .int mcn, .ref (ad 7), .ref (ad 8), .ref (ad 9), .ref (ad 10), .ref (ad 11), .ref (ad 12), .int msz, .ref (ad 13), .int mwc, .int mhf, .ref (ad 14), .ref (ad 15), .ref (ad 16), .ref (ad 17), .ref (ad 18)])), (ad 2, .inl (cI, 24, .inl mho))] [.ref (ad 0), .int u1, .int u2]) (vp_Si (fun r => r = res)) 0 0 (fun _ => False) := by
  refine Met.ofW (cc := zb_Mo_partOf) (maxL := 5) (ret := (some .int)) (by decide) rfl ?_
  intro p e s m args below meth c s₁ B hml hv
  obtain ⟨rfl, hP, hK, hN⟩ := hv
  have hx := B.exec
  have hb := B.bytes
  have hr := B.returns
  have hts := atoms_spec (ws := zw_Mo_partOf) B.pre
  have hsub : ∀ w ∈ mp_tbl, w ∈ zw_Mo_partOf := fun w h => List.mem_cons_of_mem _ h
  have hw : ∀ w ∈ mp_tbl, w.before _ s = true := fun w h => hts w (hsub w h)
  have hown : s.vm.findClass zR_Mo = some m.cls := findClass_of_methodNamed B.named
  have hlocks := B.notSynchronized
  have loop5 : ∀ (v1 : Int32) (v2 : Int32) (n : Nat) (v3 : Int32) (v4 : Int32) (ls : Array Slot), zf_Mo_partOf_L5 v1 v2 mpn mho n v3 v4 = some res → lv_has ls 5 [(0, .ref (ad 0)), (1, .int v1), (2, .int v2), (3, .int v3), (4, .int v4)] → W p l e (headSpec zw_Mo_partOf ({ frames := 0, cells := 0, slots := 0, locals := 0 } : Room)).room s m ([.ref (ad 0), .int u1, .int u2] : List Value).toArray below meth c s.heap [] 0 0 (MQ below (vp_Si (fun r => r = res)) ([.ref (ad 0), .int u1, .int u2] : List Value).toArray s 0 0 (fun _ => False)) (F0 m 5 ls []) := by
    intro v1 v2 n
    induction n with
    | zero => intro v3 v4 ls hf; simp [zf_Mo_partOf_L5] at hf
    | succ n ih =>
      intro v3 v4 ls hf hl
      rw [zf_Mo_partOf_L5] at hf
      refine lv_iload hx hb zd_Mo_partOf_5 (lv_at hl 4 rfl) ?_
      refine lv_aload_n hx hb zd_Mo_partOf_7 rfl (lv_at hl 0 rfl) ?_
      refine va_get (D := (dC, dI)) (ci := 5) (v := .int mpn) (C := zR_Mo) (T := zT_Mo) (N := 24) hx hb hts (fun w h => hsub w (zi_Mo w h)) hown hK hP 0 rfl rfl 2 (by decide) (hw _ zq_445) (fun _ h9 => h9) rfl zd_Mo_partOf_8 ?_
      refine lv_icmp_ge (tgt := 42) hx hb zd_Mo_partOf_11 (by decide) (fun c_1 => ?_) (fun c_1 => ?_)
      · have hf := mp_t c_1 hf
        refine lv_iconst (v := -1) hx hb zd_Mo_partOf_42 (by decide) ?_
        have hf := Option.some.inj hf
        subst hf
        exact W.iret (v := (-1 : Int32)) hx hb hr (fun t ht hW => ⟨(-1 : Int32), rfl, rfl, ht⟩) (fun q h => by cases h) zd_Mo_partOf_43
      · have hf := mp_f c_1 hf
        refine lv_aload_n hx hb zd_Mo_partOf_14 rfl (lv_at hl 0 rfl) ?_
        refine va_get (D := (dC, dI)) (ci := 5) (v := .ref (ad 2)) (C := zR_Mo) (T := zT_Mo) (N := 24) hx hb hts (fun w h => hsub w (zi_Mo w h)) hown hK hP 0 rfl rfl 3 (by decide) (hw _ zq_446) (fun _ h9 => h9) rfl zd_Mo_partOf_15 ?_
        refine lv_iload hx hb zd_Mo_partOf_18 (lv_at hl 4 rfl) ?_
        obtain ⟨h_2, hf⟩ := mp_in hf
        refine va_iald hx hb hK hP 1 0 rfl rfl (i := v4) h_2 zd_Mo_partOf_20 ?_
        refine lv_iload_n hx hb zd_Mo_partOf_21 rfl (lv_at hl 1 rfl) ?_
        refine lv_icmp_ne (tgt := 36) hx hb zd_Mo_partOf_22 (by decide) (fun c_3 => ?_) (fun c_3 => ?_)
        · have hf := mp_f c_3 hf
          refine lv_iinc (v := (v4 + (1 : Int32))) (lv' := [(4, .int (v4 + (1 : Int32))), (0, .ref (ad 0)), (1, .int v1), (2, .int v2), (3, .int v3)]) hx hb zd_Mo_partOf_36 hl (k := 4) rfl rfl (by decide) rfl (fun ls hl => ?_)
          refine lv_goto (tgt := 5) hx hb zd_Mo_partOf_39 (by decide) ?_
          exact ih v3 (v4 + (1 : Int32)) _ hf (lv_sub hl [1, 2, 3, 4, 0] rfl)
        · have hf := mp_t c_3 hf
          refine lv_iload_n hx hb zd_Mo_partOf_25 rfl (lv_at hl 3 rfl) ?_
          refine lv_iload_n hx hb zd_Mo_partOf_26 rfl (lv_at hl 2 rfl) ?_
          refine lv_icmp_ne (tgt := 33) hx hb zd_Mo_partOf_27 (by decide) (fun c_4 => ?_) (fun c_4 => ?_)
          · have hf := mp_f c_4 hf
            refine lv_iinc (v := (v3 + (1 : Int32))) (lv' := [(3, .int (v3 + (1 : Int32))), (0, .ref (ad 0)), (1, .int v1), (2, .int v2), (4, .int v4)]) hx hb zd_Mo_partOf_33 hl (k := 3) rfl rfl (by decide) rfl (fun ls hl => ?_)
            refine lv_iinc (v := (v4 + (1 : Int32))) (lv' := [(4, .int (v4 + (1 : Int32))), (3, .int (v3 + (1 : Int32))), (0, .ref (ad 0)), (1, .int v1), (2, .int v2)]) hx hb zd_Mo_partOf_36 hl (k := 4) rfl rfl (by decide) rfl (fun ls hl => ?_)
            refine lv_goto (tgt := 5) hx hb zd_Mo_partOf_39 (by decide) ?_
            exact ih (v3 + (1 : Int32)) (v4 + (1 : Int32)) _ hf (lv_sub hl [2, 3, 4, 1, 0] rfl)
          · have hf := mp_t c_4 hf
            refine lv_iload hx hb zd_Mo_partOf_30 (lv_at hl 4 rfl) ?_
            have hf := Option.some.inj hf
            subst hf
            exact W.iret (v := v4) hx hb hr (fun t ht hW => ⟨v4, rfl, rfl, ht⟩) (fun q h => by cases h) zd_Mo_partOf_32
  have hl := lv_entry ([.ref (ad 0), .int u1, .int u2]) (n := 5) (Nat.le_of_ble_eq_true rfl)
  rw [lg_entry_eq]
  generalize (lg_sl ([.ref (ad 0), .int u1, .int u2]) ++ List.replicate (5 - (lg_sl ([.ref (ad 0), .int u1, .int u2])).length) Slot.unset).toArray = ls at hl ⊢
  have hl : lv_has ls 5 [(0, .ref (ad 0)), (1, .int u1), (2, .int u2)] := hl
  unfold zf_Mo_partOf at hf
  refine lv_iconst (v := 0) hx hb zd_Mo_partOf_0 (by decide) ?_
  refine lv_istore_n (lv' := [(3, .int (0 : Int32)), (0, .ref (ad 0)), (1, .int u1), (2, .int u2)]) hx hb zd_Mo_partOf_1 rfl hl (by decide) rfl (fun ls hl => ?_)
  refine lv_iconst (v := 0) hx hb zd_Mo_partOf_2 (by decide) ?_
  refine lv_istore (lv' := [(4, .int (0 : Int32)), (3, .int (0 : Int32)), (0, .ref (ad 0)), (1, .int u1), (2, .int u2)]) hx hb zd_Mo_partOf_3 hl (by decide) rfl (fun ls hl => ?_)
  exact loop5 u1 u2 2000 (0 : Int32) (0 : Int32) _ hf (lv_sub hl [2, 3, 4, 1, 0] rfl)
set_option maxHeartbeats 4000000 in
set_option maxRecDepth 100000 in
theorem zc_Mo_seen (l : Launch) (dC : Nat → ClassId) (dI : Nat → Nat → Nat) (cI cJ cZ : ClassId) (ad : Nat → Nat) (mgc : Int32) (mpn : Int32) (mcn : Int32) (msz : Int32) (mwc : Int32) (mhf : Int32) (mho : Nat → Int32) (mki : Nat → Int32) (mgr : Nat → Int64) (mli : Nat → Int32) (mcp : Nat → Int32) (mcd : Nat → Int64) (mck : Nat → Int32) (mcg : Nat → Int64) (mri : Nat → Int32) (u1 : Int32) (u2 : Int32) (u3 : Int32) (u4 : Int32) (res : Int64) (hf : zf_Mo_seen u1 u2 u3 u4 mgc mpn mcn mho mki mgr mli mcp mcd mck mcg mri = some res) : Met l zy_Mo_seen zw_Mo_seen ({ frames := 2, cells := 0, slots := 0, locals := 50 } : Room) (mp_PR (dC, dI) vwCl (mp_tys cI cJ cZ) [(ad 0, .inr (5, [.int mgc, .ref (ad 1), .int mpn, .ref (ad 2), .ref (ad 3), .ref (ad 4), .ref (ad 5), .ref (ad 6), .int mcn, .ref (ad 7), .ref (ad 8), .ref (ad 9), .ref (ad 10), .ref (ad 11), .ref (ad 12), .int msz, .ref (ad 13), .int mwc, .int mhf, .ref (ad 14), .ref (ad 15), .ref (ad 16), .ref (ad 17), .ref (ad 18)])), (ad 2, .inl (cI, 24, .inl mho)), (ad 3, .inl (cI, 24, .inl mki)), (ad 4, .inl (cJ, 24, .inr (.inl mgr))), (ad 5, .inl (cI, 24, .inl mli)), (ad 7, .inl (cI, 20, .inl mcp)), (ad 8, .inl (cJ, 20, .inr (.inl mcd))), (ad 9, .inl (cI, 20, .inl mck)), (ad 10, .inl (cJ, 20, .inr (.inl mcg))), (ad 11, .inl (cZ, 64, .inl mri))] [.ref (ad 0), .int u1, .int u2, .int u3, .int u4]) (vp_Sl (fun r => r = res)) 0 0 (fun _ => False) := by
  refine Met.ofW (cc := zb_Mo_seen) (maxL := 11) (ret := (some .long)) (by decide) rfl ?_
  intro p e s m args below meth c s₁ B hml hv
  obtain ⟨rfl, hP, hK, hN⟩ := hv
  have hx := B.exec
  have hb := B.bytes
  have hr := B.returns
  have hts := atoms_spec (ws := zw_Mo_seen) B.pre
  have hsub : ∀ w ∈ mp_tbl, w ∈ zw_Mo_seen := fun w h => List.mem_cons_of_mem _ h
  have hw : ∀ w ∈ mp_tbl, w.before _ s = true := fun w h => hts w (hsub w h)
  have hown : s.vm.findClass zR_Mo = some m.cls := findClass_of_methodNamed B.named
  have hlocks := B.notSynchronized
  have loop130 : ∀ (v1 : Int32) (v2 : Int32) (v3 : Int32) (v4 : Int32) (v5 : Int32) (v6 : Int32) (n : Nat) (v7 : Int64) (v9 : Int32) (ls : Array Slot), zf_Mo_seen_L130 v1 v2 v3 v4 v5 v6 mgc mpn mcn mho mki mgr mli mcp mcd mck mcg mri n v7 v9 = some res → lv_has ls 11 [(0, .ref (ad 0)), (1, .int v1), (2, .int v2), (3, .int v3), (4, .int v4), (5, .int v5), (6, .int v6), (7, .long v7), (9, .int v9)] → W p l e (headSpec zw_Mo_seen ({ frames := 2, cells := 0, slots := 0, locals := 50 } : Room)).room s m ([.ref (ad 0), .int u1, .int u2, .int u3, .int u4] : List Value).toArray below meth c s.heap [] 0 0 (MQ below (vp_Sl (fun r => r = res)) ([.ref (ad 0), .int u1, .int u2, .int u3, .int u4] : List Value).toArray s 0 0 (fun _ => False)) (F0 m 130 ls []) := by
    intro v1 v2 v3 v4 v5 v6 n
    induction n with
    | zero => intro v7 v9 ls hf; simp [zf_Mo_seen_L130] at hf
    | succ n ih =>
      intro v7 v9 ls hf hl
      rw [zf_Mo_seen_L130] at hf
      refine lv_iload hx hb zd_Mo_seen_130 (lv_at hl 8 rfl) ?_
      refine lv_aload_n hx hb zd_Mo_seen_132 rfl (lv_at hl 0 rfl) ?_
      refine va_get (D := (dC, dI)) (ci := 5) (v := .int mpn) (C := zR_Mo) (T := zT_Mo) (N := 24) hx hb hts (fun w h => hsub w (zi_Mo w h)) hown hK hP 0 rfl rfl 2 (by decide) (hw _ zq_445) (fun _ h9 => h9) rfl zd_Mo_seen_133 ?_
      refine lv_icmp_ge (tgt := 207) hx hb zd_Mo_seen_136 (by decide) (fun c_14 => ?_) (fun c_14 => ?_)
      · have hf := mp_t c_14 hf
        refine lv_lload hx hb zd_Mo_seen_207 (lv_at hl 7 rfl) ?_
        have hf := Option.some.inj hf
        subst hf
        exact W.lret (v := v7) hx hb hr (fun t ht hW => ⟨v7, rfl, rfl, ht⟩) (fun q h => by cases h) zd_Mo_seen_209
      · have hf := mp_f c_14 hf
        refine lv_aload_n hx hb zd_Mo_seen_139 rfl (lv_at hl 0 rfl) ?_
        refine va_get (D := (dC, dI)) (ci := 5) (v := .ref (ad 2)) (C := zR_Mo) (T := zT_Mo) (N := 24) hx hb hts (fun w h => hsub w (zi_Mo w h)) hown hK hP 0 rfl rfl 3 (by decide) (hw _ zq_446) (fun _ h9 => h9) rfl zd_Mo_seen_140 ?_
        refine lv_iload hx hb zd_Mo_seen_143 (lv_at hl 8 rfl) ?_
        obtain ⟨h_15, hf⟩ := mp_in hf
        refine va_iald hx hb hK hP 1 0 rfl rfl (i := v9) h_15 zd_Mo_seen_145 ?_
        refine lv_iload_n hx hb zd_Mo_seen_146 rfl (lv_at hl 2 rfl) ?_
        refine lv_icmp_ne (tgt := 175) hx hb zd_Mo_seen_147 (by decide) (fun c_16 => ?_) (fun c_16 => ?_)
        · have hf := mp_f c_16 hf
          refine lv_iconst (v := 0) hx hb zd_Mo_seen_175 (by decide) ?_
          refine lv_istore (lv' := [(10, .int (0 : Int32)), (0, .ref (ad 0)), (1, .int v1), (2, .int v2), (3, .int v3), (4, .int v4), (5, .int v5), (6, .int v6), (7, .long v7), (9, .int v9)]) hx hb zd_Mo_seen_176 hl (by decide) rfl (fun ls hl => ?_)
          refine lv_lload hx hb zd_Mo_seen_178 (lv_at hl 8 rfl) ?_
          refine lv_iload hx hb zd_Mo_seen_180 (lv_at hl 0 rfl) ?_
          refine lv_if_eq (tgt := 197) hx hb zd_Mo_seen_182 (by decide) (fun c_17 => ?_) (fun c_17 => ?_)
          · have hf := mp_t c_17 hf
            refine lv_lconst (v := 0) hx hb zd_Mo_seen_197 (by decide) ?_
            refine lv_ladd hx hb zd_Mo_seen_198 ?_
            refine lv_lstore (lv' := [(7, .long (v7 + (0 : Int64))), (10, .int (0 : Int32)), (0, .ref (ad 0)), (1, .int v1), (2, .int v2), (3, .int v3), (4, .int v4), (5, .int v5), (6, .int v6), (9, .int v9)]) hx hb zd_Mo_seen_199 hl (by decide) rfl (fun ls hl => ?_)
            refine lv_iinc (v := (v9 + (1 : Int32))) (lv' := [(9, .int (v9 + (1 : Int32))), (7, .long (v7 + (0 : Int64))), (10, .int (0 : Int32)), (0, .ref (ad 0)), (1, .int v1), (2, .int v2), (3, .int v3), (4, .int v4), (5, .int v5), (6, .int v6)]) hx hb zd_Mo_seen_201 hl (k := 9) rfl rfl (by decide) rfl (fun ls hl => ?_)
            refine lv_goto (tgt := 130) hx hb zd_Mo_seen_204 (by decide) ?_
            exact ih (v7 + (0 : Int64)) (v9 + (1 : Int32)) _ hf (lv_sub hl [3, 4, 5, 6, 7, 8, 9, 1, 0] rfl)
          · have hf := mp_f c_17 hf
            refine lv_aload_n hx hb zd_Mo_seen_185 rfl (lv_at hl 1 rfl) ?_
            refine lv_iload hx hb zd_Mo_seen_186 (lv_at hl 9 rfl) ?_
            refine lv_ldc2 (v := 100000) hx hb hown (hw _ zq_556) zd_Mo_seen_188 ?_
            obtain ⟨y18, hg18, hf⟩ := mp_bd hf
            refine mp_Rl (va_runV (As := [.int v9, .long (100000 : Int64)]) (rest := [.long v7]) ⟨hx, hb, hml, hown, hts⟩ (zc_Mo_gramsOn l dC dI cI cJ cZ ad mgc mpn mcn msz mwc mhf mgr mcp mcd mcg v9 (100000 : Int64) y18 hg18) (cwV 2 hts (mp_gV hsub zq_582 zq_584 zq_16 zq_30 zq_585) rfl rfl rfl (by decide +kernel) ⟨Nat.le_of_ble_eq_true rfl, Nat.le_of_ble_eq_true rfl⟩) ⟨mp_blR, va_recv hK hP (ci := 5) (q0 := 0) rfl rfl, mp_preR hN hK (hP.sub [0, 3, 5, 6, 8] rfl)⟩ rfl rfl hl.1 rfl (lv_room (Nat.le_of_ble_eq_true rfl)) zd_Mo_seen_191 ⟨Nat.zero_le _, Nat.zero_le _⟩) ?_
            refine lv_goto (tgt := 198) hx hb zd_Mo_seen_194 (by decide) ?_
            refine lv_ladd hx hb zd_Mo_seen_198 ?_
            refine lv_lstore (lv' := [(7, .long (v7 + y18)), (10, .int (0 : Int32)), (0, .ref (ad 0)), (1, .int v1), (2, .int v2), (3, .int v3), (4, .int v4), (5, .int v5), (6, .int v6), (9, .int v9)]) hx hb zd_Mo_seen_199 hl (by decide) rfl (fun ls hl => ?_)
            refine lv_iinc (v := (v9 + (1 : Int32))) (lv' := [(9, .int (v9 + (1 : Int32))), (7, .long (v7 + y18)), (10, .int (0 : Int32)), (0, .ref (ad 0)), (1, .int v1), (2, .int v2), (3, .int v3), (4, .int v4), (5, .int v5), (6, .int v6)]) hx hb zd_Mo_seen_201 hl (k := 9) rfl rfl (by decide) rfl (fun ls hl => ?_)
            refine lv_goto (tgt := 130) hx hb zd_Mo_seen_204 (by decide) ?_
            exact ih (v7 + y18) (v9 + (1 : Int32)) _ hf (lv_sub hl [3, 4, 5, 6, 7, 8, 9, 1, 0] rfl)
        · have hf := mp_t c_16 hf
          refine lv_aload_n hx hb zd_Mo_seen_150 rfl (lv_at hl 0 rfl) ?_
          refine lv_iload hx hb zd_Mo_seen_151 (lv_at hl 8 rfl) ?_
          refine lv_ldc2 (v := 100000) hx hb hown (hw _ zq_556) zd_Mo_seen_153 ?_
          obtain ⟨y19, hg19, hf⟩ := mp_bd hf
          refine mp_Ri (va_runV (As := [.int v9, .long (100000 : Int64)]) (rest := []) ⟨hx, hb, hml, hown, hts⟩ (zc_Mo_kindOn l dC dI cI cJ cZ ad mgc mpn mcn msz mwc mhf mki mcp mcd mck v9 (100000 : Int64) y19 hg19) (cwV 2 hts (mp_gV hsub zq_574 zq_576 zq_14 zq_30 zq_577) rfl rfl rfl (by decide +kernel) ⟨Nat.le_of_ble_eq_true rfl, Nat.le_of_ble_eq_true rfl⟩) ⟨mp_blR, va_recv hK hP (ci := 5) (q0 := 0) rfl rfl, mp_preR hN hK (hP.sub [0, 2, 5, 6, 7] rfl)⟩ rfl rfl hl.1 rfl (lv_room (Nat.le_of_ble_eq_true rfl)) zd_Mo_seen_156 ⟨Nat.zero_le _, Nat.zero_le _⟩) ?_
          refine lv_aload_n hx hb zd_Mo_seen_159 rfl (lv_at hl 0 rfl) ?_
          refine lv_iload hx hb zd_Mo_seen_160 (lv_at hl 5 rfl) ?_
          refine lv_ldc2 (v := 100000) hx hb hown (hw _ zq_556) zd_Mo_seen_162 ?_
          obtain ⟨y20, hg20, hf⟩ := mp_bd hf
          refine mp_Ri (va_runV (As := [.int v5, .long (100000 : Int64)]) (rest := [.int y19]) ⟨hx, hb, hml, hown, hts⟩ (zc_Mo_kindOn l dC dI cI cJ cZ ad mgc mpn mcn msz mwc mhf mki mcp mcd mck v5 (100000 : Int64) y20 hg20) (cwV 2 hts (mp_gV hsub zq_574 zq_576 zq_14 zq_30 zq_577) rfl rfl rfl (by decide +kernel) ⟨Nat.le_of_ble_eq_true rfl, Nat.le_of_ble_eq_true rfl⟩) ⟨mp_blR, va_recv hK hP (ci := 5) (q0 := 0) rfl rfl, mp_preR hN hK (hP.sub [0, 2, 5, 6, 7] rfl)⟩ rfl rfl hl.1 rfl (lv_room (Nat.le_of_ble_eq_true rfl)) zd_Mo_seen_165 ⟨Nat.zero_le _, Nat.zero_le _⟩) ?_
          refine lv_icmp_ne (tgt := 175) hx hb zd_Mo_seen_168 (by decide) (fun c_21 => ?_) (fun c_21 => ?_)
          · have hf := mp_f c_21 hf
            refine lv_iconst (v := 0) hx hb zd_Mo_seen_175 (by decide) ?_
            refine lv_istore (lv' := [(10, .int (0 : Int32)), (0, .ref (ad 0)), (1, .int v1), (2, .int v2), (3, .int v3), (4, .int v4), (5, .int v5), (6, .int v6), (7, .long v7), (9, .int v9)]) hx hb zd_Mo_seen_176 hl (by decide) rfl (fun ls hl => ?_)
            refine lv_lload hx hb zd_Mo_seen_178 (lv_at hl 8 rfl) ?_
            refine lv_iload hx hb zd_Mo_seen_180 (lv_at hl 0 rfl) ?_
            refine lv_if_eq (tgt := 197) hx hb zd_Mo_seen_182 (by decide) (fun c_22 => ?_) (fun c_22 => ?_)
            · have hf := mp_t c_22 hf
              refine lv_lconst (v := 0) hx hb zd_Mo_seen_197 (by decide) ?_
              refine lv_ladd hx hb zd_Mo_seen_198 ?_
              refine lv_lstore (lv' := [(7, .long (v7 + (0 : Int64))), (10, .int (0 : Int32)), (0, .ref (ad 0)), (1, .int v1), (2, .int v2), (3, .int v3), (4, .int v4), (5, .int v5), (6, .int v6), (9, .int v9)]) hx hb zd_Mo_seen_199 hl (by decide) rfl (fun ls hl => ?_)
              refine lv_iinc (v := (v9 + (1 : Int32))) (lv' := [(9, .int (v9 + (1 : Int32))), (7, .long (v7 + (0 : Int64))), (10, .int (0 : Int32)), (0, .ref (ad 0)), (1, .int v1), (2, .int v2), (3, .int v3), (4, .int v4), (5, .int v5), (6, .int v6)]) hx hb zd_Mo_seen_201 hl (k := 9) rfl rfl (by decide) rfl (fun ls hl => ?_)
              refine lv_goto (tgt := 130) hx hb zd_Mo_seen_204 (by decide) ?_
              exact ih (v7 + (0 : Int64)) (v9 + (1 : Int32)) _ hf (lv_sub hl [3, 4, 5, 6, 7, 8, 9, 1, 0] rfl)
            · have hf := mp_f c_22 hf
              refine lv_aload_n hx hb zd_Mo_seen_185 rfl (lv_at hl 1 rfl) ?_
              refine lv_iload hx hb zd_Mo_seen_186 (lv_at hl 9 rfl) ?_
              refine lv_ldc2 (v := 100000) hx hb hown (hw _ zq_556) zd_Mo_seen_188 ?_
              obtain ⟨y23, hg23, hf⟩ := mp_bd hf
              refine mp_Rl (va_runV (As := [.int v9, .long (100000 : Int64)]) (rest := [.long v7]) ⟨hx, hb, hml, hown, hts⟩ (zc_Mo_gramsOn l dC dI cI cJ cZ ad mgc mpn mcn msz mwc mhf mgr mcp mcd mcg v9 (100000 : Int64) y23 hg23) (cwV 2 hts (mp_gV hsub zq_582 zq_584 zq_16 zq_30 zq_585) rfl rfl rfl (by decide +kernel) ⟨Nat.le_of_ble_eq_true rfl, Nat.le_of_ble_eq_true rfl⟩) ⟨mp_blR, va_recv hK hP (ci := 5) (q0 := 0) rfl rfl, mp_preR hN hK (hP.sub [0, 3, 5, 6, 8] rfl)⟩ rfl rfl hl.1 rfl (lv_room (Nat.le_of_ble_eq_true rfl)) zd_Mo_seen_191 ⟨Nat.zero_le _, Nat.zero_le _⟩) ?_
              refine lv_goto (tgt := 198) hx hb zd_Mo_seen_194 (by decide) ?_
              refine lv_ladd hx hb zd_Mo_seen_198 ?_
              refine lv_lstore (lv' := [(7, .long (v7 + y23)), (10, .int (0 : Int32)), (0, .ref (ad 0)), (1, .int v1), (2, .int v2), (3, .int v3), (4, .int v4), (5, .int v5), (6, .int v6), (9, .int v9)]) hx hb zd_Mo_seen_199 hl (by decide) rfl (fun ls hl => ?_)
              refine lv_iinc (v := (v9 + (1 : Int32))) (lv' := [(9, .int (v9 + (1 : Int32))), (7, .long (v7 + y23)), (10, .int (0 : Int32)), (0, .ref (ad 0)), (1, .int v1), (2, .int v2), (3, .int v3), (4, .int v4), (5, .int v5), (6, .int v6)]) hx hb zd_Mo_seen_201 hl (k := 9) rfl rfl (by decide) rfl (fun ls hl => ?_)
              refine lv_goto (tgt := 130) hx hb zd_Mo_seen_204 (by decide) ?_
              exact ih (v7 + y23) (v9 + (1 : Int32)) _ hf (lv_sub hl [3, 4, 5, 6, 7, 8, 9, 1, 0] rfl)
          · have hf := mp_t c_21 hf
            refine lv_iconst (v := 1) hx hb zd_Mo_seen_171 (by decide) ?_
            refine lv_goto (tgt := 176) hx hb zd_Mo_seen_172 (by decide) ?_
            refine lv_istore (lv' := [(10, .int (1 : Int32)), (0, .ref (ad 0)), (1, .int v1), (2, .int v2), (3, .int v3), (4, .int v4), (5, .int v5), (6, .int v6), (7, .long v7), (9, .int v9)]) hx hb zd_Mo_seen_176 hl (by decide) rfl (fun ls hl => ?_)
            refine lv_lload hx hb zd_Mo_seen_178 (lv_at hl 8 rfl) ?_
            refine lv_iload hx hb zd_Mo_seen_180 (lv_at hl 0 rfl) ?_
            refine lv_if_eq (tgt := 197) hx hb zd_Mo_seen_182 (by decide) (fun c_24 => ?_) (fun c_24 => ?_)
            · have hf := mp_t c_24 hf
              refine lv_lconst (v := 0) hx hb zd_Mo_seen_197 (by decide) ?_
              refine lv_ladd hx hb zd_Mo_seen_198 ?_
              refine lv_lstore (lv' := [(7, .long (v7 + (0 : Int64))), (10, .int (1 : Int32)), (0, .ref (ad 0)), (1, .int v1), (2, .int v2), (3, .int v3), (4, .int v4), (5, .int v5), (6, .int v6), (9, .int v9)]) hx hb zd_Mo_seen_199 hl (by decide) rfl (fun ls hl => ?_)
              refine lv_iinc (v := (v9 + (1 : Int32))) (lv' := [(9, .int (v9 + (1 : Int32))), (7, .long (v7 + (0 : Int64))), (10, .int (1 : Int32)), (0, .ref (ad 0)), (1, .int v1), (2, .int v2), (3, .int v3), (4, .int v4), (5, .int v5), (6, .int v6)]) hx hb zd_Mo_seen_201 hl (k := 9) rfl rfl (by decide) rfl (fun ls hl => ?_)
              refine lv_goto (tgt := 130) hx hb zd_Mo_seen_204 (by decide) ?_
              exact ih (v7 + (0 : Int64)) (v9 + (1 : Int32)) _ hf (lv_sub hl [3, 4, 5, 6, 7, 8, 9, 1, 0] rfl)
            · have hf := mp_f c_24 hf
              refine lv_aload_n hx hb zd_Mo_seen_185 rfl (lv_at hl 1 rfl) ?_
              refine lv_iload hx hb zd_Mo_seen_186 (lv_at hl 9 rfl) ?_
              refine lv_ldc2 (v := 100000) hx hb hown (hw _ zq_556) zd_Mo_seen_188 ?_
              obtain ⟨y25, hg25, hf⟩ := mp_bd hf
              refine mp_Rl (va_runV (As := [.int v9, .long (100000 : Int64)]) (rest := [.long v7]) ⟨hx, hb, hml, hown, hts⟩ (zc_Mo_gramsOn l dC dI cI cJ cZ ad mgc mpn mcn msz mwc mhf mgr mcp mcd mcg v9 (100000 : Int64) y25 hg25) (cwV 2 hts (mp_gV hsub zq_582 zq_584 zq_16 zq_30 zq_585) rfl rfl rfl (by decide +kernel) ⟨Nat.le_of_ble_eq_true rfl, Nat.le_of_ble_eq_true rfl⟩) ⟨mp_blR, va_recv hK hP (ci := 5) (q0 := 0) rfl rfl, mp_preR hN hK (hP.sub [0, 3, 5, 6, 8] rfl)⟩ rfl rfl hl.1 rfl (lv_room (Nat.le_of_ble_eq_true rfl)) zd_Mo_seen_191 ⟨Nat.zero_le _, Nat.zero_le _⟩) ?_
              refine lv_goto (tgt := 198) hx hb zd_Mo_seen_194 (by decide) ?_
              refine lv_ladd hx hb zd_Mo_seen_198 ?_
              refine lv_lstore (lv' := [(7, .long (v7 + y25)), (10, .int (1 : Int32)), (0, .ref (ad 0)), (1, .int v1), (2, .int v2), (3, .int v3), (4, .int v4), (5, .int v5), (6, .int v6), (9, .int v9)]) hx hb zd_Mo_seen_199 hl (by decide) rfl (fun ls hl => ?_)
              refine lv_iinc (v := (v9 + (1 : Int32))) (lv' := [(9, .int (v9 + (1 : Int32))), (7, .long (v7 + y25)), (10, .int (1 : Int32)), (0, .ref (ad 0)), (1, .int v1), (2, .int v2), (3, .int v3), (4, .int v4), (5, .int v5), (6, .int v6)]) hx hb zd_Mo_seen_201 hl (k := 9) rfl rfl (by decide) rfl (fun ls hl => ?_)
              refine lv_goto (tgt := 130) hx hb zd_Mo_seen_204 (by decide) ?_
              exact ih (v7 + y25) (v9 + (1 : Int32)) _ hf (lv_sub hl [3, 4, 5, 6, 7, 8, 9, 1, 0] rfl)
  have hl := lv_entry ([.ref (ad 0), .int u1, .int u2, .int u3, .int u4]) (n := 11) (Nat.le_of_ble_eq_true rfl)
  rw [lg_entry_eq]
  generalize (lg_sl ([.ref (ad 0), .int u1, .int u2, .int u3, .int u4]) ++ List.replicate (11 - (lg_sl ([.ref (ad 0), .int u1, .int u2, .int u3, .int u4])).length) Slot.unset).toArray = ls at hl ⊢
  have hl : lv_has ls 11 [(0, .ref (ad 0)), (1, .int u1), (2, .int u2), (3, .int u3), (4, .int u4)] := hl
  unfold zf_Mo_seen at hf
  refine lv_iload_n hx hb zd_Mo_seen_0 rfl (lv_at hl 1 rfl) ?_
  refine lv_i2l hx hb zd_Mo_seen_1 rfl ?_
  refine lv_lconst (v := 0) hx hb zd_Mo_seen_2 (by decide) ?_
  refine lv_ldc2 (v := 7) hx hb hown (hw _ zq_599) zd_Mo_seen_3 ?_
  obtain ⟨y1, hg1, hf⟩ := mp_bd hf
  refine mp_Rz (va_runS (As := [.long u1.toInt64, .long (0 : Int64), .long (7 : Int64)]) (rest := []) ⟨hx, hb, hml, hown, hts⟩ (zc_Mo_isIn l dC dI cI cJ cZ ad u1.toInt64 (0 : Int64) (7 : Int64) y1 hg1) (va_cwS 3 hts (mp_gS hsub zq_532 zq_533 zq_30 zq_534) rfl rfl rfl (by decide +kernel) ⟨Nat.le_of_ble_eq_true rfl, Nat.le_of_ble_eq_true rfl⟩) ⟨mp_blR, mp_preR hN hK (hP.sub [] rfl)⟩ rfl rfl hl.1 rfl (lv_room (Nat.le_of_ble_eq_true rfl)) zd_Mo_seen_6 ⟨Nat.zero_le _, Nat.zero_le _⟩) (fun hz1 => ?_)
  refine lv_if_eq (tgt := 42) hx hb zd_Mo_seen_9 (by decide) (fun c_2 => ?_) (fun c_2 => ?_)
  · have hf := mp_t c_2 hf
    refine lv_ldc2 (v := -1) hx hb hown (hw _ zq_569) zd_Mo_seen_42 ?_
    have hf := Option.some.inj hf
    subst hf
    exact W.lret (v := (-1 : Int64)) hx hb hr (fun t ht hW => ⟨(-1 : Int64), rfl, rfl, ht⟩) (fun q h => by cases h) zd_Mo_seen_45
  · have hf := mp_f c_2 hf
    refine lv_aload_n hx hb zd_Mo_seen_12 rfl (lv_at hl 0 rfl) ?_
    refine lv_iload_n hx hb zd_Mo_seen_13 rfl (lv_at hl 2 rfl) ?_
    obtain ⟨y3, hg3, hf⟩ := mp_bd hf
    refine mp_Rz (va_runV (As := [.int u2]) (rest := []) ⟨hx, hb, hml, hown, hts⟩ (zc_Mo_isGood l dC dI cI cJ cZ ad mgc mpn mcn msz mwc mhf u2 y3 hg3) (cwV 1 hts (mp_gV hsub zq_524 zq_526 zq_9 zq_30 zq_527) rfl rfl rfl (by decide +kernel) ⟨Nat.le_of_ble_eq_true rfl, Nat.le_of_ble_eq_true rfl⟩) ⟨mp_blR, va_recv hK hP (ci := 5) (q0 := 0) rfl rfl, mp_preR hN hK (hP.sub [0] rfl)⟩ rfl rfl hl.1 rfl (lv_room (Nat.le_of_ble_eq_true rfl)) zd_Mo_seen_14 ⟨Nat.zero_le _, Nat.zero_le _⟩) (fun hz3 => ?_)
    refine lv_if_eq (tgt := 42) hx hb zd_Mo_seen_17 (by decide) (fun c_4 => ?_) (fun c_4 => ?_)
    · have hf := mp_t c_4 hf
      refine lv_ldc2 (v := -1) hx hb hown (hw _ zq_569) zd_Mo_seen_42 ?_
      have hf := Option.some.inj hf
      subst hf
      exact W.lret (v := (-1 : Int64)) hx hb hr (fun t ht hW => ⟨(-1 : Int64), rfl, rfl, ht⟩) (fun q h => by cases h) zd_Mo_seen_45
    · have hf := mp_f c_4 hf
      refine lv_iload hx hb zd_Mo_seen_20 (lv_at hl 4 rfl) ?_
      refine lv_i2l hx hb zd_Mo_seen_22 rfl ?_
      refine lv_lconst (v := 0) hx hb zd_Mo_seen_23 (by decide) ?_
      refine lv_ldc2 (v := 2) hx hb hown (hw _ zq_604) zd_Mo_seen_24 ?_
      obtain ⟨y5, hg5, hf⟩ := mp_bd hf
      refine mp_Rz (va_runS (As := [.long u4.toInt64, .long (0 : Int64), .long (2 : Int64)]) (rest := []) ⟨hx, hb, hml, hown, hts⟩ (zc_Mo_isIn l dC dI cI cJ cZ ad u4.toInt64 (0 : Int64) (2 : Int64) y5 hg5) (va_cwS 3 hts (mp_gS hsub zq_532 zq_533 zq_30 zq_534) rfl rfl rfl (by decide +kernel) ⟨Nat.le_of_ble_eq_true rfl, Nat.le_of_ble_eq_true rfl⟩) ⟨mp_blR, mp_preR hN hK (hP.sub [] rfl)⟩ rfl rfl hl.1 rfl (lv_room (Nat.le_of_ble_eq_true rfl)) zd_Mo_seen_27 ⟨Nat.zero_le _, Nat.zero_le _⟩) (fun hz5 => ?_)
      refine lv_if_eq (tgt := 42) hx hb zd_Mo_seen_30 (by decide) (fun c_6 => ?_) (fun c_6 => ?_)
      · have hf := mp_t c_6 hf
        refine lv_ldc2 (v := -1) hx hb hown (hw _ zq_569) zd_Mo_seen_42 ?_
        have hf := Option.some.inj hf
        subst hf
        exact W.lret (v := (-1 : Int64)) hx hb hr (fun t ht hW => ⟨(-1 : Int64), rfl, rfl, ht⟩) (fun q h => by cases h) zd_Mo_seen_45
      · have hf := mp_f c_6 hf
        refine lv_aload_n hx hb zd_Mo_seen_33 rfl (lv_at hl 0 rfl) ?_
        refine lv_iload_n hx hb zd_Mo_seen_34 rfl (lv_at hl 2 rfl) ?_
        refine lv_iload_n hx hb zd_Mo_seen_35 rfl (lv_at hl 3 rfl) ?_
        obtain ⟨y7, hg7, hf⟩ := mp_bd hf
        refine mp_Ri (va_runV (As := [.int u2, .int u3]) (rest := []) ⟨hx, hb, hml, hown, hts⟩ (zc_Mo_partOf l dC dI cI cJ cZ ad mgc mpn mcn msz mwc mhf mho u2 u3 y7 hg7) (cwV 2 hts (mp_gV hsub zq_605 zq_607 zq_17 zq_30 zq_608) rfl rfl rfl (by decide +kernel) ⟨Nat.le_of_ble_eq_true rfl, Nat.le_of_ble_eq_true rfl⟩) ⟨mp_blR, va_recv hK hP (ci := 5) (q0 := 0) rfl rfl, mp_preR hN hK (hP.sub [0, 1] rfl)⟩ rfl rfl hl.1 rfl (lv_room (Nat.le_of_ble_eq_true rfl)) zd_Mo_seen_36 ⟨Nat.zero_le _, Nat.zero_le _⟩) ?_
        refine lv_if_ge (tgt := 46) hx hb zd_Mo_seen_39 (by decide) (fun c_8 => ?_) (fun c_8 => ?_)
        · have hf := mp_t c_8 hf
          refine lv_aload_n hx hb zd_Mo_seen_46 rfl (lv_at hl 0 rfl) ?_
          refine lv_iload_n hx hb zd_Mo_seen_47 rfl (lv_at hl 2 rfl) ?_
          refine lv_iload_n hx hb zd_Mo_seen_48 rfl (lv_at hl 3 rfl) ?_
          obtain ⟨y9, hg9, hf⟩ := mp_bd hf
          refine mp_Ri (va_runV (As := [.int u2, .int u3]) (rest := []) ⟨hx, hb, hml, hown, hts⟩ (zc_Mo_partOf l dC dI cI cJ cZ ad mgc mpn mcn msz mwc mhf mho u2 u3 y9 hg9) (cwV 2 hts (mp_gV hsub zq_605 zq_607 zq_17 zq_30 zq_608) rfl rfl rfl (by decide +kernel) ⟨Nat.le_of_ble_eq_true rfl, Nat.le_of_ble_eq_true rfl⟩) ⟨mp_blR, va_recv hK hP (ci := 5) (q0 := 0) rfl rfl, mp_preR hN hK (hP.sub [0, 1] rfl)⟩ rfl rfl hl.1 rfl (lv_room (Nat.le_of_ble_eq_true rfl)) zd_Mo_seen_49 ⟨Nat.zero_le _, Nat.zero_le _⟩) ?_
          refine lv_istore (lv' := [(5, .int y9), (0, .ref (ad 0)), (1, .int u1), (2, .int u2), (3, .int u3), (4, .int u4)]) hx hb zd_Mo_seen_52 hl (by decide) rfl (fun ls hl => ?_)
          refine lv_aload_n hx hb zd_Mo_seen_54 rfl (lv_at hl 1 rfl) ?_
          refine va_get (D := (dC, dI)) (ci := 5) (v := .ref (ad 11)) (C := zR_Mo) (T := zT_Mo) (N := 24) hx hb hts (fun w h => hsub w (zi_Mo w h)) hown hK hP 0 rfl rfl 13 (by decide) (hw _ zq_456) (fun _ h9 => h9) rfl zd_Mo_seen_55 ?_
          refine lv_bipush (v := 8) hx hb zd_Mo_seen_58 (by decide) ?_
          refine lv_iload_n hx hb zd_Mo_seen_60 rfl (lv_at hl 2 rfl) ?_
          refine lv_imul hx hb zd_Mo_seen_61 ?_
          refine lv_iload_n hx hb zd_Mo_seen_62 rfl (lv_at hl 3 rfl) ?_
          refine lv_iadd hx hb zd_Mo_seen_63 ?_
          obtain ⟨h_10, hf⟩ := mp_in hf
          refine va_zald hx hb hK hP 9 2 rfl rfl (i := (((8 : Int32) * u1) + u2)) h_10 zd_Mo_seen_64 ?_
          refine lv_istore (lv' := [(6, .int (mri (((8 : Int32) * u1) + u2).toNatClampNeg)), (5, .int y9), (0, .ref (ad 0)), (1, .int u1), (2, .int u2), (3, .int u3), (4, .int u4)]) hx hb zd_Mo_seen_65 hl (by decide) rfl (fun ls hl => ?_)
          refine lv_iload hx hb zd_Mo_seen_67 (lv_at hl 6 rfl) ?_
          refine lv_if_ne (tgt := 83) hx hb zd_Mo_seen_69 (by decide) (fun c_11 => ?_) (fun c_11 => ?_)
          · have hf := mp_f c_11 hf
            refine lv_iload hx hb zd_Mo_seen_83 (lv_at hl 6 rfl) ?_
            refine lv_iconst (v := 2) hx hb zd_Mo_seen_85 (by decide) ?_
            refine lv_icmp_ne (tgt := 109) hx hb zd_Mo_seen_86 (by decide) (fun c_12 => ?_) (fun c_12 => ?_)
            · have hf := mp_f c_12 hf
              refine lv_iload hx hb zd_Mo_seen_109 (lv_at hl 0 rfl) ?_
              refine lv_if_eq (tgt := 124) hx hb zd_Mo_seen_111 (by decide) (fun c_13 => ?_) (fun c_13 => ?_)
              · have hf := mp_t c_13 hf
                refine lv_lconst (v := 0) hx hb zd_Mo_seen_124 (by decide) ?_
                refine lv_lstore (lv' := [(7, .long (0 : Int64)), (6, .int (mri (((8 : Int32) * u1) + u2).toNatClampNeg)), (5, .int y9), (0, .ref (ad 0)), (1, .int u1), (2, .int u2), (3, .int u3), (4, .int u4)]) hx hb zd_Mo_seen_125 hl (by decide) rfl (fun ls hl => ?_)
                refine lv_iconst (v := 0) hx hb zd_Mo_seen_127 (by decide) ?_
                refine lv_istore (lv' := [(9, .int (0 : Int32)), (7, .long (0 : Int64)), (6, .int (mri (((8 : Int32) * u1) + u2).toNatClampNeg)), (5, .int y9), (0, .ref (ad 0)), (1, .int u1), (2, .int u2), (3, .int u3), (4, .int u4)]) hx hb zd_Mo_seen_128 hl (by decide) rfl (fun ls hl => ?_)
                exact loop130 u1 u2 u3 u4 y9 (mri (((8 : Int32) * u1) + u2).toNatClampNeg) 2000 (0 : Int64) (0 : Int32) _ hf (lv_sub hl [4, 5, 6, 7, 8, 3, 2, 1, 0] rfl)
              · have hf := mp_f c_13 hf
                refine lv_aload_n hx hb zd_Mo_seen_114 rfl (lv_at hl 2 rfl) ?_
                refine lv_iload hx hb zd_Mo_seen_115 (lv_at hl 1 rfl) ?_
                refine lv_ldc2 (v := 100000) hx hb hown (hw _ zq_556) zd_Mo_seen_117 ?_
                obtain ⟨y26, hg26, hf⟩ := mp_bd hf
                refine mp_Rl (va_runV (As := [.int y9, .long (100000 : Int64)]) (rest := []) ⟨hx, hb, hml, hown, hts⟩ (zc_Mo_gramsOn l dC dI cI cJ cZ ad mgc mpn mcn msz mwc mhf mgr mcp mcd mcg y9 (100000 : Int64) y26 hg26) (cwV 2 hts (mp_gV hsub zq_582 zq_584 zq_16 zq_30 zq_585) rfl rfl rfl (by decide +kernel) ⟨Nat.le_of_ble_eq_true rfl, Nat.le_of_ble_eq_true rfl⟩) ⟨mp_blR, va_recv hK hP (ci := 5) (q0 := 0) rfl rfl, mp_preR hN hK (hP.sub [0, 3, 5, 6, 8] rfl)⟩ rfl rfl hl.1 rfl (lv_room (Nat.le_of_ble_eq_true rfl)) zd_Mo_seen_120 ⟨Nat.zero_le _, Nat.zero_le _⟩) ?_
                have hf := Option.some.inj hf
                subst hf
                exact W.lret (v := y26) hx hb hr (fun t ht hW => ⟨y26, rfl, rfl, ht⟩) (fun q h => by cases h) zd_Mo_seen_123
            · have hf := mp_t c_12 hf
              refine lv_iload hx hb zd_Mo_seen_89 (lv_at hl 0 rfl) ?_
              refine lv_if_eq (tgt := 105) hx hb zd_Mo_seen_91 (by decide) (fun c_27 => ?_) (fun c_27 => ?_)
              · have hf := mp_t c_27 hf
                refine lv_ldc2 (v := -2) hx hb hown (hw _ zq_609) zd_Mo_seen_105 ?_
                have hf := Option.some.inj hf
                subst hf
                exact W.lret (v := (-2 : Int64)) hx hb hr (fun t ht hW => ⟨(-2 : Int64), rfl, rfl, ht⟩) (fun q h => by cases h) zd_Mo_seen_108
              · have hf := mp_f c_27 hf
                refine lv_aload_n hx hb zd_Mo_seen_94 rfl (lv_at hl 2 rfl) ?_
                refine va_get (D := (dC, dI)) (ci := 5) (v := .ref (ad 5)) (C := zR_Mo) (T := zT_Mo) (N := 24) hx hb hts (fun w h => hsub w (zi_Mo w h)) hown hK hP 0 rfl rfl 6 (by decide) (hw _ zq_449) (fun _ h9 => h9) rfl zd_Mo_seen_95 ?_
                refine lv_iload hx hb zd_Mo_seen_98 (lv_at hl 1 rfl) ?_
                obtain ⟨h_28, hf⟩ := mp_in hf
                refine va_iald hx hb hK hP 4 0 rfl rfl (i := y9) h_28 zd_Mo_seen_100 ?_
                refine lv_i2l hx hb zd_Mo_seen_101 rfl ?_
                refine lv_goto (tgt := 108) hx hb zd_Mo_seen_102 (by decide) ?_
                have hf := Option.some.inj hf
                subst hf
                exact W.lret (v := (mli y9.toNatClampNeg).toInt64) hx hb hr (fun t ht hW => ⟨(mli y9.toNatClampNeg).toInt64, rfl, rfl, ht⟩) (fun q h => by cases h) zd_Mo_seen_108
          · have hf := mp_t c_11 hf
            refine lv_aload_n hx hb zd_Mo_seen_72 rfl (lv_at hl 2 rfl) ?_
            refine lv_iload hx hb zd_Mo_seen_73 (lv_at hl 1 rfl) ?_
            refine lv_ldc2 (v := 100000) hx hb hown (hw _ zq_556) zd_Mo_seen_75 ?_
            obtain ⟨y29, hg29, hf⟩ := mp_bd hf
            refine mp_Ri (va_runV (As := [.int y9, .long (100000 : Int64)]) (rest := []) ⟨hx, hb, hml, hown, hts⟩ (zc_Mo_kindOn l dC dI cI cJ cZ ad mgc mpn mcn msz mwc mhf mki mcp mcd mck y9 (100000 : Int64) y29 hg29) (cwV 2 hts (mp_gV hsub zq_574 zq_576 zq_14 zq_30 zq_577) rfl rfl rfl (by decide +kernel) ⟨Nat.le_of_ble_eq_true rfl, Nat.le_of_ble_eq_true rfl⟩) ⟨mp_blR, va_recv hK hP (ci := 5) (q0 := 0) rfl rfl, mp_preR hN hK (hP.sub [0, 2, 5, 6, 7] rfl)⟩ rfl rfl hl.1 rfl (lv_room (Nat.le_of_ble_eq_true rfl)) zd_Mo_seen_78 ⟨Nat.zero_le _, Nat.zero_le _⟩) ?_
            refine lv_i2l hx hb zd_Mo_seen_81 rfl ?_
            have hf := Option.some.inj hf
            subst hf
            exact W.lret (v := y29.toInt64) hx hb hr (fun t ht hW => ⟨y29.toInt64, rfl, rfl, ht⟩) (fun q h => by cases h) zd_Mo_seen_82
        · have hf := mp_f c_8 hf
          refine lv_ldc2 (v := -1) hx hb hown (hw _ zq_569) zd_Mo_seen_42 ?_
          have hf := Option.some.inj hf
          subst hf
          exact W.lret (v := (-1 : Int64)) hx hb hr (fun t ht hW => ⟨(-1 : Int64), rfl, rfl, ht⟩) (fun q h => by cases h) zd_Mo_seen_45
