/-! THE CLAIM OUT OF ONE WALK OF THE LAW'S BODY. Your part is whole_start (and what it stands on); all else here is the same for every law, but numbers. -/
def R_law : String := "MaterialPassportsLaw"
def lw_P (b : Addr) (xs : List Int32) (args : Array Value) (s : State) : Prop := args = #[.ref b] ∧ s.IntsAt b xs ∧ xs.length ≤ 3584 ∧ (Jvm.Cond.and given_1 narrow_1).before args s = true
def lw_Q (_ : Array Value) (s : State) (o : Outcome) (t : State) : Prop := o = .returned (some (.int 1)) ∧ Framed s o t [] 43 2151
def lw_Z (below : List Frame) (a : Array Value) (s : State) : State → Prop := fun t => ∃ o, t.status = .running ∧ Ended t below o ∧ lw_Q a s o t
/-- the law's own end, with 1 on the stack, nothing written that was there before, its room as the claim has it -/
theorem lw_ret {p : Program} {l : Launch} {e : Env} {s : State} {m : MethodId} {below : List Frame} {meth : Method} {c : Code} {b : Nat} (hx : p.tables.exec = Jvm.exec) (hb : c.code = code) (hr : meth.sig.returnType = ret) (hlocks : meth.locks = false) {pc : Nat} {H : Heap} {ls : Array Slot} (hdg : decode code pc = .ok (.ireturn, 1)) : W p l e room_1 s m #[Value.ref b] below meth c H [] 43 2151 (lw_Z below #[Value.ref b] s) (F0 m pc ls [.int 1]) := by
  intro T hT X
  obtain ⟨fs, hret, hrun, hended, hW, hframe⟩ := X.leave (v := some (.int 1)) (hlocks := hlocks) (fun h => by rw [hr] at h; cases h)
  have hmeth' : T.vm.method? m = some meth := X.method'
  refine ⟨T.setFrames fs, ?_, .returned (some (.int 1)), hrun, hended, rfl, ⟨_, rfl⟩, hW, hframe⟩
  jvm_step X.here [X.here.top, hx, hb, hdg, hmeth', hr, ret, narrow_b1]
  (try refine ⟨rfl, ?_⟩); (try refine ⟨rfl, ?_⟩)
  first | (intro acts; rw [hret _ acts rfl rfl rfl]) | rw [hret _ _ rfl rfl rfl]
  exact Steps.refl _
/-- what holds at the law's entry: the machine, the code, the tables' words (any of lw_tbl by 'hts w (by decide +kernel)'), the script of L ints xs at the cell b, what the Statement gives of the start (any of its parts by flat_of_before) -/
def lw_At (p : Program) (s : State) (m : MethodId) (meth : Method) (c : Code) (b L : Nat) (xs : Nat → Int32) : Prop :=
  p.tables.exec = Jvm.exec ∧ c.code = code ∧ meth.sig.returnType = ret ∧ c.maxLocals = 4 ∧ s.vm.findClass R_law = some m.cls ∧ (∀ w ∈ lw_tbl, w.before #[Value.ref b] s = true) ∧ va_X b L xs s s.heap ∧ b < s.heap.size ∧ meth.locks = false ∧ (Jvm.Cond.and given_1 narrow_1).before #[Value.ref b] s = true
theorem zd_La_law_0 : decode zb_La_law 0 = .ok (.new 7, 3) := by decide +kernel
theorem zd_La_law_3 : decode zb_La_law 3 = .ok (.dup, 1) := by decide +kernel
theorem zd_La_law_4 : decode zb_La_law 4 = .ok (.invokespecial 9, 3) := by decide +kernel
theorem zd_La_law_7 : decode zb_La_law 7 = .ok (.astore_n 1, 1) := by decide +kernel
theorem zd_La_law_8 : decode zb_La_law 8 = .ok (.new 10, 3) := by decide +kernel
theorem zd_La_law_11 : decode zb_La_law 11 = .ok (.dup, 1) := by decide +kernel
theorem zd_La_law_12 : decode zb_La_law 12 = .ok (.invokespecial 12, 3) := by decide +kernel
theorem zd_La_law_15 : decode zb_La_law 15 = .ok (.astore_n 2, 1) := by decide +kernel
theorem zd_La_law_16 : decode zb_La_law 16 = .ok (.iconst 0, 1) := by decide +kernel
theorem zd_La_law_17 : decode zb_La_law 17 = .ok (.istore_n 3, 1) := by decide +kernel
theorem zd_La_law_18 : decode zb_La_law 18 = .ok (.iload_n 3, 1) := by decide +kernel
theorem zd_La_law_19 : decode zb_La_law 19 = .ok (.aload_n 0, 1) := by decide +kernel
theorem zd_La_law_20 : decode zb_La_law 20 = .ok (.arraylength, 1) := by decide +kernel
theorem zd_La_law_21 : decode zb_La_law 21 = .ok (.bipush 7, 2) := by decide +kernel
theorem zd_La_law_23 : decode zb_La_law 23 = .ok (.isub, 1) := by decide +kernel
theorem zd_La_law_24 : decode zb_La_law 24 = .ok (.if_icmp .gt 842, 3) := by decide +kernel
theorem zd_La_law_27 : decode zb_La_law 27 = .ok (.aload_n 0, 1) := by decide +kernel
theorem zd_La_law_28 : decode zb_La_law 28 = .ok (.iload_n 3, 1) := by decide +kernel
theorem zd_La_law_29 : decode zb_La_law 29 = .ok (.iaload, 1) := by decide +kernel
theorem zd_La_law_30 : decode zb_La_law 30 = .ok (.bipush 31, 2) := by decide +kernel
theorem zd_La_law_32 : decode zb_La_law 32 = .ok (.iand, 1) := by decide +kernel
theorem zd_La_law_33 : decode zb_La_law 33 = .ok (.tableswitch 827 0 16 #[83, 96, 179, 212, 245, 360, 394, 468, 502, 525, 584, 638, 661, 674, 698, 731, 804], 83) := by decide +kernel
theorem zd_La_law_116 : decode zb_La_law 116 = .ok (.aload_n 1, 1) := by decide +kernel
theorem zd_La_law_117 : decode zb_La_law 117 = .ok (.invokevirtual 13, 3) := by decide +kernel
theorem zd_La_law_120 : decode zb_La_law 120 = .ok (.aload_n 2, 1) := by decide +kernel
theorem zd_La_law_121 : decode zb_La_law 121 = .ok (.invokevirtual 17, 3) := by decide +kernel
theorem zd_La_law_124 : decode zb_La_law 124 = .ok (.if_icmp .eq 736, 3) := by decide +kernel
theorem zd_La_law_127 : decode zb_La_law 127 = .ok (.iconst 0, 1) := by decide +kernel
theorem zd_La_law_128 : decode zb_La_law 128 = .ok (.ireturn, 1) := by decide +kernel
theorem zd_La_law_129 : decode zb_La_law 129 = .ok (.aload_n 1, 1) := by decide +kernel
theorem zd_La_law_130 : decode zb_La_law 130 = .ok (.aload_n 0, 1) := by decide +kernel
theorem zd_La_law_131 : decode zb_La_law 131 = .ok (.iload_n 3, 1) := by decide +kernel
theorem zd_La_law_132 : decode zb_La_law 132 = .ok (.iconst 1, 1) := by decide +kernel
theorem zd_La_law_133 : decode zb_La_law 133 = .ok (.iadd, 1) := by decide +kernel
theorem zd_La_law_134 : decode zb_La_law 134 = .ok (.iaload, 1) := by decide +kernel
theorem zd_La_law_135 : decode zb_La_law 135 = .ok (.aload_n 0, 1) := by decide +kernel
theorem zd_La_law_136 : decode zb_La_law 136 = .ok (.iload_n 3, 1) := by decide +kernel
theorem zd_La_law_137 : decode zb_La_law 137 = .ok (.iconst 2, 1) := by decide +kernel
theorem zd_La_law_138 : decode zb_La_law 138 = .ok (.iadd, 1) := by decide +kernel
theorem zd_La_law_139 : decode zb_La_law 139 = .ok (.iaload, 1) := by decide +kernel
theorem zd_La_law_140 : decode zb_La_law 140 = .ok (.aload_n 0, 1) := by decide +kernel
theorem zd_La_law_141 : decode zb_La_law 141 = .ok (.iload_n 3, 1) := by decide +kernel
theorem zd_La_law_142 : decode zb_La_law 142 = .ok (.iconst 3, 1) := by decide +kernel
theorem zd_La_law_143 : decode zb_La_law 143 = .ok (.iadd, 1) := by decide +kernel
theorem zd_La_law_144 : decode zb_La_law 144 = .ok (.iaload, 1) := by decide +kernel
theorem zd_La_law_145 : decode zb_La_law 145 = .ok (.i2l, 1) := by decide +kernel
theorem zd_La_law_146 : decode zb_La_law 146 = .ok (.bipush 32, 2) := by decide +kernel
theorem zd_La_law_148 : decode zb_La_law 148 = .ok (.lshl, 1) := by decide +kernel
theorem zd_La_law_149 : decode zb_La_law 149 = .ok (.aload_n 0, 1) := by decide +kernel
theorem zd_La_law_150 : decode zb_La_law 150 = .ok (.iload_n 3, 1) := by decide +kernel
theorem zd_La_law_151 : decode zb_La_law 151 = .ok (.iconst 4, 1) := by decide +kernel
theorem zd_La_law_152 : decode zb_La_law 152 = .ok (.iadd, 1) := by decide +kernel
theorem zd_La_law_153 : decode zb_La_law 153 = .ok (.iaload, 1) := by decide +kernel
theorem zd_La_law_154 : decode zb_La_law 154 = .ok (.i2l, 1) := by decide +kernel
theorem zd_La_law_155 : decode zb_La_law 155 = .ok (.ldc2_w 18, 3) := by decide +kernel
theorem zd_La_law_158 : decode zb_La_law 158 = .ok (.land, 1) := by decide +kernel
theorem zd_La_law_159 : decode zb_La_law 159 = .ok (.lor, 1) := by decide +kernel
theorem zd_La_law_160 : decode zb_La_law 160 = .ok (.aload_n 0, 1) := by decide +kernel
theorem zd_La_law_161 : decode zb_La_law 161 = .ok (.iload_n 3, 1) := by decide +kernel
theorem zd_La_law_162 : decode zb_La_law 162 = .ok (.iconst 5, 1) := by decide +kernel
theorem zd_La_law_163 : decode zb_La_law 163 = .ok (.iadd, 1) := by decide +kernel
theorem zd_La_law_164 : decode zb_La_law 164 = .ok (.iaload, 1) := by decide +kernel
theorem zd_La_law_165 : decode zb_La_law 165 = .ok (.invokevirtual 20, 3) := by decide +kernel
theorem zd_La_law_168 : decode zb_La_law 168 = .ok (.aload_n 2, 1) := by decide +kernel
theorem zd_La_law_169 : decode zb_La_law 169 = .ok (.aload_n 0, 1) := by decide +kernel
theorem zd_La_law_170 : decode zb_La_law 170 = .ok (.iload_n 3, 1) := by decide +kernel
theorem zd_La_law_171 : decode zb_La_law 171 = .ok (.iconst 1, 1) := by decide +kernel
theorem zd_La_law_172 : decode zb_La_law 172 = .ok (.iadd, 1) := by decide +kernel
theorem zd_La_law_173 : decode zb_La_law 173 = .ok (.iaload, 1) := by decide +kernel
theorem zd_La_law_174 : decode zb_La_law 174 = .ok (.aload_n 0, 1) := by decide +kernel
theorem zd_La_law_175 : decode zb_La_law 175 = .ok (.iload_n 3, 1) := by decide +kernel
theorem zd_La_law_176 : decode zb_La_law 176 = .ok (.iconst 2, 1) := by decide +kernel
theorem zd_La_law_177 : decode zb_La_law 177 = .ok (.iadd, 1) := by decide +kernel
theorem zd_La_law_178 : decode zb_La_law 178 = .ok (.iaload, 1) := by decide +kernel
theorem zd_La_law_179 : decode zb_La_law 179 = .ok (.aload_n 0, 1) := by decide +kernel
theorem zd_La_law_180 : decode zb_La_law 180 = .ok (.iload_n 3, 1) := by decide +kernel
theorem zd_La_law_181 : decode zb_La_law 181 = .ok (.iconst 3, 1) := by decide +kernel
theorem zd_La_law_182 : decode zb_La_law 182 = .ok (.iadd, 1) := by decide +kernel
theorem zd_La_law_183 : decode zb_La_law 183 = .ok (.iaload, 1) := by decide +kernel
theorem zd_La_law_184 : decode zb_La_law 184 = .ok (.i2l, 1) := by decide +kernel
theorem zd_La_law_185 : decode zb_La_law 185 = .ok (.bipush 32, 2) := by decide +kernel
theorem zd_La_law_187 : decode zb_La_law 187 = .ok (.lshl, 1) := by decide +kernel
theorem zd_La_law_188 : decode zb_La_law 188 = .ok (.aload_n 0, 1) := by decide +kernel
theorem zd_La_law_189 : decode zb_La_law 189 = .ok (.iload_n 3, 1) := by decide +kernel
theorem zd_La_law_190 : decode zb_La_law 190 = .ok (.iconst 4, 1) := by decide +kernel
theorem zd_La_law_191 : decode zb_La_law 191 = .ok (.iadd, 1) := by decide +kernel
theorem zd_La_law_192 : decode zb_La_law 192 = .ok (.iaload, 1) := by decide +kernel
theorem zd_La_law_193 : decode zb_La_law 193 = .ok (.i2l, 1) := by decide +kernel
theorem zd_La_law_194 : decode zb_La_law 194 = .ok (.ldc2_w 18, 3) := by decide +kernel
theorem zd_La_law_197 : decode zb_La_law 197 = .ok (.land, 1) := by decide +kernel
theorem zd_La_law_198 : decode zb_La_law 198 = .ok (.lor, 1) := by decide +kernel
theorem zd_La_law_199 : decode zb_La_law 199 = .ok (.aload_n 0, 1) := by decide +kernel
theorem zd_La_law_200 : decode zb_La_law 200 = .ok (.iload_n 3, 1) := by decide +kernel
theorem zd_La_law_201 : decode zb_La_law 201 = .ok (.iconst 5, 1) := by decide +kernel
theorem zd_La_law_202 : decode zb_La_law 202 = .ok (.iadd, 1) := by decide +kernel
theorem zd_La_law_203 : decode zb_La_law 203 = .ok (.iaload, 1) := by decide +kernel
theorem zd_La_law_204 : decode zb_La_law 204 = .ok (.invokevirtual 24, 3) := by decide +kernel
theorem zd_La_law_207 : decode zb_La_law 207 = .ok (.if_icmp .eq 653, 3) := by decide +kernel
theorem zd_La_law_210 : decode zb_La_law 210 = .ok (.iconst 0, 1) := by decide +kernel
theorem zd_La_law_211 : decode zb_La_law 211 = .ok (.ireturn, 1) := by decide +kernel
theorem zd_La_law_212 : decode zb_La_law 212 = .ok (.aload_n 1, 1) := by decide +kernel
theorem zd_La_law_213 : decode zb_La_law 213 = .ok (.aload_n 0, 1) := by decide +kernel
theorem zd_La_law_214 : decode zb_La_law 214 = .ok (.iload_n 3, 1) := by decide +kernel
theorem zd_La_law_215 : decode zb_La_law 215 = .ok (.iconst 1, 1) := by decide +kernel
theorem zd_La_law_216 : decode zb_La_law 216 = .ok (.iadd, 1) := by decide +kernel
theorem zd_La_law_217 : decode zb_La_law 217 = .ok (.iaload, 1) := by decide +kernel
theorem zd_La_law_218 : decode zb_La_law 218 = .ok (.aload_n 0, 1) := by decide +kernel
theorem zd_La_law_219 : decode zb_La_law 219 = .ok (.iload_n 3, 1) := by decide +kernel
theorem zd_La_law_220 : decode zb_La_law 220 = .ok (.iconst 2, 1) := by decide +kernel
theorem zd_La_law_221 : decode zb_La_law 221 = .ok (.iadd, 1) := by decide +kernel
theorem zd_La_law_222 : decode zb_La_law 222 = .ok (.iaload, 1) := by decide +kernel
theorem zd_La_law_223 : decode zb_La_law 223 = .ok (.invokevirtual 25, 3) := by decide +kernel
theorem zd_La_law_226 : decode zb_La_law 226 = .ok (.aload_n 2, 1) := by decide +kernel
theorem zd_La_law_227 : decode zb_La_law 227 = .ok (.aload_n 0, 1) := by decide +kernel
theorem zd_La_law_228 : decode zb_La_law 228 = .ok (.iload_n 3, 1) := by decide +kernel
theorem zd_La_law_229 : decode zb_La_law 229 = .ok (.iconst 1, 1) := by decide +kernel
theorem zd_La_law_230 : decode zb_La_law 230 = .ok (.iadd, 1) := by decide +kernel
theorem zd_La_law_231 : decode zb_La_law 231 = .ok (.iaload, 1) := by decide +kernel
theorem zd_La_law_232 : decode zb_La_law 232 = .ok (.aload_n 0, 1) := by decide +kernel
theorem zd_La_law_233 : decode zb_La_law 233 = .ok (.iload_n 3, 1) := by decide +kernel
theorem zd_La_law_234 : decode zb_La_law 234 = .ok (.iconst 2, 1) := by decide +kernel
theorem zd_La_law_235 : decode zb_La_law 235 = .ok (.iadd, 1) := by decide +kernel
theorem zd_La_law_236 : decode zb_La_law 236 = .ok (.iaload, 1) := by decide +kernel
theorem zd_La_law_237 : decode zb_La_law 237 = .ok (.invokevirtual 29, 3) := by decide +kernel
theorem zd_La_law_240 : decode zb_La_law 240 = .ok (.if_icmp .eq 620, 3) := by decide +kernel
theorem zd_La_law_243 : decode zb_La_law 243 = .ok (.iconst 0, 1) := by decide +kernel
theorem zd_La_law_244 : decode zb_La_law 244 = .ok (.ireturn, 1) := by decide +kernel
theorem zd_La_law_245 : decode zb_La_law 245 = .ok (.aload_n 1, 1) := by decide +kernel
theorem zd_La_law_246 : decode zb_La_law 246 = .ok (.aload_n 0, 1) := by decide +kernel
theorem zd_La_law_247 : decode zb_La_law 247 = .ok (.iload_n 3, 1) := by decide +kernel
theorem zd_La_law_248 : decode zb_La_law 248 = .ok (.iconst 1, 1) := by decide +kernel
theorem zd_La_law_249 : decode zb_La_law 249 = .ok (.iadd, 1) := by decide +kernel
theorem zd_La_law_250 : decode zb_La_law 250 = .ok (.iaload, 1) := by decide +kernel
theorem zd_La_law_251 : decode zb_La_law 251 = .ok (.aload_n 0, 1) := by decide +kernel
theorem zd_La_law_252 : decode zb_La_law 252 = .ok (.iload_n 3, 1) := by decide +kernel
theorem zd_La_law_253 : decode zb_La_law 253 = .ok (.iconst 2, 1) := by decide +kernel
theorem zd_La_law_254 : decode zb_La_law 254 = .ok (.iadd, 1) := by decide +kernel
theorem zd_La_law_255 : decode zb_La_law 255 = .ok (.iaload, 1) := by decide +kernel
theorem zd_La_law_256 : decode zb_La_law 256 = .ok (.invokevirtual 30, 3) := by decide +kernel
theorem zd_La_law_259 : decode zb_La_law 259 = .ok (.aload_n 2, 1) := by decide +kernel
theorem zd_La_law_260 : decode zb_La_law 260 = .ok (.aload_n 0, 1) := by decide +kernel
theorem zd_La_law_261 : decode zb_La_law 261 = .ok (.iload_n 3, 1) := by decide +kernel
theorem zd_La_law_262 : decode zb_La_law 262 = .ok (.iconst 1, 1) := by decide +kernel
theorem zd_La_law_263 : decode zb_La_law 263 = .ok (.iadd, 1) := by decide +kernel
theorem zd_La_law_264 : decode zb_La_law 264 = .ok (.iaload, 1) := by decide +kernel
theorem zd_La_law_265 : decode zb_La_law 265 = .ok (.aload_n 0, 1) := by decide +kernel
theorem zd_La_law_266 : decode zb_La_law 266 = .ok (.iload_n 3, 1) := by decide +kernel
theorem zd_La_law_267 : decode zb_La_law 267 = .ok (.iconst 2, 1) := by decide +kernel
theorem zd_La_law_268 : decode zb_La_law 268 = .ok (.iadd, 1) := by decide +kernel
theorem zd_La_law_269 : decode zb_La_law 269 = .ok (.iaload, 1) := by decide +kernel
theorem zd_La_law_270 : decode zb_La_law 270 = .ok (.invokevirtual 33, 3) := by decide +kernel
theorem zd_La_law_273 : decode zb_La_law 273 = .ok (.if_icmp .eq 587, 3) := by decide +kernel
theorem zd_La_law_276 : decode zb_La_law 276 = .ok (.iconst 0, 1) := by decide +kernel
theorem zd_La_law_277 : decode zb_La_law 277 = .ok (.ireturn, 1) := by decide +kernel
theorem zd_La_law_278 : decode zb_La_law 278 = .ok (.aload_n 1, 1) := by decide +kernel
theorem zd_La_law_279 : decode zb_La_law 279 = .ok (.aload_n 0, 1) := by decide +kernel
theorem zd_La_law_280 : decode zb_La_law 280 = .ok (.iload_n 3, 1) := by decide +kernel
theorem zd_La_law_281 : decode zb_La_law 281 = .ok (.iconst 1, 1) := by decide +kernel
theorem zd_La_law_282 : decode zb_La_law 282 = .ok (.iadd, 1) := by decide +kernel
theorem zd_La_law_283 : decode zb_La_law 283 = .ok (.iaload, 1) := by decide +kernel
theorem zd_La_law_284 : decode zb_La_law 284 = .ok (.aload_n 0, 1) := by decide +kernel
theorem zd_La_law_285 : decode zb_La_law 285 = .ok (.iload_n 3, 1) := by decide +kernel
theorem zd_La_law_286 : decode zb_La_law 286 = .ok (.iconst 2, 1) := by decide +kernel
theorem zd_La_law_287 : decode zb_La_law 287 = .ok (.iadd, 1) := by decide +kernel
theorem zd_La_law_288 : decode zb_La_law 288 = .ok (.iaload, 1) := by decide +kernel
theorem zd_La_law_289 : decode zb_La_law 289 = .ok (.i2l, 1) := by decide +kernel
theorem zd_La_law_290 : decode zb_La_law 290 = .ok (.bipush 32, 2) := by decide +kernel
theorem zd_La_law_292 : decode zb_La_law 292 = .ok (.lshl, 1) := by decide +kernel
theorem zd_La_law_293 : decode zb_La_law 293 = .ok (.aload_n 0, 1) := by decide +kernel
theorem zd_La_law_294 : decode zb_La_law 294 = .ok (.iload_n 3, 1) := by decide +kernel
theorem zd_La_law_295 : decode zb_La_law 295 = .ok (.iconst 3, 1) := by decide +kernel
theorem zd_La_law_296 : decode zb_La_law 296 = .ok (.iadd, 1) := by decide +kernel
theorem zd_La_law_297 : decode zb_La_law 297 = .ok (.iaload, 1) := by decide +kernel
theorem zd_La_law_298 : decode zb_La_law 298 = .ok (.i2l, 1) := by decide +kernel
theorem zd_La_law_299 : decode zb_La_law 299 = .ok (.ldc2_w 18, 3) := by decide +kernel
theorem zd_La_law_302 : decode zb_La_law 302 = .ok (.land, 1) := by decide +kernel
theorem zd_La_law_303 : decode zb_La_law 303 = .ok (.lor, 1) := by decide +kernel
theorem zd_La_law_304 : decode zb_La_law 304 = .ok (.aload_n 0, 1) := by decide +kernel
theorem zd_La_law_305 : decode zb_La_law 305 = .ok (.iload_n 3, 1) := by decide +kernel
theorem zd_La_law_306 : decode zb_La_law 306 = .ok (.iconst 4, 1) := by decide +kernel
theorem zd_La_law_307 : decode zb_La_law 307 = .ok (.iadd, 1) := by decide +kernel
theorem zd_La_law_308 : decode zb_La_law 308 = .ok (.iaload, 1) := by decide +kernel
theorem zd_La_law_309 : decode zb_La_law 309 = .ok (.aload_n 0, 1) := by decide +kernel
theorem zd_La_law_310 : decode zb_La_law 310 = .ok (.iload_n 3, 1) := by decide +kernel
theorem zd_La_law_311 : decode zb_La_law 311 = .ok (.iconst 5, 1) := by decide +kernel
theorem zd_La_law_312 : decode zb_La_law 312 = .ok (.iadd, 1) := by decide +kernel
theorem zd_La_law_313 : decode zb_La_law 313 = .ok (.iaload, 1) := by decide +kernel
theorem zd_La_law_314 : decode zb_La_law 314 = .ok (.i2l, 1) := by decide +kernel
theorem zd_La_law_315 : decode zb_La_law 315 = .ok (.bipush 32, 2) := by decide +kernel
theorem zd_La_law_317 : decode zb_La_law 317 = .ok (.lshl, 1) := by decide +kernel
theorem zd_La_law_318 : decode zb_La_law 318 = .ok (.aload_n 0, 1) := by decide +kernel
theorem zd_La_law_319 : decode zb_La_law 319 = .ok (.iload_n 3, 1) := by decide +kernel
theorem zd_La_law_320 : decode zb_La_law 320 = .ok (.bipush 6, 2) := by decide +kernel
theorem zd_La_law_322 : decode zb_La_law 322 = .ok (.iadd, 1) := by decide +kernel
theorem zd_La_law_323 : decode zb_La_law 323 = .ok (.iaload, 1) := by decide +kernel
theorem zd_La_law_324 : decode zb_La_law 324 = .ok (.i2l, 1) := by decide +kernel
theorem zd_La_law_325 : decode zb_La_law 325 = .ok (.ldc2_w 18, 3) := by decide +kernel
theorem zd_La_law_328 : decode zb_La_law 328 = .ok (.land, 1) := by decide +kernel
theorem zd_La_law_329 : decode zb_La_law 329 = .ok (.lor, 1) := by decide +kernel
theorem zd_La_law_330 : decode zb_La_law 330 = .ok (.invokevirtual 34, 3) := by decide +kernel
theorem zd_La_law_333 : decode zb_La_law 333 = .ok (.aload_n 2, 1) := by decide +kernel
theorem zd_La_law_334 : decode zb_La_law 334 = .ok (.aload_n 0, 1) := by decide +kernel
theorem zd_La_law_335 : decode zb_La_law 335 = .ok (.iload_n 3, 1) := by decide +kernel
theorem zd_La_law_336 : decode zb_La_law 336 = .ok (.iconst 1, 1) := by decide +kernel
theorem zd_La_law_337 : decode zb_La_law 337 = .ok (.iadd, 1) := by decide +kernel
theorem zd_La_law_338 : decode zb_La_law 338 = .ok (.iaload, 1) := by decide +kernel
theorem zd_La_law_339 : decode zb_La_law 339 = .ok (.aload_n 0, 1) := by decide +kernel
theorem zd_La_law_340 : decode zb_La_law 340 = .ok (.iload_n 3, 1) := by decide +kernel
theorem zd_La_law_341 : decode zb_La_law 341 = .ok (.iconst 2, 1) := by decide +kernel
theorem zd_La_law_342 : decode zb_La_law 342 = .ok (.iadd, 1) := by decide +kernel
theorem zd_La_law_343 : decode zb_La_law 343 = .ok (.iaload, 1) := by decide +kernel
theorem zd_La_law_344 : decode zb_La_law 344 = .ok (.i2l, 1) := by decide +kernel
theorem zd_La_law_345 : decode zb_La_law 345 = .ok (.bipush 32, 2) := by decide +kernel
theorem zd_La_law_347 : decode zb_La_law 347 = .ok (.lshl, 1) := by decide +kernel
theorem zd_La_law_348 : decode zb_La_law 348 = .ok (.aload_n 0, 1) := by decide +kernel
theorem zd_La_law_349 : decode zb_La_law 349 = .ok (.iload_n 3, 1) := by decide +kernel
theorem zd_La_law_350 : decode zb_La_law 350 = .ok (.iconst 3, 1) := by decide +kernel
theorem zd_La_law_351 : decode zb_La_law 351 = .ok (.iadd, 1) := by decide +kernel
theorem zd_La_law_352 : decode zb_La_law 352 = .ok (.iaload, 1) := by decide +kernel
theorem zd_La_law_353 : decode zb_La_law 353 = .ok (.i2l, 1) := by decide +kernel
theorem zd_La_law_354 : decode zb_La_law 354 = .ok (.ldc2_w 18, 3) := by decide +kernel
theorem zd_La_law_357 : decode zb_La_law 357 = .ok (.land, 1) := by decide +kernel
theorem zd_La_law_358 : decode zb_La_law 358 = .ok (.lor, 1) := by decide +kernel
theorem zd_La_law_359 : decode zb_La_law 359 = .ok (.aload_n 0, 1) := by decide +kernel
theorem zd_La_law_360 : decode zb_La_law 360 = .ok (.iload_n 3, 1) := by decide +kernel
theorem zd_La_law_361 : decode zb_La_law 361 = .ok (.iconst 4, 1) := by decide +kernel
theorem zd_La_law_362 : decode zb_La_law 362 = .ok (.iadd, 1) := by decide +kernel
theorem zd_La_law_363 : decode zb_La_law 363 = .ok (.iaload, 1) := by decide +kernel
theorem zd_La_law_364 : decode zb_La_law 364 = .ok (.aload_n 0, 1) := by decide +kernel
theorem zd_La_law_365 : decode zb_La_law 365 = .ok (.iload_n 3, 1) := by decide +kernel
theorem zd_La_law_366 : decode zb_La_law 366 = .ok (.iconst 5, 1) := by decide +kernel
theorem zd_La_law_367 : decode zb_La_law 367 = .ok (.iadd, 1) := by decide +kernel
theorem zd_La_law_368 : decode zb_La_law 368 = .ok (.iaload, 1) := by decide +kernel
theorem zd_La_law_369 : decode zb_La_law 369 = .ok (.i2l, 1) := by decide +kernel
theorem zd_La_law_370 : decode zb_La_law 370 = .ok (.bipush 32, 2) := by decide +kernel
theorem zd_La_law_372 : decode zb_La_law 372 = .ok (.lshl, 1) := by decide +kernel
theorem zd_La_law_373 : decode zb_La_law 373 = .ok (.aload_n 0, 1) := by decide +kernel
theorem zd_La_law_374 : decode zb_La_law 374 = .ok (.iload_n 3, 1) := by decide +kernel
theorem zd_La_law_375 : decode zb_La_law 375 = .ok (.bipush 6, 2) := by decide +kernel
theorem zd_La_law_377 : decode zb_La_law 377 = .ok (.iadd, 1) := by decide +kernel
theorem zd_La_law_378 : decode zb_La_law 378 = .ok (.iaload, 1) := by decide +kernel
theorem zd_La_law_379 : decode zb_La_law 379 = .ok (.i2l, 1) := by decide +kernel
theorem zd_La_law_380 : decode zb_La_law 380 = .ok (.ldc2_w 18, 3) := by decide +kernel
theorem zd_La_law_383 : decode zb_La_law 383 = .ok (.land, 1) := by decide +kernel
theorem zd_La_law_384 : decode zb_La_law 384 = .ok (.lor, 1) := by decide +kernel
theorem zd_La_law_385 : decode zb_La_law 385 = .ok (.invokevirtual 38, 3) := by decide +kernel
theorem zd_La_law_388 : decode zb_La_law 388 = .ok (.if_icmp .eq 472, 3) := by decide +kernel
theorem zd_La_law_391 : decode zb_La_law 391 = .ok (.iconst 0, 1) := by decide +kernel
theorem zd_La_law_392 : decode zb_La_law 392 = .ok (.ireturn, 1) := by decide +kernel
theorem zd_La_law_393 : decode zb_La_law 393 = .ok (.aload_n 1, 1) := by decide +kernel
theorem zd_La_law_394 : decode zb_La_law 394 = .ok (.aload_n 0, 1) := by decide +kernel
theorem zd_La_law_395 : decode zb_La_law 395 = .ok (.iload_n 3, 1) := by decide +kernel
theorem zd_La_law_396 : decode zb_La_law 396 = .ok (.iconst 1, 1) := by decide +kernel
theorem zd_La_law_397 : decode zb_La_law 397 = .ok (.iadd, 1) := by decide +kernel
theorem zd_La_law_398 : decode zb_La_law 398 = .ok (.iaload, 1) := by decide +kernel
theorem zd_La_law_399 : decode zb_La_law 399 = .ok (.aload_n 0, 1) := by decide +kernel
theorem zd_La_law_400 : decode zb_La_law 400 = .ok (.iload_n 3, 1) := by decide +kernel
theorem zd_La_law_401 : decode zb_La_law 401 = .ok (.iconst 2, 1) := by decide +kernel
theorem zd_La_law_402 : decode zb_La_law 402 = .ok (.iadd, 1) := by decide +kernel
theorem zd_La_law_403 : decode zb_La_law 403 = .ok (.iaload, 1) := by decide +kernel
theorem zd_La_law_404 : decode zb_La_law 404 = .ok (.invokevirtual 39, 3) := by decide +kernel
theorem zd_La_law_407 : decode zb_La_law 407 = .ok (.aload_n 2, 1) := by decide +kernel
theorem zd_La_law_408 : decode zb_La_law 408 = .ok (.aload_n 0, 1) := by decide +kernel
theorem zd_La_law_409 : decode zb_La_law 409 = .ok (.iload_n 3, 1) := by decide +kernel
theorem zd_La_law_410 : decode zb_La_law 410 = .ok (.iconst 1, 1) := by decide +kernel
theorem zd_La_law_411 : decode zb_La_law 411 = .ok (.iadd, 1) := by decide +kernel
theorem zd_La_law_412 : decode zb_La_law 412 = .ok (.iaload, 1) := by decide +kernel
theorem zd_La_law_413 : decode zb_La_law 413 = .ok (.aload_n 0, 1) := by decide +kernel
theorem zd_La_law_414 : decode zb_La_law 414 = .ok (.iload_n 3, 1) := by decide +kernel
theorem zd_La_law_415 : decode zb_La_law 415 = .ok (.iconst 2, 1) := by decide +kernel
theorem zd_La_law_416 : decode zb_La_law 416 = .ok (.iadd, 1) := by decide +kernel
theorem zd_La_law_417 : decode zb_La_law 417 = .ok (.iaload, 1) := by decide +kernel
theorem zd_La_law_418 : decode zb_La_law 418 = .ok (.invokevirtual 43, 3) := by decide +kernel
theorem zd_La_law_421 : decode zb_La_law 421 = .ok (.lcmp, 1) := by decide +kernel
theorem zd_La_law_422 : decode zb_La_law 422 = .ok (.ifCond .eq 438, 3) := by decide +kernel
theorem zd_La_law_425 : decode zb_La_law 425 = .ok (.iconst 0, 1) := by decide +kernel
theorem zd_La_law_426 : decode zb_La_law 426 = .ok (.ireturn, 1) := by decide +kernel
theorem zd_La_law_427 : decode zb_La_law 427 = .ok (.aload_n 1, 1) := by decide +kernel
theorem zd_La_law_428 : decode zb_La_law 428 = .ok (.aload_n 0, 1) := by decide +kernel
theorem zd_La_law_429 : decode zb_La_law 429 = .ok (.iload_n 3, 1) := by decide +kernel
theorem zd_La_law_430 : decode zb_La_law 430 = .ok (.iconst 1, 1) := by decide +kernel
theorem zd_La_law_431 : decode zb_La_law 431 = .ok (.iadd, 1) := by decide +kernel
theorem zd_La_law_432 : decode zb_La_law 432 = .ok (.iaload, 1) := by decide +kernel
theorem zd_La_law_433 : decode zb_La_law 433 = .ok (.aload_n 0, 1) := by decide +kernel
theorem zd_La_law_434 : decode zb_La_law 434 = .ok (.iload_n 3, 1) := by decide +kernel
theorem zd_La_law_435 : decode zb_La_law 435 = .ok (.iconst 2, 1) := by decide +kernel
theorem zd_La_law_436 : decode zb_La_law 436 = .ok (.iadd, 1) := by decide +kernel
theorem zd_La_law_437 : decode zb_La_law 437 = .ok (.iaload, 1) := by decide +kernel
theorem zd_La_law_438 : decode zb_La_law 438 = .ok (.aload_n 0, 1) := by decide +kernel
theorem zd_La_law_439 : decode zb_La_law 439 = .ok (.iload_n 3, 1) := by decide +kernel
theorem zd_La_law_440 : decode zb_La_law 440 = .ok (.iconst 3, 1) := by decide +kernel
theorem zd_La_law_441 : decode zb_La_law 441 = .ok (.iadd, 1) := by decide +kernel
theorem zd_La_law_442 : decode zb_La_law 442 = .ok (.iaload, 1) := by decide +kernel
theorem zd_La_law_443 : decode zb_La_law 443 = .ok (.i2l, 1) := by decide +kernel
theorem zd_La_law_444 : decode zb_La_law 444 = .ok (.bipush 32, 2) := by decide +kernel
theorem zd_La_law_446 : decode zb_La_law 446 = .ok (.lshl, 1) := by decide +kernel
theorem zd_La_law_447 : decode zb_La_law 447 = .ok (.aload_n 0, 1) := by decide +kernel
theorem zd_La_law_448 : decode zb_La_law 448 = .ok (.iload_n 3, 1) := by decide +kernel
theorem zd_La_law_449 : decode zb_La_law 449 = .ok (.iconst 4, 1) := by decide +kernel
theorem zd_La_law_450 : decode zb_La_law 450 = .ok (.iadd, 1) := by decide +kernel
theorem zd_La_law_451 : decode zb_La_law 451 = .ok (.iaload, 1) := by decide +kernel
theorem zd_La_law_452 : decode zb_La_law 452 = .ok (.i2l, 1) := by decide +kernel
theorem zd_La_law_453 : decode zb_La_law 453 = .ok (.ldc2_w 18, 3) := by decide +kernel
theorem zd_La_law_456 : decode zb_La_law 456 = .ok (.land, 1) := by decide +kernel
theorem zd_La_law_457 : decode zb_La_law 457 = .ok (.lor, 1) := by decide +kernel
theorem zd_La_law_458 : decode zb_La_law 458 = .ok (.invokevirtual 44, 3) := by decide +kernel
theorem zd_La_law_461 : decode zb_La_law 461 = .ok (.aload_n 2, 1) := by decide +kernel
theorem zd_La_law_462 : decode zb_La_law 462 = .ok (.aload_n 0, 1) := by decide +kernel
theorem zd_La_law_463 : decode zb_La_law 463 = .ok (.iload_n 3, 1) := by decide +kernel
theorem zd_La_law_464 : decode zb_La_law 464 = .ok (.iconst 1, 1) := by decide +kernel
theorem zd_La_law_465 : decode zb_La_law 465 = .ok (.iadd, 1) := by decide +kernel
theorem zd_La_law_466 : decode zb_La_law 466 = .ok (.iaload, 1) := by decide +kernel
theorem zd_La_law_467 : decode zb_La_law 467 = .ok (.aload_n 0, 1) := by decide +kernel
theorem zd_La_law_468 : decode zb_La_law 468 = .ok (.iload_n 3, 1) := by decide +kernel
theorem zd_La_law_469 : decode zb_La_law 469 = .ok (.iconst 2, 1) := by decide +kernel
theorem zd_La_law_470 : decode zb_La_law 470 = .ok (.iadd, 1) := by decide +kernel
theorem zd_La_law_471 : decode zb_La_law 471 = .ok (.iaload, 1) := by decide +kernel
theorem zd_La_law_472 : decode zb_La_law 472 = .ok (.aload_n 0, 1) := by decide +kernel
theorem zd_La_law_473 : decode zb_La_law 473 = .ok (.iload_n 3, 1) := by decide +kernel
theorem zd_La_law_474 : decode zb_La_law 474 = .ok (.iconst 3, 1) := by decide +kernel
theorem zd_La_law_475 : decode zb_La_law 475 = .ok (.iadd, 1) := by decide +kernel
theorem zd_La_law_476 : decode zb_La_law 476 = .ok (.iaload, 1) := by decide +kernel
theorem zd_La_law_477 : decode zb_La_law 477 = .ok (.i2l, 1) := by decide +kernel
theorem zd_La_law_478 : decode zb_La_law 478 = .ok (.bipush 32, 2) := by decide +kernel
theorem zd_La_law_480 : decode zb_La_law 480 = .ok (.lshl, 1) := by decide +kernel
theorem zd_La_law_481 : decode zb_La_law 481 = .ok (.aload_n 0, 1) := by decide +kernel
theorem zd_La_law_482 : decode zb_La_law 482 = .ok (.iload_n 3, 1) := by decide +kernel
theorem zd_La_law_483 : decode zb_La_law 483 = .ok (.iconst 4, 1) := by decide +kernel
theorem zd_La_law_484 : decode zb_La_law 484 = .ok (.iadd, 1) := by decide +kernel
theorem zd_La_law_485 : decode zb_La_law 485 = .ok (.iaload, 1) := by decide +kernel
theorem zd_La_law_486 : decode zb_La_law 486 = .ok (.i2l, 1) := by decide +kernel
theorem zd_La_law_487 : decode zb_La_law 487 = .ok (.ldc2_w 18, 3) := by decide +kernel
theorem zd_La_law_490 : decode zb_La_law 490 = .ok (.land, 1) := by decide +kernel
theorem zd_La_law_491 : decode zb_La_law 491 = .ok (.lor, 1) := by decide +kernel
theorem zd_La_law_492 : decode zb_La_law 492 = .ok (.invokevirtual 48, 3) := by decide +kernel
theorem zd_La_law_495 : decode zb_La_law 495 = .ok (.lcmp, 1) := by decide +kernel
theorem zd_La_law_496 : decode zb_La_law 496 = .ok (.ifCond .eq 364, 3) := by decide +kernel
theorem zd_La_law_499 : decode zb_La_law 499 = .ok (.iconst 0, 1) := by decide +kernel
theorem zd_La_law_500 : decode zb_La_law 500 = .ok (.ireturn, 1) := by decide +kernel
theorem zd_La_law_501 : decode zb_La_law 501 = .ok (.aload_n 1, 1) := by decide +kernel
theorem zd_La_law_502 : decode zb_La_law 502 = .ok (.aload_n 0, 1) := by decide +kernel
theorem zd_La_law_503 : decode zb_La_law 503 = .ok (.iload_n 3, 1) := by decide +kernel
theorem zd_La_law_504 : decode zb_La_law 504 = .ok (.iconst 1, 1) := by decide +kernel
theorem zd_La_law_505 : decode zb_La_law 505 = .ok (.iadd, 1) := by decide +kernel
theorem zd_La_law_506 : decode zb_La_law 506 = .ok (.iaload, 1) := by decide +kernel
theorem zd_La_law_507 : decode zb_La_law 507 = .ok (.aload_n 0, 1) := by decide +kernel
theorem zd_La_law_508 : decode zb_La_law 508 = .ok (.iload_n 3, 1) := by decide +kernel
theorem zd_La_law_509 : decode zb_La_law 509 = .ok (.iconst 2, 1) := by decide +kernel
theorem zd_La_law_510 : decode zb_La_law 510 = .ok (.iadd, 1) := by decide +kernel
theorem zd_La_law_511 : decode zb_La_law 511 = .ok (.iaload, 1) := by decide +kernel
theorem zd_La_law_512 : decode zb_La_law 512 = .ok (.invokevirtual 49, 3) := by decide +kernel
theorem zd_La_law_515 : decode zb_La_law 515 = .ok (.aload_n 2, 1) := by decide +kernel
theorem zd_La_law_516 : decode zb_La_law 516 = .ok (.aload_n 0, 1) := by decide +kernel
theorem zd_La_law_517 : decode zb_La_law 517 = .ok (.iload_n 3, 1) := by decide +kernel
theorem zd_La_law_518 : decode zb_La_law 518 = .ok (.iconst 1, 1) := by decide +kernel
theorem zd_La_law_519 : decode zb_La_law 519 = .ok (.iadd, 1) := by decide +kernel
theorem zd_La_law_520 : decode zb_La_law 520 = .ok (.iaload, 1) := by decide +kernel
theorem zd_La_law_521 : decode zb_La_law 521 = .ok (.aload_n 0, 1) := by decide +kernel
theorem zd_La_law_522 : decode zb_La_law 522 = .ok (.iload_n 3, 1) := by decide +kernel
theorem zd_La_law_523 : decode zb_La_law 523 = .ok (.iconst 2, 1) := by decide +kernel
theorem zd_La_law_524 : decode zb_La_law 524 = .ok (.iadd, 1) := by decide +kernel
theorem zd_La_law_525 : decode zb_La_law 525 = .ok (.iaload, 1) := by decide +kernel
theorem zd_La_law_526 : decode zb_La_law 526 = .ok (.invokevirtual 52, 3) := by decide +kernel
theorem zd_La_law_529 : decode zb_La_law 529 = .ok (.lcmp, 1) := by decide +kernel
theorem zd_La_law_530 : decode zb_La_law 530 = .ok (.ifCond .eq 330, 3) := by decide +kernel
theorem zd_La_law_533 : decode zb_La_law 533 = .ok (.iconst 0, 1) := by decide +kernel
theorem zd_La_law_534 : decode zb_La_law 534 = .ok (.ireturn, 1) := by decide +kernel
theorem zd_La_law_535 : decode zb_La_law 535 = .ok (.aload_n 1, 1) := by decide +kernel
theorem zd_La_law_536 : decode zb_La_law 536 = .ok (.aload_n 0, 1) := by decide +kernel
theorem zd_La_law_537 : decode zb_La_law 537 = .ok (.iload_n 3, 1) := by decide +kernel
theorem zd_La_law_538 : decode zb_La_law 538 = .ok (.iconst 1, 1) := by decide +kernel
theorem zd_La_law_539 : decode zb_La_law 539 = .ok (.iadd, 1) := by decide +kernel
theorem zd_La_law_540 : decode zb_La_law 540 = .ok (.iaload, 1) := by decide +kernel
theorem zd_La_law_541 : decode zb_La_law 541 = .ok (.invokevirtual 53, 3) := by decide +kernel
theorem zd_La_law_544 : decode zb_La_law 544 = .ok (.aload_n 2, 1) := by decide +kernel
theorem zd_La_law_545 : decode zb_La_law 545 = .ok (.aload_n 0, 1) := by decide +kernel
theorem zd_La_law_546 : decode zb_La_law 546 = .ok (.iload_n 3, 1) := by decide +kernel
theorem zd_La_law_547 : decode zb_La_law 547 = .ok (.iconst 1, 1) := by decide +kernel
theorem zd_La_law_548 : decode zb_La_law 548 = .ok (.iadd, 1) := by decide +kernel
theorem zd_La_law_549 : decode zb_La_law 549 = .ok (.iaload, 1) := by decide +kernel
theorem zd_La_law_550 : decode zb_La_law 550 = .ok (.invokevirtual 57, 3) := by decide +kernel
theorem zd_La_law_553 : decode zb_La_law 553 = .ok (.if_icmp .eq 307, 3) := by decide +kernel
theorem zd_La_law_556 : decode zb_La_law 556 = .ok (.iconst 0, 1) := by decide +kernel
theorem zd_La_law_557 : decode zb_La_law 557 = .ok (.ireturn, 1) := by decide +kernel
theorem zd_La_law_558 : decode zb_La_law 558 = .ok (.aload_n 1, 1) := by decide +kernel
theorem zd_La_law_559 : decode zb_La_law 559 = .ok (.aload_n 0, 1) := by decide +kernel
theorem zd_La_law_560 : decode zb_La_law 560 = .ok (.iload_n 3, 1) := by decide +kernel
theorem zd_La_law_561 : decode zb_La_law 561 = .ok (.iconst 1, 1) := by decide +kernel
theorem zd_La_law_562 : decode zb_La_law 562 = .ok (.iadd, 1) := by decide +kernel
theorem zd_La_law_563 : decode zb_La_law 563 = .ok (.iaload, 1) := by decide +kernel
theorem zd_La_law_564 : decode zb_La_law 564 = .ok (.aload_n 0, 1) := by decide +kernel
theorem zd_La_law_565 : decode zb_La_law 565 = .ok (.iload_n 3, 1) := by decide +kernel
theorem zd_La_law_566 : decode zb_La_law 566 = .ok (.iconst 2, 1) := by decide +kernel
theorem zd_La_law_567 : decode zb_La_law 567 = .ok (.iadd, 1) := by decide +kernel
theorem zd_La_law_568 : decode zb_La_law 568 = .ok (.iaload, 1) := by decide +kernel
theorem zd_La_law_569 : decode zb_La_law 569 = .ok (.aload_n 0, 1) := by decide +kernel
theorem zd_La_law_570 : decode zb_La_law 570 = .ok (.iload_n 3, 1) := by decide +kernel
theorem zd_La_law_571 : decode zb_La_law 571 = .ok (.iconst 3, 1) := by decide +kernel
theorem zd_La_law_572 : decode zb_La_law 572 = .ok (.iadd, 1) := by decide +kernel
theorem zd_La_law_573 : decode zb_La_law 573 = .ok (.iaload, 1) := by decide +kernel
theorem zd_La_law_574 : decode zb_La_law 574 = .ok (.ifCond .eq 7, 3) := by decide +kernel
theorem zd_La_law_577 : decode zb_La_law 577 = .ok (.iconst 1, 1) := by decide +kernel
theorem zd_La_law_578 : decode zb_La_law 578 = .ok (.goto 4, 3) := by decide +kernel
theorem zd_La_law_581 : decode zb_La_law 581 = .ok (.iconst 0, 1) := by decide +kernel
theorem zd_La_law_582 : decode zb_La_law 582 = .ok (.invokevirtual 58, 3) := by decide +kernel
theorem zd_La_law_585 : decode zb_La_law 585 = .ok (.aload_n 2, 1) := by decide +kernel
theorem zd_La_law_586 : decode zb_La_law 586 = .ok (.aload_n 0, 1) := by decide +kernel
theorem zd_La_law_587 : decode zb_La_law 587 = .ok (.iload_n 3, 1) := by decide +kernel
theorem zd_La_law_588 : decode zb_La_law 588 = .ok (.iconst 1, 1) := by decide +kernel
theorem zd_La_law_589 : decode zb_La_law 589 = .ok (.iadd, 1) := by decide +kernel
theorem zd_La_law_590 : decode zb_La_law 590 = .ok (.iaload, 1) := by decide +kernel
theorem zd_La_law_591 : decode zb_La_law 591 = .ok (.aload_n 0, 1) := by decide +kernel
theorem zd_La_law_592 : decode zb_La_law 592 = .ok (.iload_n 3, 1) := by decide +kernel
theorem zd_La_law_593 : decode zb_La_law 593 = .ok (.iconst 2, 1) := by decide +kernel
theorem zd_La_law_594 : decode zb_La_law 594 = .ok (.iadd, 1) := by decide +kernel
theorem zd_La_law_595 : decode zb_La_law 595 = .ok (.iaload, 1) := by decide +kernel
theorem zd_La_law_596 : decode zb_La_law 596 = .ok (.aload_n 0, 1) := by decide +kernel
theorem zd_La_law_597 : decode zb_La_law 597 = .ok (.iload_n 3, 1) := by decide +kernel
theorem zd_La_law_598 : decode zb_La_law 598 = .ok (.iconst 3, 1) := by decide +kernel
theorem zd_La_law_599 : decode zb_La_law 599 = .ok (.iadd, 1) := by decide +kernel
theorem zd_La_law_600 : decode zb_La_law 600 = .ok (.iaload, 1) := by decide +kernel
theorem zd_La_law_601 : decode zb_La_law 601 = .ok (.ifCond .eq 7, 3) := by decide +kernel
theorem zd_La_law_604 : decode zb_La_law 604 = .ok (.iconst 1, 1) := by decide +kernel
theorem zd_La_law_605 : decode zb_La_law 605 = .ok (.goto 4, 3) := by decide +kernel
theorem zd_La_law_608 : decode zb_La_law 608 = .ok (.iconst 0, 1) := by decide +kernel
theorem zd_La_law_609 : decode zb_La_law 609 = .ok (.invokevirtual 62, 3) := by decide +kernel
theorem zd_La_law_612 : decode zb_La_law 612 = .ok (.if_icmp .eq 248, 3) := by decide +kernel
theorem zd_La_law_615 : decode zb_La_law 615 = .ok (.iconst 0, 1) := by decide +kernel
theorem zd_La_law_616 : decode zb_La_law 616 = .ok (.ireturn, 1) := by decide +kernel
theorem zd_La_law_617 : decode zb_La_law 617 = .ok (.aload_n 1, 1) := by decide +kernel
theorem zd_La_law_618 : decode zb_La_law 618 = .ok (.aload_n 0, 1) := by decide +kernel
theorem zd_La_law_619 : decode zb_La_law 619 = .ok (.iload_n 3, 1) := by decide +kernel
theorem zd_La_law_620 : decode zb_La_law 620 = .ok (.iconst 1, 1) := by decide +kernel
theorem zd_La_law_621 : decode zb_La_law 621 = .ok (.iadd, 1) := by decide +kernel
theorem zd_La_law_622 : decode zb_La_law 622 = .ok (.iaload, 1) := by decide +kernel
theorem zd_La_law_623 : decode zb_La_law 623 = .ok (.aload_n 0, 1) := by decide +kernel
theorem zd_La_law_624 : decode zb_La_law 624 = .ok (.iload_n 3, 1) := by decide +kernel
theorem zd_La_law_625 : decode zb_La_law 625 = .ok (.iconst 2, 1) := by decide +kernel
theorem zd_La_law_626 : decode zb_La_law 626 = .ok (.iadd, 1) := by decide +kernel
theorem zd_La_law_627 : decode zb_La_law 627 = .ok (.iaload, 1) := by decide +kernel
theorem zd_La_law_628 : decode zb_La_law 628 = .ok (.aload_n 0, 1) := by decide +kernel
theorem zd_La_law_629 : decode zb_La_law 629 = .ok (.iload_n 3, 1) := by decide +kernel
theorem zd_La_law_630 : decode zb_La_law 630 = .ok (.iconst 3, 1) := by decide +kernel
theorem zd_La_law_631 : decode zb_La_law 631 = .ok (.iadd, 1) := by decide +kernel
theorem zd_La_law_632 : decode zb_La_law 632 = .ok (.iaload, 1) := by decide +kernel
theorem zd_La_law_633 : decode zb_La_law 633 = .ok (.aload_n 0, 1) := by decide +kernel
theorem zd_La_law_634 : decode zb_La_law 634 = .ok (.iload_n 3, 1) := by decide +kernel
theorem zd_La_law_635 : decode zb_La_law 635 = .ok (.iconst 4, 1) := by decide +kernel
theorem zd_La_law_636 : decode zb_La_law 636 = .ok (.iadd, 1) := by decide +kernel
theorem zd_La_law_637 : decode zb_La_law 637 = .ok (.iaload, 1) := by decide +kernel
theorem zd_La_law_638 : decode zb_La_law 638 = .ok (.invokevirtual 63, 3) := by decide +kernel
theorem zd_La_law_641 : decode zb_La_law 641 = .ok (.aload_n 2, 1) := by decide +kernel
theorem zd_La_law_642 : decode zb_La_law 642 = .ok (.aload_n 0, 1) := by decide +kernel
theorem zd_La_law_643 : decode zb_La_law 643 = .ok (.iload_n 3, 1) := by decide +kernel
theorem zd_La_law_644 : decode zb_La_law 644 = .ok (.iconst 1, 1) := by decide +kernel
theorem zd_La_law_645 : decode zb_La_law 645 = .ok (.iadd, 1) := by decide +kernel
theorem zd_La_law_646 : decode zb_La_law 646 = .ok (.iaload, 1) := by decide +kernel
theorem zd_La_law_647 : decode zb_La_law 647 = .ok (.aload_n 0, 1) := by decide +kernel
theorem zd_La_law_648 : decode zb_La_law 648 = .ok (.iload_n 3, 1) := by decide +kernel
theorem zd_La_law_649 : decode zb_La_law 649 = .ok (.iconst 2, 1) := by decide +kernel
theorem zd_La_law_650 : decode zb_La_law 650 = .ok (.iadd, 1) := by decide +kernel
theorem zd_La_law_651 : decode zb_La_law 651 = .ok (.iaload, 1) := by decide +kernel
theorem zd_La_law_652 : decode zb_La_law 652 = .ok (.aload_n 0, 1) := by decide +kernel
theorem zd_La_law_653 : decode zb_La_law 653 = .ok (.iload_n 3, 1) := by decide +kernel
theorem zd_La_law_654 : decode zb_La_law 654 = .ok (.iconst 3, 1) := by decide +kernel
theorem zd_La_law_655 : decode zb_La_law 655 = .ok (.iadd, 1) := by decide +kernel
theorem zd_La_law_656 : decode zb_La_law 656 = .ok (.iaload, 1) := by decide +kernel
theorem zd_La_law_657 : decode zb_La_law 657 = .ok (.aload_n 0, 1) := by decide +kernel
theorem zd_La_law_658 : decode zb_La_law 658 = .ok (.iload_n 3, 1) := by decide +kernel
theorem zd_La_law_659 : decode zb_La_law 659 = .ok (.iconst 4, 1) := by decide +kernel
theorem zd_La_law_660 : decode zb_La_law 660 = .ok (.iadd, 1) := by decide +kernel
theorem zd_La_law_661 : decode zb_La_law 661 = .ok (.iaload, 1) := by decide +kernel
theorem zd_La_law_662 : decode zb_La_law 662 = .ok (.invokevirtual 67, 3) := by decide +kernel
theorem zd_La_law_665 : decode zb_La_law 665 = .ok (.lcmp, 1) := by decide +kernel
theorem zd_La_law_666 : decode zb_La_law 666 = .ok (.ifCond .eq 194, 3) := by decide +kernel
theorem zd_La_law_669 : decode zb_La_law 669 = .ok (.iconst 0, 1) := by decide +kernel
theorem zd_La_law_670 : decode zb_La_law 670 = .ok (.ireturn, 1) := by decide +kernel
theorem zd_La_law_671 : decode zb_La_law 671 = .ok (.aload_n 1, 1) := by decide +kernel
theorem zd_La_law_672 : decode zb_La_law 672 = .ok (.aload_n 0, 1) := by decide +kernel
theorem zd_La_law_673 : decode zb_La_law 673 = .ok (.iload_n 3, 1) := by decide +kernel
theorem zd_La_law_674 : decode zb_La_law 674 = .ok (.iconst 1, 1) := by decide +kernel
theorem zd_La_law_675 : decode zb_La_law 675 = .ok (.iadd, 1) := by decide +kernel
theorem zd_La_law_676 : decode zb_La_law 676 = .ok (.iaload, 1) := by decide +kernel
theorem zd_La_law_677 : decode zb_La_law 677 = .ok (.invokevirtual 68, 3) := by decide +kernel
theorem zd_La_law_680 : decode zb_La_law 680 = .ok (.aload_n 2, 1) := by decide +kernel
theorem zd_La_law_681 : decode zb_La_law 681 = .ok (.aload_n 0, 1) := by decide +kernel
theorem zd_La_law_682 : decode zb_La_law 682 = .ok (.iload_n 3, 1) := by decide +kernel
theorem zd_La_law_683 : decode zb_La_law 683 = .ok (.iconst 1, 1) := by decide +kernel
theorem zd_La_law_684 : decode zb_La_law 684 = .ok (.iadd, 1) := by decide +kernel
theorem zd_La_law_685 : decode zb_La_law 685 = .ok (.iaload, 1) := by decide +kernel
theorem zd_La_law_686 : decode zb_La_law 686 = .ok (.invokevirtual 72, 3) := by decide +kernel
theorem zd_La_law_689 : decode zb_La_law 689 = .ok (.if_icmp .eq 171, 3) := by decide +kernel
theorem zd_La_law_692 : decode zb_La_law 692 = .ok (.iconst 0, 1) := by decide +kernel
theorem zd_La_law_693 : decode zb_La_law 693 = .ok (.ireturn, 1) := by decide +kernel
theorem zd_La_law_694 : decode zb_La_law 694 = .ok (.aload_n 1, 1) := by decide +kernel
theorem zd_La_law_695 : decode zb_La_law 695 = .ok (.invokevirtual 73, 3) := by decide +kernel
theorem zd_La_law_698 : decode zb_La_law 698 = .ok (.aload_n 2, 1) := by decide +kernel
theorem zd_La_law_699 : decode zb_La_law 699 = .ok (.invokevirtual 76, 3) := by decide +kernel
theorem zd_La_law_702 : decode zb_La_law 702 = .ok (.if_icmp .eq 158, 3) := by decide +kernel
theorem zd_La_law_705 : decode zb_La_law 705 = .ok (.iconst 0, 1) := by decide +kernel
theorem zd_La_law_706 : decode zb_La_law 706 = .ok (.ireturn, 1) := by decide +kernel
theorem zd_La_law_707 : decode zb_La_law 707 = .ok (.aload_n 1, 1) := by decide +kernel
theorem zd_La_law_708 : decode zb_La_law 708 = .ok (.aload_n 0, 1) := by decide +kernel
theorem zd_La_law_709 : decode zb_La_law 709 = .ok (.iload_n 3, 1) := by decide +kernel
theorem zd_La_law_710 : decode zb_La_law 710 = .ok (.iconst 1, 1) := by decide +kernel
theorem zd_La_law_711 : decode zb_La_law 711 = .ok (.iadd, 1) := by decide +kernel
theorem zd_La_law_712 : decode zb_La_law 712 = .ok (.iaload, 1) := by decide +kernel
theorem zd_La_law_713 : decode zb_La_law 713 = .ok (.invokevirtual 77, 3) := by decide +kernel
theorem zd_La_law_716 : decode zb_La_law 716 = .ok (.aload_n 2, 1) := by decide +kernel
theorem zd_La_law_717 : decode zb_La_law 717 = .ok (.aload_n 0, 1) := by decide +kernel
theorem zd_La_law_718 : decode zb_La_law 718 = .ok (.iload_n 3, 1) := by decide +kernel
theorem zd_La_law_719 : decode zb_La_law 719 = .ok (.iconst 1, 1) := by decide +kernel
theorem zd_La_law_720 : decode zb_La_law 720 = .ok (.iadd, 1) := by decide +kernel
theorem zd_La_law_721 : decode zb_La_law 721 = .ok (.iaload, 1) := by decide +kernel
theorem zd_La_law_722 : decode zb_La_law 722 = .ok (.invokevirtual 81, 3) := by decide +kernel
theorem zd_La_law_725 : decode zb_La_law 725 = .ok (.lcmp, 1) := by decide +kernel
theorem zd_La_law_726 : decode zb_La_law 726 = .ok (.ifCond .eq 134, 3) := by decide +kernel
theorem zd_La_law_729 : decode zb_La_law 729 = .ok (.iconst 0, 1) := by decide +kernel
theorem zd_La_law_730 : decode zb_La_law 730 = .ok (.ireturn, 1) := by decide +kernel
theorem zd_La_law_731 : decode zb_La_law 731 = .ok (.aload_n 1, 1) := by decide +kernel
theorem zd_La_law_732 : decode zb_La_law 732 = .ok (.aload_n 0, 1) := by decide +kernel
theorem zd_La_law_733 : decode zb_La_law 733 = .ok (.iload_n 3, 1) := by decide +kernel
theorem zd_La_law_734 : decode zb_La_law 734 = .ok (.iconst 1, 1) := by decide +kernel
theorem zd_La_law_735 : decode zb_La_law 735 = .ok (.iadd, 1) := by decide +kernel
theorem zd_La_law_736 : decode zb_La_law 736 = .ok (.iaload, 1) := by decide +kernel
theorem zd_La_law_737 : decode zb_La_law 737 = .ok (.aload_n 0, 1) := by decide +kernel
theorem zd_La_law_738 : decode zb_La_law 738 = .ok (.iload_n 3, 1) := by decide +kernel
theorem zd_La_law_739 : decode zb_La_law 739 = .ok (.iconst 2, 1) := by decide +kernel
theorem zd_La_law_740 : decode zb_La_law 740 = .ok (.iadd, 1) := by decide +kernel
theorem zd_La_law_741 : decode zb_La_law 741 = .ok (.iaload, 1) := by decide +kernel
theorem zd_La_law_742 : decode zb_La_law 742 = .ok (.invokevirtual 82, 3) := by decide +kernel
theorem zd_La_law_745 : decode zb_La_law 745 = .ok (.aload_n 2, 1) := by decide +kernel
theorem zd_La_law_746 : decode zb_La_law 746 = .ok (.aload_n 0, 1) := by decide +kernel
theorem zd_La_law_747 : decode zb_La_law 747 = .ok (.iload_n 3, 1) := by decide +kernel
theorem zd_La_law_748 : decode zb_La_law 748 = .ok (.iconst 1, 1) := by decide +kernel
theorem zd_La_law_749 : decode zb_La_law 749 = .ok (.iadd, 1) := by decide +kernel
theorem zd_La_law_750 : decode zb_La_law 750 = .ok (.iaload, 1) := by decide +kernel
theorem zd_La_law_751 : decode zb_La_law 751 = .ok (.aload_n 0, 1) := by decide +kernel
theorem zd_La_law_752 : decode zb_La_law 752 = .ok (.iload_n 3, 1) := by decide +kernel
theorem zd_La_law_753 : decode zb_La_law 753 = .ok (.iconst 2, 1) := by decide +kernel
theorem zd_La_law_754 : decode zb_La_law 754 = .ok (.iadd, 1) := by decide +kernel
theorem zd_La_law_755 : decode zb_La_law 755 = .ok (.iaload, 1) := by decide +kernel
theorem zd_La_law_756 : decode zb_La_law 756 = .ok (.invokevirtual 86, 3) := by decide +kernel
theorem zd_La_law_759 : decode zb_La_law 759 = .ok (.if_icmp .eq 101, 3) := by decide +kernel
theorem zd_La_law_762 : decode zb_La_law 762 = .ok (.iconst 0, 1) := by decide +kernel
theorem zd_La_law_763 : decode zb_La_law 763 = .ok (.ireturn, 1) := by decide +kernel
theorem zd_La_law_764 : decode zb_La_law 764 = .ok (.aload_n 1, 1) := by decide +kernel
theorem zd_La_law_765 : decode zb_La_law 765 = .ok (.aload_n 0, 1) := by decide +kernel
theorem zd_La_law_766 : decode zb_La_law 766 = .ok (.iload_n 3, 1) := by decide +kernel
theorem zd_La_law_767 : decode zb_La_law 767 = .ok (.iconst 1, 1) := by decide +kernel
theorem zd_La_law_768 : decode zb_La_law 768 = .ok (.iadd, 1) := by decide +kernel
theorem zd_La_law_769 : decode zb_La_law 769 = .ok (.iaload, 1) := by decide +kernel
theorem zd_La_law_770 : decode zb_La_law 770 = .ok (.aload_n 0, 1) := by decide +kernel
theorem zd_La_law_771 : decode zb_La_law 771 = .ok (.iload_n 3, 1) := by decide +kernel
theorem zd_La_law_772 : decode zb_La_law 772 = .ok (.iconst 2, 1) := by decide +kernel
theorem zd_La_law_773 : decode zb_La_law 773 = .ok (.iadd, 1) := by decide +kernel
theorem zd_La_law_774 : decode zb_La_law 774 = .ok (.iaload, 1) := by decide +kernel
theorem zd_La_law_775 : decode zb_La_law 775 = .ok (.i2l, 1) := by decide +kernel
theorem zd_La_law_776 : decode zb_La_law 776 = .ok (.bipush 32, 2) := by decide +kernel
theorem zd_La_law_778 : decode zb_La_law 778 = .ok (.lshl, 1) := by decide +kernel
theorem zd_La_law_779 : decode zb_La_law 779 = .ok (.aload_n 0, 1) := by decide +kernel
theorem zd_La_law_780 : decode zb_La_law 780 = .ok (.iload_n 3, 1) := by decide +kernel
theorem zd_La_law_781 : decode zb_La_law 781 = .ok (.iconst 3, 1) := by decide +kernel
theorem zd_La_law_782 : decode zb_La_law 782 = .ok (.iadd, 1) := by decide +kernel
theorem zd_La_law_783 : decode zb_La_law 783 = .ok (.iaload, 1) := by decide +kernel
theorem zd_La_law_784 : decode zb_La_law 784 = .ok (.i2l, 1) := by decide +kernel
theorem zd_La_law_785 : decode zb_La_law 785 = .ok (.ldc2_w 18, 3) := by decide +kernel
theorem zd_La_law_788 : decode zb_La_law 788 = .ok (.land, 1) := by decide +kernel
theorem zd_La_law_789 : decode zb_La_law 789 = .ok (.lor, 1) := by decide +kernel
theorem zd_La_law_790 : decode zb_La_law 790 = .ok (.aload_n 0, 1) := by decide +kernel
theorem zd_La_law_791 : decode zb_La_law 791 = .ok (.iload_n 3, 1) := by decide +kernel
theorem zd_La_law_792 : decode zb_La_law 792 = .ok (.iconst 4, 1) := by decide +kernel
theorem zd_La_law_793 : decode zb_La_law 793 = .ok (.iadd, 1) := by decide +kernel
theorem zd_La_law_794 : decode zb_La_law 794 = .ok (.iaload, 1) := by decide +kernel
theorem zd_La_law_795 : decode zb_La_law 795 = .ok (.invokevirtual 87, 3) := by decide +kernel
theorem zd_La_law_798 : decode zb_La_law 798 = .ok (.aload_n 2, 1) := by decide +kernel
theorem zd_La_law_799 : decode zb_La_law 799 = .ok (.aload_n 0, 1) := by decide +kernel
theorem zd_La_law_800 : decode zb_La_law 800 = .ok (.iload_n 3, 1) := by decide +kernel
theorem zd_La_law_801 : decode zb_La_law 801 = .ok (.iconst 1, 1) := by decide +kernel
theorem zd_La_law_802 : decode zb_La_law 802 = .ok (.iadd, 1) := by decide +kernel
theorem zd_La_law_803 : decode zb_La_law 803 = .ok (.iaload, 1) := by decide +kernel
theorem zd_La_law_804 : decode zb_La_law 804 = .ok (.aload_n 0, 1) := by decide +kernel
theorem zd_La_law_805 : decode zb_La_law 805 = .ok (.iload_n 3, 1) := by decide +kernel
theorem zd_La_law_806 : decode zb_La_law 806 = .ok (.iconst 2, 1) := by decide +kernel
theorem zd_La_law_807 : decode zb_La_law 807 = .ok (.iadd, 1) := by decide +kernel
theorem zd_La_law_808 : decode zb_La_law 808 = .ok (.iaload, 1) := by decide +kernel
theorem zd_La_law_809 : decode zb_La_law 809 = .ok (.i2l, 1) := by decide +kernel
theorem zd_La_law_810 : decode zb_La_law 810 = .ok (.bipush 32, 2) := by decide +kernel
theorem zd_La_law_812 : decode zb_La_law 812 = .ok (.lshl, 1) := by decide +kernel
theorem zd_La_law_813 : decode zb_La_law 813 = .ok (.aload_n 0, 1) := by decide +kernel
theorem zd_La_law_814 : decode zb_La_law 814 = .ok (.iload_n 3, 1) := by decide +kernel
theorem zd_La_law_815 : decode zb_La_law 815 = .ok (.iconst 3, 1) := by decide +kernel
theorem zd_La_law_816 : decode zb_La_law 816 = .ok (.iadd, 1) := by decide +kernel
theorem zd_La_law_817 : decode zb_La_law 817 = .ok (.iaload, 1) := by decide +kernel
theorem zd_La_law_818 : decode zb_La_law 818 = .ok (.i2l, 1) := by decide +kernel
theorem zd_La_law_819 : decode zb_La_law 819 = .ok (.ldc2_w 18, 3) := by decide +kernel
theorem zd_La_law_822 : decode zb_La_law 822 = .ok (.land, 1) := by decide +kernel
theorem zd_La_law_823 : decode zb_La_law 823 = .ok (.lor, 1) := by decide +kernel
theorem zd_La_law_824 : decode zb_La_law 824 = .ok (.aload_n 0, 1) := by decide +kernel
theorem zd_La_law_825 : decode zb_La_law 825 = .ok (.iload_n 3, 1) := by decide +kernel
theorem zd_La_law_826 : decode zb_La_law 826 = .ok (.iconst 4, 1) := by decide +kernel
theorem zd_La_law_827 : decode zb_La_law 827 = .ok (.iadd, 1) := by decide +kernel
theorem zd_La_law_828 : decode zb_La_law 828 = .ok (.iaload, 1) := by decide +kernel
theorem zd_La_law_829 : decode zb_La_law 829 = .ok (.invokevirtual 91, 3) := by decide +kernel
theorem zd_La_law_832 : decode zb_La_law 832 = .ok (.if_icmp .eq 28, 3) := by decide +kernel
theorem zd_La_law_835 : decode zb_La_law 835 = .ok (.iconst 0, 1) := by decide +kernel
theorem zd_La_law_836 : decode zb_La_law 836 = .ok (.ireturn, 1) := by decide +kernel
theorem zd_La_law_837 : decode zb_La_law 837 = .ok (.aload_n 1, 1) := by decide +kernel
theorem zd_La_law_838 : decode zb_La_law 838 = .ok (.aload_n 0, 1) := by decide +kernel
theorem zd_La_law_839 : decode zb_La_law 839 = .ok (.iload_n 3, 1) := by decide +kernel
theorem zd_La_law_840 : decode zb_La_law 840 = .ok (.iconst 1, 1) := by decide +kernel
theorem zd_La_law_841 : decode zb_La_law 841 = .ok (.iadd, 1) := by decide +kernel
theorem zd_La_law_842 : decode zb_La_law 842 = .ok (.iaload, 1) := by decide +kernel
theorem zd_La_law_843 : decode zb_La_law 843 = .ok (.invokevirtual 92, 3) := by decide +kernel
theorem zd_La_law_846 : decode zb_La_law 846 = .ok (.aload_n 2, 1) := by decide +kernel
theorem zd_La_law_847 : decode zb_La_law 847 = .ok (.aload_n 0, 1) := by decide +kernel
theorem zd_La_law_848 : decode zb_La_law 848 = .ok (.iload_n 3, 1) := by decide +kernel
theorem zd_La_law_849 : decode zb_La_law 849 = .ok (.iconst 1, 1) := by decide +kernel
theorem zd_La_law_850 : decode zb_La_law 850 = .ok (.iadd, 1) := by decide +kernel
theorem zd_La_law_851 : decode zb_La_law 851 = .ok (.iaload, 1) := by decide +kernel
theorem zd_La_law_852 : decode zb_La_law 852 = .ok (.invokevirtual 95, 3) := by decide +kernel
theorem zd_La_law_855 : decode zb_La_law 855 = .ok (.if_icmp .eq 5, 3) := by decide +kernel
theorem zd_La_law_858 : decode zb_La_law 858 = .ok (.iconst 0, 1) := by decide +kernel
theorem zd_La_law_859 : decode zb_La_law 859 = .ok (.ireturn, 1) := by decide +kernel
theorem zd_La_law_860 : decode zb_La_law 860 = .ok (.iinc 3 7, 3) := by decide +kernel
theorem zd_La_law_863 : decode zb_La_law 863 = .ok (.goto (-845), 3) := by decide +kernel
theorem zd_La_law_866 : decode zb_La_law 866 = .ok (.iconst 1, 1) := by decide +kernel
theorem zd_La_law_867 : decode zb_La_law 867 = .ok (.ireturn, 1) := by decide +kernel
