section
-- ===== PART A: goes FIRST, ahead of the names: the tables' words, and 'selects' of the private methods out of them =====
/-- a private method of a class that the tables say can be made, by its rows of tables_1 -/
def lw_okq (q : MethodName × Nat) : Prop := (q.1.cls ≠ "java/lang/invoke/MethodHandle" ∧ q.1.cls ≠ "java/lang/invoke/VarHandle") ∧ Cond.instantiable q.1.cls q.2 ∈ tables_1 ∧ Cond.privateMethod q.1 ∈ tables_1 ∧ Cond.instanceMethod q.1 ∈ tables_1
theorem lw_p0 : lw_okq (⟨"MaterialPassports", "isGood", "(I)Z"⟩, 7) := ⟨⟨by decide +kernel, by decide +kernel⟩, List.mem_of_getElem? (i := 11) (by decide +kernel), List.mem_of_getElem? (i := 163) (by decide +kernel), List.mem_of_getElem? (i := 164) (by decide +kernel)⟩
theorem lw_p1 : lw_okq (⟨"MaterialPassports$Nesting", "countWithin", "(LMaterialPassports$Parts;I)V"⟩, 3) := ⟨⟨by decide +kernel, by decide +kernel⟩, List.mem_of_getElem? (i := 82) (by decide +kernel), List.mem_of_getElem? (i := 194) (by decide +kernel), List.mem_of_getElem? (i := 195) (by decide +kernel)⟩
theorem lw_p2 : lw_okq (⟨"MaterialPassports$Nesting", "goDeeper", "(LMaterialPassports$Parts;)V"⟩, 3) := ⟨⟨by decide +kernel, by decide +kernel⟩, List.mem_of_getElem? (i := 82) (by decide +kernel), List.mem_of_getElem? (i := 201) (by decide +kernel), List.mem_of_getElem? (i := 202) (by decide +kernel)⟩
theorem lw_p3 : lw_okq (⟨"MaterialPassports$Nesting", "sumByTimes", "(LMaterialPassports$Parts;J[J)V"⟩, 3) := ⟨⟨by decide +kernel, by decide +kernel⟩, List.mem_of_getElem? (i := 82) (by decide +kernel), List.mem_of_getElem? (i := 239) (by decide +kernel), List.mem_of_getElem? (i := 240) (by decide +kernel)⟩
theorem lw_p4 : lw_okq (⟨"MaterialPassports$Formula", "wordAt", "(II)I"⟩, 8) := ⟨⟨by decide +kernel, by decide +kernel⟩, List.mem_of_getElem? (i := 98) (by decide +kernel), List.mem_of_getElem? (i := 310) (by decide +kernel), List.mem_of_getElem? (i := 311) (by decide +kernel)⟩
theorem lw_p5 : lw_okq (⟨"MaterialPassports$Formula", "numberAt", "(II)I"⟩, 8) := ⟨⟨by decide +kernel, by decide +kernel⟩, List.mem_of_getElem? (i := 98) (by decide +kernel), List.mem_of_getElem? (i := 317) (by decide +kernel), List.mem_of_getElem? (i := 318) (by decide +kernel)⟩
theorem lw_p6 : lw_okq (⟨"MaterialPassports$Formula", "takeWord", "(I)Z"⟩, 8) := ⟨⟨by decide +kernel, by decide +kernel⟩, List.mem_of_getElem? (i := 98) (by decide +kernel), List.mem_of_getElem? (i := 331) (by decide +kernel), List.mem_of_getElem? (i := 332) (by decide +kernel)⟩
theorem lw_p7 : lw_okq (⟨"MaterialPassports", "valueFor", "(I)J"⟩, 7) := ⟨⟨by decide +kernel, by decide +kernel⟩, List.mem_of_getElem? (i := 11) (by decide +kernel), List.mem_of_getElem? (i := 350) (by decide +kernel), List.mem_of_getElem? (i := 351) (by decide +kernel)⟩
theorem lw_p8 : lw_okq (⟨"MaterialPassports", "kindsAhead", "(I)I"⟩, 7) := ⟨⟨by decide +kernel, by decide +kernel⟩, List.mem_of_getElem? (i := 11) (by decide +kernel), List.mem_of_getElem? (i := 410) (by decide +kernel), List.mem_of_getElem? (i := 411) (by decide +kernel)⟩
theorem lw_p9 : lw_okq (⟨"MaterialPassportsModel", "isGood", "(I)Z"⟩, 24) := ⟨⟨by decide +kernel, by decide +kernel⟩, List.mem_of_getElem? (i := 414) (by decide +kernel), List.mem_of_getElem? (i := 501) (by decide +kernel), List.mem_of_getElem? (i := 502) (by decide +kernel)⟩
theorem lw_p10 : lw_okq (⟨"MaterialPassportsModel", "isPart", "(I)Z"⟩, 24) := ⟨⟨by decide +kernel, by decide +kernel⟩, List.mem_of_getElem? (i := 414) (by decide +kernel), List.mem_of_getElem? (i := 517) (by decide +kernel), List.mem_of_getElem? (i := 518) (by decide +kernel)⟩
theorem lw_p11 : lw_okq (⟨"MaterialPassportsModel", "inside", "(I)I"⟩, 24) := ⟨⟨by decide +kernel, by decide +kernel⟩, List.mem_of_getElem? (i := 414) (by decide +kernel), List.mem_of_getElem? (i := 521) (by decide +kernel), List.mem_of_getElem? (i := 522) (by decide +kernel)⟩
theorem lw_p12 : lw_okq (⟨"MaterialPassportsModel", "add", "(IJIJ)V"⟩, 24) := ⟨⟨by decide +kernel, by decide +kernel⟩, List.mem_of_getElem? (i := 414) (by decide +kernel), List.mem_of_getElem? (i := 534) (by decide +kernel), List.mem_of_getElem? (i := 535) (by decide +kernel)⟩
theorem lw_p13 : lw_okq (⟨"MaterialPassportsModel", "sum", "(IJ)V"⟩, 24) := ⟨⟨by decide +kernel, by decide +kernel⟩, List.mem_of_getElem? (i := 414) (by decide +kernel), List.mem_of_getElem? (i := 547) (by decide +kernel), List.mem_of_getElem? (i := 548) (by decide +kernel)⟩
theorem lw_p14 : lw_okq (⟨"MaterialPassportsModel", "kindOn", "(IJ)I"⟩, 24) := ⟨⟨by decide +kernel, by decide +kernel⟩, List.mem_of_getElem? (i := 414) (by decide +kernel), List.mem_of_getElem? (i := 551) (by decide +kernel), List.mem_of_getElem? (i := 552) (by decide +kernel)⟩
theorem lw_p15 : lw_okq (⟨"MaterialPassportsModel", "changeOf", "(IJ)I"⟩, 24) := ⟨⟨by decide +kernel, by decide +kernel⟩, List.mem_of_getElem? (i := 414) (by decide +kernel), List.mem_of_getElem? (i := 555) (by decide +kernel), List.mem_of_getElem? (i := 556) (by decide +kernel)⟩
def lw_privs_1 : List (MethodName × Nat) := [(⟨"MaterialPassports", "isGood", "(I)Z"⟩, 7), (⟨"MaterialPassports$Nesting", "countWithin", "(LMaterialPassports$Parts;I)V"⟩, 3), (⟨"MaterialPassports$Nesting", "goDeeper", "(LMaterialPassports$Parts;)V"⟩, 3), (⟨"MaterialPassports$Nesting", "sumByTimes", "(LMaterialPassports$Parts;J[J)V"⟩, 3), (⟨"MaterialPassports$Formula", "wordAt", "(II)I"⟩, 8), (⟨"MaterialPassports$Formula", "numberAt", "(II)I"⟩, 8), (⟨"MaterialPassports$Formula", "takeWord", "(I)Z"⟩, 8), (⟨"MaterialPassports", "valueFor", "(I)J"⟩, 7), (⟨"MaterialPassports", "kindsAhead", "(I)I"⟩, 7), (⟨"MaterialPassportsModel", "isGood", "(I)Z"⟩, 24), (⟨"MaterialPassportsModel", "isPart", "(I)Z"⟩, 24), (⟨"MaterialPassportsModel", "inside", "(I)I"⟩, 24), (⟨"MaterialPassportsModel", "add", "(IJIJ)V"⟩, 24), (⟨"MaterialPassportsModel", "sum", "(IJ)V"⟩, 24), (⟨"MaterialPassportsModel", "kindOn", "(IJ)I"⟩, 24), (⟨"MaterialPassportsModel", "changeOf", "(IJ)I"⟩, 24)]
theorem lw_r1 : ∀ q ∈ lw_privs_1, lw_okq q := List.forall_mem_cons.mpr ⟨lw_p0, List.forall_mem_cons.mpr ⟨lw_p1, List.forall_mem_cons.mpr ⟨lw_p2, List.forall_mem_cons.mpr ⟨lw_p3, List.forall_mem_cons.mpr ⟨lw_p4, List.forall_mem_cons.mpr ⟨lw_p5, List.forall_mem_cons.mpr ⟨lw_p6, List.forall_mem_cons.mpr ⟨lw_p7, List.forall_mem_cons.mpr ⟨lw_p8, List.forall_mem_cons.mpr ⟨lw_p9, List.forall_mem_cons.mpr ⟨lw_p10, List.forall_mem_cons.mpr ⟨lw_p11, List.forall_mem_cons.mpr ⟨lw_p12, List.forall_mem_cons.mpr ⟨lw_p13, List.forall_mem_cons.mpr ⟨lw_p14, List.forall_mem_cons.mpr ⟨lw_p15, fun _ h => absurd h List.not_mem_nil⟩⟩⟩⟩⟩⟩⟩⟩⟩⟩⟩⟩⟩⟩⟩⟩
theorem lw_p16 : lw_okq (⟨"MaterialPassportsModel", "gramsOn", "(IJ)J"⟩, 24) := ⟨⟨by decide +kernel, by decide +kernel⟩, List.mem_of_getElem? (i := 414) (by decide +kernel), List.mem_of_getElem? (i := 559) (by decide +kernel), List.mem_of_getElem? (i := 560) (by decide +kernel)⟩
theorem lw_p17 : lw_okq (⟨"MaterialPassportsModel", "partOf", "(II)I"⟩, 24) := ⟨⟨by decide +kernel, by decide +kernel⟩, List.mem_of_getElem? (i := 414) (by decide +kernel), List.mem_of_getElem? (i := 582) (by decide +kernel), List.mem_of_getElem? (i := 583) (by decide +kernel)⟩
theorem lw_p18 : lw_okq (⟨"MaterialPassportsModel", "wordAt", "(II)I"⟩, 24) := ⟨⟨by decide +kernel, by decide +kernel⟩, List.mem_of_getElem? (i := 414) (by decide +kernel), List.mem_of_getElem? (i := 599) (by decide +kernel), List.mem_of_getElem? (i := 600) (by decide +kernel)⟩
theorem lw_p19 : lw_okq (⟨"MaterialPassportsModel", "is", "(IIII)Z"⟩, 24) := ⟨⟨by decide +kernel, by decide +kernel⟩, List.mem_of_getElem? (i := 414) (by decide +kernel), List.mem_of_getElem? (i := 603) (by decide +kernel), List.mem_of_getElem? (i := 604) (by decide +kernel)⟩
theorem lw_p20 : lw_okq (⟨"MaterialPassportsModel", "valueOf", "(I)J"⟩, 24) := ⟨⟨by decide +kernel, by decide +kernel⟩, List.mem_of_getElem? (i := 414) (by decide +kernel), List.mem_of_getElem? (i := 614) (by decide +kernel), List.mem_of_getElem? (i := 615) (by decide +kernel)⟩
theorem lw_p21 : lw_okq (⟨"MaterialPassportsModel", "countOf", "(I)J"⟩, 24) := ⟨⟨by decide +kernel, by decide +kernel⟩, List.mem_of_getElem? (i := 414) (by decide +kernel), List.mem_of_getElem? (i := 629) (by decide +kernel), List.mem_of_getElem? (i := 630) (by decide +kernel)⟩
theorem lw_p22 : lw_okq (⟨"MaterialPassportsModel", "shareOf", "(II)J"⟩, 24) := ⟨⟨by decide +kernel, by decide +kernel⟩, List.mem_of_getElem? (i := 414) (by decide +kernel), List.mem_of_getElem? (i := 633) (by decide +kernel), List.mem_of_getElem? (i := 634) (by decide +kernel)⟩
theorem lw_p23 : lw_okq (⟨"MaterialPassportsModel", "allOf", "(I)J"⟩, 24) := ⟨⟨by decide +kernel, by decide +kernel⟩, List.mem_of_getElem? (i := 414) (by decide +kernel), List.mem_of_getElem? (i := 652) (by decide +kernel), List.mem_of_getElem? (i := 653) (by decide +kernel)⟩
def lw_privs_2 : List (MethodName × Nat) := [(⟨"MaterialPassportsModel", "gramsOn", "(IJ)J"⟩, 24), (⟨"MaterialPassportsModel", "partOf", "(II)I"⟩, 24), (⟨"MaterialPassportsModel", "wordAt", "(II)I"⟩, 24), (⟨"MaterialPassportsModel", "is", "(IIII)Z"⟩, 24), (⟨"MaterialPassportsModel", "valueOf", "(I)J"⟩, 24), (⟨"MaterialPassportsModel", "countOf", "(I)J"⟩, 24), (⟨"MaterialPassportsModel", "shareOf", "(II)J"⟩, 24), (⟨"MaterialPassportsModel", "allOf", "(I)J"⟩, 24)]
theorem lw_r2 : ∀ q ∈ lw_privs_2, lw_okq q := List.forall_mem_cons.mpr ⟨lw_p16, List.forall_mem_cons.mpr ⟨lw_p17, List.forall_mem_cons.mpr ⟨lw_p18, List.forall_mem_cons.mpr ⟨lw_p19, List.forall_mem_cons.mpr ⟨lw_p20, List.forall_mem_cons.mpr ⟨lw_p21, List.forall_mem_cons.mpr ⟨lw_p22, List.forall_mem_cons.mpr ⟨lw_p23, fun _ h => absurd h List.not_mem_nil⟩⟩⟩⟩⟩⟩⟩⟩
def lw_privs : List (MethodName × Nat) := lw_privs_1 ++ (lw_privs_2)
def lw_tbl : List Cond := k2_sels lw_privs ++ tables_1
theorem lw_privs_ok : ∀ q ∈ lw_privs, lw_okq q := by
  show ∀ q ∈ lw_privs_1 ++ (lw_privs_2), lw_okq q
  exact List.forall_mem_append.mpr ⟨lw_r1, lw_r2⟩
end
section
/-- the tables' words that a callee may take over -/
def mp_tbl : List Cond := lw_tbl.filter goodWord
def zR_Ch : String := "MaterialPassports$Changes"
def zR_Fo : String := "MaterialPassports$Formula"
def zR_Ne : String := "MaterialPassports$Nesting"
def zR_Pa : String := "MaterialPassports$Parts"
def zR_MP : String := "MaterialPassports"
def zR_Mo : String := "MaterialPassportsModel"
def zR_La : String := "MaterialPassportsLaw"
def zR_Ja : String := "java/util/Arrays"
def zR_Jm : String := "java/lang/Math"
def zR_Js : String := "java/lang/System"
def zT_Ch : u_T := fun k => match k with
  | 0 => ("MaterialPassports$Changes", "changedParts", "[I", true)
  | 1 => ("MaterialPassports$Changes", "days", "[J", true)
  | 2 => ("MaterialPassports$Changes", "kinds", "[I", true)
  | 3 => ("MaterialPassports$Changes", "grams", "[J", true)
  | _ => ("MaterialPassports$Changes", "count", "I", false)
def zt_Ch : Nat → FieldType := fun k => match k with
  | 0 => .array .int
  | 1 => .array .long
  | 2 => .array .int
  | 3 => .array .long
  | _ => .int
theorem zn_Ch : ∀ a, a < 5 → ∀ b, b < 5 → a ≠ b → (zT_Ch a).2.1 ≠ (zT_Ch b).2.1 := by decide +kernel
theorem zt_Ch_ok : ∀ k, k < 5 → parseFieldDescriptor (zT_Ch k).2.2.1 = some (zt_Ch k) := by decide +kernel
theorem zi_Ch : ∀ w ∈ u_ws zR_Ch zT_Ch 5, w ∈ mp_tbl := by decide +kernel
def zT_Fo : u_T := fun k => match k with
  | 0 => ("MaterialPassports$Formula", "text", "[I", true)
  | 1 => ("MaterialPassports$Formula", "readWords", "[I", true)
  | 2 => ("MaterialPassports$Formula", "words", "[I", true)
  | 3 => ("MaterialPassports$Formula", "stack", "[J", true)
  | 4 => ("MaterialPassports$Formula", "textLength", "I", false)
  | 5 => ("MaterialPassports$Formula", "readCount", "I", false)
  | 6 => ("MaterialPassports$Formula", "readDepth", "I", false)
  | _ => ("MaterialPassports$Formula", "wordCount", "I", false)
def zt_Fo : Nat → FieldType := fun k => match k with
  | 0 => .array .int
  | 1 => .array .int
  | 2 => .array .int
  | 3 => .array .long
  | 4 => .int
  | 5 => .int
  | 6 => .int
  | _ => .int
theorem zn_Fo : ∀ a, a < 8 → ∀ b, b < 8 → a ≠ b → (zT_Fo a).2.1 ≠ (zT_Fo b).2.1 := by decide +kernel
theorem zt_Fo_ok : ∀ k, k < 8 → parseFieldDescriptor (zT_Fo k).2.2.1 = some (zt_Fo k) := by decide +kernel
theorem zi_Fo : ∀ w ∈ u_ws zR_Fo zT_Fo 8, w ∈ mp_tbl := by decide +kernel
def zT_Ne : u_T := fun k => match k with
  | 0 => ("MaterialPassports$Nesting", "times", "[J", true)
  | 1 => ("MaterialPassports$Nesting", "layer", "[J", true)
  | _ => ("MaterialPassports$Nesting", "deeper", "[J", true)
def zt_Ne : Nat → FieldType := fun k => match k with
  | 0 => .array .long
  | 1 => .array .long
  | _ => .array .long
theorem zn_Ne : ∀ a, a < 3 → ∀ b, b < 3 → a ≠ b → (zT_Ne a).2.1 ≠ (zT_Ne b).2.1 := by decide +kernel
theorem zt_Ne_ok : ∀ k, k < 3 → parseFieldDescriptor (zT_Ne k).2.2.1 = some (zt_Ne k) := by decide +kernel
theorem zi_Ne : ∀ w ∈ u_ws zR_Ne zT_Ne 3, w ∈ mp_tbl := by decide +kernel
def zT_Pa : u_T := fun k => match k with
  | 0 => ("MaterialPassports$Parts", "owners", "[I", true)
  | 1 => ("MaterialPassports$Parts", "kinds", "[I", true)
  | 2 => ("MaterialPassports$Parts", "grams", "[J", true)
  | 3 => ("MaterialPassports$Parts", "lives", "[I", true)
  | 4 => ("MaterialPassports$Parts", "inners", "[I", true)
  | 5 => ("MaterialPassports$Parts", "changes", "LMaterialPassports$Changes;", true)
  | _ => ("MaterialPassports$Parts", "count", "I", false)
def zt_Pa : Nat → FieldType := fun k => match k with
  | 0 => .array .int
  | 1 => .array .int
  | 2 => .array .long
  | 3 => .array .int
  | 4 => .array .int
  | 5 => .object "MaterialPassports$Changes"
  | _ => .int
theorem zn_Pa : ∀ a, a < 7 → ∀ b, b < 7 → a ≠ b → (zT_Pa a).2.1 ≠ (zT_Pa b).2.1 := by decide +kernel
theorem zt_Pa_ok : ∀ k, k < 7 → parseFieldDescriptor (zT_Pa k).2.2.1 = some (zt_Pa k) := by decide +kernel
theorem zi_Pa : ∀ w ∈ u_ws zR_Pa zT_Pa 7, w ∈ mp_tbl := by decide +kernel
def zT_MP : u_T := fun k => match k with
  | 0 => ("MaterialPassports", "versions", "[I", true)
  | 1 => ("MaterialPassports", "rights", "[Z", true)
  | 2 => ("MaterialPassports", "parts", "LMaterialPassports$Parts;", true)
  | 3 => ("MaterialPassports", "nesting", "LMaterialPassports$Nesting;", true)
  | 4 => ("MaterialPassports", "formula", "LMaterialPassports$Formula;", true)
  | 5 => ("MaterialPassports", "sums", "[J", true)
  | _ => ("MaterialPassports", "goodCount", "I", false)
def zt_MP : Nat → FieldType := fun k => match k with
  | 0 => .array .int
  | 1 => .array .boolean
  | 2 => .object "MaterialPassports$Parts"
  | 3 => .object "MaterialPassports$Nesting"
  | 4 => .object "MaterialPassports$Formula"
  | 5 => .array .long
  | _ => .int
theorem zn_MP : ∀ a, a < 7 → ∀ b, b < 7 → a ≠ b → (zT_MP a).2.1 ≠ (zT_MP b).2.1 := by decide +kernel
theorem zt_MP_ok : ∀ k, k < 7 → parseFieldDescriptor (zT_MP k).2.2.1 = some (zt_MP k) := by decide +kernel
theorem zi_MP : ∀ w ∈ u_ws zR_MP zT_MP 7, w ∈ mp_tbl := by decide +kernel
def zT_Mo : u_T := fun k => match k with
  | 0 => ("MaterialPassportsModel", "goods", "I", false)
  | 1 => ("MaterialPassportsModel", "versions", "[I", true)
  | 2 => ("MaterialPassportsModel", "parts", "I", false)
  | 3 => ("MaterialPassportsModel", "homes", "[I", true)
  | 4 => ("MaterialPassportsModel", "kinds", "[I", true)
  | 5 => ("MaterialPassportsModel", "grams", "[J", true)
  | 6 => ("MaterialPassportsModel", "lives", "[I", true)
  | 7 => ("MaterialPassportsModel", "inners", "[I", true)
  | 8 => ("MaterialPassportsModel", "changes", "I", false)
  | 9 => ("MaterialPassportsModel", "changeParts", "[I", true)
  | 10 => ("MaterialPassportsModel", "changeDays", "[J", true)
  | 11 => ("MaterialPassportsModel", "changeKinds", "[I", true)
  | 12 => ("MaterialPassportsModel", "changeGrams", "[J", true)
  | 13 => ("MaterialPassportsModel", "rights", "[Z", true)
  | 14 => ("MaterialPassportsModel", "text", "[I", true)
  | 15 => ("MaterialPassportsModel", "size", "I", false)
  | 16 => ("MaterialPassportsModel", "words", "[I", true)
  | 17 => ("MaterialPassportsModel", "wordCount", "I", false)
  | 18 => ("MaterialPassportsModel", "hasFormula", "Z", false)
  | 19 => ("MaterialPassportsModel", "newWords", "[I", true)
  | 20 => ("MaterialPassportsModel", "stack", "[J", true)
  | 21 => ("MaterialPassportsModel", "own", "[J", true)
  | 22 => ("MaterialPassportsModel", "sums", "[J", true)
  | _ => ("MaterialPassportsModel", "next", "[J", true)
def zt_Mo : Nat → FieldType := fun k => match k with
  | 0 => .int
  | 1 => .array .int
  | 2 => .int
  | 3 => .array .int
  | 4 => .array .int
  | 5 => .array .long
  | 6 => .array .int
  | 7 => .array .int
  | 8 => .int
  | 9 => .array .int
  | 10 => .array .long
  | 11 => .array .int
  | 12 => .array .long
  | 13 => .array .boolean
  | 14 => .array .int
  | 15 => .int
  | 16 => .array .int
  | 17 => .int
  | 18 => .boolean
  | 19 => .array .int
  | 20 => .array .long
  | 21 => .array .long
  | 22 => .array .long
  | _ => .array .long
theorem zn_Mo : ∀ a, a < 24 → ∀ b, b < 24 → a ≠ b → (zT_Mo a).2.1 ≠ (zT_Mo b).2.1 := by decide +kernel
theorem zt_Mo_ok : ∀ k, k < 24 → parseFieldDescriptor (zT_Mo k).2.2.1 = some (zt_Mo k) := by decide +kernel
theorem zi_Mo : ∀ w ∈ u_ws zR_Mo zT_Mo 24, w ∈ mp_tbl := by decide +kernel
abbrev vwCl : List vw_C := [(zR_Ch, zT_Ch, 5), (zR_Fo, zT_Fo, 8), (zR_Ne, zT_Ne, 3), (zR_Pa, zT_Pa, 7), (zR_MP, zT_MP, 7), (zR_Mo, zT_Mo, 24)]
abbrev zb_Ch_add : ByteArray := prog_2_method_3_code
def zy_Ch_add : MethodName := ⟨zR_Ch, "add", "(IJIJ)V"⟩
def zw_Ch_add : List Cond := .code zy_Ch_add zb_Ch_add 7 none :: mp_tbl
abbrev zb_Ch_countingOn : ByteArray := prog_2_method_5_code
def zy_Ch_countingOn : MethodName := ⟨zR_Ch, "countingOn", "(IJ)I"⟩
def zw_Ch_countingOn : List Cond := .code zy_Ch_countingOn zb_Ch_countingOn 6 (some .int) :: mp_tbl
abbrev zb_Ch_dropLast : ByteArray := prog_2_method_4_code
def zy_Ch_dropLast : MethodName := ⟨zR_Ch, "dropLast", "()V"⟩
def zw_Ch_dropLast : List Cond := .code zy_Ch_dropLast zb_Ch_dropLast 1 none :: mp_tbl
abbrev zb_Ch_init : ByteArray := prog_2_method_1_code
def zy_Ch_init : MethodName := ⟨zR_Ch, "<init>", "()V"⟩
def zw_Ch_init : List Cond := .code zy_Ch_init zb_Ch_init 1 none :: mp_tbl
abbrev zb_Ch_isFull : ByteArray := prog_2_method_2_code
def zy_Ch_isFull : MethodName := ⟨zR_Ch, "isFull", "()Z"⟩
def zw_Ch_isFull : List Cond := .code zy_Ch_isFull zb_Ch_isFull 1 (some .boolean) :: mp_tbl
abbrev zb_Fo_addByte : ByteArray := prog_3_method_3_code
def zy_Fo_addByte : MethodName := ⟨zR_Fo, "addByte", "(I)Z"⟩
def zw_Fo_addByte : List Cond := .code zy_Fo_addByte zb_Fo_addByte 2 (some .boolean) :: mp_tbl
abbrev zb_Fo_boundOf : ByteArray := prog_3_method_10_code
def zy_Fo_boundOf : MethodName := ⟨zR_Fo, "boundOf", "(II)I"⟩
def zw_Fo_boundOf : List Cond := .code zy_Fo_boundOf zb_Fo_boundOf 2 (some .int) :: mp_tbl
abbrev zb_Fo_cut : ByteArray := prog_3_method_18_code
def zy_Fo_cut : MethodName := ⟨zR_Fo, "cut", "(J)J"⟩
def zw_Fo_cut : List Cond := .code zy_Fo_cut zb_Fo_cut 2 (some .long) :: mp_tbl
abbrev zb_Fo_cutProduct : ByteArray := prog_3_method_19_code
def zy_Fo_cutProduct : MethodName := ⟨zR_Fo, "cutProduct", "(JJ)J"⟩
def zw_Fo_cutProduct : List Cond := .code zy_Fo_cutProduct zb_Fo_cutProduct 4 (some .long) :: mp_tbl
abbrev zb_Fo_init : ByteArray := prog_3_method_1_code
def zy_Fo_init : MethodName := ⟨zR_Fo, "<init>", "()V"⟩
def zw_Fo_init : List Cond := .code zy_Fo_init zb_Fo_init 1 none :: mp_tbl
abbrev zb_Fo_isDigit : ByteArray := prog_3_method_12_code
def zy_Fo_isDigit : MethodName := ⟨zR_Fo, "isDigit", "(I)Z"⟩
def zw_Fo_isDigit : List Cond := .code zy_Fo_isDigit zb_Fo_isDigit 1 (some .boolean) :: mp_tbl
abbrev zb_Fo_isGap : ByteArray := prog_3_method_11_code
def zy_Fo_isGap : MethodName := ⟨zR_Fo, "isGap", "(I)Z"⟩
def zw_Fo_isGap : List Cond := .code zy_Fo_isGap zb_Fo_isGap 1 (some .boolean) :: mp_tbl
abbrev zb_Fo_isTold : ByteArray := prog_3_method_2_code
def zy_Fo_isTold : MethodName := ⟨zR_Fo, "isTold", "()Z"⟩
def zw_Fo_isTold : List Cond := .code zy_Fo_isTold zb_Fo_isTold 1 (some .boolean) :: mp_tbl
abbrev zb_Fo_join : ByteArray := prog_3_method_17_code
def zy_Fo_join : MethodName := ⟨zR_Fo, "join", "(IJJ)J"⟩
def zw_Fo_join : List Cond := .code zy_Fo_join zb_Fo_join 5 (some .long) :: mp_tbl
abbrev zb_Fo_joinsTwo : ByteArray := prog_3_method_13_code
def zy_Fo_joinsTwo : MethodName := ⟨zR_Fo, "joinsTwo", "(I)Z"⟩
def zw_Fo_joinsTwo : List Cond := .code zy_Fo_joinsTwo zb_Fo_joinsTwo 1 (some .boolean) :: mp_tbl
abbrev zb_Fo_numberAt : ByteArray := prog_3_method_7_code
def zy_Fo_numberAt : MethodName := ⟨zR_Fo, "numberAt", "(II)I"⟩
def zw_Fo_numberAt : List Cond := .code zy_Fo_numberAt zb_Fo_numberAt 5 (some .int) :: mp_tbl
abbrev zb_Fo_readText : ByteArray := prog_3_method_4_code
def zy_Fo_readText : MethodName := ⟨zR_Fo, "readText", "()I"⟩
def zw_Fo_readText : List Cond := .code zy_Fo_readText zb_Fo_readText 4 (some .int) :: mp_tbl
abbrev zb_Fo_share : ByteArray := prog_3_method_16_code
def zy_Fo_share : MethodName := ⟨zR_Fo, "share", "(I[J)J"⟩
def zw_Fo_share : List Cond := .code zy_Fo_share zb_Fo_share 5 (some .long) :: mp_tbl
abbrev zb_Fo_shareOf : ByteArray := prog_3_method_9_code
def zy_Fo_shareOf : MethodName := ⟨zR_Fo, "shareOf", "(I)I"⟩
def zw_Fo_shareOf : List Cond := .code zy_Fo_shareOf zb_Fo_shareOf 2 (some .int) :: mp_tbl
abbrev zb_Fo_signOf : ByteArray := prog_3_method_8_code
def zy_Fo_signOf : MethodName := ⟨zR_Fo, "signOf", "(I)I"⟩
def zw_Fo_signOf : List Cond := .code zy_Fo_signOf zb_Fo_signOf 1 (some .int) :: mp_tbl
abbrev zb_Fo_takeWord : ByteArray := prog_3_method_5_code
def zy_Fo_takeWord : MethodName := ⟨zR_Fo, "takeWord", "(I)Z"⟩
def zw_Fo_takeWord : List Cond := .code zy_Fo_takeWord zb_Fo_takeWord 3 (some .boolean) :: mp_tbl
abbrev zb_Fo_value : ByteArray := prog_3_method_14_code
def zy_Fo_value : MethodName := ⟨zR_Fo, "value", "([JI)J"⟩
def zw_Fo_value : List Cond := .code zy_Fo_value zb_Fo_value 6 (some .long) :: mp_tbl
abbrev zb_Fo_valueOf : ByteArray := prog_3_method_15_code
def zy_Fo_valueOf : MethodName := ⟨zR_Fo, "valueOf", "(I[JI)J"⟩
def zw_Fo_valueOf : List Cond := .code zy_Fo_valueOf zb_Fo_valueOf 3 (some .long) :: mp_tbl
abbrev zb_Fo_wordAt : ByteArray := prog_3_method_6_code
def zy_Fo_wordAt : MethodName := ⟨zR_Fo, "wordAt", "(II)I"⟩
def zw_Fo_wordAt : List Cond := .code zy_Fo_wordAt zb_Fo_wordAt 4 (some .int) :: mp_tbl
abbrev zb_Ja_fill : ByteArray := prog_10_method_101_code
def zy_Ja_fill : MethodName := ⟨zR_Ja, "fill", "([JJ)V"⟩
def zw_Ja_fill : List Cond := .code zy_Ja_fill zb_Ja_fill 5 none :: mp_tbl
abbrev zb_Jm_abs : ByteArray := prog_8_method_61_code
def zy_Jm_abs : MethodName := ⟨zR_Jm, "abs", "(J)J"⟩
def zw_Jm_abs : List Cond := .code zy_Jm_abs zb_Jm_abs 2 (some .long) :: mp_tbl
abbrev zb_Jm_max : ByteArray := prog_8_method_66_code
def zy_Jm_max : MethodName := ⟨zR_Jm, "max", "(JJ)J"⟩
def zw_Jm_max : List Cond := .code zy_Jm_max zb_Jm_max 4 (some .long) :: mp_tbl
abbrev zb_Jm_min : ByteArray := prog_8_method_70_code
def zy_Jm_min : MethodName := ⟨zR_Jm, "min", "(JJ)J"⟩
def zw_Jm_min : List Cond := .code zy_Jm_min zb_Jm_min 4 (some .long) :: mp_tbl
abbrev zb_La_law : ByteArray := code
def zy_La_law : MethodName := ⟨zR_La, "law", "([I)Z"⟩
abbrev zb_MP_change : ByteArray := prog_1_method_6_code
def zy_MP_change : MethodName := ⟨zR_MP, "change", "(IJIJ)Z"⟩
def zw_MP_change : List Cond := .code zy_MP_change zb_MP_change 7 (some .boolean) :: mp_tbl
abbrev zb_MP_frees : ByteArray := prog_1_method_9_code
def zy_MP_frees : MethodName := ⟨zR_MP, "frees", "(II)J"⟩
def zw_MP_frees : List Cond := .code zy_MP_frees zb_MP_frees 6 (some .long) :: mp_tbl
abbrev zb_MP_good : ByteArray := prog_1_method_2_code
def zy_MP_good : MethodName := ⟨zR_MP, "good", "()I"⟩
def zw_MP_good : List Cond := .code zy_MP_good zb_MP_good 1 (some .int) :: mp_tbl
abbrev zb_MP_init : ByteArray := prog_1_method_1_code
def zy_MP_init : MethodName := ⟨zR_MP, "<init>", "()V"⟩
def zw_MP_init : List Cond := .code zy_MP_init zb_MP_init 1 none :: mp_tbl
abbrev zb_MP_into : ByteArray := prog_1_method_4_code
def zy_MP_into : MethodName := ⟨zR_MP, "into", "(II)Z"⟩
def zw_MP_into : List Cond := .code zy_MP_into zb_MP_into 4 (some .boolean) :: mp_tbl
abbrev zb_MP_isDay : ByteArray := prog_1_method_27_code
def zy_MP_isDay : MethodName := ⟨zR_MP, "isDay", "(J)Z"⟩
def zw_MP_isDay : List Cond := .code zy_MP_isDay zb_MP_isDay 2 (some .boolean) :: mp_tbl
abbrev zb_MP_isGood : ByteArray := prog_1_method_21_code
def zy_MP_isGood : MethodName := ⟨zR_MP, "isGood", "(I)Z"⟩
def zw_MP_isGood : List Cond := .code zy_MP_isGood zb_MP_isGood 2 (some .boolean) :: mp_tbl
abbrev zb_MP_isKind : ByteArray := prog_1_method_24_code
def zy_MP_isKind : MethodName := ⟨zR_MP, "isKind", "(I)Z"⟩
def zw_MP_isKind : List Cond := .code zy_MP_isKind zb_MP_isKind 1 (some .boolean) :: mp_tbl
abbrev zb_MP_isLife : ByteArray := prog_1_method_26_code
def zy_MP_isLife : MethodName := ⟨zR_MP, "isLife", "(I)Z"⟩
def zw_MP_isLife : List Cond := .code zy_MP_isLife zb_MP_isLife 1 (some .boolean) :: mp_tbl
abbrev zb_MP_isMaterial : ByteArray := prog_1_method_25_code
def zy_MP_isMaterial : MethodName := ⟨zR_MP, "isMaterial", "(IJ)Z"⟩
def zw_MP_isMaterial : List Cond := .code zy_MP_isMaterial zb_MP_isMaterial 3 (some .boolean) :: mp_tbl
abbrev zb_MP_isPerson : ByteArray := prog_1_method_23_code
def zy_MP_isPerson : MethodName := ⟨zR_MP, "isPerson", "(I)Z"⟩
def zw_MP_isPerson : List Cond := .code zy_MP_isPerson zb_MP_isPerson 1 (some .boolean) :: mp_tbl
abbrev zb_MP_kindsAhead : ByteArray := prog_1_method_19_code
def zy_MP_kindsAhead : MethodName := ⟨zR_MP, "kindsAhead", "(I)I"⟩
def zw_MP_kindsAhead : List Cond := .code zy_MP_kindsAhead zb_MP_kindsAhead 4 (some .int) :: mp_tbl
abbrev zb_MP_life : ByteArray := prog_1_method_5_code
def zy_MP_life : MethodName := ⟨zR_MP, "life", "(II)Z"⟩
def zw_MP_life : List Cond := .code zy_MP_life zb_MP_life 3 (some .boolean) :: mp_tbl
abbrev zb_MP_mark : ByteArray := prog_1_method_17_code
def zy_MP_mark : MethodName := ⟨zR_MP, "mark", "(IJI)I"⟩
def zw_MP_mark : List Cond := .code zy_MP_mark zb_MP_mark 8 (some .int) :: mp_tbl
abbrev zb_MP_most : ByteArray := prog_1_method_18_code
def zy_MP_most : MethodName := ⟨zR_MP, "most", "(I)I"⟩
def zw_MP_most : List Cond := .code zy_MP_most zb_MP_most 3 (some .int) :: mp_tbl
abbrev zb_MP_part : ByteArray := prog_1_method_3_code
def zy_MP_part : MethodName := ⟨zR_MP, "part", "(IIJI)I"⟩
def zw_MP_part : List Cond := .code zy_MP_part zb_MP_part 6 (some .int) :: mp_tbl
abbrev zb_MP_right : ByteArray := prog_1_method_11_code
def zy_MP_right : MethodName := ⟨zR_MP, "right", "(IIZ)Z"⟩
def zw_MP_right : List Cond := .code zy_MP_right zb_MP_right 4 (some .boolean) :: mp_tbl
abbrev zb_MP_rightIndex : ByteArray := prog_1_method_22_code
def zy_MP_rightIndex : MethodName := ⟨zR_MP, "rightIndex", "(II)I"⟩
def zw_MP_rightIndex : List Cond := .code zy_MP_rightIndex zb_MP_rightIndex 2 (some .int) :: mp_tbl
abbrev zb_MP_score : ByteArray := prog_1_method_14_code
def zy_MP_score : MethodName := ⟨zR_MP, "score", "()I"⟩
def zw_MP_score : List Cond := .code zy_MP_score zb_MP_score 1 (some .int) :: mp_tbl
abbrev zb_MP_scored : ByteArray := prog_1_method_15_code
def zy_MP_scored : MethodName := ⟨zR_MP, "scored", "(I)J"⟩
def zw_MP_scored : List Cond := .code zy_MP_scored zb_MP_scored 2 (some .long) :: mp_tbl
abbrev zb_MP_seen : ByteArray := prog_1_method_12_code
def zy_MP_seen : MethodName := ⟨zR_MP, "seen", "(IIII)J"⟩
def zw_MP_seen : List Cond := .code zy_MP_seen zb_MP_seen 8 (some .long) :: mp_tbl
abbrev zb_MP_swap : ByteArray := prog_1_method_16_code
def zy_MP_swap : MethodName := ⟨zR_MP, "swap", "(II)I"⟩
def zw_MP_swap : List Cond := .code zy_MP_swap zb_MP_swap 6 (some .int) :: mp_tbl
abbrev zb_MP_total : ByteArray := prog_1_method_7_code
def zy_MP_total : MethodName := ⟨zR_MP, "total", "(II)J"⟩
def zw_MP_total : List Cond := .code zy_MP_total zb_MP_total 3 (some .long) :: mp_tbl
abbrev zb_MP_totalOn : ByteArray := prog_1_method_8_code
def zy_MP_totalOn : MethodName := ⟨zR_MP, "totalOn", "(IIJ)J"⟩
def zw_MP_totalOn : List Cond := .code zy_MP_totalOn zb_MP_totalOn 5 (some .long) :: mp_tbl
abbrev zb_MP_unit : ByteArray := prog_1_method_13_code
def zy_MP_unit : MethodName := ⟨zR_MP, "unit", "(I)Z"⟩
def zw_MP_unit : List Cond := .code zy_MP_unit zb_MP_unit 2 (some .boolean) :: mp_tbl
abbrev zb_MP_valueFor : ByteArray := prog_1_method_20_code
def zy_MP_valueFor : MethodName := ⟨zR_MP, "valueFor", "(I)J"⟩
def zw_MP_valueFor : List Cond := .code zy_MP_valueFor zb_MP_valueFor 2 (some .long) :: mp_tbl
abbrev zb_MP_version : ByteArray := prog_1_method_10_code
def zy_MP_version : MethodName := ⟨zR_MP, "version", "(I)I"⟩
def zw_MP_version : List Cond := .code zy_MP_version zb_MP_version 2 (some .int) :: mp_tbl
abbrev zb_Mo_add : ByteArray := prog_7_method_13_code
def zy_Mo_add : MethodName := ⟨zR_Mo, "add", "(IJIJ)V"⟩
def zw_Mo_add : List Cond := .code zy_Mo_add zb_Mo_add 7 none :: mp_tbl
abbrev zb_Mo_allOf : ByteArray := prog_7_method_40_code
def zy_Mo_allOf : MethodName := ⟨zR_Mo, "allOf", "(I)J"⟩
def zw_Mo_allOf : List Cond := .code zy_Mo_allOf zb_Mo_allOf 5 (some .long) :: mp_tbl
abbrev zb_Mo_change : ByteArray := prog_7_method_12_code
def zy_Mo_change : MethodName := ⟨zR_Mo, "change", "(IJIJ)Z"⟩
def zw_Mo_change : List Cond := .code zy_Mo_change zb_Mo_change 7 (some .boolean) :: mp_tbl
abbrev zb_Mo_changeOf : ByteArray := prog_7_method_14_code
def zy_Mo_changeOf : MethodName := ⟨zR_Mo, "changeOf", "(IJ)I"⟩
def zw_Mo_changeOf : List Cond := .code zy_Mo_changeOf zb_Mo_changeOf 7 (some .int) :: mp_tbl
abbrev zb_Mo_countOf : ByteArray := prog_7_method_34_code
def zy_Mo_countOf : MethodName := ⟨zR_Mo, "countOf", "(I)J"⟩
def zw_Mo_countOf : List Cond := .code zy_Mo_countOf zb_Mo_countOf 4 (some .long) :: mp_tbl
abbrev zb_Mo_cut : ByteArray := prog_7_method_31_code
def zy_Mo_cut : MethodName := ⟨zR_Mo, "cut", "(J)J"⟩
def zw_Mo_cut : List Cond := .code zy_Mo_cut zb_Mo_cut 2 (some .long) :: mp_tbl
abbrev zb_Mo_frees : ByteArray := prog_7_method_20_code
def zy_Mo_frees : MethodName := ⟨zR_Mo, "frees", "(II)J"⟩
def zw_Mo_frees : List Cond := .code zy_Mo_frees zb_Mo_frees 6 (some .long) :: mp_tbl
abbrev zb_Mo_good : ByteArray := prog_7_method_7_code
def zy_Mo_good : MethodName := ⟨zR_Mo, "good", "()I"⟩
def zw_Mo_good : List Cond := .code zy_Mo_good zb_Mo_good 1 (some .int) :: mp_tbl
abbrev zb_Mo_gramsOn : ByteArray := prog_7_method_16_code
def zy_Mo_gramsOn : MethodName := ⟨zR_Mo, "gramsOn", "(IJ)J"⟩
def zw_Mo_gramsOn : List Cond := .code zy_Mo_gramsOn zb_Mo_gramsOn 5 (some .long) :: mp_tbl
abbrev zb_Mo_init : ByteArray := prog_7_method_1_code
def zy_Mo_init : MethodName := ⟨zR_Mo, "<init>", "()V"⟩
def zw_Mo_init : List Cond := .code zy_Mo_init zb_Mo_init 1 none :: mp_tbl
abbrev zb_Mo_inside : ByteArray := prog_7_method_9_code
def zy_Mo_inside : MethodName := ⟨zR_Mo, "inside", "(I)I"⟩
def zw_Mo_inside : List Cond := .code zy_Mo_inside zb_Mo_inside 5 (some .int) :: mp_tbl
abbrev zb_Mo_into : ByteArray := prog_7_method_10_code
def zy_Mo_into : MethodName := ⟨zR_Mo, "into", "(II)Z"⟩
def zw_Mo_into : List Cond := .code zy_Mo_into zb_Mo_into 3 (some .boolean) :: mp_tbl
abbrev zb_Mo_is : ByteArray := prog_7_method_27_code
def zy_Mo_is : MethodName := ⟨zR_Mo, "is", "(IIII)Z"⟩
def zw_Mo_is : List Cond := .code zy_Mo_is zb_Mo_is 5 (some .boolean) :: mp_tbl
abbrev zb_Mo_isBlank : ByteArray := prog_7_method_26_code
def zy_Mo_isBlank : MethodName := ⟨zR_Mo, "isBlank", "(I)Z"⟩
def zw_Mo_isBlank : List Cond := .code zy_Mo_isBlank zb_Mo_isBlank 1 (some .boolean) :: mp_tbl
abbrev zb_Mo_isGood : ByteArray := prog_7_method_4_code
def zy_Mo_isGood : MethodName := ⟨zR_Mo, "isGood", "(I)Z"⟩
def zw_Mo_isGood : List Cond := .code zy_Mo_isGood zb_Mo_isGood 2 (some .boolean) :: mp_tbl
abbrev zb_Mo_isIn : ByteArray := prog_7_method_3_code
def zy_Mo_isIn : MethodName := ⟨zR_Mo, "isIn", "(JJJ)Z"⟩
def zw_Mo_isIn : List Cond := .code zy_Mo_isIn zb_Mo_isIn 6 (some .boolean) :: mp_tbl
abbrev zb_Mo_isKind : ByteArray := prog_7_method_6_code
def zy_Mo_isKind : MethodName := ⟨zR_Mo, "isKind", "(I)Z"⟩
def zw_Mo_isKind : List Cond := .code zy_Mo_isKind zb_Mo_isKind 1 (some .boolean) :: mp_tbl
abbrev zb_Mo_isOfTwo : ByteArray := prog_7_method_29_code
def zy_Mo_isOfTwo : MethodName := ⟨zR_Mo, "isOfTwo", "(I)Z"⟩
def zw_Mo_isOfTwo : List Cond := .code zy_Mo_isOfTwo zb_Mo_isOfTwo 1 (some .boolean) :: mp_tbl
abbrev zb_Mo_isPart : ByteArray := prog_7_method_5_code
def zy_Mo_isPart : MethodName := ⟨zR_Mo, "isPart", "(I)Z"⟩
def zw_Mo_isPart : List Cond := .code zy_Mo_isPart zb_Mo_isPart 2 (some .boolean) :: mp_tbl
abbrev zb_Mo_kindOn : ByteArray := prog_7_method_15_code
def zy_Mo_kindOn : MethodName := ⟨zR_Mo, "kindOn", "(IJ)I"⟩
def zw_Mo_kindOn : List Cond := .code zy_Mo_kindOn zb_Mo_kindOn 5 (some .int) :: mp_tbl
abbrev zb_Mo_life : ByteArray := prog_7_method_11_code
def zy_Mo_life : MethodName := ⟨zR_Mo, "life", "(II)Z"⟩
def zw_Mo_life : List Cond := .code zy_Mo_life zb_Mo_life 3 (some .boolean) :: mp_tbl
abbrev zb_Mo_mark : ByteArray := prog_7_method_39_code
def zy_Mo_mark : MethodName := ⟨zR_Mo, "mark", "(IJI)I"⟩
def zw_Mo_mark : List Cond := .code zy_Mo_mark zb_Mo_mark 8 (some .int) :: mp_tbl
abbrev zb_Mo_most : ByteArray := prog_7_method_41_code
def zy_Mo_most : MethodName := ⟨zR_Mo, "most", "(I)I"⟩
def zw_Mo_most : List Cond := .code zy_Mo_most zb_Mo_most 9 (some .int) :: mp_tbl
abbrev zb_Mo_ofTwo : ByteArray := prog_7_method_35_code
def zy_Mo_ofTwo : MethodName := ⟨zR_Mo, "ofTwo", "(IJJ)J"⟩
def zw_Mo_ofTwo : List Cond := .code zy_Mo_ofTwo zb_Mo_ofTwo 5 (some .long) :: mp_tbl
abbrev zb_Mo_part : ByteArray := prog_7_method_8_code
def zy_Mo_part : MethodName := ⟨zR_Mo, "part", "(IIJI)I"⟩
def zw_Mo_part : List Cond := .code zy_Mo_part zb_Mo_part 6 (some .int) :: mp_tbl
abbrev zb_Mo_partOf : ByteArray := prog_7_method_23_code
def zy_Mo_partOf : MethodName := ⟨zR_Mo, "partOf", "(II)I"⟩
def zw_Mo_partOf : List Cond := .code zy_Mo_partOf zb_Mo_partOf 5 (some .int) :: mp_tbl
abbrev zb_Mo_product : ByteArray := prog_7_method_32_code
def zy_Mo_product : MethodName := ⟨zR_Mo, "product", "(JJ)J"⟩
def zw_Mo_product : List Cond := .code zy_Mo_product zb_Mo_product 10 (some .long) :: mp_tbl
abbrev zb_Mo_right : ByteArray := prog_7_method_22_code
def zy_Mo_right : MethodName := ⟨zR_Mo, "right", "(IIZ)Z"⟩
def zw_Mo_right : List Cond := .code zy_Mo_right zb_Mo_right 4 (some .boolean) :: mp_tbl
abbrev zb_Mo_score : ByteArray := prog_7_method_30_code
def zy_Mo_score : MethodName := ⟨zR_Mo, "score", "()I"⟩
def zw_Mo_score : List Cond := .code zy_Mo_score zb_Mo_score 7 (some .int) :: mp_tbl
abbrev zb_Mo_scored : ByteArray := prog_7_method_37_code
def zy_Mo_scored : MethodName := ⟨zR_Mo, "scored", "(I)J"⟩
def zw_Mo_scored : List Cond := .code zy_Mo_scored zb_Mo_scored 2 (some .long) :: mp_tbl
abbrev zb_Mo_seen : ByteArray := prog_7_method_24_code
def zy_Mo_seen : MethodName := ⟨zR_Mo, "seen", "(IIII)J"⟩
def zw_Mo_seen : List Cond := .code zy_Mo_seen zb_Mo_seen 11 (some .long) :: mp_tbl
abbrev zb_Mo_shareOf : ByteArray := prog_7_method_33_code
def zy_Mo_shareOf : MethodName := ⟨zR_Mo, "shareOf", "(II)J"⟩
def zw_Mo_shareOf : List Cond := .code zy_Mo_shareOf zb_Mo_shareOf 8 (some .long) :: mp_tbl
abbrev zb_Mo_sum : ByteArray := prog_7_method_17_code
def zy_Mo_sum : MethodName := ⟨zR_Mo, "sum", "(IJ)V"⟩
def zw_Mo_sum : List Cond := .code zy_Mo_sum zb_Mo_sum 6 none :: mp_tbl
abbrev zb_Mo_swap : ByteArray := prog_7_method_38_code
def zy_Mo_swap : MethodName := ⟨zR_Mo, "swap", "(II)I"⟩
def zw_Mo_swap : List Cond := .code zy_Mo_swap zb_Mo_swap 5 (some .int) :: mp_tbl
abbrev zb_Mo_total : ByteArray := prog_7_method_18_code
def zy_Mo_total : MethodName := ⟨zR_Mo, "total", "(II)J"⟩
def zw_Mo_total : List Cond := .code zy_Mo_total zb_Mo_total 3 (some .long) :: mp_tbl
abbrev zb_Mo_totalOn : ByteArray := prog_7_method_19_code
def zy_Mo_totalOn : MethodName := ⟨zR_Mo, "totalOn", "(IIJ)J"⟩
def zw_Mo_totalOn : List Cond := .code zy_Mo_totalOn zb_Mo_totalOn 5 (some .long) :: mp_tbl
abbrev zb_Mo_unit : ByteArray := prog_7_method_25_code
def zy_Mo_unit : MethodName := ⟨zR_Mo, "unit", "(I)Z"⟩
def zw_Mo_unit : List Cond := .code zy_Mo_unit zb_Mo_unit 2 (some .boolean) :: mp_tbl
abbrev zb_Mo_valueOf : ByteArray := prog_7_method_36_code
def zy_Mo_valueOf : MethodName := ⟨zR_Mo, "valueOf", "(I)J"⟩
def zw_Mo_valueOf : List Cond := .code zy_Mo_valueOf zb_Mo_valueOf 5 (some .long) :: mp_tbl
abbrev zb_Mo_version : ByteArray := prog_7_method_21_code
def zy_Mo_version : MethodName := ⟨zR_Mo, "version", "(I)I"⟩
def zw_Mo_version : List Cond := .code zy_Mo_version zb_Mo_version 2 (some .int) :: mp_tbl
abbrev zb_Mo_wordAt : ByteArray := prog_7_method_28_code
def zy_Mo_wordAt : MethodName := ⟨zR_Mo, "wordAt", "(II)I"⟩
def zw_Mo_wordAt : List Cond := .code zy_Mo_wordAt zb_Mo_wordAt 6 (some .int) :: mp_tbl
abbrev zb_Ne_countWithin : ByteArray := prog_4_method_6_code
def zy_Ne_countWithin : MethodName := ⟨zR_Ne, "countWithin", "(LMaterialPassports$Parts;I)V"⟩
def zw_Ne_countWithin : List Cond := .code zy_Ne_countWithin zb_Ne_countWithin 4 none :: mp_tbl
abbrev zb_Ne_goDeeper : ByteArray := prog_4_method_7_code
def zy_Ne_goDeeper : MethodName := ⟨zR_Ne, "goDeeper", "(LMaterialPassports$Parts;)V"⟩
def zw_Ne_goDeeper : List Cond := .code zy_Ne_goDeeper zb_Ne_goDeeper 4 none :: mp_tbl
abbrev zb_Ne_holds : ByteArray := prog_4_method_2_code
def zy_Ne_holds : MethodName := ⟨zR_Ne, "holds", "(LMaterialPassports$Parts;II)Z"⟩
def zw_Ne_holds : List Cond := .code zy_Ne_holds zb_Ne_holds 4 (some .boolean) :: mp_tbl
abbrev zb_Ne_init : ByteArray := prog_4_method_1_code
def zy_Ne_init : MethodName := ⟨zR_Ne, "<init>", "()V"⟩
def zw_Ne_init : List Cond := .code zy_Ne_init zb_Ne_init 1 none :: mp_tbl
abbrev zb_Ne_sumByTimes : ByteArray := prog_4_method_5_code
def zy_Ne_sumByTimes : MethodName := ⟨zR_Ne, "sumByTimes", "(LMaterialPassports$Parts;J[J)V"⟩
def zw_Ne_sumByTimes : List Cond := .code zy_Ne_sumByTimes zb_Ne_sumByTimes 8 none :: mp_tbl
abbrev zb_Ne_sumOfAll : ByteArray := prog_4_method_4_code
def zy_Ne_sumOfAll : MethodName := ⟨zR_Ne, "sumOfAll", "(LMaterialPassports$Parts;J[J)V"⟩
def zw_Ne_sumOfAll : List Cond := .code zy_Ne_sumOfAll zb_Ne_sumOfAll 5 none :: mp_tbl
abbrev zb_Ne_sumWithin : ByteArray := prog_4_method_3_code
def zy_Ne_sumWithin : MethodName := ⟨zR_Ne, "sumWithin", "(LMaterialPassports$Parts;IJ[J)V"⟩
def zw_Ne_sumWithin : List Cond := .code zy_Ne_sumWithin zb_Ne_sumWithin 6 none :: mp_tbl
abbrev zb_Pa_add : ByteArray := prog_5_method_4_code
def zy_Pa_add : MethodName := ⟨zR_Pa, "add", "(IIJI)I"⟩
def zw_Pa_add : List Cond := .code zy_Pa_add zb_Pa_add 6 (some .int) :: mp_tbl
abbrev zb_Pa_gramsOn : ByteArray := prog_5_method_6_code
def zy_Pa_gramsOn : MethodName := ⟨zR_Pa, "gramsOn", "(IJ)J"⟩
def zw_Pa_gramsOn : List Cond := .code zy_Pa_gramsOn zb_Pa_gramsOn 5 (some .long) :: mp_tbl
abbrev zb_Pa_has : ByteArray := prog_5_method_3_code
def zy_Pa_has : MethodName := ⟨zR_Pa, "has", "(I)Z"⟩
def zw_Pa_has : List Cond := .code zy_Pa_has zb_Pa_has 2 (some .boolean) :: mp_tbl
abbrev zb_Pa_init : ByteArray := prog_5_method_1_code
def zy_Pa_init : MethodName := ⟨zR_Pa, "<init>", "()V"⟩
def zw_Pa_init : List Cond := .code zy_Pa_init zb_Pa_init 1 none :: mp_tbl
abbrev zb_Pa_isFull : ByteArray := prog_5_method_2_code
def zy_Pa_isFull : MethodName := ⟨zR_Pa, "isFull", "()Z"⟩
def zw_Pa_isFull : List Cond := .code zy_Pa_isFull zb_Pa_isFull 1 (some .boolean) :: mp_tbl
abbrev zb_Pa_kindOn : ByteArray := prog_5_method_5_code
def zy_Pa_kindOn : MethodName := ⟨zR_Pa, "kindOn", "(IJ)I"⟩
def zw_Pa_kindOn : List Cond := .code zy_Pa_kindOn zb_Pa_kindOn 5 (some .int) :: mp_tbl
abbrev zb_Pa_ownCount : ByteArray := prog_5_method_7_code
def zy_Pa_ownCount : MethodName := ⟨zR_Pa, "ownCount", "(I)I"⟩
def zw_Pa_ownCount : List Cond := .code zy_Pa_ownCount zb_Pa_ownCount 4 (some .int) :: mp_tbl
abbrev zb_Pa_ownGrams : ByteArray := prog_5_method_9_code
def zy_Pa_ownGrams : MethodName := ⟨zR_Pa, "ownGrams", "(IIJ)J"⟩
def zw_Pa_ownGrams : List Cond := .code zy_Pa_ownGrams zb_Pa_ownGrams 8 (some .long) :: mp_tbl
abbrev zb_Pa_ownPart : ByteArray := prog_5_method_8_code
def zy_Pa_ownPart : MethodName := ⟨zR_Pa, "ownPart", "(II)I"⟩
def zw_Pa_ownPart : List Cond := .code zy_Pa_ownPart zb_Pa_ownPart 5 (some .int) :: mp_tbl
end
section
theorem zq_0 : (.selects zR_MP zy_MP_isGood zy_MP_isGood : Cond) ∈ mp_tbl := List.mem_filter.mpr ⟨List.mem_of_getElem? (i := 0) (by decide +kernel), by decide +kernel⟩
theorem zq_1 : (.selects zR_Ne zy_Ne_countWithin zy_Ne_countWithin : Cond) ∈ mp_tbl := List.mem_filter.mpr ⟨List.mem_of_getElem? (i := 1) (by decide +kernel), by decide +kernel⟩
theorem zq_2 : (.selects zR_Ne zy_Ne_goDeeper zy_Ne_goDeeper : Cond) ∈ mp_tbl := List.mem_filter.mpr ⟨List.mem_of_getElem? (i := 2) (by decide +kernel), by decide +kernel⟩
theorem zq_3 : (.selects zR_Ne zy_Ne_sumByTimes zy_Ne_sumByTimes : Cond) ∈ mp_tbl := List.mem_filter.mpr ⟨List.mem_of_getElem? (i := 3) (by decide +kernel), by decide +kernel⟩
theorem zq_4 : (.selects zR_Fo zy_Fo_wordAt zy_Fo_wordAt : Cond) ∈ mp_tbl := List.mem_filter.mpr ⟨List.mem_of_getElem? (i := 4) (by decide +kernel), by decide +kernel⟩
theorem zq_5 : (.selects zR_Fo zy_Fo_numberAt zy_Fo_numberAt : Cond) ∈ mp_tbl := List.mem_filter.mpr ⟨List.mem_of_getElem? (i := 5) (by decide +kernel), by decide +kernel⟩
theorem zq_6 : (.selects zR_Fo zy_Fo_takeWord zy_Fo_takeWord : Cond) ∈ mp_tbl := List.mem_filter.mpr ⟨List.mem_of_getElem? (i := 6) (by decide +kernel), by decide +kernel⟩
theorem zq_7 : (.selects zR_MP zy_MP_valueFor zy_MP_valueFor : Cond) ∈ mp_tbl := List.mem_filter.mpr ⟨List.mem_of_getElem? (i := 7) (by decide +kernel), by decide +kernel⟩
theorem zq_8 : (.selects zR_MP zy_MP_kindsAhead zy_MP_kindsAhead : Cond) ∈ mp_tbl := List.mem_filter.mpr ⟨List.mem_of_getElem? (i := 8) (by decide +kernel), by decide +kernel⟩
theorem zq_9 : (.selects zR_Mo zy_Mo_isGood zy_Mo_isGood : Cond) ∈ mp_tbl := List.mem_filter.mpr ⟨List.mem_of_getElem? (i := 9) (by decide +kernel), by decide +kernel⟩
theorem zq_10 : (.selects zR_Mo zy_Mo_isPart zy_Mo_isPart : Cond) ∈ mp_tbl := List.mem_filter.mpr ⟨List.mem_of_getElem? (i := 10) (by decide +kernel), by decide +kernel⟩
theorem zq_11 : (.selects zR_Mo zy_Mo_inside zy_Mo_inside : Cond) ∈ mp_tbl := List.mem_filter.mpr ⟨List.mem_of_getElem? (i := 11) (by decide +kernel), by decide +kernel⟩
theorem zq_12 : (.selects zR_Mo zy_Mo_add zy_Mo_add : Cond) ∈ mp_tbl := List.mem_filter.mpr ⟨List.mem_of_getElem? (i := 12) (by decide +kernel), by decide +kernel⟩
theorem zq_13 : (.selects zR_Mo zy_Mo_sum zy_Mo_sum : Cond) ∈ mp_tbl := List.mem_filter.mpr ⟨List.mem_of_getElem? (i := 13) (by decide +kernel), by decide +kernel⟩
theorem zq_14 : (.selects zR_Mo zy_Mo_kindOn zy_Mo_kindOn : Cond) ∈ mp_tbl := List.mem_filter.mpr ⟨List.mem_of_getElem? (i := 14) (by decide +kernel), by decide +kernel⟩
theorem zq_15 : (.selects zR_Mo zy_Mo_changeOf zy_Mo_changeOf : Cond) ∈ mp_tbl := List.mem_filter.mpr ⟨List.mem_of_getElem? (i := 15) (by decide +kernel), by decide +kernel⟩
theorem zq_16 : (.selects zR_Mo zy_Mo_gramsOn zy_Mo_gramsOn : Cond) ∈ mp_tbl := List.mem_filter.mpr ⟨List.mem_of_getElem? (i := 16) (by decide +kernel), by decide +kernel⟩
theorem zq_17 : (.selects zR_Mo zy_Mo_partOf zy_Mo_partOf : Cond) ∈ mp_tbl := List.mem_filter.mpr ⟨List.mem_of_getElem? (i := 17) (by decide +kernel), by decide +kernel⟩
theorem zq_18 : (.selects zR_Mo zy_Mo_wordAt zy_Mo_wordAt : Cond) ∈ mp_tbl := List.mem_filter.mpr ⟨List.mem_of_getElem? (i := 18) (by decide +kernel), by decide +kernel⟩
theorem zq_19 : (.selects zR_Mo zy_Mo_is zy_Mo_is : Cond) ∈ mp_tbl := List.mem_filter.mpr ⟨List.mem_of_getElem? (i := 19) (by decide +kernel), by decide +kernel⟩
theorem zq_20 : (.selects zR_Mo zy_Mo_valueOf zy_Mo_valueOf : Cond) ∈ mp_tbl := List.mem_filter.mpr ⟨List.mem_of_getElem? (i := 20) (by decide +kernel), by decide +kernel⟩
theorem zq_21 : (.selects zR_Mo zy_Mo_countOf zy_Mo_countOf : Cond) ∈ mp_tbl := List.mem_filter.mpr ⟨List.mem_of_getElem? (i := 21) (by decide +kernel), by decide +kernel⟩
theorem zq_22 : (.selects zR_Mo zy_Mo_shareOf zy_Mo_shareOf : Cond) ∈ mp_tbl := List.mem_filter.mpr ⟨List.mem_of_getElem? (i := 22) (by decide +kernel), by decide +kernel⟩
theorem zq_23 : (.selects zR_Mo zy_Mo_allOf zy_Mo_allOf : Cond) ∈ mp_tbl := List.mem_filter.mpr ⟨List.mem_of_getElem? (i := 23) (by decide +kernel), by decide +kernel⟩
theorem zq_25 : (.initialized zR_MP : Cond) ∈ mp_tbl := List.mem_filter.mpr ⟨List.mem_of_getElem? (i := 25) (by decide +kernel), by decide +kernel⟩
theorem zq_26 : (.initialized zR_Pa : Cond) ∈ mp_tbl := List.mem_filter.mpr ⟨List.mem_of_getElem? (i := 26) (by decide +kernel), by decide +kernel⟩
theorem zq_27 : (.initialized zR_Ch : Cond) ∈ mp_tbl := List.mem_filter.mpr ⟨List.mem_of_getElem? (i := 27) (by decide +kernel), by decide +kernel⟩
theorem zq_28 : (.initialized zR_Ne : Cond) ∈ mp_tbl := List.mem_filter.mpr ⟨List.mem_of_getElem? (i := 28) (by decide +kernel), by decide +kernel⟩
theorem zq_29 : (.initialized zR_Fo : Cond) ∈ mp_tbl := List.mem_filter.mpr ⟨List.mem_of_getElem? (i := 29) (by decide +kernel), by decide +kernel⟩
theorem zq_30 : (.initialized zR_Mo : Cond) ∈ mp_tbl := List.mem_filter.mpr ⟨List.mem_of_getElem? (i := 30) (by decide +kernel), by decide +kernel⟩
theorem zq_31 : (.initialized zR_Ja : Cond) ∈ mp_tbl := List.mem_filter.mpr ⟨List.mem_of_getElem? (i := 31) (by decide +kernel), by decide +kernel⟩
theorem zq_32 : (.initialized zR_Js : Cond) ∈ mp_tbl := List.mem_filter.mpr ⟨List.mem_of_getElem? (i := 32) (by decide +kernel), by decide +kernel⟩
theorem zq_33 : (.initialized zR_Jm : Cond) ∈ mp_tbl := List.mem_filter.mpr ⟨List.mem_of_getElem? (i := 33) (by decide +kernel), by decide +kernel⟩
theorem zq_34 : (.classLink zR_La 7 zR_MP : Cond) ∈ mp_tbl := List.mem_filter.mpr ⟨List.mem_of_getElem? (i := 34) (by decide +kernel), by decide +kernel⟩
theorem zq_35 : (.instantiable zR_MP 7 : Cond) ∈ mp_tbl := List.mem_filter.mpr ⟨List.mem_of_getElem? (i := 35) (by decide +kernel), by decide +kernel⟩
theorem zq_36 : (.methodLink zR_La 9 zy_MP_init : Cond) ∈ mp_tbl := List.mem_filter.mpr ⟨List.mem_of_getElem? (i := 36) (by decide +kernel), by decide +kernel⟩
theorem zq_37 : (.instanceMethod zy_MP_init : Cond) ∈ mp_tbl := List.mem_filter.mpr ⟨List.mem_of_getElem? (i := 37) (by decide +kernel), by decide +kernel⟩
theorem zq_38 : (.code zy_MP_init zb_MP_init 1 none : Cond) ∈ mp_tbl := List.mem_filter.mpr ⟨List.mem_of_getElem? (i := 38) (by decide +kernel), by decide +kernel⟩
theorem zq_39 : (.methodLink zR_MP 1 objectInit : Cond) ∈ mp_tbl := List.mem_filter.mpr ⟨List.mem_of_getElem? (i := 39) (by decide +kernel), by decide +kernel⟩
theorem zq_40 : (.instanceMethod objectInit : Cond) ∈ mp_tbl := List.mem_filter.mpr ⟨List.mem_of_getElem? (i := 40) (by decide +kernel), by decide +kernel⟩
theorem zq_41 : (.code objectInit ⟨#[0xb1]⟩ 1 none : Cond) ∈ mp_tbl := List.mem_filter.mpr ⟨List.mem_of_getElem? (i := 41) (by decide +kernel), by decide +kernel⟩
theorem zq_42 : (.classLink zR_MP 17 zR_Pa : Cond) ∈ mp_tbl := List.mem_filter.mpr ⟨List.mem_of_getElem? (i := 42) (by decide +kernel), by decide +kernel⟩
theorem zq_43 : (.instantiable zR_Pa 7 : Cond) ∈ mp_tbl := List.mem_filter.mpr ⟨List.mem_of_getElem? (i := 43) (by decide +kernel), by decide +kernel⟩
theorem zq_45 : (.instanceMethod zy_Pa_init : Cond) ∈ mp_tbl := List.mem_filter.mpr ⟨List.mem_of_getElem? (i := 45) (by decide +kernel), by decide +kernel⟩
theorem zq_46 : (.code zy_Pa_init zb_Pa_init 1 none : Cond) ∈ mp_tbl := List.mem_filter.mpr ⟨List.mem_of_getElem? (i := 46) (by decide +kernel), by decide +kernel⟩
theorem zq_47 : (.methodLink zR_Pa 3 objectInit : Cond) ∈ mp_tbl := List.mem_filter.mpr ⟨List.mem_of_getElem? (i := 47) (by decide +kernel), by decide +kernel⟩
theorem zq_48 : (.classLink zR_Pa 28 zR_Ch : Cond) ∈ mp_tbl := List.mem_filter.mpr ⟨List.mem_of_getElem? (i := 48) (by decide +kernel), by decide +kernel⟩
theorem zq_49 : (.instantiable zR_Ch 5 : Cond) ∈ mp_tbl := List.mem_filter.mpr ⟨List.mem_of_getElem? (i := 49) (by decide +kernel), by decide +kernel⟩
theorem zq_51 : (.instanceMethod zy_Ch_init : Cond) ∈ mp_tbl := List.mem_filter.mpr ⟨List.mem_of_getElem? (i := 51) (by decide +kernel), by decide +kernel⟩
theorem zq_52 : (.code zy_Ch_init zb_Ch_init 1 none : Cond) ∈ mp_tbl := List.mem_filter.mpr ⟨List.mem_of_getElem? (i := 52) (by decide +kernel), by decide +kernel⟩
theorem zq_53 : (.methodLink zR_Ch 3 objectInit : Cond) ∈ mp_tbl := List.mem_filter.mpr ⟨List.mem_of_getElem? (i := 53) (by decide +kernel), by decide +kernel⟩
theorem zq_54 : (.fieldLink zR_Ch 9 "MaterialPassports$Changes" "changedParts" "[I" : Cond) ∈ mp_tbl := List.mem_filter.mpr ⟨List.mem_of_getElem? (i := 54) (by decide +kernel), by decide +kernel⟩
theorem zq_55 : (.fieldLink zR_Ch 15 "MaterialPassports$Changes" "days" "[J" : Cond) ∈ mp_tbl := List.mem_filter.mpr ⟨List.mem_of_getElem? (i := 55) (by decide +kernel), by decide +kernel⟩
theorem zq_56 : (.fieldLink zR_Ch 19 "MaterialPassports$Changes" "kinds" "[I" : Cond) ∈ mp_tbl := List.mem_filter.mpr ⟨List.mem_of_getElem? (i := 56) (by decide +kernel), by decide +kernel⟩
theorem zq_57 : (.fieldLink zR_Pa 47 "MaterialPassports$Changes" "kinds" "[I" : Cond) ∈ mp_tbl := List.mem_filter.mpr ⟨List.mem_of_getElem? (i := 57) (by decide +kernel), by decide +kernel⟩
theorem zq_58 : (.fieldLink zR_Ch 22 "MaterialPassports$Changes" "grams" "[J" : Cond) ∈ mp_tbl := List.mem_filter.mpr ⟨List.mem_of_getElem? (i := 58) (by decide +kernel), by decide +kernel⟩
theorem zq_59 : (.fieldLink zR_Pa 48 "MaterialPassports$Changes" "grams" "[J" : Cond) ∈ mp_tbl := List.mem_filter.mpr ⟨List.mem_of_getElem? (i := 59) (by decide +kernel), by decide +kernel⟩
theorem zq_60 : (.fieldLink zR_Ch 25 "MaterialPassports$Changes" "count" "I" : Cond) ∈ mp_tbl := List.mem_filter.mpr ⟨List.mem_of_getElem? (i := 60) (by decide +kernel), by decide +kernel⟩
theorem zq_72 : (.arrayClass .int : Cond) ∈ mp_tbl := List.mem_filter.mpr ⟨List.mem_of_getElem? (i := 72) (by decide +kernel), by decide +kernel⟩
theorem zq_73 : (.arrayClass .boolean : Cond) ∈ mp_tbl := List.mem_filter.mpr ⟨List.mem_of_getElem? (i := 73) (by decide +kernel), by decide +kernel⟩
theorem zq_74 : (.arrayClass .long : Cond) ∈ mp_tbl := List.mem_filter.mpr ⟨List.mem_of_getElem? (i := 74) (by decide +kernel), by decide +kernel⟩
theorem zq_75 : (.fieldLink zR_Pa 9 "MaterialPassports$Parts" "owners" "[I" : Cond) ∈ mp_tbl := List.mem_filter.mpr ⟨List.mem_of_getElem? (i := 75) (by decide +kernel), by decide +kernel⟩
theorem zq_76 : (.fieldLink zR_MP 71 "MaterialPassports$Parts" "owners" "[I" : Cond) ∈ mp_tbl := List.mem_filter.mpr ⟨List.mem_of_getElem? (i := 76) (by decide +kernel), by decide +kernel⟩
theorem zq_77 : (.fieldLink zR_Ne 49 "MaterialPassports$Parts" "owners" "[I" : Cond) ∈ mp_tbl := List.mem_filter.mpr ⟨List.mem_of_getElem? (i := 77) (by decide +kernel), by decide +kernel⟩
theorem zq_78 : (.fieldLink zR_Pa 15 "MaterialPassports$Parts" "kinds" "[I" : Cond) ∈ mp_tbl := List.mem_filter.mpr ⟨List.mem_of_getElem? (i := 78) (by decide +kernel), by decide +kernel⟩
theorem zq_79 : (.fieldLink zR_Pa 18 "MaterialPassports$Parts" "grams" "[J" : Cond) ∈ mp_tbl := List.mem_filter.mpr ⟨List.mem_of_getElem? (i := 79) (by decide +kernel), by decide +kernel⟩
theorem zq_80 : (.fieldLink zR_Pa 22 "MaterialPassports$Parts" "lives" "[I" : Cond) ∈ mp_tbl := List.mem_filter.mpr ⟨List.mem_of_getElem? (i := 80) (by decide +kernel), by decide +kernel⟩
theorem zq_81 : (.fieldLink zR_MP 78 "MaterialPassports$Parts" "lives" "[I" : Cond) ∈ mp_tbl := List.mem_filter.mpr ⟨List.mem_of_getElem? (i := 81) (by decide +kernel), by decide +kernel⟩
theorem zq_82 : (.fieldLink zR_Pa 25 "MaterialPassports$Parts" "inners" "[I" : Cond) ∈ mp_tbl := List.mem_filter.mpr ⟨List.mem_of_getElem? (i := 82) (by decide +kernel), by decide +kernel⟩
theorem zq_83 : (.fieldLink zR_MP 68 "MaterialPassports$Parts" "inners" "[I" : Cond) ∈ mp_tbl := List.mem_filter.mpr ⟨List.mem_of_getElem? (i := 83) (by decide +kernel), by decide +kernel⟩
theorem zq_84 : (.fieldLink zR_Ne 57 "MaterialPassports$Parts" "inners" "[I" : Cond) ∈ mp_tbl := List.mem_filter.mpr ⟨List.mem_of_getElem? (i := 84) (by decide +kernel), by decide +kernel⟩
theorem zq_85 : (.fieldLink zR_Pa 31 "MaterialPassports$Parts" "changes" "LMaterialPassports$Changes;" : Cond) ∈ mp_tbl := List.mem_filter.mpr ⟨List.mem_of_getElem? (i := 85) (by decide +kernel), by decide +kernel⟩
theorem zq_86 : (.fieldLink zR_MP 81 "MaterialPassports$Parts" "changes" "LMaterialPassports$Changes;" : Cond) ∈ mp_tbl := List.mem_filter.mpr ⟨List.mem_of_getElem? (i := 86) (by decide +kernel), by decide +kernel⟩
theorem zq_87 : (.fieldLink zR_Pa 35 "MaterialPassports$Parts" "count" "I" : Cond) ∈ mp_tbl := List.mem_filter.mpr ⟨List.mem_of_getElem? (i := 87) (by decide +kernel), by decide +kernel⟩
theorem zq_88 : (.fieldLink zR_Ne 35 "MaterialPassports$Parts" "count" "I" : Cond) ∈ mp_tbl := List.mem_filter.mpr ⟨List.mem_of_getElem? (i := 88) (by decide +kernel), by decide +kernel⟩
theorem zq_89 : (.fieldLink zR_MP 110 "MaterialPassports$Parts" "count" "I" : Cond) ∈ mp_tbl := List.mem_filter.mpr ⟨List.mem_of_getElem? (i := 89) (by decide +kernel), by decide +kernel⟩
theorem zq_105 : (.classLink zR_MP 24 zR_Ne : Cond) ∈ mp_tbl := List.mem_filter.mpr ⟨List.mem_of_getElem? (i := 105) (by decide +kernel), by decide +kernel⟩
theorem zq_106 : (.instantiable zR_Ne 3 : Cond) ∈ mp_tbl := List.mem_filter.mpr ⟨List.mem_of_getElem? (i := 106) (by decide +kernel), by decide +kernel⟩
theorem zq_108 : (.instanceMethod zy_Ne_init : Cond) ∈ mp_tbl := List.mem_filter.mpr ⟨List.mem_of_getElem? (i := 108) (by decide +kernel), by decide +kernel⟩
theorem zq_109 : (.code zy_Ne_init zb_Ne_init 1 none : Cond) ∈ mp_tbl := List.mem_filter.mpr ⟨List.mem_of_getElem? (i := 109) (by decide +kernel), by decide +kernel⟩
theorem zq_110 : (.methodLink zR_Ne 3 objectInit : Cond) ∈ mp_tbl := List.mem_filter.mpr ⟨List.mem_of_getElem? (i := 110) (by decide +kernel), by decide +kernel⟩
theorem zq_111 : (.fieldLink zR_Ne 9 "MaterialPassports$Nesting" "times" "[J" : Cond) ∈ mp_tbl := List.mem_filter.mpr ⟨List.mem_of_getElem? (i := 111) (by decide +kernel), by decide +kernel⟩
theorem zq_112 : (.fieldLink zR_Ne 15 "MaterialPassports$Nesting" "layer" "[J" : Cond) ∈ mp_tbl := List.mem_filter.mpr ⟨List.mem_of_getElem? (i := 112) (by decide +kernel), by decide +kernel⟩
theorem zq_113 : (.fieldLink zR_Ne 18 "MaterialPassports$Nesting" "deeper" "[J" : Cond) ∈ mp_tbl := List.mem_filter.mpr ⟨List.mem_of_getElem? (i := 113) (by decide +kernel), by decide +kernel⟩
theorem zq_121 : (.classLink zR_MP 31 zR_Fo : Cond) ∈ mp_tbl := List.mem_filter.mpr ⟨List.mem_of_getElem? (i := 121) (by decide +kernel), by decide +kernel⟩
theorem zq_122 : (.instantiable zR_Fo 8 : Cond) ∈ mp_tbl := List.mem_filter.mpr ⟨List.mem_of_getElem? (i := 122) (by decide +kernel), by decide +kernel⟩
theorem zq_124 : (.instanceMethod zy_Fo_init : Cond) ∈ mp_tbl := List.mem_filter.mpr ⟨List.mem_of_getElem? (i := 124) (by decide +kernel), by decide +kernel⟩
theorem zq_125 : (.code zy_Fo_init zb_Fo_init 1 none : Cond) ∈ mp_tbl := List.mem_filter.mpr ⟨List.mem_of_getElem? (i := 125) (by decide +kernel), by decide +kernel⟩
theorem zq_126 : (.methodLink zR_Fo 5 objectInit : Cond) ∈ mp_tbl := List.mem_filter.mpr ⟨List.mem_of_getElem? (i := 126) (by decide +kernel), by decide +kernel⟩
theorem zq_127 : (.fieldLink zR_Fo 11 "MaterialPassports$Formula" "text" "[I" : Cond) ∈ mp_tbl := List.mem_filter.mpr ⟨List.mem_of_getElem? (i := 127) (by decide +kernel), by decide +kernel⟩
theorem zq_128 : (.fieldLink zR_Fo 15 "MaterialPassports$Formula" "readWords" "[I" : Cond) ∈ mp_tbl := List.mem_filter.mpr ⟨List.mem_of_getElem? (i := 128) (by decide +kernel), by decide +kernel⟩
theorem zq_129 : (.fieldLink zR_Fo 18 "MaterialPassports$Formula" "words" "[I" : Cond) ∈ mp_tbl := List.mem_filter.mpr ⟨List.mem_of_getElem? (i := 129) (by decide +kernel), by decide +kernel⟩
theorem zq_130 : (.fieldLink zR_Fo 21 "MaterialPassports$Formula" "stack" "[J" : Cond) ∈ mp_tbl := List.mem_filter.mpr ⟨List.mem_of_getElem? (i := 130) (by decide +kernel), by decide +kernel⟩
theorem zq_131 : (.fieldLink zR_Fo 25 "MaterialPassports$Formula" "textLength" "I" : Cond) ∈ mp_tbl := List.mem_filter.mpr ⟨List.mem_of_getElem? (i := 131) (by decide +kernel), by decide +kernel⟩
theorem zq_132 : (.fieldLink zR_Fo 29 "MaterialPassports$Formula" "readCount" "I" : Cond) ∈ mp_tbl := List.mem_filter.mpr ⟨List.mem_of_getElem? (i := 132) (by decide +kernel), by decide +kernel⟩
theorem zq_133 : (.fieldLink zR_Fo 32 "MaterialPassports$Formula" "readDepth" "I" : Cond) ∈ mp_tbl := List.mem_filter.mpr ⟨List.mem_of_getElem? (i := 133) (by decide +kernel), by decide +kernel⟩
theorem zq_134 : (.fieldLink zR_Fo 35 "MaterialPassports$Formula" "wordCount" "I" : Cond) ∈ mp_tbl := List.mem_filter.mpr ⟨List.mem_of_getElem? (i := 134) (by decide +kernel), by decide +kernel⟩
theorem zq_152 : (.fieldLink zR_MP 9 "MaterialPassports" "versions" "[I" : Cond) ∈ mp_tbl := List.mem_filter.mpr ⟨List.mem_of_getElem? (i := 152) (by decide +kernel), by decide +kernel⟩
theorem zq_153 : (.fieldLink zR_MP 13 "MaterialPassports" "rights" "[Z" : Cond) ∈ mp_tbl := List.mem_filter.mpr ⟨List.mem_of_getElem? (i := 153) (by decide +kernel), by decide +kernel⟩
theorem zq_154 : (.fieldLink zR_MP 20 "MaterialPassports" "parts" "LMaterialPassports$Parts;" : Cond) ∈ mp_tbl := List.mem_filter.mpr ⟨List.mem_of_getElem? (i := 154) (by decide +kernel), by decide +kernel⟩
theorem zq_155 : (.fieldLink zR_MP 27 "MaterialPassports" "nesting" "LMaterialPassports$Nesting;" : Cond) ∈ mp_tbl := List.mem_filter.mpr ⟨List.mem_of_getElem? (i := 155) (by decide +kernel), by decide +kernel⟩
theorem zq_156 : (.fieldLink zR_MP 34 "MaterialPassports" "formula" "LMaterialPassports$Formula;" : Cond) ∈ mp_tbl := List.mem_filter.mpr ⟨List.mem_of_getElem? (i := 156) (by decide +kernel), by decide +kernel⟩
theorem zq_157 : (.fieldLink zR_MP 38 "MaterialPassports" "sums" "[J" : Cond) ∈ mp_tbl := List.mem_filter.mpr ⟨List.mem_of_getElem? (i := 157) (by decide +kernel), by decide +kernel⟩
theorem zq_158 : (.fieldLink zR_MP 42 "MaterialPassports" "goodCount" "I" : Cond) ∈ mp_tbl := List.mem_filter.mpr ⟨List.mem_of_getElem? (i := 158) (by decide +kernel), by decide +kernel⟩
theorem zq_174 : (.methodLink zR_La 13 zy_MP_good : Cond) ∈ mp_tbl := List.mem_filter.mpr ⟨List.mem_of_getElem? (i := 174) (by decide +kernel), by decide +kernel⟩
theorem zq_175 : (.instanceMethod zy_MP_good : Cond) ∈ mp_tbl := List.mem_filter.mpr ⟨List.mem_of_getElem? (i := 175) (by decide +kernel), by decide +kernel⟩
theorem zq_176 : (.selects zR_MP zy_MP_good zy_MP_good : Cond) ∈ mp_tbl := List.mem_filter.mpr ⟨List.mem_of_getElem? (i := 176) (by decide +kernel), by decide +kernel⟩
theorem zq_177 : (.code zy_MP_good zb_MP_good 1 (some .int) : Cond) ∈ mp_tbl := List.mem_filter.mpr ⟨List.mem_of_getElem? (i := 177) (by decide +kernel), by decide +kernel⟩
theorem zq_178 : (.methodLink zR_La 20 zy_MP_part : Cond) ∈ mp_tbl := List.mem_filter.mpr ⟨List.mem_of_getElem? (i := 178) (by decide +kernel), by decide +kernel⟩
theorem zq_179 : (.instanceMethod zy_MP_part : Cond) ∈ mp_tbl := List.mem_filter.mpr ⟨List.mem_of_getElem? (i := 179) (by decide +kernel), by decide +kernel⟩
theorem zq_180 : (.selects zR_MP zy_MP_part zy_MP_part : Cond) ∈ mp_tbl := List.mem_filter.mpr ⟨List.mem_of_getElem? (i := 180) (by decide +kernel), by decide +kernel⟩
theorem zq_181 : (.code zy_MP_part zb_MP_part 6 (some .int) : Cond) ∈ mp_tbl := List.mem_filter.mpr ⟨List.mem_of_getElem? (i := 181) (by decide +kernel), by decide +kernel⟩
theorem zq_182 : (.methodLink zR_MP 46 zy_Pa_isFull : Cond) ∈ mp_tbl := List.mem_filter.mpr ⟨List.mem_of_getElem? (i := 182) (by decide +kernel), by decide +kernel⟩
theorem zq_183 : (.instanceMethod zy_Pa_isFull : Cond) ∈ mp_tbl := List.mem_filter.mpr ⟨List.mem_of_getElem? (i := 183) (by decide +kernel), by decide +kernel⟩
theorem zq_184 : (.selects zR_Pa zy_Pa_isFull zy_Pa_isFull : Cond) ∈ mp_tbl := List.mem_filter.mpr ⟨List.mem_of_getElem? (i := 184) (by decide +kernel), by decide +kernel⟩
theorem zq_185 : (.code zy_Pa_isFull zb_Pa_isFull 1 (some .boolean) : Cond) ∈ mp_tbl := List.mem_filter.mpr ⟨List.mem_of_getElem? (i := 185) (by decide +kernel), by decide +kernel⟩
theorem zq_186 : (.methodLink zR_MP 50 zy_MP_isGood : Cond) ∈ mp_tbl := List.mem_filter.mpr ⟨List.mem_of_getElem? (i := 186) (by decide +kernel), by decide +kernel⟩
theorem zq_188 : (.instanceMethod zy_MP_isGood : Cond) ∈ mp_tbl := List.mem_filter.mpr ⟨List.mem_of_getElem? (i := 188) (by decide +kernel), by decide +kernel⟩
theorem zq_189 : (.code zy_MP_isGood zb_MP_isGood 2 (some .boolean) : Cond) ∈ mp_tbl := List.mem_filter.mpr ⟨List.mem_of_getElem? (i := 189) (by decide +kernel), by decide +kernel⟩
theorem zq_190 : (.methodLink zR_MP 54 zy_MP_isMaterial : Cond) ∈ mp_tbl := List.mem_filter.mpr ⟨List.mem_of_getElem? (i := 190) (by decide +kernel), by decide +kernel⟩
theorem zq_191 : (.static zy_MP_isMaterial : Cond) ∈ mp_tbl := List.mem_filter.mpr ⟨List.mem_of_getElem? (i := 191) (by decide +kernel), by decide +kernel⟩
theorem zq_192 : (.code zy_MP_isMaterial zb_MP_isMaterial 3 (some .boolean) : Cond) ∈ mp_tbl := List.mem_filter.mpr ⟨List.mem_of_getElem? (i := 192) (by decide +kernel), by decide +kernel⟩
theorem zq_193 : (.methodLink zR_MP 101 zy_MP_isKind : Cond) ∈ mp_tbl := List.mem_filter.mpr ⟨List.mem_of_getElem? (i := 193) (by decide +kernel), by decide +kernel⟩
theorem zq_194 : (.static zy_MP_isKind : Cond) ∈ mp_tbl := List.mem_filter.mpr ⟨List.mem_of_getElem? (i := 194) (by decide +kernel), by decide +kernel⟩
theorem zq_195 : (.code zy_MP_isKind zb_MP_isKind 1 (some .boolean) : Cond) ∈ mp_tbl := List.mem_filter.mpr ⟨List.mem_of_getElem? (i := 195) (by decide +kernel), by decide +kernel⟩
theorem zq_196 : (.constantLong zR_MP 174 (1000000000) : Cond) ∈ mp_tbl := List.mem_filter.mpr ⟨List.mem_of_getElem? (i := 196) (by decide +kernel), by decide +kernel⟩
theorem zq_197 : (.methodLink zR_MP 58 zy_MP_isLife : Cond) ∈ mp_tbl := List.mem_filter.mpr ⟨List.mem_of_getElem? (i := 197) (by decide +kernel), by decide +kernel⟩
theorem zq_198 : (.static zy_MP_isLife : Cond) ∈ mp_tbl := List.mem_filter.mpr ⟨List.mem_of_getElem? (i := 198) (by decide +kernel), by decide +kernel⟩
theorem zq_199 : (.code zy_MP_isLife zb_MP_isLife 1 (some .boolean) : Cond) ∈ mp_tbl := List.mem_filter.mpr ⟨List.mem_of_getElem? (i := 199) (by decide +kernel), by decide +kernel⟩
theorem zq_200 : (.methodLink zR_MP 61 zy_Pa_add : Cond) ∈ mp_tbl := List.mem_filter.mpr ⟨List.mem_of_getElem? (i := 200) (by decide +kernel), by decide +kernel⟩
theorem zq_201 : (.instanceMethod zy_Pa_add : Cond) ∈ mp_tbl := List.mem_filter.mpr ⟨List.mem_of_getElem? (i := 201) (by decide +kernel), by decide +kernel⟩
theorem zq_202 : (.selects zR_Pa zy_Pa_add zy_Pa_add : Cond) ∈ mp_tbl := List.mem_filter.mpr ⟨List.mem_of_getElem? (i := 202) (by decide +kernel), by decide +kernel⟩
theorem zq_203 : (.code zy_Pa_add zb_Pa_add 6 (some .int) : Cond) ∈ mp_tbl := List.mem_filter.mpr ⟨List.mem_of_getElem? (i := 203) (by decide +kernel), by decide +kernel⟩
theorem zq_204 : (.methodLink zR_Pa 39 zy_Pa_isFull : Cond) ∈ mp_tbl := List.mem_filter.mpr ⟨List.mem_of_getElem? (i := 204) (by decide +kernel), by decide +kernel⟩
theorem zq_205 : (.methodLink zR_La 25 zy_MP_into : Cond) ∈ mp_tbl := List.mem_filter.mpr ⟨List.mem_of_getElem? (i := 205) (by decide +kernel), by decide +kernel⟩
theorem zq_206 : (.instanceMethod zy_MP_into : Cond) ∈ mp_tbl := List.mem_filter.mpr ⟨List.mem_of_getElem? (i := 206) (by decide +kernel), by decide +kernel⟩
theorem zq_207 : (.selects zR_MP zy_MP_into zy_MP_into : Cond) ∈ mp_tbl := List.mem_filter.mpr ⟨List.mem_of_getElem? (i := 207) (by decide +kernel), by decide +kernel⟩
theorem zq_208 : (.code zy_MP_into zb_MP_into 4 (some .boolean) : Cond) ∈ mp_tbl := List.mem_filter.mpr ⟨List.mem_of_getElem? (i := 208) (by decide +kernel), by decide +kernel⟩
theorem zq_209 : (.methodLink zR_MP 65 zy_Pa_has : Cond) ∈ mp_tbl := List.mem_filter.mpr ⟨List.mem_of_getElem? (i := 209) (by decide +kernel), by decide +kernel⟩
theorem zq_210 : (.instanceMethod zy_Pa_has : Cond) ∈ mp_tbl := List.mem_filter.mpr ⟨List.mem_of_getElem? (i := 210) (by decide +kernel), by decide +kernel⟩
theorem zq_211 : (.selects zR_Pa zy_Pa_has zy_Pa_has : Cond) ∈ mp_tbl := List.mem_filter.mpr ⟨List.mem_of_getElem? (i := 211) (by decide +kernel), by decide +kernel⟩
theorem zq_212 : (.code zy_Pa_has zb_Pa_has 2 (some .boolean) : Cond) ∈ mp_tbl := List.mem_filter.mpr ⟨List.mem_of_getElem? (i := 212) (by decide +kernel), by decide +kernel⟩
theorem zq_213 : (.methodLink zR_MP 74 zy_Ne_holds : Cond) ∈ mp_tbl := List.mem_filter.mpr ⟨List.mem_of_getElem? (i := 213) (by decide +kernel), by decide +kernel⟩
theorem zq_214 : (.instanceMethod zy_Ne_holds : Cond) ∈ mp_tbl := List.mem_filter.mpr ⟨List.mem_of_getElem? (i := 214) (by decide +kernel), by decide +kernel⟩
theorem zq_215 : (.selects zR_Ne zy_Ne_holds zy_Ne_holds : Cond) ∈ mp_tbl := List.mem_filter.mpr ⟨List.mem_of_getElem? (i := 215) (by decide +kernel), by decide +kernel⟩
theorem zq_216 : (.code zy_Ne_holds zb_Ne_holds 4 (some .boolean) : Cond) ∈ mp_tbl := List.mem_filter.mpr ⟨List.mem_of_getElem? (i := 216) (by decide +kernel), by decide +kernel⟩
theorem zq_217 : (.methodLink zR_Ne 21 zy_Ne_countWithin : Cond) ∈ mp_tbl := List.mem_filter.mpr ⟨List.mem_of_getElem? (i := 217) (by decide +kernel), by decide +kernel⟩
theorem zq_219 : (.instanceMethod zy_Ne_countWithin : Cond) ∈ mp_tbl := List.mem_filter.mpr ⟨List.mem_of_getElem? (i := 219) (by decide +kernel), by decide +kernel⟩
theorem zq_220 : (.code zy_Ne_countWithin zb_Ne_countWithin 4 none : Cond) ∈ mp_tbl := List.mem_filter.mpr ⟨List.mem_of_getElem? (i := 220) (by decide +kernel), by decide +kernel⟩
theorem zq_221 : (.methodLink zR_Ne 29 zy_Ja_fill : Cond) ∈ mp_tbl := List.mem_filter.mpr ⟨List.mem_of_getElem? (i := 221) (by decide +kernel), by decide +kernel⟩
theorem zq_222 : (.static zy_Ja_fill : Cond) ∈ mp_tbl := List.mem_filter.mpr ⟨List.mem_of_getElem? (i := 222) (by decide +kernel), by decide +kernel⟩
theorem zq_223 : (.code zy_Ja_fill zb_Ja_fill 5 none : Cond) ∈ mp_tbl := List.mem_filter.mpr ⟨List.mem_of_getElem? (i := 223) (by decide +kernel), by decide +kernel⟩
theorem zq_224 : (.methodLink zR_Ne 53 zy_Ne_goDeeper : Cond) ∈ mp_tbl := List.mem_filter.mpr ⟨List.mem_of_getElem? (i := 224) (by decide +kernel), by decide +kernel⟩
theorem zq_226 : (.instanceMethod zy_Ne_goDeeper : Cond) ∈ mp_tbl := List.mem_filter.mpr ⟨List.mem_of_getElem? (i := 226) (by decide +kernel), by decide +kernel⟩
theorem zq_227 : (.code zy_Ne_goDeeper zb_Ne_goDeeper 4 none : Cond) ∈ mp_tbl := List.mem_filter.mpr ⟨List.mem_of_getElem? (i := 227) (by decide +kernel), by decide +kernel⟩
theorem zq_228 : (.methodLink zR_La 30 zy_MP_life : Cond) ∈ mp_tbl := List.mem_filter.mpr ⟨List.mem_of_getElem? (i := 228) (by decide +kernel), by decide +kernel⟩
theorem zq_229 : (.instanceMethod zy_MP_life : Cond) ∈ mp_tbl := List.mem_filter.mpr ⟨List.mem_of_getElem? (i := 229) (by decide +kernel), by decide +kernel⟩
theorem zq_230 : (.selects zR_MP zy_MP_life zy_MP_life : Cond) ∈ mp_tbl := List.mem_filter.mpr ⟨List.mem_of_getElem? (i := 230) (by decide +kernel), by decide +kernel⟩
theorem zq_231 : (.code zy_MP_life zb_MP_life 3 (some .boolean) : Cond) ∈ mp_tbl := List.mem_filter.mpr ⟨List.mem_of_getElem? (i := 231) (by decide +kernel), by decide +kernel⟩
theorem zq_232 : (.methodLink zR_La 34 zy_MP_change : Cond) ∈ mp_tbl := List.mem_filter.mpr ⟨List.mem_of_getElem? (i := 232) (by decide +kernel), by decide +kernel⟩
theorem zq_233 : (.instanceMethod zy_MP_change : Cond) ∈ mp_tbl := List.mem_filter.mpr ⟨List.mem_of_getElem? (i := 233) (by decide +kernel), by decide +kernel⟩
theorem zq_234 : (.selects zR_MP zy_MP_change zy_MP_change : Cond) ∈ mp_tbl := List.mem_filter.mpr ⟨List.mem_of_getElem? (i := 234) (by decide +kernel), by decide +kernel⟩
theorem zq_235 : (.code zy_MP_change zb_MP_change 7 (some .boolean) : Cond) ∈ mp_tbl := List.mem_filter.mpr ⟨List.mem_of_getElem? (i := 235) (by decide +kernel), by decide +kernel⟩
theorem zq_236 : (.methodLink zR_MP 85 zy_Ch_isFull : Cond) ∈ mp_tbl := List.mem_filter.mpr ⟨List.mem_of_getElem? (i := 236) (by decide +kernel), by decide +kernel⟩
theorem zq_237 : (.instanceMethod zy_Ch_isFull : Cond) ∈ mp_tbl := List.mem_filter.mpr ⟨List.mem_of_getElem? (i := 237) (by decide +kernel), by decide +kernel⟩
theorem zq_238 : (.selects zR_Ch zy_Ch_isFull zy_Ch_isFull : Cond) ∈ mp_tbl := List.mem_filter.mpr ⟨List.mem_of_getElem? (i := 238) (by decide +kernel), by decide +kernel⟩
theorem zq_239 : (.code zy_Ch_isFull zb_Ch_isFull 1 (some .boolean) : Cond) ∈ mp_tbl := List.mem_filter.mpr ⟨List.mem_of_getElem? (i := 239) (by decide +kernel), by decide +kernel⟩
theorem zq_240 : (.methodLink zR_MP 88 zy_MP_isDay : Cond) ∈ mp_tbl := List.mem_filter.mpr ⟨List.mem_of_getElem? (i := 240) (by decide +kernel), by decide +kernel⟩
theorem zq_241 : (.static zy_MP_isDay : Cond) ∈ mp_tbl := List.mem_filter.mpr ⟨List.mem_of_getElem? (i := 241) (by decide +kernel), by decide +kernel⟩
theorem zq_242 : (.code zy_MP_isDay zb_MP_isDay 2 (some .boolean) : Cond) ∈ mp_tbl := List.mem_filter.mpr ⟨List.mem_of_getElem? (i := 242) (by decide +kernel), by decide +kernel⟩
theorem zq_243 : (.constantLong zR_MP 95 (100000) : Cond) ∈ mp_tbl := List.mem_filter.mpr ⟨List.mem_of_getElem? (i := 243) (by decide +kernel), by decide +kernel⟩
theorem zq_244 : (.methodLink zR_MP 92 zy_Ch_add : Cond) ∈ mp_tbl := List.mem_filter.mpr ⟨List.mem_of_getElem? (i := 244) (by decide +kernel), by decide +kernel⟩
theorem zq_245 : (.instanceMethod zy_Ch_add : Cond) ∈ mp_tbl := List.mem_filter.mpr ⟨List.mem_of_getElem? (i := 245) (by decide +kernel), by decide +kernel⟩
theorem zq_246 : (.selects zR_Ch zy_Ch_add zy_Ch_add : Cond) ∈ mp_tbl := List.mem_filter.mpr ⟨List.mem_of_getElem? (i := 246) (by decide +kernel), by decide +kernel⟩
theorem zq_247 : (.code zy_Ch_add zb_Ch_add 7 none : Cond) ∈ mp_tbl := List.mem_filter.mpr ⟨List.mem_of_getElem? (i := 247) (by decide +kernel), by decide +kernel⟩
theorem zq_248 : (.methodLink zR_Ch 29 zy_Ch_isFull : Cond) ∈ mp_tbl := List.mem_filter.mpr ⟨List.mem_of_getElem? (i := 248) (by decide +kernel), by decide +kernel⟩
theorem zq_249 : (.methodLink zR_La 39 zy_MP_total : Cond) ∈ mp_tbl := List.mem_filter.mpr ⟨List.mem_of_getElem? (i := 249) (by decide +kernel), by decide +kernel⟩
theorem zq_250 : (.instanceMethod zy_MP_total : Cond) ∈ mp_tbl := List.mem_filter.mpr ⟨List.mem_of_getElem? (i := 250) (by decide +kernel), by decide +kernel⟩
theorem zq_251 : (.selects zR_MP zy_MP_total zy_MP_total : Cond) ∈ mp_tbl := List.mem_filter.mpr ⟨List.mem_of_getElem? (i := 251) (by decide +kernel), by decide +kernel⟩
theorem zq_252 : (.code zy_MP_total zb_MP_total 3 (some .long) : Cond) ∈ mp_tbl := List.mem_filter.mpr ⟨List.mem_of_getElem? (i := 252) (by decide +kernel), by decide +kernel⟩
theorem zq_253 : (.methodLink zR_MP 97 zy_MP_totalOn : Cond) ∈ mp_tbl := List.mem_filter.mpr ⟨List.mem_of_getElem? (i := 253) (by decide +kernel), by decide +kernel⟩
theorem zq_254 : (.instanceMethod zy_MP_totalOn : Cond) ∈ mp_tbl := List.mem_filter.mpr ⟨List.mem_of_getElem? (i := 254) (by decide +kernel), by decide +kernel⟩
theorem zq_255 : (.selects zR_MP zy_MP_totalOn zy_MP_totalOn : Cond) ∈ mp_tbl := List.mem_filter.mpr ⟨List.mem_of_getElem? (i := 255) (by decide +kernel), by decide +kernel⟩
theorem zq_256 : (.code zy_MP_totalOn zb_MP_totalOn 5 (some .long) : Cond) ∈ mp_tbl := List.mem_filter.mpr ⟨List.mem_of_getElem? (i := 256) (by decide +kernel), by decide +kernel⟩
theorem zq_257 : (.constantLong zR_MP 104 (-1) : Cond) ∈ mp_tbl := List.mem_filter.mpr ⟨List.mem_of_getElem? (i := 257) (by decide +kernel), by decide +kernel⟩
theorem zq_258 : (.methodLink zR_MP 106 zy_Ne_sumWithin : Cond) ∈ mp_tbl := List.mem_filter.mpr ⟨List.mem_of_getElem? (i := 258) (by decide +kernel), by decide +kernel⟩
theorem zq_259 : (.instanceMethod zy_Ne_sumWithin : Cond) ∈ mp_tbl := List.mem_filter.mpr ⟨List.mem_of_getElem? (i := 259) (by decide +kernel), by decide +kernel⟩
theorem zq_260 : (.selects zR_Ne zy_Ne_sumWithin zy_Ne_sumWithin : Cond) ∈ mp_tbl := List.mem_filter.mpr ⟨List.mem_of_getElem? (i := 260) (by decide +kernel), by decide +kernel⟩
theorem zq_261 : (.code zy_Ne_sumWithin zb_Ne_sumWithin 6 none : Cond) ∈ mp_tbl := List.mem_filter.mpr ⟨List.mem_of_getElem? (i := 261) (by decide +kernel), by decide +kernel⟩
theorem zq_262 : (.methodLink zR_Ne 25 zy_Ne_sumByTimes : Cond) ∈ mp_tbl := List.mem_filter.mpr ⟨List.mem_of_getElem? (i := 262) (by decide +kernel), by decide +kernel⟩
theorem zq_264 : (.instanceMethod zy_Ne_sumByTimes : Cond) ∈ mp_tbl := List.mem_filter.mpr ⟨List.mem_of_getElem? (i := 264) (by decide +kernel), by decide +kernel⟩
theorem zq_265 : (.code zy_Ne_sumByTimes zb_Ne_sumByTimes 8 none : Cond) ∈ mp_tbl := List.mem_filter.mpr ⟨List.mem_of_getElem? (i := 265) (by decide +kernel), by decide +kernel⟩
theorem zq_266 : (.methodLink zR_Ne 41 zy_Pa_gramsOn : Cond) ∈ mp_tbl := List.mem_filter.mpr ⟨List.mem_of_getElem? (i := 266) (by decide +kernel), by decide +kernel⟩
theorem zq_267 : (.instanceMethod zy_Pa_gramsOn : Cond) ∈ mp_tbl := List.mem_filter.mpr ⟨List.mem_of_getElem? (i := 267) (by decide +kernel), by decide +kernel⟩
theorem zq_268 : (.selects zR_Pa zy_Pa_gramsOn zy_Pa_gramsOn : Cond) ∈ mp_tbl := List.mem_filter.mpr ⟨List.mem_of_getElem? (i := 268) (by decide +kernel), by decide +kernel⟩
theorem zq_269 : (.code zy_Pa_gramsOn zb_Pa_gramsOn 5 (some .long) : Cond) ∈ mp_tbl := List.mem_filter.mpr ⟨List.mem_of_getElem? (i := 269) (by decide +kernel), by decide +kernel⟩
theorem zq_270 : (.methodLink zR_Pa 43 zy_Ch_countingOn : Cond) ∈ mp_tbl := List.mem_filter.mpr ⟨List.mem_of_getElem? (i := 270) (by decide +kernel), by decide +kernel⟩
theorem zq_271 : (.instanceMethod zy_Ch_countingOn : Cond) ∈ mp_tbl := List.mem_filter.mpr ⟨List.mem_of_getElem? (i := 271) (by decide +kernel), by decide +kernel⟩
theorem zq_272 : (.selects zR_Ch zy_Ch_countingOn zy_Ch_countingOn : Cond) ∈ mp_tbl := List.mem_filter.mpr ⟨List.mem_of_getElem? (i := 272) (by decide +kernel), by decide +kernel⟩
theorem zq_273 : (.code zy_Ch_countingOn zb_Ch_countingOn 6 (some .int) : Cond) ∈ mp_tbl := List.mem_filter.mpr ⟨List.mem_of_getElem? (i := 273) (by decide +kernel), by decide +kernel⟩
theorem zq_274 : (.methodLink zR_Ne 45 zy_Pa_kindOn : Cond) ∈ mp_tbl := List.mem_filter.mpr ⟨List.mem_of_getElem? (i := 274) (by decide +kernel), by decide +kernel⟩
theorem zq_275 : (.instanceMethod zy_Pa_kindOn : Cond) ∈ mp_tbl := List.mem_filter.mpr ⟨List.mem_of_getElem? (i := 275) (by decide +kernel), by decide +kernel⟩
theorem zq_276 : (.selects zR_Pa zy_Pa_kindOn zy_Pa_kindOn : Cond) ∈ mp_tbl := List.mem_filter.mpr ⟨List.mem_of_getElem? (i := 276) (by decide +kernel), by decide +kernel⟩
theorem zq_277 : (.code zy_Pa_kindOn zb_Pa_kindOn 5 (some .int) : Cond) ∈ mp_tbl := List.mem_filter.mpr ⟨List.mem_of_getElem? (i := 277) (by decide +kernel), by decide +kernel⟩
theorem zq_278 : (.methodLink zR_La 44 zy_MP_totalOn : Cond) ∈ mp_tbl := List.mem_filter.mpr ⟨List.mem_of_getElem? (i := 278) (by decide +kernel), by decide +kernel⟩
theorem zq_279 : (.methodLink zR_La 49 zy_MP_frees : Cond) ∈ mp_tbl := List.mem_filter.mpr ⟨List.mem_of_getElem? (i := 279) (by decide +kernel), by decide +kernel⟩
theorem zq_280 : (.instanceMethod zy_MP_frees : Cond) ∈ mp_tbl := List.mem_filter.mpr ⟨List.mem_of_getElem? (i := 280) (by decide +kernel), by decide +kernel⟩
theorem zq_281 : (.selects zR_MP zy_MP_frees zy_MP_frees : Cond) ∈ mp_tbl := List.mem_filter.mpr ⟨List.mem_of_getElem? (i := 281) (by decide +kernel), by decide +kernel⟩
theorem zq_282 : (.code zy_MP_frees zb_MP_frees 6 (some .long) : Cond) ∈ mp_tbl := List.mem_filter.mpr ⟨List.mem_of_getElem? (i := 282) (by decide +kernel), by decide +kernel⟩
theorem zq_283 : (.methodLink zR_MP 113 zy_Pa_kindOn : Cond) ∈ mp_tbl := List.mem_filter.mpr ⟨List.mem_of_getElem? (i := 283) (by decide +kernel), by decide +kernel⟩
theorem zq_284 : (.methodLink zR_MP 117 zy_Pa_gramsOn : Cond) ∈ mp_tbl := List.mem_filter.mpr ⟨List.mem_of_getElem? (i := 284) (by decide +kernel), by decide +kernel⟩
theorem zq_285 : (.methodLink zR_La 53 zy_MP_version : Cond) ∈ mp_tbl := List.mem_filter.mpr ⟨List.mem_of_getElem? (i := 285) (by decide +kernel), by decide +kernel⟩
theorem zq_286 : (.instanceMethod zy_MP_version : Cond) ∈ mp_tbl := List.mem_filter.mpr ⟨List.mem_of_getElem? (i := 286) (by decide +kernel), by decide +kernel⟩
theorem zq_287 : (.selects zR_MP zy_MP_version zy_MP_version : Cond) ∈ mp_tbl := List.mem_filter.mpr ⟨List.mem_of_getElem? (i := 287) (by decide +kernel), by decide +kernel⟩
theorem zq_288 : (.code zy_MP_version zb_MP_version 2 (some .int) : Cond) ∈ mp_tbl := List.mem_filter.mpr ⟨List.mem_of_getElem? (i := 288) (by decide +kernel), by decide +kernel⟩
theorem zq_289 : (.methodLink zR_La 58 zy_MP_right : Cond) ∈ mp_tbl := List.mem_filter.mpr ⟨List.mem_of_getElem? (i := 289) (by decide +kernel), by decide +kernel⟩
theorem zq_290 : (.instanceMethod zy_MP_right : Cond) ∈ mp_tbl := List.mem_filter.mpr ⟨List.mem_of_getElem? (i := 290) (by decide +kernel), by decide +kernel⟩
theorem zq_291 : (.selects zR_MP zy_MP_right zy_MP_right : Cond) ∈ mp_tbl := List.mem_filter.mpr ⟨List.mem_of_getElem? (i := 291) (by decide +kernel), by decide +kernel⟩
theorem zq_292 : (.code zy_MP_right zb_MP_right 4 (some .boolean) : Cond) ∈ mp_tbl := List.mem_filter.mpr ⟨List.mem_of_getElem? (i := 292) (by decide +kernel), by decide +kernel⟩
theorem zq_293 : (.methodLink zR_MP 121 zy_MP_isPerson : Cond) ∈ mp_tbl := List.mem_filter.mpr ⟨List.mem_of_getElem? (i := 293) (by decide +kernel), by decide +kernel⟩
theorem zq_294 : (.static zy_MP_isPerson : Cond) ∈ mp_tbl := List.mem_filter.mpr ⟨List.mem_of_getElem? (i := 294) (by decide +kernel), by decide +kernel⟩
theorem zq_295 : (.code zy_MP_isPerson zb_MP_isPerson 1 (some .boolean) : Cond) ∈ mp_tbl := List.mem_filter.mpr ⟨List.mem_of_getElem? (i := 295) (by decide +kernel), by decide +kernel⟩
theorem zq_296 : (.methodLink zR_MP 124 zy_MP_rightIndex : Cond) ∈ mp_tbl := List.mem_filter.mpr ⟨List.mem_of_getElem? (i := 296) (by decide +kernel), by decide +kernel⟩
theorem zq_297 : (.static zy_MP_rightIndex : Cond) ∈ mp_tbl := List.mem_filter.mpr ⟨List.mem_of_getElem? (i := 297) (by decide +kernel), by decide +kernel⟩
theorem zq_298 : (.code zy_MP_rightIndex zb_MP_rightIndex 2 (some .int) : Cond) ∈ mp_tbl := List.mem_filter.mpr ⟨List.mem_of_getElem? (i := 298) (by decide +kernel), by decide +kernel⟩
theorem zq_299 : (.methodLink zR_La 63 zy_MP_seen : Cond) ∈ mp_tbl := List.mem_filter.mpr ⟨List.mem_of_getElem? (i := 299) (by decide +kernel), by decide +kernel⟩
theorem zq_300 : (.instanceMethod zy_MP_seen : Cond) ∈ mp_tbl := List.mem_filter.mpr ⟨List.mem_of_getElem? (i := 300) (by decide +kernel), by decide +kernel⟩
theorem zq_301 : (.selects zR_MP zy_MP_seen zy_MP_seen : Cond) ∈ mp_tbl := List.mem_filter.mpr ⟨List.mem_of_getElem? (i := 301) (by decide +kernel), by decide +kernel⟩
theorem zq_302 : (.code zy_MP_seen zb_MP_seen 8 (some .long) : Cond) ∈ mp_tbl := List.mem_filter.mpr ⟨List.mem_of_getElem? (i := 302) (by decide +kernel), by decide +kernel⟩
theorem zq_303 : (.methodLink zR_MP 128 zy_Pa_ownPart : Cond) ∈ mp_tbl := List.mem_filter.mpr ⟨List.mem_of_getElem? (i := 303) (by decide +kernel), by decide +kernel⟩
theorem zq_304 : (.instanceMethod zy_Pa_ownPart : Cond) ∈ mp_tbl := List.mem_filter.mpr ⟨List.mem_of_getElem? (i := 304) (by decide +kernel), by decide +kernel⟩
theorem zq_305 : (.selects zR_Pa zy_Pa_ownPart zy_Pa_ownPart : Cond) ∈ mp_tbl := List.mem_filter.mpr ⟨List.mem_of_getElem? (i := 305) (by decide +kernel), by decide +kernel⟩
theorem zq_306 : (.code zy_Pa_ownPart zb_Pa_ownPart 5 (some .int) : Cond) ∈ mp_tbl := List.mem_filter.mpr ⟨List.mem_of_getElem? (i := 306) (by decide +kernel), by decide +kernel⟩
theorem zq_307 : (.methodLink zR_MP 131 zy_Pa_ownGrams : Cond) ∈ mp_tbl := List.mem_filter.mpr ⟨List.mem_of_getElem? (i := 307) (by decide +kernel), by decide +kernel⟩
theorem zq_308 : (.instanceMethod zy_Pa_ownGrams : Cond) ∈ mp_tbl := List.mem_filter.mpr ⟨List.mem_of_getElem? (i := 308) (by decide +kernel), by decide +kernel⟩
theorem zq_309 : (.selects zR_Pa zy_Pa_ownGrams zy_Pa_ownGrams : Cond) ∈ mp_tbl := List.mem_filter.mpr ⟨List.mem_of_getElem? (i := 309) (by decide +kernel), by decide +kernel⟩
theorem zq_310 : (.code zy_Pa_ownGrams zb_Pa_ownGrams 8 (some .long) : Cond) ∈ mp_tbl := List.mem_filter.mpr ⟨List.mem_of_getElem? (i := 310) (by decide +kernel), by decide +kernel⟩
theorem zq_311 : (.methodLink zR_Pa 49 zy_Pa_kindOn : Cond) ∈ mp_tbl := List.mem_filter.mpr ⟨List.mem_of_getElem? (i := 311) (by decide +kernel), by decide +kernel⟩
theorem zq_312 : (.methodLink zR_Pa 52 zy_Pa_gramsOn : Cond) ∈ mp_tbl := List.mem_filter.mpr ⟨List.mem_of_getElem? (i := 312) (by decide +kernel), by decide +kernel⟩
theorem zq_313 : (.constantLong zR_MP 134 (-2) : Cond) ∈ mp_tbl := List.mem_filter.mpr ⟨List.mem_of_getElem? (i := 313) (by decide +kernel), by decide +kernel⟩
theorem zq_314 : (.methodLink zR_La 68 zy_MP_unit : Cond) ∈ mp_tbl := List.mem_filter.mpr ⟨List.mem_of_getElem? (i := 314) (by decide +kernel), by decide +kernel⟩
theorem zq_315 : (.instanceMethod zy_MP_unit : Cond) ∈ mp_tbl := List.mem_filter.mpr ⟨List.mem_of_getElem? (i := 315) (by decide +kernel), by decide +kernel⟩
theorem zq_316 : (.selects zR_MP zy_MP_unit zy_MP_unit : Cond) ∈ mp_tbl := List.mem_filter.mpr ⟨List.mem_of_getElem? (i := 316) (by decide +kernel), by decide +kernel⟩
theorem zq_317 : (.code zy_MP_unit zb_MP_unit 2 (some .boolean) : Cond) ∈ mp_tbl := List.mem_filter.mpr ⟨List.mem_of_getElem? (i := 317) (by decide +kernel), by decide +kernel⟩
theorem zq_318 : (.methodLink zR_MP 136 zy_Fo_addByte : Cond) ∈ mp_tbl := List.mem_filter.mpr ⟨List.mem_of_getElem? (i := 318) (by decide +kernel), by decide +kernel⟩
theorem zq_319 : (.instanceMethod zy_Fo_addByte : Cond) ∈ mp_tbl := List.mem_filter.mpr ⟨List.mem_of_getElem? (i := 319) (by decide +kernel), by decide +kernel⟩
theorem zq_320 : (.selects zR_Fo zy_Fo_addByte zy_Fo_addByte : Cond) ∈ mp_tbl := List.mem_filter.mpr ⟨List.mem_of_getElem? (i := 320) (by decide +kernel), by decide +kernel⟩
theorem zq_321 : (.code zy_Fo_addByte zb_Fo_addByte 2 (some .boolean) : Cond) ∈ mp_tbl := List.mem_filter.mpr ⟨List.mem_of_getElem? (i := 321) (by decide +kernel), by decide +kernel⟩
theorem zq_322 : (.methodLink zR_La 73 zy_MP_score : Cond) ∈ mp_tbl := List.mem_filter.mpr ⟨List.mem_of_getElem? (i := 322) (by decide +kernel), by decide +kernel⟩
theorem zq_323 : (.instanceMethod zy_MP_score : Cond) ∈ mp_tbl := List.mem_filter.mpr ⟨List.mem_of_getElem? (i := 323) (by decide +kernel), by decide +kernel⟩
theorem zq_324 : (.selects zR_MP zy_MP_score zy_MP_score : Cond) ∈ mp_tbl := List.mem_filter.mpr ⟨List.mem_of_getElem? (i := 324) (by decide +kernel), by decide +kernel⟩
theorem zq_325 : (.code zy_MP_score zb_MP_score 1 (some .int) : Cond) ∈ mp_tbl := List.mem_filter.mpr ⟨List.mem_of_getElem? (i := 325) (by decide +kernel), by decide +kernel⟩
theorem zq_326 : (.methodLink zR_MP 139 zy_Fo_readText : Cond) ∈ mp_tbl := List.mem_filter.mpr ⟨List.mem_of_getElem? (i := 326) (by decide +kernel), by decide +kernel⟩
theorem zq_327 : (.instanceMethod zy_Fo_readText : Cond) ∈ mp_tbl := List.mem_filter.mpr ⟨List.mem_of_getElem? (i := 327) (by decide +kernel), by decide +kernel⟩
theorem zq_328 : (.selects zR_Fo zy_Fo_readText zy_Fo_readText : Cond) ∈ mp_tbl := List.mem_filter.mpr ⟨List.mem_of_getElem? (i := 328) (by decide +kernel), by decide +kernel⟩
theorem zq_329 : (.code zy_Fo_readText zb_Fo_readText 4 (some .int) : Cond) ∈ mp_tbl := List.mem_filter.mpr ⟨List.mem_of_getElem? (i := 329) (by decide +kernel), by decide +kernel⟩
theorem zq_330 : (.methodLink zR_Fo 38 zy_Fo_isGap : Cond) ∈ mp_tbl := List.mem_filter.mpr ⟨List.mem_of_getElem? (i := 330) (by decide +kernel), by decide +kernel⟩
theorem zq_331 : (.static zy_Fo_isGap : Cond) ∈ mp_tbl := List.mem_filter.mpr ⟨List.mem_of_getElem? (i := 331) (by decide +kernel), by decide +kernel⟩
theorem zq_332 : (.code zy_Fo_isGap zb_Fo_isGap 1 (some .boolean) : Cond) ∈ mp_tbl := List.mem_filter.mpr ⟨List.mem_of_getElem? (i := 332) (by decide +kernel), by decide +kernel⟩
theorem zq_333 : (.methodLink zR_Fo 42 zy_Fo_wordAt : Cond) ∈ mp_tbl := List.mem_filter.mpr ⟨List.mem_of_getElem? (i := 333) (by decide +kernel), by decide +kernel⟩
theorem zq_335 : (.instanceMethod zy_Fo_wordAt : Cond) ∈ mp_tbl := List.mem_filter.mpr ⟨List.mem_of_getElem? (i := 335) (by decide +kernel), by decide +kernel⟩
theorem zq_336 : (.code zy_Fo_wordAt zb_Fo_wordAt 4 (some .int) : Cond) ∈ mp_tbl := List.mem_filter.mpr ⟨List.mem_of_getElem? (i := 336) (by decide +kernel), by decide +kernel⟩
theorem zq_337 : (.methodLink zR_Fo 58 zy_Fo_isDigit : Cond) ∈ mp_tbl := List.mem_filter.mpr ⟨List.mem_of_getElem? (i := 337) (by decide +kernel), by decide +kernel⟩
theorem zq_338 : (.static zy_Fo_isDigit : Cond) ∈ mp_tbl := List.mem_filter.mpr ⟨List.mem_of_getElem? (i := 338) (by decide +kernel), by decide +kernel⟩
theorem zq_339 : (.code zy_Fo_isDigit zb_Fo_isDigit 1 (some .boolean) : Cond) ∈ mp_tbl := List.mem_filter.mpr ⟨List.mem_of_getElem? (i := 339) (by decide +kernel), by decide +kernel⟩
theorem zq_340 : (.methodLink zR_Fo 61 zy_Fo_numberAt : Cond) ∈ mp_tbl := List.mem_filter.mpr ⟨List.mem_of_getElem? (i := 340) (by decide +kernel), by decide +kernel⟩
theorem zq_342 : (.instanceMethod zy_Fo_numberAt : Cond) ∈ mp_tbl := List.mem_filter.mpr ⟨List.mem_of_getElem? (i := 342) (by decide +kernel), by decide +kernel⟩
theorem zq_343 : (.code zy_Fo_numberAt zb_Fo_numberAt 5 (some .int) : Cond) ∈ mp_tbl := List.mem_filter.mpr ⟨List.mem_of_getElem? (i := 343) (by decide +kernel), by decide +kernel⟩
theorem zq_344 : (.methodLink zR_Fo 64 zy_Fo_signOf : Cond) ∈ mp_tbl := List.mem_filter.mpr ⟨List.mem_of_getElem? (i := 344) (by decide +kernel), by decide +kernel⟩
theorem zq_345 : (.static zy_Fo_signOf : Cond) ∈ mp_tbl := List.mem_filter.mpr ⟨List.mem_of_getElem? (i := 345) (by decide +kernel), by decide +kernel⟩
theorem zq_346 : (.code zy_Fo_signOf zb_Fo_signOf 1 (some .int) : Cond) ∈ mp_tbl := List.mem_filter.mpr ⟨List.mem_of_getElem? (i := 346) (by decide +kernel), by decide +kernel⟩
theorem zq_347 : (.methodLink zR_Fo 68 zy_Fo_shareOf : Cond) ∈ mp_tbl := List.mem_filter.mpr ⟨List.mem_of_getElem? (i := 347) (by decide +kernel), by decide +kernel⟩
theorem zq_348 : (.static zy_Fo_shareOf : Cond) ∈ mp_tbl := List.mem_filter.mpr ⟨List.mem_of_getElem? (i := 348) (by decide +kernel), by decide +kernel⟩
theorem zq_349 : (.code zy_Fo_shareOf zb_Fo_shareOf 2 (some .int) : Cond) ∈ mp_tbl := List.mem_filter.mpr ⟨List.mem_of_getElem? (i := 349) (by decide +kernel), by decide +kernel⟩
theorem zq_351 : (.methodLink zR_Fo 71 zy_Fo_boundOf : Cond) ∈ mp_tbl := List.mem_filter.mpr ⟨List.mem_of_getElem? (i := 351) (by decide +kernel), by decide +kernel⟩
theorem zq_352 : (.static zy_Fo_boundOf : Cond) ∈ mp_tbl := List.mem_filter.mpr ⟨List.mem_of_getElem? (i := 352) (by decide +kernel), by decide +kernel⟩
theorem zq_353 : (.code zy_Fo_boundOf zb_Fo_boundOf 2 (some .int) : Cond) ∈ mp_tbl := List.mem_filter.mpr ⟨List.mem_of_getElem? (i := 353) (by decide +kernel), by decide +kernel⟩
theorem zq_354 : (.methodLink zR_Fo 46 zy_Fo_takeWord : Cond) ∈ mp_tbl := List.mem_filter.mpr ⟨List.mem_of_getElem? (i := 354) (by decide +kernel), by decide +kernel⟩
theorem zq_356 : (.instanceMethod zy_Fo_takeWord : Cond) ∈ mp_tbl := List.mem_filter.mpr ⟨List.mem_of_getElem? (i := 356) (by decide +kernel), by decide +kernel⟩
theorem zq_357 : (.code zy_Fo_takeWord zb_Fo_takeWord 3 (some .boolean) : Cond) ∈ mp_tbl := List.mem_filter.mpr ⟨List.mem_of_getElem? (i := 357) (by decide +kernel), by decide +kernel⟩
theorem zq_358 : (.methodLink zR_Fo 55 zy_Fo_joinsTwo : Cond) ∈ mp_tbl := List.mem_filter.mpr ⟨List.mem_of_getElem? (i := 358) (by decide +kernel), by decide +kernel⟩
theorem zq_359 : (.static zy_Fo_joinsTwo : Cond) ∈ mp_tbl := List.mem_filter.mpr ⟨List.mem_of_getElem? (i := 359) (by decide +kernel), by decide +kernel⟩
theorem zq_360 : (.code zy_Fo_joinsTwo zb_Fo_joinsTwo 1 (some .boolean) : Cond) ∈ mp_tbl := List.mem_filter.mpr ⟨List.mem_of_getElem? (i := 360) (by decide +kernel), by decide +kernel⟩
theorem zq_361 : (.methodLink zR_Fo 49 arraycopyName : Cond) ∈ mp_tbl := List.mem_filter.mpr ⟨List.mem_of_getElem? (i := 361) (by decide +kernel), by decide +kernel⟩
theorem zq_362 : (.static arraycopyName : Cond) ∈ mp_tbl := List.mem_filter.mpr ⟨List.mem_of_getElem? (i := 362) (by decide +kernel), by decide +kernel⟩
theorem zq_363 : (.native arraycopyName : Cond) ∈ mp_tbl := List.mem_filter.mpr ⟨List.mem_of_getElem? (i := 363) (by decide +kernel), by decide +kernel⟩
theorem zq_364 : (.methodLink zR_La 77 zy_MP_scored : Cond) ∈ mp_tbl := List.mem_filter.mpr ⟨List.mem_of_getElem? (i := 364) (by decide +kernel), by decide +kernel⟩
theorem zq_365 : (.instanceMethod zy_MP_scored : Cond) ∈ mp_tbl := List.mem_filter.mpr ⟨List.mem_of_getElem? (i := 365) (by decide +kernel), by decide +kernel⟩
theorem zq_366 : (.selects zR_MP zy_MP_scored zy_MP_scored : Cond) ∈ mp_tbl := List.mem_filter.mpr ⟨List.mem_of_getElem? (i := 366) (by decide +kernel), by decide +kernel⟩
theorem zq_367 : (.code zy_MP_scored zb_MP_scored 2 (some .long) : Cond) ∈ mp_tbl := List.mem_filter.mpr ⟨List.mem_of_getElem? (i := 367) (by decide +kernel), by decide +kernel⟩
theorem zq_368 : (.methodLink zR_MP 143 zy_Fo_isTold : Cond) ∈ mp_tbl := List.mem_filter.mpr ⟨List.mem_of_getElem? (i := 368) (by decide +kernel), by decide +kernel⟩
theorem zq_369 : (.instanceMethod zy_Fo_isTold : Cond) ∈ mp_tbl := List.mem_filter.mpr ⟨List.mem_of_getElem? (i := 369) (by decide +kernel), by decide +kernel⟩
theorem zq_370 : (.selects zR_Fo zy_Fo_isTold zy_Fo_isTold : Cond) ∈ mp_tbl := List.mem_filter.mpr ⟨List.mem_of_getElem? (i := 370) (by decide +kernel), by decide +kernel⟩
theorem zq_371 : (.code zy_Fo_isTold zb_Fo_isTold 1 (some .boolean) : Cond) ∈ mp_tbl := List.mem_filter.mpr ⟨List.mem_of_getElem? (i := 371) (by decide +kernel), by decide +kernel⟩
theorem zq_372 : (.constantLong zR_MP 148 (-9223372036854775808) : Cond) ∈ mp_tbl := List.mem_filter.mpr ⟨List.mem_of_getElem? (i := 372) (by decide +kernel), by decide +kernel⟩
theorem zq_373 : (.methodLink zR_MP 150 zy_MP_valueFor : Cond) ∈ mp_tbl := List.mem_filter.mpr ⟨List.mem_of_getElem? (i := 373) (by decide +kernel), by decide +kernel⟩
theorem zq_375 : (.instanceMethod zy_MP_valueFor : Cond) ∈ mp_tbl := List.mem_filter.mpr ⟨List.mem_of_getElem? (i := 375) (by decide +kernel), by decide +kernel⟩
theorem zq_376 : (.code zy_MP_valueFor zb_MP_valueFor 2 (some .long) : Cond) ∈ mp_tbl := List.mem_filter.mpr ⟨List.mem_of_getElem? (i := 376) (by decide +kernel), by decide +kernel⟩
theorem zq_377 : (.methodLink zR_MP 167 zy_Pa_ownCount : Cond) ∈ mp_tbl := List.mem_filter.mpr ⟨List.mem_of_getElem? (i := 377) (by decide +kernel), by decide +kernel⟩
theorem zq_378 : (.instanceMethod zy_Pa_ownCount : Cond) ∈ mp_tbl := List.mem_filter.mpr ⟨List.mem_of_getElem? (i := 378) (by decide +kernel), by decide +kernel⟩
theorem zq_379 : (.selects zR_Pa zy_Pa_ownCount zy_Pa_ownCount : Cond) ∈ mp_tbl := List.mem_filter.mpr ⟨List.mem_of_getElem? (i := 379) (by decide +kernel), by decide +kernel⟩
theorem zq_380 : (.code zy_Pa_ownCount zb_Pa_ownCount 4 (some .int) : Cond) ∈ mp_tbl := List.mem_filter.mpr ⟨List.mem_of_getElem? (i := 380) (by decide +kernel), by decide +kernel⟩
theorem zq_381 : (.methodLink zR_MP 170 zy_Fo_value : Cond) ∈ mp_tbl := List.mem_filter.mpr ⟨List.mem_of_getElem? (i := 381) (by decide +kernel), by decide +kernel⟩
theorem zq_382 : (.instanceMethod zy_Fo_value : Cond) ∈ mp_tbl := List.mem_filter.mpr ⟨List.mem_of_getElem? (i := 382) (by decide +kernel), by decide +kernel⟩
theorem zq_383 : (.selects zR_Fo zy_Fo_value zy_Fo_value : Cond) ∈ mp_tbl := List.mem_filter.mpr ⟨List.mem_of_getElem? (i := 383) (by decide +kernel), by decide +kernel⟩
theorem zq_384 : (.code zy_Fo_value zb_Fo_value 6 (some .long) : Cond) ∈ mp_tbl := List.mem_filter.mpr ⟨List.mem_of_getElem? (i := 384) (by decide +kernel), by decide +kernel⟩
theorem zq_385 : (.methodLink zR_Fo 77 zy_Fo_valueOf : Cond) ∈ mp_tbl := List.mem_filter.mpr ⟨List.mem_of_getElem? (i := 385) (by decide +kernel), by decide +kernel⟩
theorem zq_386 : (.static zy_Fo_valueOf : Cond) ∈ mp_tbl := List.mem_filter.mpr ⟨List.mem_of_getElem? (i := 386) (by decide +kernel), by decide +kernel⟩
theorem zq_387 : (.code zy_Fo_valueOf zb_Fo_valueOf 3 (some .long) : Cond) ∈ mp_tbl := List.mem_filter.mpr ⟨List.mem_of_getElem? (i := 387) (by decide +kernel), by decide +kernel⟩
theorem zq_388 : (.methodLink zR_Fo 85 zy_Fo_share : Cond) ∈ mp_tbl := List.mem_filter.mpr ⟨List.mem_of_getElem? (i := 388) (by decide +kernel), by decide +kernel⟩
theorem zq_389 : (.static zy_Fo_share : Cond) ∈ mp_tbl := List.mem_filter.mpr ⟨List.mem_of_getElem? (i := 389) (by decide +kernel), by decide +kernel⟩
theorem zq_390 : (.code zy_Fo_share zb_Fo_share 5 (some .long) : Cond) ∈ mp_tbl := List.mem_filter.mpr ⟨List.mem_of_getElem? (i := 390) (by decide +kernel), by decide +kernel⟩
theorem zq_391 : (.constantLong zR_Fo 89 (1000) : Cond) ∈ mp_tbl := List.mem_filter.mpr ⟨List.mem_of_getElem? (i := 391) (by decide +kernel), by decide +kernel⟩
theorem zq_392 : (.methodLink zR_Fo 81 zy_Fo_join : Cond) ∈ mp_tbl := List.mem_filter.mpr ⟨List.mem_of_getElem? (i := 392) (by decide +kernel), by decide +kernel⟩
theorem zq_393 : (.static zy_Fo_join : Cond) ∈ mp_tbl := List.mem_filter.mpr ⟨List.mem_of_getElem? (i := 393) (by decide +kernel), by decide +kernel⟩
theorem zq_394 : (.code zy_Fo_join zb_Fo_join 5 (some .long) : Cond) ∈ mp_tbl := List.mem_filter.mpr ⟨List.mem_of_getElem? (i := 394) (by decide +kernel), by decide +kernel⟩
theorem zq_395 : (.methodLink zR_Fo 91 zy_Fo_cut : Cond) ∈ mp_tbl := List.mem_filter.mpr ⟨List.mem_of_getElem? (i := 395) (by decide +kernel), by decide +kernel⟩
theorem zq_396 : (.static zy_Fo_cut : Cond) ∈ mp_tbl := List.mem_filter.mpr ⟨List.mem_of_getElem? (i := 396) (by decide +kernel), by decide +kernel⟩
theorem zq_397 : (.code zy_Fo_cut zb_Fo_cut 2 (some .long) : Cond) ∈ mp_tbl := List.mem_filter.mpr ⟨List.mem_of_getElem? (i := 397) (by decide +kernel), by decide +kernel⟩
theorem zq_398 : (.constantLong zR_Fo 107 (-1000000000000) : Cond) ∈ mp_tbl := List.mem_filter.mpr ⟨List.mem_of_getElem? (i := 398) (by decide +kernel), by decide +kernel⟩
theorem zq_399 : (.constantLong zR_Fo 109 (1000000000000) : Cond) ∈ mp_tbl := List.mem_filter.mpr ⟨List.mem_of_getElem? (i := 399) (by decide +kernel), by decide +kernel⟩
theorem zq_400 : (.methodLink zR_Fo 99 zy_Jm_min : Cond) ∈ mp_tbl := List.mem_filter.mpr ⟨List.mem_of_getElem? (i := 400) (by decide +kernel), by decide +kernel⟩
theorem zq_401 : (.static zy_Jm_min : Cond) ∈ mp_tbl := List.mem_filter.mpr ⟨List.mem_of_getElem? (i := 401) (by decide +kernel), by decide +kernel⟩
theorem zq_402 : (.code zy_Jm_min zb_Jm_min 4 (some .long) : Cond) ∈ mp_tbl := List.mem_filter.mpr ⟨List.mem_of_getElem? (i := 402) (by decide +kernel), by decide +kernel⟩
theorem zq_403 : (.methodLink zR_Fo 104 zy_Jm_max : Cond) ∈ mp_tbl := List.mem_filter.mpr ⟨List.mem_of_getElem? (i := 403) (by decide +kernel), by decide +kernel⟩
theorem zq_404 : (.static zy_Jm_max : Cond) ∈ mp_tbl := List.mem_filter.mpr ⟨List.mem_of_getElem? (i := 404) (by decide +kernel), by decide +kernel⟩
theorem zq_405 : (.code zy_Jm_max zb_Jm_max 4 (some .long) : Cond) ∈ mp_tbl := List.mem_filter.mpr ⟨List.mem_of_getElem? (i := 405) (by decide +kernel), by decide +kernel⟩
theorem zq_406 : (.methodLink zR_Fo 95 zy_Fo_cutProduct : Cond) ∈ mp_tbl := List.mem_filter.mpr ⟨List.mem_of_getElem? (i := 406) (by decide +kernel), by decide +kernel⟩
theorem zq_407 : (.static zy_Fo_cutProduct : Cond) ∈ mp_tbl := List.mem_filter.mpr ⟨List.mem_of_getElem? (i := 407) (by decide +kernel), by decide +kernel⟩
theorem zq_408 : (.code zy_Fo_cutProduct zb_Fo_cutProduct 4 (some .long) : Cond) ∈ mp_tbl := List.mem_filter.mpr ⟨List.mem_of_getElem? (i := 408) (by decide +kernel), by decide +kernel⟩
theorem zq_409 : (.methodLink zR_Fo 111 zy_Jm_abs : Cond) ∈ mp_tbl := List.mem_filter.mpr ⟨List.mem_of_getElem? (i := 409) (by decide +kernel), by decide +kernel⟩
theorem zq_410 : (.static zy_Jm_abs : Cond) ∈ mp_tbl := List.mem_filter.mpr ⟨List.mem_of_getElem? (i := 410) (by decide +kernel), by decide +kernel⟩
theorem zq_411 : (.code zy_Jm_abs zb_Jm_abs 2 (some .long) : Cond) ∈ mp_tbl := List.mem_filter.mpr ⟨List.mem_of_getElem? (i := 411) (by decide +kernel), by decide +kernel⟩
theorem zq_412 : (.methodLink zR_La 82 zy_MP_swap : Cond) ∈ mp_tbl := List.mem_filter.mpr ⟨List.mem_of_getElem? (i := 412) (by decide +kernel), by decide +kernel⟩
theorem zq_413 : (.instanceMethod zy_MP_swap : Cond) ∈ mp_tbl := List.mem_filter.mpr ⟨List.mem_of_getElem? (i := 413) (by decide +kernel), by decide +kernel⟩
theorem zq_414 : (.selects zR_MP zy_MP_swap zy_MP_swap : Cond) ∈ mp_tbl := List.mem_filter.mpr ⟨List.mem_of_getElem? (i := 414) (by decide +kernel), by decide +kernel⟩
theorem zq_415 : (.code zy_MP_swap zb_MP_swap 6 (some .int) : Cond) ∈ mp_tbl := List.mem_filter.mpr ⟨List.mem_of_getElem? (i := 415) (by decide +kernel), by decide +kernel⟩
theorem zq_416 : (.methodLink zR_MP 154 zy_Ch_dropLast : Cond) ∈ mp_tbl := List.mem_filter.mpr ⟨List.mem_of_getElem? (i := 416) (by decide +kernel), by decide +kernel⟩
theorem zq_417 : (.instanceMethod zy_Ch_dropLast : Cond) ∈ mp_tbl := List.mem_filter.mpr ⟨List.mem_of_getElem? (i := 417) (by decide +kernel), by decide +kernel⟩
theorem zq_418 : (.selects zR_Ch zy_Ch_dropLast zy_Ch_dropLast : Cond) ∈ mp_tbl := List.mem_filter.mpr ⟨List.mem_of_getElem? (i := 418) (by decide +kernel), by decide +kernel⟩
theorem zq_419 : (.code zy_Ch_dropLast zb_Ch_dropLast 1 none : Cond) ∈ mp_tbl := List.mem_filter.mpr ⟨List.mem_of_getElem? (i := 419) (by decide +kernel), by decide +kernel⟩
theorem zq_420 : (.methodLink zR_La 87 zy_MP_mark : Cond) ∈ mp_tbl := List.mem_filter.mpr ⟨List.mem_of_getElem? (i := 420) (by decide +kernel), by decide +kernel⟩
theorem zq_421 : (.instanceMethod zy_MP_mark : Cond) ∈ mp_tbl := List.mem_filter.mpr ⟨List.mem_of_getElem? (i := 421) (by decide +kernel), by decide +kernel⟩
theorem zq_422 : (.selects zR_MP zy_MP_mark zy_MP_mark : Cond) ∈ mp_tbl := List.mem_filter.mpr ⟨List.mem_of_getElem? (i := 422) (by decide +kernel), by decide +kernel⟩
theorem zq_423 : (.code zy_MP_mark zb_MP_mark 8 (some .int) : Cond) ∈ mp_tbl := List.mem_filter.mpr ⟨List.mem_of_getElem? (i := 423) (by decide +kernel), by decide +kernel⟩
theorem zq_424 : (.constantLong zR_MP 157 (6364136223846793005) : Cond) ∈ mp_tbl := List.mem_filter.mpr ⟨List.mem_of_getElem? (i := 424) (by decide +kernel), by decide +kernel⟩
theorem zq_425 : (.methodLink zR_La 92 zy_MP_most : Cond) ∈ mp_tbl := List.mem_filter.mpr ⟨List.mem_of_getElem? (i := 425) (by decide +kernel), by decide +kernel⟩
theorem zq_426 : (.instanceMethod zy_MP_most : Cond) ∈ mp_tbl := List.mem_filter.mpr ⟨List.mem_of_getElem? (i := 426) (by decide +kernel), by decide +kernel⟩
theorem zq_427 : (.selects zR_MP zy_MP_most zy_MP_most : Cond) ∈ mp_tbl := List.mem_filter.mpr ⟨List.mem_of_getElem? (i := 427) (by decide +kernel), by decide +kernel⟩
theorem zq_428 : (.code zy_MP_most zb_MP_most 3 (some .int) : Cond) ∈ mp_tbl := List.mem_filter.mpr ⟨List.mem_of_getElem? (i := 428) (by decide +kernel), by decide +kernel⟩
theorem zq_429 : (.methodLink zR_MP 159 zy_Ne_sumOfAll : Cond) ∈ mp_tbl := List.mem_filter.mpr ⟨List.mem_of_getElem? (i := 429) (by decide +kernel), by decide +kernel⟩
theorem zq_430 : (.instanceMethod zy_Ne_sumOfAll : Cond) ∈ mp_tbl := List.mem_filter.mpr ⟨List.mem_of_getElem? (i := 430) (by decide +kernel), by decide +kernel⟩
theorem zq_431 : (.selects zR_Ne zy_Ne_sumOfAll zy_Ne_sumOfAll : Cond) ∈ mp_tbl := List.mem_filter.mpr ⟨List.mem_of_getElem? (i := 431) (by decide +kernel), by decide +kernel⟩
theorem zq_432 : (.code zy_Ne_sumOfAll zb_Ne_sumOfAll 5 none : Cond) ∈ mp_tbl := List.mem_filter.mpr ⟨List.mem_of_getElem? (i := 432) (by decide +kernel), by decide +kernel⟩
theorem zq_433 : (.methodLink zR_MP 163 zy_MP_kindsAhead : Cond) ∈ mp_tbl := List.mem_filter.mpr ⟨List.mem_of_getElem? (i := 433) (by decide +kernel), by decide +kernel⟩
theorem zq_435 : (.instanceMethod zy_MP_kindsAhead : Cond) ∈ mp_tbl := List.mem_filter.mpr ⟨List.mem_of_getElem? (i := 435) (by decide +kernel), by decide +kernel⟩
theorem zq_436 : (.code zy_MP_kindsAhead zb_MP_kindsAhead 4 (some .int) : Cond) ∈ mp_tbl := List.mem_filter.mpr ⟨List.mem_of_getElem? (i := 436) (by decide +kernel), by decide +kernel⟩
theorem zq_437 : (.classLink zR_La 10 zR_Mo : Cond) ∈ mp_tbl := List.mem_filter.mpr ⟨List.mem_of_getElem? (i := 437) (by decide +kernel), by decide +kernel⟩
theorem zq_438 : (.instantiable zR_Mo 24 : Cond) ∈ mp_tbl := List.mem_filter.mpr ⟨List.mem_of_getElem? (i := 438) (by decide +kernel), by decide +kernel⟩
theorem zq_439 : (.methodLink zR_La 12 zy_Mo_init : Cond) ∈ mp_tbl := List.mem_filter.mpr ⟨List.mem_of_getElem? (i := 439) (by decide +kernel), by decide +kernel⟩
theorem zq_440 : (.instanceMethod zy_Mo_init : Cond) ∈ mp_tbl := List.mem_filter.mpr ⟨List.mem_of_getElem? (i := 440) (by decide +kernel), by decide +kernel⟩
theorem zq_441 : (.code zy_Mo_init zb_Mo_init 1 none : Cond) ∈ mp_tbl := List.mem_filter.mpr ⟨List.mem_of_getElem? (i := 441) (by decide +kernel), by decide +kernel⟩
theorem zq_442 : (.methodLink zR_Mo 1 objectInit : Cond) ∈ mp_tbl := List.mem_filter.mpr ⟨List.mem_of_getElem? (i := 442) (by decide +kernel), by decide +kernel⟩
theorem zq_443 : (.fieldLink zR_Mo 66 "MaterialPassportsModel" "goods" "I" : Cond) ∈ mp_tbl := List.mem_filter.mpr ⟨List.mem_of_getElem? (i := 443) (by decide +kernel), by decide +kernel⟩
theorem zq_444 : (.fieldLink zR_Mo 7 "MaterialPassportsModel" "versions" "[I" : Cond) ∈ mp_tbl := List.mem_filter.mpr ⟨List.mem_of_getElem? (i := 444) (by decide +kernel), by decide +kernel⟩
theorem zq_445 : (.fieldLink zR_Mo 70 "MaterialPassportsModel" "parts" "I" : Cond) ∈ mp_tbl := List.mem_filter.mpr ⟨List.mem_of_getElem? (i := 445) (by decide +kernel), by decide +kernel⟩
theorem zq_446 : (.fieldLink zR_Mo 13 "MaterialPassportsModel" "homes" "[I" : Cond) ∈ mp_tbl := List.mem_filter.mpr ⟨List.mem_of_getElem? (i := 446) (by decide +kernel), by decide +kernel⟩
theorem zq_447 : (.fieldLink zR_Mo 16 "MaterialPassportsModel" "kinds" "[I" : Cond) ∈ mp_tbl := List.mem_filter.mpr ⟨List.mem_of_getElem? (i := 447) (by decide +kernel), by decide +kernel⟩
theorem zq_448 : (.fieldLink zR_Mo 19 "MaterialPassportsModel" "grams" "[J" : Cond) ∈ mp_tbl := List.mem_filter.mpr ⟨List.mem_of_getElem? (i := 448) (by decide +kernel), by decide +kernel⟩
theorem zq_449 : (.fieldLink zR_Mo 23 "MaterialPassportsModel" "lives" "[I" : Cond) ∈ mp_tbl := List.mem_filter.mpr ⟨List.mem_of_getElem? (i := 449) (by decide +kernel), by decide +kernel⟩
theorem zq_450 : (.fieldLink zR_Mo 26 "MaterialPassportsModel" "inners" "[I" : Cond) ∈ mp_tbl := List.mem_filter.mpr ⟨List.mem_of_getElem? (i := 450) (by decide +kernel), by decide +kernel⟩
theorem zq_451 : (.fieldLink zR_Mo 95 "MaterialPassportsModel" "changes" "I" : Cond) ∈ mp_tbl := List.mem_filter.mpr ⟨List.mem_of_getElem? (i := 451) (by decide +kernel), by decide +kernel⟩
theorem zq_452 : (.fieldLink zR_Mo 29 "MaterialPassportsModel" "changeParts" "[I" : Cond) ∈ mp_tbl := List.mem_filter.mpr ⟨List.mem_of_getElem? (i := 452) (by decide +kernel), by decide +kernel⟩
theorem zq_453 : (.fieldLink zR_Mo 32 "MaterialPassportsModel" "changeDays" "[J" : Cond) ∈ mp_tbl := List.mem_filter.mpr ⟨List.mem_of_getElem? (i := 453) (by decide +kernel), by decide +kernel⟩
theorem zq_454 : (.fieldLink zR_Mo 35 "MaterialPassportsModel" "changeKinds" "[I" : Cond) ∈ mp_tbl := List.mem_filter.mpr ⟨List.mem_of_getElem? (i := 454) (by decide +kernel), by decide +kernel⟩
theorem zq_455 : (.fieldLink zR_Mo 38 "MaterialPassportsModel" "changeGrams" "[J" : Cond) ∈ mp_tbl := List.mem_filter.mpr ⟨List.mem_of_getElem? (i := 455) (by decide +kernel), by decide +kernel⟩
theorem zq_456 : (.fieldLink zR_Mo 41 "MaterialPassportsModel" "rights" "[Z" : Cond) ∈ mp_tbl := List.mem_filter.mpr ⟨List.mem_of_getElem? (i := 456) (by decide +kernel), by decide +kernel⟩
theorem zq_457 : (.fieldLink zR_Mo 45 "MaterialPassportsModel" "text" "[I" : Cond) ∈ mp_tbl := List.mem_filter.mpr ⟨List.mem_of_getElem? (i := 457) (by decide +kernel), by decide +kernel⟩
theorem zq_458 : (.fieldLink zR_Mo 137 "MaterialPassportsModel" "size" "I" : Cond) ∈ mp_tbl := List.mem_filter.mpr ⟨List.mem_of_getElem? (i := 458) (by decide +kernel), by decide +kernel⟩
theorem zq_459 : (.fieldLink zR_Mo 48 "MaterialPassportsModel" "words" "[I" : Cond) ∈ mp_tbl := List.mem_filter.mpr ⟨List.mem_of_getElem? (i := 459) (by decide +kernel), by decide +kernel⟩
theorem zq_460 : (.fieldLink zR_Mo 153 "MaterialPassportsModel" "wordCount" "I" : Cond) ∈ mp_tbl := List.mem_filter.mpr ⟨List.mem_of_getElem? (i := 460) (by decide +kernel), by decide +kernel⟩
theorem zq_461 : (.fieldLink zR_Mo 156 "MaterialPassportsModel" "hasFormula" "Z" : Cond) ∈ mp_tbl := List.mem_filter.mpr ⟨List.mem_of_getElem? (i := 461) (by decide +kernel), by decide +kernel⟩
theorem zq_462 : (.fieldLink zR_Mo 51 "MaterialPassportsModel" "newWords" "[I" : Cond) ∈ mp_tbl := List.mem_filter.mpr ⟨List.mem_of_getElem? (i := 462) (by decide +kernel), by decide +kernel⟩
theorem zq_463 : (.fieldLink zR_Mo 54 "MaterialPassportsModel" "stack" "[J" : Cond) ∈ mp_tbl := List.mem_filter.mpr ⟨List.mem_of_getElem? (i := 463) (by decide +kernel), by decide +kernel⟩
theorem zq_464 : (.fieldLink zR_Mo 57 "MaterialPassportsModel" "own" "[J" : Cond) ∈ mp_tbl := List.mem_filter.mpr ⟨List.mem_of_getElem? (i := 464) (by decide +kernel), by decide +kernel⟩
theorem zq_465 : (.fieldLink zR_Mo 60 "MaterialPassportsModel" "sums" "[J" : Cond) ∈ mp_tbl := List.mem_filter.mpr ⟨List.mem_of_getElem? (i := 465) (by decide +kernel), by decide +kernel⟩
theorem zq_466 : (.fieldLink zR_Mo 63 "MaterialPassportsModel" "next" "[J" : Cond) ∈ mp_tbl := List.mem_filter.mpr ⟨List.mem_of_getElem? (i := 466) (by decide +kernel), by decide +kernel⟩
theorem zq_516 : (.methodLink zR_La 17 zy_Mo_good : Cond) ∈ mp_tbl := List.mem_filter.mpr ⟨List.mem_of_getElem? (i := 516) (by decide +kernel), by decide +kernel⟩
theorem zq_517 : (.instanceMethod zy_Mo_good : Cond) ∈ mp_tbl := List.mem_filter.mpr ⟨List.mem_of_getElem? (i := 517) (by decide +kernel), by decide +kernel⟩
theorem zq_518 : (.selects zR_Mo zy_Mo_good zy_Mo_good : Cond) ∈ mp_tbl := List.mem_filter.mpr ⟨List.mem_of_getElem? (i := 518) (by decide +kernel), by decide +kernel⟩
theorem zq_519 : (.code zy_Mo_good zb_Mo_good 1 (some .int) : Cond) ∈ mp_tbl := List.mem_filter.mpr ⟨List.mem_of_getElem? (i := 519) (by decide +kernel), by decide +kernel⟩
theorem zq_520 : (.methodLink zR_La 24 zy_Mo_part : Cond) ∈ mp_tbl := List.mem_filter.mpr ⟨List.mem_of_getElem? (i := 520) (by decide +kernel), by decide +kernel⟩
theorem zq_521 : (.instanceMethod zy_Mo_part : Cond) ∈ mp_tbl := List.mem_filter.mpr ⟨List.mem_of_getElem? (i := 521) (by decide +kernel), by decide +kernel⟩
theorem zq_522 : (.selects zR_Mo zy_Mo_part zy_Mo_part : Cond) ∈ mp_tbl := List.mem_filter.mpr ⟨List.mem_of_getElem? (i := 522) (by decide +kernel), by decide +kernel⟩
theorem zq_523 : (.code zy_Mo_part zb_Mo_part 6 (some .int) : Cond) ∈ mp_tbl := List.mem_filter.mpr ⟨List.mem_of_getElem? (i := 523) (by decide +kernel), by decide +kernel⟩
theorem zq_524 : (.methodLink zR_Mo 73 zy_Mo_isGood : Cond) ∈ mp_tbl := List.mem_filter.mpr ⟨List.mem_of_getElem? (i := 524) (by decide +kernel), by decide +kernel⟩
theorem zq_526 : (.instanceMethod zy_Mo_isGood : Cond) ∈ mp_tbl := List.mem_filter.mpr ⟨List.mem_of_getElem? (i := 526) (by decide +kernel), by decide +kernel⟩
theorem zq_527 : (.code zy_Mo_isGood zb_Mo_isGood 2 (some .boolean) : Cond) ∈ mp_tbl := List.mem_filter.mpr ⟨List.mem_of_getElem? (i := 527) (by decide +kernel), by decide +kernel⟩
theorem zq_528 : (.methodLink zR_Mo 77 zy_Mo_isKind : Cond) ∈ mp_tbl := List.mem_filter.mpr ⟨List.mem_of_getElem? (i := 528) (by decide +kernel), by decide +kernel⟩
theorem zq_529 : (.static zy_Mo_isKind : Cond) ∈ mp_tbl := List.mem_filter.mpr ⟨List.mem_of_getElem? (i := 529) (by decide +kernel), by decide +kernel⟩
theorem zq_530 : (.code zy_Mo_isKind zb_Mo_isKind 1 (some .boolean) : Cond) ∈ mp_tbl := List.mem_filter.mpr ⟨List.mem_of_getElem? (i := 530) (by decide +kernel), by decide +kernel⟩
theorem zq_531 : (.constantLong zR_Mo 80 (1000000000) : Cond) ∈ mp_tbl := List.mem_filter.mpr ⟨List.mem_of_getElem? (i := 531) (by decide +kernel), by decide +kernel⟩
theorem zq_532 : (.methodLink zR_Mo 82 zy_Mo_isIn : Cond) ∈ mp_tbl := List.mem_filter.mpr ⟨List.mem_of_getElem? (i := 532) (by decide +kernel), by decide +kernel⟩
theorem zq_533 : (.static zy_Mo_isIn : Cond) ∈ mp_tbl := List.mem_filter.mpr ⟨List.mem_of_getElem? (i := 533) (by decide +kernel), by decide +kernel⟩
theorem zq_534 : (.code zy_Mo_isIn zb_Mo_isIn 6 (some .boolean) : Cond) ∈ mp_tbl := List.mem_filter.mpr ⟨List.mem_of_getElem? (i := 534) (by decide +kernel), by decide +kernel⟩
theorem zq_535 : (.constantLong zR_Mo 86 (200) : Cond) ∈ mp_tbl := List.mem_filter.mpr ⟨List.mem_of_getElem? (i := 535) (by decide +kernel), by decide +kernel⟩
theorem zq_536 : (.methodLink zR_La 29 zy_Mo_into : Cond) ∈ mp_tbl := List.mem_filter.mpr ⟨List.mem_of_getElem? (i := 536) (by decide +kernel), by decide +kernel⟩
theorem zq_537 : (.instanceMethod zy_Mo_into : Cond) ∈ mp_tbl := List.mem_filter.mpr ⟨List.mem_of_getElem? (i := 537) (by decide +kernel), by decide +kernel⟩
theorem zq_538 : (.selects zR_Mo zy_Mo_into zy_Mo_into : Cond) ∈ mp_tbl := List.mem_filter.mpr ⟨List.mem_of_getElem? (i := 538) (by decide +kernel), by decide +kernel⟩
theorem zq_539 : (.code zy_Mo_into zb_Mo_into 3 (some .boolean) : Cond) ∈ mp_tbl := List.mem_filter.mpr ⟨List.mem_of_getElem? (i := 539) (by decide +kernel), by decide +kernel⟩
theorem zq_540 : (.methodLink zR_Mo 88 zy_Mo_isPart : Cond) ∈ mp_tbl := List.mem_filter.mpr ⟨List.mem_of_getElem? (i := 540) (by decide +kernel), by decide +kernel⟩
theorem zq_542 : (.instanceMethod zy_Mo_isPart : Cond) ∈ mp_tbl := List.mem_filter.mpr ⟨List.mem_of_getElem? (i := 542) (by decide +kernel), by decide +kernel⟩
theorem zq_543 : (.code zy_Mo_isPart zb_Mo_isPart 2 (some .boolean) : Cond) ∈ mp_tbl := List.mem_filter.mpr ⟨List.mem_of_getElem? (i := 543) (by decide +kernel), by decide +kernel⟩
theorem zq_544 : (.methodLink zR_Mo 91 zy_Mo_inside : Cond) ∈ mp_tbl := List.mem_filter.mpr ⟨List.mem_of_getElem? (i := 544) (by decide +kernel), by decide +kernel⟩
theorem zq_546 : (.instanceMethod zy_Mo_inside : Cond) ∈ mp_tbl := List.mem_filter.mpr ⟨List.mem_of_getElem? (i := 546) (by decide +kernel), by decide +kernel⟩
theorem zq_547 : (.code zy_Mo_inside zb_Mo_inside 5 (some .int) : Cond) ∈ mp_tbl := List.mem_filter.mpr ⟨List.mem_of_getElem? (i := 547) (by decide +kernel), by decide +kernel⟩
theorem zq_548 : (.methodLink zR_La 33 zy_Mo_life : Cond) ∈ mp_tbl := List.mem_filter.mpr ⟨List.mem_of_getElem? (i := 548) (by decide +kernel), by decide +kernel⟩
theorem zq_549 : (.instanceMethod zy_Mo_life : Cond) ∈ mp_tbl := List.mem_filter.mpr ⟨List.mem_of_getElem? (i := 549) (by decide +kernel), by decide +kernel⟩
theorem zq_550 : (.selects zR_Mo zy_Mo_life zy_Mo_life : Cond) ∈ mp_tbl := List.mem_filter.mpr ⟨List.mem_of_getElem? (i := 550) (by decide +kernel), by decide +kernel⟩
theorem zq_551 : (.code zy_Mo_life zb_Mo_life 3 (some .boolean) : Cond) ∈ mp_tbl := List.mem_filter.mpr ⟨List.mem_of_getElem? (i := 551) (by decide +kernel), by decide +kernel⟩
theorem zq_552 : (.methodLink zR_La 38 zy_Mo_change : Cond) ∈ mp_tbl := List.mem_filter.mpr ⟨List.mem_of_getElem? (i := 552) (by decide +kernel), by decide +kernel⟩
theorem zq_553 : (.instanceMethod zy_Mo_change : Cond) ∈ mp_tbl := List.mem_filter.mpr ⟨List.mem_of_getElem? (i := 553) (by decide +kernel), by decide +kernel⟩
theorem zq_554 : (.selects zR_Mo zy_Mo_change zy_Mo_change : Cond) ∈ mp_tbl := List.mem_filter.mpr ⟨List.mem_of_getElem? (i := 554) (by decide +kernel), by decide +kernel⟩
theorem zq_555 : (.code zy_Mo_change zb_Mo_change 7 (some .boolean) : Cond) ∈ mp_tbl := List.mem_filter.mpr ⟨List.mem_of_getElem? (i := 555) (by decide +kernel), by decide +kernel⟩
theorem zq_556 : (.constantLong zR_Mo 98 (100000) : Cond) ∈ mp_tbl := List.mem_filter.mpr ⟨List.mem_of_getElem? (i := 556) (by decide +kernel), by decide +kernel⟩
theorem zq_557 : (.methodLink zR_Mo 100 zy_Mo_add : Cond) ∈ mp_tbl := List.mem_filter.mpr ⟨List.mem_of_getElem? (i := 557) (by decide +kernel), by decide +kernel⟩
theorem zq_559 : (.instanceMethod zy_Mo_add : Cond) ∈ mp_tbl := List.mem_filter.mpr ⟨List.mem_of_getElem? (i := 559) (by decide +kernel), by decide +kernel⟩
theorem zq_560 : (.code zy_Mo_add zb_Mo_add 7 none : Cond) ∈ mp_tbl := List.mem_filter.mpr ⟨List.mem_of_getElem? (i := 560) (by decide +kernel), by decide +kernel⟩
theorem zq_561 : (.methodLink zR_La 43 zy_Mo_total : Cond) ∈ mp_tbl := List.mem_filter.mpr ⟨List.mem_of_getElem? (i := 561) (by decide +kernel), by decide +kernel⟩
theorem zq_562 : (.instanceMethod zy_Mo_total : Cond) ∈ mp_tbl := List.mem_filter.mpr ⟨List.mem_of_getElem? (i := 562) (by decide +kernel), by decide +kernel⟩
theorem zq_563 : (.selects zR_Mo zy_Mo_total zy_Mo_total : Cond) ∈ mp_tbl := List.mem_filter.mpr ⟨List.mem_of_getElem? (i := 563) (by decide +kernel), by decide +kernel⟩
theorem zq_564 : (.code zy_Mo_total zb_Mo_total 3 (some .long) : Cond) ∈ mp_tbl := List.mem_filter.mpr ⟨List.mem_of_getElem? (i := 564) (by decide +kernel), by decide +kernel⟩
theorem zq_565 : (.methodLink zR_Mo 115 zy_Mo_totalOn : Cond) ∈ mp_tbl := List.mem_filter.mpr ⟨List.mem_of_getElem? (i := 565) (by decide +kernel), by decide +kernel⟩
theorem zq_566 : (.instanceMethod zy_Mo_totalOn : Cond) ∈ mp_tbl := List.mem_filter.mpr ⟨List.mem_of_getElem? (i := 566) (by decide +kernel), by decide +kernel⟩
theorem zq_567 : (.selects zR_Mo zy_Mo_totalOn zy_Mo_totalOn : Cond) ∈ mp_tbl := List.mem_filter.mpr ⟨List.mem_of_getElem? (i := 567) (by decide +kernel), by decide +kernel⟩
theorem zq_568 : (.code zy_Mo_totalOn zb_Mo_totalOn 5 (some .long) : Cond) ∈ mp_tbl := List.mem_filter.mpr ⟨List.mem_of_getElem? (i := 568) (by decide +kernel), by decide +kernel⟩
theorem zq_569 : (.constantLong zR_Mo 119 (-1) : Cond) ∈ mp_tbl := List.mem_filter.mpr ⟨List.mem_of_getElem? (i := 569) (by decide +kernel), by decide +kernel⟩
theorem zq_570 : (.methodLink zR_Mo 121 zy_Mo_sum : Cond) ∈ mp_tbl := List.mem_filter.mpr ⟨List.mem_of_getElem? (i := 570) (by decide +kernel), by decide +kernel⟩
theorem zq_572 : (.instanceMethod zy_Mo_sum : Cond) ∈ mp_tbl := List.mem_filter.mpr ⟨List.mem_of_getElem? (i := 572) (by decide +kernel), by decide +kernel⟩
theorem zq_573 : (.code zy_Mo_sum zb_Mo_sum 6 none : Cond) ∈ mp_tbl := List.mem_filter.mpr ⟨List.mem_of_getElem? (i := 573) (by decide +kernel), by decide +kernel⟩
theorem zq_574 : (.methodLink zR_Mo 108 zy_Mo_kindOn : Cond) ∈ mp_tbl := List.mem_filter.mpr ⟨List.mem_of_getElem? (i := 574) (by decide +kernel), by decide +kernel⟩
theorem zq_576 : (.instanceMethod zy_Mo_kindOn : Cond) ∈ mp_tbl := List.mem_filter.mpr ⟨List.mem_of_getElem? (i := 576) (by decide +kernel), by decide +kernel⟩
theorem zq_577 : (.code zy_Mo_kindOn zb_Mo_kindOn 5 (some .int) : Cond) ∈ mp_tbl := List.mem_filter.mpr ⟨List.mem_of_getElem? (i := 577) (by decide +kernel), by decide +kernel⟩
theorem zq_578 : (.methodLink zR_Mo 104 zy_Mo_changeOf : Cond) ∈ mp_tbl := List.mem_filter.mpr ⟨List.mem_of_getElem? (i := 578) (by decide +kernel), by decide +kernel⟩
theorem zq_580 : (.instanceMethod zy_Mo_changeOf : Cond) ∈ mp_tbl := List.mem_filter.mpr ⟨List.mem_of_getElem? (i := 580) (by decide +kernel), by decide +kernel⟩
theorem zq_581 : (.code zy_Mo_changeOf zb_Mo_changeOf 7 (some .int) : Cond) ∈ mp_tbl := List.mem_filter.mpr ⟨List.mem_of_getElem? (i := 581) (by decide +kernel), by decide +kernel⟩
theorem zq_582 : (.methodLink zR_Mo 111 zy_Mo_gramsOn : Cond) ∈ mp_tbl := List.mem_filter.mpr ⟨List.mem_of_getElem? (i := 582) (by decide +kernel), by decide +kernel⟩
theorem zq_584 : (.instanceMethod zy_Mo_gramsOn : Cond) ∈ mp_tbl := List.mem_filter.mpr ⟨List.mem_of_getElem? (i := 584) (by decide +kernel), by decide +kernel⟩
theorem zq_585 : (.code zy_Mo_gramsOn zb_Mo_gramsOn 5 (some .long) : Cond) ∈ mp_tbl := List.mem_filter.mpr ⟨List.mem_of_getElem? (i := 585) (by decide +kernel), by decide +kernel⟩
theorem zq_586 : (.methodLink zR_La 48 zy_Mo_totalOn : Cond) ∈ mp_tbl := List.mem_filter.mpr ⟨List.mem_of_getElem? (i := 586) (by decide +kernel), by decide +kernel⟩
theorem zq_587 : (.methodLink zR_La 52 zy_Mo_frees : Cond) ∈ mp_tbl := List.mem_filter.mpr ⟨List.mem_of_getElem? (i := 587) (by decide +kernel), by decide +kernel⟩
theorem zq_588 : (.instanceMethod zy_Mo_frees : Cond) ∈ mp_tbl := List.mem_filter.mpr ⟨List.mem_of_getElem? (i := 588) (by decide +kernel), by decide +kernel⟩
theorem zq_589 : (.selects zR_Mo zy_Mo_frees zy_Mo_frees : Cond) ∈ mp_tbl := List.mem_filter.mpr ⟨List.mem_of_getElem? (i := 589) (by decide +kernel), by decide +kernel⟩
theorem zq_590 : (.code zy_Mo_frees zb_Mo_frees 6 (some .long) : Cond) ∈ mp_tbl := List.mem_filter.mpr ⟨List.mem_of_getElem? (i := 590) (by decide +kernel), by decide +kernel⟩
theorem zq_591 : (.methodLink zR_La 57 zy_Mo_version : Cond) ∈ mp_tbl := List.mem_filter.mpr ⟨List.mem_of_getElem? (i := 591) (by decide +kernel), by decide +kernel⟩
theorem zq_592 : (.instanceMethod zy_Mo_version : Cond) ∈ mp_tbl := List.mem_filter.mpr ⟨List.mem_of_getElem? (i := 592) (by decide +kernel), by decide +kernel⟩
theorem zq_593 : (.selects zR_Mo zy_Mo_version zy_Mo_version : Cond) ∈ mp_tbl := List.mem_filter.mpr ⟨List.mem_of_getElem? (i := 593) (by decide +kernel), by decide +kernel⟩
theorem zq_594 : (.code zy_Mo_version zb_Mo_version 2 (some .int) : Cond) ∈ mp_tbl := List.mem_filter.mpr ⟨List.mem_of_getElem? (i := 594) (by decide +kernel), by decide +kernel⟩
theorem zq_595 : (.methodLink zR_La 62 zy_Mo_right : Cond) ∈ mp_tbl := List.mem_filter.mpr ⟨List.mem_of_getElem? (i := 595) (by decide +kernel), by decide +kernel⟩
theorem zq_596 : (.instanceMethod zy_Mo_right : Cond) ∈ mp_tbl := List.mem_filter.mpr ⟨List.mem_of_getElem? (i := 596) (by decide +kernel), by decide +kernel⟩
theorem zq_597 : (.selects zR_Mo zy_Mo_right zy_Mo_right : Cond) ∈ mp_tbl := List.mem_filter.mpr ⟨List.mem_of_getElem? (i := 597) (by decide +kernel), by decide +kernel⟩
theorem zq_598 : (.code zy_Mo_right zb_Mo_right 4 (some .boolean) : Cond) ∈ mp_tbl := List.mem_filter.mpr ⟨List.mem_of_getElem? (i := 598) (by decide +kernel), by decide +kernel⟩
theorem zq_599 : (.constantLong zR_Mo 125 (7) : Cond) ∈ mp_tbl := List.mem_filter.mpr ⟨List.mem_of_getElem? (i := 599) (by decide +kernel), by decide +kernel⟩
theorem zq_600 : (.methodLink zR_La 67 zy_Mo_seen : Cond) ∈ mp_tbl := List.mem_filter.mpr ⟨List.mem_of_getElem? (i := 600) (by decide +kernel), by decide +kernel⟩
theorem zq_601 : (.instanceMethod zy_Mo_seen : Cond) ∈ mp_tbl := List.mem_filter.mpr ⟨List.mem_of_getElem? (i := 601) (by decide +kernel), by decide +kernel⟩
theorem zq_602 : (.selects zR_Mo zy_Mo_seen zy_Mo_seen : Cond) ∈ mp_tbl := List.mem_filter.mpr ⟨List.mem_of_getElem? (i := 602) (by decide +kernel), by decide +kernel⟩
theorem zq_603 : (.code zy_Mo_seen zb_Mo_seen 11 (some .long) : Cond) ∈ mp_tbl := List.mem_filter.mpr ⟨List.mem_of_getElem? (i := 603) (by decide +kernel), by decide +kernel⟩
theorem zq_604 : (.constantLong zR_Mo 127 (2) : Cond) ∈ mp_tbl := List.mem_filter.mpr ⟨List.mem_of_getElem? (i := 604) (by decide +kernel), by decide +kernel⟩
theorem zq_605 : (.methodLink zR_Mo 129 zy_Mo_partOf : Cond) ∈ mp_tbl := List.mem_filter.mpr ⟨List.mem_of_getElem? (i := 605) (by decide +kernel), by decide +kernel⟩
theorem zq_607 : (.instanceMethod zy_Mo_partOf : Cond) ∈ mp_tbl := List.mem_filter.mpr ⟨List.mem_of_getElem? (i := 607) (by decide +kernel), by decide +kernel⟩
theorem zq_608 : (.code zy_Mo_partOf zb_Mo_partOf 5 (some .int) : Cond) ∈ mp_tbl := List.mem_filter.mpr ⟨List.mem_of_getElem? (i := 608) (by decide +kernel), by decide +kernel⟩
theorem zq_609 : (.constantLong zR_Mo 133 (-2) : Cond) ∈ mp_tbl := List.mem_filter.mpr ⟨List.mem_of_getElem? (i := 609) (by decide +kernel), by decide +kernel⟩
theorem zq_610 : (.methodLink zR_La 72 zy_Mo_unit : Cond) ∈ mp_tbl := List.mem_filter.mpr ⟨List.mem_of_getElem? (i := 610) (by decide +kernel), by decide +kernel⟩
theorem zq_611 : (.instanceMethod zy_Mo_unit : Cond) ∈ mp_tbl := List.mem_filter.mpr ⟨List.mem_of_getElem? (i := 611) (by decide +kernel), by decide +kernel⟩
theorem zq_612 : (.selects zR_Mo zy_Mo_unit zy_Mo_unit : Cond) ∈ mp_tbl := List.mem_filter.mpr ⟨List.mem_of_getElem? (i := 612) (by decide +kernel), by decide +kernel⟩
theorem zq_613 : (.code zy_Mo_unit zb_Mo_unit 2 (some .boolean) : Cond) ∈ mp_tbl := List.mem_filter.mpr ⟨List.mem_of_getElem? (i := 613) (by decide +kernel), by decide +kernel⟩
theorem zq_614 : (.constantLong zR_Mo 135 (255) : Cond) ∈ mp_tbl := List.mem_filter.mpr ⟨List.mem_of_getElem? (i := 614) (by decide +kernel), by decide +kernel⟩
theorem zq_615 : (.methodLink zR_La 76 zy_Mo_score : Cond) ∈ mp_tbl := List.mem_filter.mpr ⟨List.mem_of_getElem? (i := 615) (by decide +kernel), by decide +kernel⟩
theorem zq_616 : (.instanceMethod zy_Mo_score : Cond) ∈ mp_tbl := List.mem_filter.mpr ⟨List.mem_of_getElem? (i := 616) (by decide +kernel), by decide +kernel⟩
theorem zq_617 : (.selects zR_Mo zy_Mo_score zy_Mo_score : Cond) ∈ mp_tbl := List.mem_filter.mpr ⟨List.mem_of_getElem? (i := 617) (by decide +kernel), by decide +kernel⟩
theorem zq_618 : (.code zy_Mo_score zb_Mo_score 7 (some .int) : Cond) ∈ mp_tbl := List.mem_filter.mpr ⟨List.mem_of_getElem? (i := 618) (by decide +kernel), by decide +kernel⟩
theorem zq_619 : (.methodLink zR_Mo 144 zy_Mo_isBlank : Cond) ∈ mp_tbl := List.mem_filter.mpr ⟨List.mem_of_getElem? (i := 619) (by decide +kernel), by decide +kernel⟩
theorem zq_620 : (.static zy_Mo_isBlank : Cond) ∈ mp_tbl := List.mem_filter.mpr ⟨List.mem_of_getElem? (i := 620) (by decide +kernel), by decide +kernel⟩
theorem zq_621 : (.code zy_Mo_isBlank zb_Mo_isBlank 1 (some .boolean) : Cond) ∈ mp_tbl := List.mem_filter.mpr ⟨List.mem_of_getElem? (i := 621) (by decide +kernel), by decide +kernel⟩
theorem zq_622 : (.methodLink zR_Mo 147 zy_Mo_wordAt : Cond) ∈ mp_tbl := List.mem_filter.mpr ⟨List.mem_of_getElem? (i := 622) (by decide +kernel), by decide +kernel⟩
theorem zq_624 : (.instanceMethod zy_Mo_wordAt : Cond) ∈ mp_tbl := List.mem_filter.mpr ⟨List.mem_of_getElem? (i := 624) (by decide +kernel), by decide +kernel⟩
theorem zq_625 : (.code zy_Mo_wordAt zb_Mo_wordAt 6 (some .int) : Cond) ∈ mp_tbl := List.mem_filter.mpr ⟨List.mem_of_getElem? (i := 625) (by decide +kernel), by decide +kernel⟩
theorem zq_626 : (.methodLink zR_Mo 140 zy_Mo_is : Cond) ∈ mp_tbl := List.mem_filter.mpr ⟨List.mem_of_getElem? (i := 626) (by decide +kernel), by decide +kernel⟩
theorem zq_628 : (.instanceMethod zy_Mo_is : Cond) ∈ mp_tbl := List.mem_filter.mpr ⟨List.mem_of_getElem? (i := 628) (by decide +kernel), by decide +kernel⟩
theorem zq_629 : (.code zy_Mo_is zb_Mo_is 5 (some .boolean) : Cond) ∈ mp_tbl := List.mem_filter.mpr ⟨List.mem_of_getElem? (i := 629) (by decide +kernel), by decide +kernel⟩
theorem zq_630 : (.methodLink zR_Mo 150 zy_Mo_isOfTwo : Cond) ∈ mp_tbl := List.mem_filter.mpr ⟨List.mem_of_getElem? (i := 630) (by decide +kernel), by decide +kernel⟩
theorem zq_631 : (.static zy_Mo_isOfTwo : Cond) ∈ mp_tbl := List.mem_filter.mpr ⟨List.mem_of_getElem? (i := 631) (by decide +kernel), by decide +kernel⟩
theorem zq_632 : (.code zy_Mo_isOfTwo zb_Mo_isOfTwo 1 (some .boolean) : Cond) ∈ mp_tbl := List.mem_filter.mpr ⟨List.mem_of_getElem? (i := 632) (by decide +kernel), by decide +kernel⟩
theorem zq_633 : (.methodLink zR_La 81 zy_Mo_scored : Cond) ∈ mp_tbl := List.mem_filter.mpr ⟨List.mem_of_getElem? (i := 633) (by decide +kernel), by decide +kernel⟩
theorem zq_634 : (.instanceMethod zy_Mo_scored : Cond) ∈ mp_tbl := List.mem_filter.mpr ⟨List.mem_of_getElem? (i := 634) (by decide +kernel), by decide +kernel⟩
theorem zq_635 : (.selects zR_Mo zy_Mo_scored zy_Mo_scored : Cond) ∈ mp_tbl := List.mem_filter.mpr ⟨List.mem_of_getElem? (i := 635) (by decide +kernel), by decide +kernel⟩
theorem zq_636 : (.code zy_Mo_scored zb_Mo_scored 2 (some .long) : Cond) ∈ mp_tbl := List.mem_filter.mpr ⟨List.mem_of_getElem? (i := 636) (by decide +kernel), by decide +kernel⟩
theorem zq_637 : (.methodLink zR_Mo 186 zy_Mo_valueOf : Cond) ∈ mp_tbl := List.mem_filter.mpr ⟨List.mem_of_getElem? (i := 637) (by decide +kernel), by decide +kernel⟩
theorem zq_639 : (.instanceMethod zy_Mo_valueOf : Cond) ∈ mp_tbl := List.mem_filter.mpr ⟨List.mem_of_getElem? (i := 639) (by decide +kernel), by decide +kernel⟩
theorem zq_640 : (.code zy_Mo_valueOf zb_Mo_valueOf 5 (some .long) : Cond) ∈ mp_tbl := List.mem_filter.mpr ⟨List.mem_of_getElem? (i := 640) (by decide +kernel), by decide +kernel⟩
theorem zq_641 : (.methodLink zR_Mo 174 zy_Mo_ofTwo : Cond) ∈ mp_tbl := List.mem_filter.mpr ⟨List.mem_of_getElem? (i := 641) (by decide +kernel), by decide +kernel⟩
theorem zq_642 : (.static zy_Mo_ofTwo : Cond) ∈ mp_tbl := List.mem_filter.mpr ⟨List.mem_of_getElem? (i := 642) (by decide +kernel), by decide +kernel⟩
theorem zq_643 : (.code zy_Mo_ofTwo zb_Mo_ofTwo 5 (some .long) : Cond) ∈ mp_tbl := List.mem_filter.mpr ⟨List.mem_of_getElem? (i := 643) (by decide +kernel), by decide +kernel⟩
theorem zq_644 : (.methodLink zR_Mo 166 zy_Mo_cut : Cond) ∈ mp_tbl := List.mem_filter.mpr ⟨List.mem_of_getElem? (i := 644) (by decide +kernel), by decide +kernel⟩
theorem zq_645 : (.static zy_Mo_cut : Cond) ∈ mp_tbl := List.mem_filter.mpr ⟨List.mem_of_getElem? (i := 645) (by decide +kernel), by decide +kernel⟩
theorem zq_646 : (.code zy_Mo_cut zb_Mo_cut 2 (some .long) : Cond) ∈ mp_tbl := List.mem_filter.mpr ⟨List.mem_of_getElem? (i := 646) (by decide +kernel), by decide +kernel⟩
theorem zq_647 : (.constantLong zR_Mo 160 (1000000000000) : Cond) ∈ mp_tbl := List.mem_filter.mpr ⟨List.mem_of_getElem? (i := 647) (by decide +kernel), by decide +kernel⟩
theorem zq_648 : (.constantLong zR_Mo 162 (-1000000000000) : Cond) ∈ mp_tbl := List.mem_filter.mpr ⟨List.mem_of_getElem? (i := 648) (by decide +kernel), by decide +kernel⟩
theorem zq_649 : (.methodLink zR_Mo 170 zy_Mo_product : Cond) ∈ mp_tbl := List.mem_filter.mpr ⟨List.mem_of_getElem? (i := 649) (by decide +kernel), by decide +kernel⟩
theorem zq_650 : (.static zy_Mo_product : Cond) ∈ mp_tbl := List.mem_filter.mpr ⟨List.mem_of_getElem? (i := 650) (by decide +kernel), by decide +kernel⟩
theorem zq_651 : (.code zy_Mo_product zb_Mo_product 10 (some .long) : Cond) ∈ mp_tbl := List.mem_filter.mpr ⟨List.mem_of_getElem? (i := 651) (by decide +kernel), by decide +kernel⟩
theorem zq_652 : (.methodLink zR_Mo 178 zy_Mo_countOf : Cond) ∈ mp_tbl := List.mem_filter.mpr ⟨List.mem_of_getElem? (i := 652) (by decide +kernel), by decide +kernel⟩
theorem zq_654 : (.instanceMethod zy_Mo_countOf : Cond) ∈ mp_tbl := List.mem_filter.mpr ⟨List.mem_of_getElem? (i := 654) (by decide +kernel), by decide +kernel⟩
theorem zq_655 : (.code zy_Mo_countOf zb_Mo_countOf 4 (some .long) : Cond) ∈ mp_tbl := List.mem_filter.mpr ⟨List.mem_of_getElem? (i := 655) (by decide +kernel), by decide +kernel⟩
theorem zq_656 : (.methodLink zR_Mo 182 zy_Mo_shareOf : Cond) ∈ mp_tbl := List.mem_filter.mpr ⟨List.mem_of_getElem? (i := 656) (by decide +kernel), by decide +kernel⟩
theorem zq_658 : (.instanceMethod zy_Mo_shareOf : Cond) ∈ mp_tbl := List.mem_filter.mpr ⟨List.mem_of_getElem? (i := 658) (by decide +kernel), by decide +kernel⟩
theorem zq_659 : (.code zy_Mo_shareOf zb_Mo_shareOf 8 (some .long) : Cond) ∈ mp_tbl := List.mem_filter.mpr ⟨List.mem_of_getElem? (i := 659) (by decide +kernel), by decide +kernel⟩
theorem zq_660 : (.constantLong zR_Mo 164 (1000) : Cond) ∈ mp_tbl := List.mem_filter.mpr ⟨List.mem_of_getElem? (i := 660) (by decide +kernel), by decide +kernel⟩
theorem zq_661 : (.constantLong zR_Mo 189 (-9223372036854775808) : Cond) ∈ mp_tbl := List.mem_filter.mpr ⟨List.mem_of_getElem? (i := 661) (by decide +kernel), by decide +kernel⟩
theorem zq_662 : (.methodLink zR_La 86 zy_Mo_swap : Cond) ∈ mp_tbl := List.mem_filter.mpr ⟨List.mem_of_getElem? (i := 662) (by decide +kernel), by decide +kernel⟩
theorem zq_663 : (.instanceMethod zy_Mo_swap : Cond) ∈ mp_tbl := List.mem_filter.mpr ⟨List.mem_of_getElem? (i := 663) (by decide +kernel), by decide +kernel⟩
theorem zq_664 : (.selects zR_Mo zy_Mo_swap zy_Mo_swap : Cond) ∈ mp_tbl := List.mem_filter.mpr ⟨List.mem_of_getElem? (i := 664) (by decide +kernel), by decide +kernel⟩
theorem zq_665 : (.code zy_Mo_swap zb_Mo_swap 5 (some .int) : Cond) ∈ mp_tbl := List.mem_filter.mpr ⟨List.mem_of_getElem? (i := 665) (by decide +kernel), by decide +kernel⟩
theorem zq_666 : (.methodLink zR_La 91 zy_Mo_mark : Cond) ∈ mp_tbl := List.mem_filter.mpr ⟨List.mem_of_getElem? (i := 666) (by decide +kernel), by decide +kernel⟩
theorem zq_667 : (.instanceMethod zy_Mo_mark : Cond) ∈ mp_tbl := List.mem_filter.mpr ⟨List.mem_of_getElem? (i := 667) (by decide +kernel), by decide +kernel⟩
theorem zq_668 : (.selects zR_Mo zy_Mo_mark zy_Mo_mark : Cond) ∈ mp_tbl := List.mem_filter.mpr ⟨List.mem_of_getElem? (i := 668) (by decide +kernel), by decide +kernel⟩
theorem zq_669 : (.code zy_Mo_mark zb_Mo_mark 8 (some .int) : Cond) ∈ mp_tbl := List.mem_filter.mpr ⟨List.mem_of_getElem? (i := 669) (by decide +kernel), by decide +kernel⟩
theorem zq_670 : (.constantLong zR_Mo 191 (6364136223846793005) : Cond) ∈ mp_tbl := List.mem_filter.mpr ⟨List.mem_of_getElem? (i := 670) (by decide +kernel), by decide +kernel⟩
theorem zq_671 : (.methodLink zR_La 95 zy_Mo_most : Cond) ∈ mp_tbl := List.mem_filter.mpr ⟨List.mem_of_getElem? (i := 671) (by decide +kernel), by decide +kernel⟩
theorem zq_672 : (.instanceMethod zy_Mo_most : Cond) ∈ mp_tbl := List.mem_filter.mpr ⟨List.mem_of_getElem? (i := 672) (by decide +kernel), by decide +kernel⟩
theorem zq_673 : (.selects zR_Mo zy_Mo_most zy_Mo_most : Cond) ∈ mp_tbl := List.mem_filter.mpr ⟨List.mem_of_getElem? (i := 673) (by decide +kernel), by decide +kernel⟩
theorem zq_674 : (.code zy_Mo_most zb_Mo_most 9 (some .int) : Cond) ∈ mp_tbl := List.mem_filter.mpr ⟨List.mem_of_getElem? (i := 674) (by decide +kernel), by decide +kernel⟩
theorem zq_675 : (.methodLink zR_Mo 193 zy_Mo_allOf : Cond) ∈ mp_tbl := List.mem_filter.mpr ⟨List.mem_of_getElem? (i := 675) (by decide +kernel), by decide +kernel⟩
theorem zq_677 : (.instanceMethod zy_Mo_allOf : Cond) ∈ mp_tbl := List.mem_filter.mpr ⟨List.mem_of_getElem? (i := 677) (by decide +kernel), by decide +kernel⟩
theorem zq_678 : (.code zy_Mo_allOf zb_Mo_allOf 5 (some .long) : Cond) ∈ mp_tbl := List.mem_filter.mpr ⟨List.mem_of_getElem? (i := 678) (by decide +kernel), by decide +kernel⟩
theorem zq_679 : (.constantLong zR_La 18 (4294967295) : Cond) ∈ mp_tbl := List.mem_filter.mpr ⟨List.mem_of_getElem? (i := 679) (by decide +kernel), by decide +kernel⟩
end
section
/-! what the rows of the methods stand on: pure steps, and calls in one row each -/
theorem mp_t {α : Type} {c : Prop} [Decidable c] {x y r : α} (h : c) (hf : (if c then x else y) = r) : x = r := by rw [if_pos h] at hf; exact hf
theorem mp_f {α : Type} {c : Prop} [Decidable c] {x y r : α} (h : ¬ c) (hf : (if c then x else y) = r) : y = r := by rw [if_neg h] at hf; exact hf
theorem mp_in {α : Type} {c : Prop} [Decidable c] {x : Option α} {r : α} (hf : (if c then none else x) = some r) : (¬ c) ∧ x = some r := by
  by_cases h : c
  · rw [if_pos h] at hf; cases hf
  · rw [if_neg h] at hf; exact ⟨h, hf⟩
theorem mp_bd {α β : Type} {x : Option α} {k : α → Option β} {r : β} (hf : x.bind k = some r) : ∃ y, x = some y ∧ k y = some r := by
  cases x with
  | none => cases hf
  | some y => exact ⟨y, rfl, hf⟩
theorem mp_cp {a b c : Prop} {x y z w : Nat} (h : ¬ (a ∨ b ∨ c ∨ x < y ∨ z < w)) : ¬ a ∧ ¬ b ∧ ¬ c ∧ y ≤ x ∧ w ≤ z :=
  ⟨fun q => h (Or.inl q), fun q => h (Or.inr (Or.inl q)), fun q => h (Or.inr (Or.inr (Or.inl q))), Nat.le_of_not_lt (fun q => h (Or.inr (Or.inr (Or.inr (Or.inl q))))), Nat.le_of_not_lt (fun q => h (Or.inr (Or.inr (Or.inr (Or.inr q)))))⟩
abbrev mp_b (x : Int32) : Prop := x = 0 ∨ x = 1
theorem mp_nz {x : Int32} (h : mp_b x) : narrow .boolean (.int x) = .int x := by
  rcases h with rfl | rfl <;> decide
abbrev mp_tys (cI cJ cZ : ClassId) : List (ClassId × FieldType) := [(cI, .int), (cJ, .long), (cZ, .boolean)]
/-- what the tables say of private members of nest mates -/
def mp_N (U : State) : Prop := va_Nw (.methodLinkNest zR_MP 19 zy_Pa_init zR_MP) U ∧ va_Nw (.methodLinkNest zR_Pa 30 zy_Ch_init zR_MP) U ∧ va_Nw (.methodLinkNest zR_MP 26 zy_Ne_init zR_MP) U ∧ va_Nw (.methodLinkNest zR_MP 33 zy_Fo_init zR_MP) U ∧ va_Nw (.methodLinkNest zR_Fo 74 zy_MP_isKind zR_MP) U
theorem mp_N.warm {s U : State} (hW : s.WarmedH U.vm) (h : mp_N s) : mp_N U := ⟨va_Nw.warmM hW h.1, va_Nw.warmM hW h.2.1, va_Nw.warmM hW h.2.2.1, va_Nw.warmM hW h.2.2.2.1, va_Nw.warmM hW h.2.2.2.2⟩
theorem mp_N.same {u U : State} (hv : u.vm = U.vm) (h : mp_N u) : mp_N U := ⟨va_Nw.same rfl hv h.1, va_Nw.same rfl hv h.2.1, va_Nw.same rfl hv h.2.2.1, va_Nw.same rfl hv h.2.2.2.1, va_Nw.same rfl hv h.2.2.2.2⟩
abbrev mp_PR (D : va_G) (cl : List vw_C) (tys : List (ClassId × FieldType)) (ws : va_W) (av : List Value) : Array Value → State → Prop := va_Pc av (fun U => va_P D cl ws U.heap ∧ va_K D cl tys U ∧ mp_N U)
abbrev mp_PM (D : va_G) (cl : List vw_C) (tys : List (ClassId × FieldType)) (ws : va_W) (sz : Nat) (av : List Value) : Array Value → State → Prop := va_Pc av (fun U => U.heap.size = sz ∧ va_P D cl ws U.heap ∧ va_K D cl tys U ∧ va_D (fun _ => True) ws ∧ mp_N U)
abbrev mp_BM (D : va_G) (cl : List vw_C) (w1 : va_W) (A : Nat → Prop) : Unit → State → Prop := fun _ t => va_P D cl w1 t.heap ∧ va_D A w1
theorem mp_goodw {w : Cond} (h : w ∈ mp_tbl) : (w.onTables && w.keeps) = true ∨ ∃ ty, w = .arrayClass ty := good_of_word (List.mem_filter.mp h).2
theorem mp_gC {Ts : List Cond} (hs : ∀ w ∈ mp_tbl, w ∈ Ts) {k : Cond} (h : k ∈ mp_tbl) : GoodIn Ts (k :: mp_tbl) := fun w hw => by
  rcases List.mem_cons.mp hw with rfl | q
  · exact ⟨hs _ h, mp_goodw h⟩
  · exact ⟨hs _ q, mp_goodw q⟩
theorem mp_gL {Ts : List Cond} (hs : ∀ w ∈ mp_tbl, w ∈ Ts) {L ws : List Cond} (hL : ∀ w ∈ L, w ∈ mp_tbl) (hg : GoodIn Ts ws) : GoodIn Ts (L ++ ws) := fun w hw => by
  rcases List.mem_append.mp hw with q | q
  · exact ⟨hs _ (hL w q), mp_goodw (hL w q)⟩
  · exact hg w q
theorem mp_gV {Ts : List Cond} (hs : ∀ w ∈ mp_tbl, w ∈ Ts) {own C : String} {idx : Nat} {y : MethodName} {k : Cond} (h1 : Cond.methodLink own idx y ∈ mp_tbl) (h2 : Cond.instanceMethod y ∈ mp_tbl) (h3 : Cond.selects C y y ∈ mp_tbl) (h4 : Cond.initialized C ∈ mp_tbl) (h5 : k ∈ mp_tbl) : GoodIn Ts (wsV own idx C y (k :: mp_tbl)) :=
  mp_gL hs (List.forall_mem_cons.mpr ⟨h1, List.forall_mem_cons.mpr ⟨h2, List.forall_mem_cons.mpr ⟨h3, List.forall_mem_cons.mpr ⟨h4, fun _ h => absurd h List.not_mem_nil⟩⟩⟩⟩) (mp_gC hs h5)
theorem mp_gS {Ts : List Cond} (hs : ∀ w ∈ mp_tbl, w ∈ Ts) {own : String} {idx : Nat} {y : MethodName} {k : Cond} (h1 : Cond.methodLink own idx y ∈ mp_tbl) (h2 : Cond.static y ∈ mp_tbl) (h3 : Cond.initialized y.cls ∈ mp_tbl) (h4 : k ∈ mp_tbl) : GoodIn Ts (va_wsS own idx y (k :: mp_tbl)) :=
  mp_gL hs (List.forall_mem_cons.mpr ⟨h1, List.forall_mem_cons.mpr ⟨h2, List.forall_mem_cons.mpr ⟨h3, fun _ h => absurd h List.not_mem_nil⟩⟩⟩) (mp_gC hs h4)
abbrev mp_BC {S : Type} (D : va_G) (cl : List vw_C) (B1 : S → va_W) (A : Nat → Prop) : S → State → Prop := fun u t => va_P D cl (B1 u) t.heap ∧ va_D A (B1 u)
section MPC
variable {p : Program} {l : Launch} {e : Env} {R : Room} {s : State} {m : MethodId} {args : Array Value} {below : List Frame} {meth : Method} {c : Code} {H : Heap} {locs : List Loc} {cells slots : Nat} {Q : State → Prop}
variable {D : va_G} {cl : List vw_C} {tys : List (ClassId × FieldType)} {ws wc wr w1 : va_W} {av : List Value} {a : Array Value} {st0 rest : List Value} {pc : Nat} {ls : Array Slot} {A0 : Nat → Prop} {H0 : Heap}
theorem mp_blR : FrameBlind (mp_PR D cl tys ws av) := fun a U g mk q => ⟨q.1, q.2.1, va_K.moved (u := U) (U := U.calling g mk a) (Vm.Alike.refl U.vm) q.2.2.1, mp_N.same (u := U) (U := U.calling g mk a) rfl q.2.2.2⟩
theorem mp_blM {sz : Nat} : FrameBlind (mp_PM D cl tys ws sz av) := fun a U g mk q => ⟨q.1, q.2.1, q.2.2.1, va_K.moved (u := U) (U := U.calling g mk a) (Vm.Alike.refl U.vm) q.2.2.2.1, q.2.2.2.2.1, mp_N.same (u := U) (U := U.calling g mk a) rfl q.2.2.2.2.2⟩
theorem mp_preR (hN : mp_N s) (hK : va_K D cl tys s) (hP : va_P D cl wc H) : ∀ U : State, U.heap = H → s.WarmedH U.vm → mp_PR D cl tys wc av av.toArray U := fun U hU hW => ⟨rfl, by rw [hU]; exact hP, va_K.moved hW.alike hK, mp_N.warm hW hN⟩
theorem mp_preM (hN : mp_N s) (hK : va_K D cl tys s) (hP : va_P D cl wc H) (hD : va_D A0 wc) : ∀ U : State, U.heap = H → s.WarmedH U.vm → mp_PM D cl tys wc H.size av av.toArray U := fun U hU hW => ⟨rfl, by rw [hU], by rw [hU]; exact hP, va_K.moved hW.alike hK, hD.weaken (fun _ _ _ _ => trivial), mp_N.warm hW hN⟩
theorem mp_Ri {res : Int32} (hr : va_Run p l e R s m args below meth c H locs cells slots 0 0 (F0 m pc ls st0) rest (vp_Si (fun r => r = res) a) (fun _ => False))
    (kk : W p l e R s m args below meth c H locs cells slots Q (F0 m (pc + 3) ls (.int res :: rest))) : W p l e R s m args below meth c H locs cells slots Q (F0 m pc ls st0) := vp_callSi hr.run (fun r h => by rw [h]; exact kk)
theorem mp_Rz {res : Int32} (hr : va_Run p l e R s m args below meth c H locs cells slots 0 0 (F0 m pc ls st0) rest (vp_Si (fun r => r = res ∧ mp_b res) a) (fun _ => False))
    (kk : mp_b res → W p l e R s m args below meth c H locs cells slots Q (F0 m (pc + 3) ls (.int res :: rest))) : W p l e R s m args below meth c H locs cells slots Q (F0 m pc ls st0) := vp_callSi hr.run (fun r h => by rw [h.1]; exact kk h.2)
theorem mp_Rl {res : Int64} (hr : va_Run p l e R s m args below meth c H locs cells slots 0 0 (F0 m pc ls st0) rest (vp_Sl (fun r => r = res) a) (fun _ => False))
    (kk : W p l e R s m args below meth c H locs cells slots Q (F0 m (pc + 3) ls (.long res :: rest))) : W p l e R s m args below meth c H locs cells slots Q (F0 m pc ls st0) := vp_callSl hr.run (fun r h => by rw [h]; exact kk)
theorem mp_Mi {res : Int32} (hr : va_Run p l e R s m args below meth c H locs cells slots 0 0 (F0 m pc ls st0) rest (va_Qi (fun r (_ : Unit) => r = res) (mp_BM D cl w1 (va_A wc H.size)) (va_A wc H.size) a) (va_A wc H.size))
    (hP : va_P D cl ws H) (hD : va_D A0 ws) (hS : va_S A0 H0 H locs) (hA : ∀ q, H0.size ≤ q → A0 q) (isC isR : List Nat) (hC : isC.map (fun i => ws[i]?) = wc.map some) (hR : isR.map (fun i => ws[i]?) = wr.map some) (hn : va_nd isR = true) (hdis : ∀ i ∈ isR, i ∉ isC)
    (kk : ∀ (H1 : Heap) (locs1 : List Loc), va_P D cl (wr ++ w1) H1 → va_D A0 (wr ++ w1) → va_S A0 H0 H1 locs1 → W p l e R s m args below meth c H1 locs1 cells slots Q (F0 m (pc + 3) ls (.int res :: rest))) : W p l e R s m args below meth c H locs cells slots Q (F0 m pc ls st0) := by
  have hF := va_free (wc := wc) hD hS hA isC hC
  refine va_calli hr hS (fun q _ h => hF q h) hF (fun r u t H1 locs1 ht hvm hw hB hz1 hk1 hS1 => ?_)
  obtain ⟨hP1, hD1⟩ := hB
  rw [ht] at hP1
  obtain ⟨hP2, hD2⟩ := va_join hP hD isC isR hC hR hn hdis hk1 hF hP1 hD1
  rw [hw]
  exact kk H1 locs1 hP2 hD2 hS1
theorem mp_Mz {res : Int32} (hr : va_Run p l e R s m args below meth c H locs cells slots 0 0 (F0 m pc ls st0) rest (va_Qi (fun r (_ : Unit) => r = res ∧ mp_b res) (mp_BM D cl w1 (va_A wc H.size)) (va_A wc H.size) a) (va_A wc H.size))
    (hP : va_P D cl ws H) (hD : va_D A0 ws) (hS : va_S A0 H0 H locs) (hA : ∀ q, H0.size ≤ q → A0 q) (isC isR : List Nat) (hC : isC.map (fun i => ws[i]?) = wc.map some) (hR : isR.map (fun i => ws[i]?) = wr.map some) (hn : va_nd isR = true) (hdis : ∀ i ∈ isR, i ∉ isC)
    (kk : ∀ (H1 : Heap) (locs1 : List Loc), va_P D cl (wr ++ w1) H1 → va_D A0 (wr ++ w1) → va_S A0 H0 H1 locs1 → mp_b res → W p l e R s m args below meth c H1 locs1 cells slots Q (F0 m (pc + 3) ls (.int res :: rest))) : W p l e R s m args below meth c H locs cells slots Q (F0 m pc ls st0) := by
  have hF := va_free (wc := wc) hD hS hA isC hC
  refine va_calli hr hS (fun q _ h => hF q h) hF (fun r u t H1 locs1 ht hvm hw hB hz1 hk1 hS1 => ?_)
  obtain ⟨hP1, hD1⟩ := hB
  rw [ht] at hP1
  obtain ⟨hP2, hD2⟩ := va_join hP hD isC isR hC hR hn hdis hk1 hF hP1 hD1
  rw [hw.1]
  exact kk H1 locs1 hP2 hD2 hS1 hw.2
theorem mp_Ml {res : Int64} (hr : va_Run p l e R s m args below meth c H locs cells slots 0 0 (F0 m pc ls st0) rest (va_Ql (fun r (_ : Unit) => r = res) (mp_BM D cl w1 (va_A wc H.size)) (va_A wc H.size) a) (va_A wc H.size))
    (hP : va_P D cl ws H) (hD : va_D A0 ws) (hS : va_S A0 H0 H locs) (hA : ∀ q, H0.size ≤ q → A0 q) (isC isR : List Nat) (hC : isC.map (fun i => ws[i]?) = wc.map some) (hR : isR.map (fun i => ws[i]?) = wr.map some) (hn : va_nd isR = true) (hdis : ∀ i ∈ isR, i ∉ isC)
    (kk : ∀ (H1 : Heap) (locs1 : List Loc), va_P D cl (wr ++ w1) H1 → va_D A0 (wr ++ w1) → va_S A0 H0 H1 locs1 → W p l e R s m args below meth c H1 locs1 cells slots Q (F0 m (pc + 3) ls (.long res :: rest))) : W p l e R s m args below meth c H locs cells slots Q (F0 m pc ls st0) := by
  have hF := va_free (wc := wc) hD hS hA isC hC
  refine va_calll hr hS (fun q _ h => hF q h) hF (fun r u t H1 locs1 ht hvm hw hB hz1 hk1 hS1 => ?_)
  obtain ⟨hP1, hD1⟩ := hB
  rw [ht] at hP1
  obtain ⟨hP2, hD2⟩ := va_join hP hD isC isR hC hR hn hdis hk1 hF hP1 hD1
  rw [hw]
  exact kk H1 locs1 hP2 hD2 hS1
theorem mp_Mv (hr : va_Run p l e R s m args below meth c H locs cells slots 0 0 (F0 m pc ls st0) rest (va_Qv (fun (_ : Unit) => True) (mp_BM D cl w1 (va_A wc H.size)) (va_A wc H.size) a) (va_A wc H.size))
    (hP : va_P D cl ws H) (hD : va_D A0 ws) (hS : va_S A0 H0 H locs) (hA : ∀ q, H0.size ≤ q → A0 q) (isC isR : List Nat) (hC : isC.map (fun i => ws[i]?) = wc.map some) (hR : isR.map (fun i => ws[i]?) = wr.map some) (hn : va_nd isR = true) (hdis : ∀ i ∈ isR, i ∉ isC)
    (kk : ∀ (H1 : Heap) (locs1 : List Loc), va_P D cl (wr ++ w1) H1 → va_D A0 (wr ++ w1) → va_S A0 H0 H1 locs1 → W p l e R s m args below meth c H1 locs1 cells slots Q (F0 m (pc + 3) ls rest)) : W p l e R s m args below meth c H locs cells slots Q (F0 m pc ls st0) := by
  have hF := va_free (wc := wc) hD hS hA isC hC
  refine va_callv hr hS (fun q _ h => hF q h) hF (fun u t H1 locs1 ht hvm hw hB hz1 hk1 hS1 => ?_)
  obtain ⟨hP1, hD1⟩ := hB
  rw [ht] at hP1
  obtain ⟨hP2, hD2⟩ := va_join hP hD isC isR hC hR hn hdis hk1 hF hP1 hD1
  exact kk H1 locs1 hP2 hD2 hS1
theorem mp_Cv {S : Type} {B1 : S → va_W} {mc ms : Nat} (hr : va_Run p l e R s m args below meth c H locs cells slots mc ms (F0 m pc ls st0) rest (va_Qv (fun (_ : S) => True) (mp_BC D cl B1 (va_A wc H.size)) (va_A wc H.size) a) (va_A wc H.size))
    (hP : va_P D cl ws H) (hD : va_D A0 ws) (hS : va_S A0 H0 H locs) (hA : ∀ q, H0.size ≤ q → A0 q) (isC isR : List Nat) (hC : isC.map (fun i => ws[i]?) = wc.map some) (hR : isR.map (fun i => ws[i]?) = wr.map some) (hn : va_nd isR = true) (hdis : ∀ i ∈ isR, i ∉ isC)
    (kk : ∀ (u : S) (H1 : Heap) (locs1 : List Loc), va_P D cl (wr ++ B1 u) H1 → va_D A0 (wr ++ B1 u) → va_S A0 H0 H1 locs1 → W p l e R s m args below meth c H1 locs1 (cells + mc) (slots + ms) Q (F0 m (pc + 3) ls rest)) : W p l e R s m args below meth c H locs cells slots Q (F0 m pc ls st0) := by
  have hF := va_free (wc := wc) hD hS hA isC hC
  refine va_callv hr hS (fun q _ h => hF q h) hF (fun u t H1 locs1 ht hvm hw hB hz1 hk1 hS1 => ?_)
  obtain ⟨hP1, hD1⟩ := hB
  rw [ht] at hP1
  obtain ⟨hP2, hD2⟩ := va_join hP hD isC isR hC hR hn hdis hk1 hF hP1 hD1
  exact kk u H1 locs1 hP2 hD2 hS1
theorem mp_sameI {cI cJ cZ cA : ClassId} (h : va_K D cl (mp_tys cI cJ cZ ++ [(cA, .int)]) s) : cI = cA := Option.some.inj ((h.2 0 _ rfl).2.symm.trans (h.2 3 _ rfl).2)
theorem mp_sameJ {cI cJ cZ cA : ClassId} (h : va_K D cl (mp_tys cI cJ cZ ++ [(cA, .long)]) s) : cJ = cA := Option.some.inj ((h.2 1 _ rfl).2.symm.trans (h.2 3 _ rfl).2)
theorem mp_sameZ {cI cJ cZ cA : ClassId} (h : va_K D cl (mp_tys cI cJ cZ ++ [(cA, .boolean)]) s) : cZ = cA := Option.some.inj ((h.2 2 _ rfl).2.symm.trans (h.2 3 _ rfl).2)
theorem mp_arr {ty : FieldType} (h : (Cond.arrayClass ty).before args s = true) : ∃ cA : ClassId, ArrOfT s cA ty ∧ s.vm.findClass ("[" ++ ty.toString) = some cA := by
  obtain ⟨cA, kA, comp, hfind, hk, hkind⟩ := Cond.arrayClass_spec h
  exact ⟨cA, fun n z => ⟨fun k h => (by cases h), kA, hk, comp, hkind⟩, hfind⟩
end MPC
end
section
theorem zd_MP_good_0 : decode zb_MP_good 0 = .ok (.aload_n 0, 1) := by decide +kernel
theorem zd_MP_good_1 : decode zb_MP_good 1 = .ok (.getfield 42, 3) := by decide +kernel
theorem zd_MP_good_4 : decode zb_MP_good 4 = .ok (.bipush 8, 2) := by decide +kernel
theorem zd_MP_good_6 : decode zb_MP_good 6 = .ok (.if_icmp .lt 5, 3) := by decide +kernel
theorem zd_MP_good_9 : decode zb_MP_good 9 = .ok (.iconst (-1), 1) := by decide +kernel
theorem zd_MP_good_10 : decode zb_MP_good 10 = .ok (.ireturn, 1) := by decide +kernel
theorem zd_MP_good_11 : decode zb_MP_good 11 = .ok (.aload_n 0, 1) := by decide +kernel
theorem zd_MP_good_12 : decode zb_MP_good 12 = .ok (.dup, 1) := by decide +kernel
theorem zd_MP_good_13 : decode zb_MP_good 13 = .ok (.getfield 42, 3) := by decide +kernel
theorem zd_MP_good_16 : decode zb_MP_good 16 = .ok (.iconst 1, 1) := by decide +kernel
theorem zd_MP_good_17 : decode zb_MP_good 17 = .ok (.iadd, 1) := by decide +kernel
theorem zd_MP_good_18 : decode zb_MP_good 18 = .ok (.putfield 42, 3) := by decide +kernel
theorem zd_MP_good_21 : decode zb_MP_good 21 = .ok (.aload_n 0, 1) := by decide +kernel
theorem zd_MP_good_22 : decode zb_MP_good 22 = .ok (.getfield 42, 3) := by decide +kernel
theorem zd_MP_good_25 : decode zb_MP_good 25 = .ok (.iconst 1, 1) := by decide +kernel
theorem zd_MP_good_26 : decode zb_MP_good 26 = .ok (.isub, 1) := by decide +kernel
theorem zd_MP_good_27 : decode zb_MP_good 27 = .ok (.ireturn, 1) := by decide +kernel
theorem zd_Pa_isFull_0 : decode zb_Pa_isFull 0 = .ok (.aload_n 0, 1) := by decide +kernel
theorem zd_Pa_isFull_1 : decode zb_Pa_isFull 1 = .ok (.getfield 35, 3) := by decide +kernel
theorem zd_Pa_isFull_4 : decode zb_Pa_isFull 4 = .ok (.bipush 24, 2) := by decide +kernel
theorem zd_Pa_isFull_6 : decode zb_Pa_isFull 6 = .ok (.if_icmp .lt 7, 3) := by decide +kernel
theorem zd_Pa_isFull_9 : decode zb_Pa_isFull 9 = .ok (.iconst 1, 1) := by decide +kernel
theorem zd_Pa_isFull_10 : decode zb_Pa_isFull 10 = .ok (.goto 4, 3) := by decide +kernel
theorem zd_Pa_isFull_13 : decode zb_Pa_isFull 13 = .ok (.iconst 0, 1) := by decide +kernel
theorem zd_Pa_isFull_14 : decode zb_Pa_isFull 14 = .ok (.ireturn, 1) := by decide +kernel
theorem zd_MP_isGood_0 : decode zb_MP_isGood 0 = .ok (.iload_n 1, 1) := by decide +kernel
theorem zd_MP_isGood_1 : decode zb_MP_isGood 1 = .ok (.ifCond .lt 15, 3) := by decide +kernel
theorem zd_MP_isGood_4 : decode zb_MP_isGood 4 = .ok (.iload_n 1, 1) := by decide +kernel
theorem zd_MP_isGood_5 : decode zb_MP_isGood 5 = .ok (.aload_n 0, 1) := by decide +kernel
theorem zd_MP_isGood_6 : decode zb_MP_isGood 6 = .ok (.getfield 42, 3) := by decide +kernel
theorem zd_MP_isGood_9 : decode zb_MP_isGood 9 = .ok (.if_icmp .ge 7, 3) := by decide +kernel
theorem zd_MP_isGood_12 : decode zb_MP_isGood 12 = .ok (.iconst 1, 1) := by decide +kernel
theorem zd_MP_isGood_13 : decode zb_MP_isGood 13 = .ok (.goto 4, 3) := by decide +kernel
theorem zd_MP_isGood_16 : decode zb_MP_isGood 16 = .ok (.iconst 0, 1) := by decide +kernel
theorem zd_MP_isGood_17 : decode zb_MP_isGood 17 = .ok (.ireturn, 1) := by decide +kernel
theorem zd_MP_isKind_0 : decode zb_MP_isKind 0 = .ok (.iload_n 0, 1) := by decide +kernel
theorem zd_MP_isKind_1 : decode zb_MP_isKind 1 = .ok (.ifCond .lt 12, 3) := by decide +kernel
theorem zd_MP_isKind_4 : decode zb_MP_isKind 4 = .ok (.iload_n 0, 1) := by decide +kernel
theorem zd_MP_isKind_5 : decode zb_MP_isKind 5 = .ok (.iconst 5, 1) := by decide +kernel
theorem zd_MP_isKind_6 : decode zb_MP_isKind 6 = .ok (.if_icmp .ge 7, 3) := by decide +kernel
theorem zd_MP_isKind_9 : decode zb_MP_isKind 9 = .ok (.iconst 1, 1) := by decide +kernel
theorem zd_MP_isKind_10 : decode zb_MP_isKind 10 = .ok (.goto 4, 3) := by decide +kernel
theorem zd_MP_isKind_13 : decode zb_MP_isKind 13 = .ok (.iconst 0, 1) := by decide +kernel
theorem zd_MP_isKind_14 : decode zb_MP_isKind 14 = .ok (.ireturn, 1) := by decide +kernel
theorem zd_MP_isMaterial_0 : decode zb_MP_isMaterial 0 = .ok (.iload_n 0, 1) := by decide +kernel
theorem zd_MP_isMaterial_1 : decode zb_MP_isMaterial 1 = .ok (.invokestatic 101, 3) := by decide +kernel
theorem zd_MP_isMaterial_4 : decode zb_MP_isMaterial 4 = .ok (.ifCond .eq 21, 3) := by decide +kernel
theorem zd_MP_isMaterial_7 : decode zb_MP_isMaterial 7 = .ok (.lload_n 1, 1) := by decide +kernel
theorem zd_MP_isMaterial_8 : decode zb_MP_isMaterial 8 = .ok (.lconst 0, 1) := by decide +kernel
theorem zd_MP_isMaterial_9 : decode zb_MP_isMaterial 9 = .ok (.lcmp, 1) := by decide +kernel
theorem zd_MP_isMaterial_10 : decode zb_MP_isMaterial 10 = .ok (.ifCond .lt 15, 3) := by decide +kernel
theorem zd_MP_isMaterial_13 : decode zb_MP_isMaterial 13 = .ok (.lload_n 1, 1) := by decide +kernel
theorem zd_MP_isMaterial_14 : decode zb_MP_isMaterial 14 = .ok (.ldc2_w 174, 3) := by decide +kernel
theorem zd_MP_isMaterial_17 : decode zb_MP_isMaterial 17 = .ok (.lcmp, 1) := by decide +kernel
theorem zd_MP_isMaterial_18 : decode zb_MP_isMaterial 18 = .ok (.ifCond .gt 7, 3) := by decide +kernel
theorem zd_MP_isMaterial_21 : decode zb_MP_isMaterial 21 = .ok (.iconst 1, 1) := by decide +kernel
theorem zd_MP_isMaterial_22 : decode zb_MP_isMaterial 22 = .ok (.goto 4, 3) := by decide +kernel
theorem zd_MP_isMaterial_25 : decode zb_MP_isMaterial 25 = .ok (.iconst 0, 1) := by decide +kernel
theorem zd_MP_isMaterial_26 : decode zb_MP_isMaterial 26 = .ok (.ireturn, 1) := by decide +kernel
theorem zd_MP_isLife_0 : decode zb_MP_isLife 0 = .ok (.iload_n 0, 1) := by decide +kernel
theorem zd_MP_isLife_1 : decode zb_MP_isLife 1 = .ok (.ifCond .lt 14, 3) := by decide +kernel
theorem zd_MP_isLife_4 : decode zb_MP_isLife 4 = .ok (.iload_n 0, 1) := by decide +kernel
theorem zd_MP_isLife_5 : decode zb_MP_isLife 5 = .ok (.sipush 200, 3) := by decide +kernel
theorem zd_MP_isLife_8 : decode zb_MP_isLife 8 = .ok (.if_icmp .gt 7, 3) := by decide +kernel
theorem zd_MP_isLife_11 : decode zb_MP_isLife 11 = .ok (.iconst 1, 1) := by decide +kernel
theorem zd_MP_isLife_12 : decode zb_MP_isLife 12 = .ok (.goto 4, 3) := by decide +kernel
theorem zd_MP_isLife_15 : decode zb_MP_isLife 15 = .ok (.iconst 0, 1) := by decide +kernel
theorem zd_MP_isLife_16 : decode zb_MP_isLife 16 = .ok (.ireturn, 1) := by decide +kernel
theorem zd_Pa_add_0 : decode zb_Pa_add 0 = .ok (.aload_n 0, 1) := by decide +kernel
theorem zd_Pa_add_1 : decode zb_Pa_add 1 = .ok (.invokevirtual 39, 3) := by decide +kernel
theorem zd_Pa_add_4 : decode zb_Pa_add 4 = .ok (.ifCond .eq 5, 3) := by decide +kernel
theorem zd_Pa_add_7 : decode zb_Pa_add 7 = .ok (.iconst (-1), 1) := by decide +kernel
theorem zd_Pa_add_8 : decode zb_Pa_add 8 = .ok (.ireturn, 1) := by decide +kernel
theorem zd_Pa_add_9 : decode zb_Pa_add 9 = .ok (.aload_n 0, 1) := by decide +kernel
theorem zd_Pa_add_10 : decode zb_Pa_add 10 = .ok (.getfield 9, 3) := by decide +kernel
theorem zd_Pa_add_13 : decode zb_Pa_add 13 = .ok (.aload_n 0, 1) := by decide +kernel
theorem zd_Pa_add_14 : decode zb_Pa_add 14 = .ok (.getfield 35, 3) := by decide +kernel
theorem zd_Pa_add_17 : decode zb_Pa_add 17 = .ok (.iload_n 1, 1) := by decide +kernel
theorem zd_Pa_add_18 : decode zb_Pa_add 18 = .ok (.iastore, 1) := by decide +kernel
theorem zd_Pa_add_19 : decode zb_Pa_add 19 = .ok (.aload_n 0, 1) := by decide +kernel
theorem zd_Pa_add_20 : decode zb_Pa_add 20 = .ok (.getfield 15, 3) := by decide +kernel
theorem zd_Pa_add_23 : decode zb_Pa_add 23 = .ok (.aload_n 0, 1) := by decide +kernel
theorem zd_Pa_add_24 : decode zb_Pa_add 24 = .ok (.getfield 35, 3) := by decide +kernel
theorem zd_Pa_add_27 : decode zb_Pa_add 27 = .ok (.iload_n 2, 1) := by decide +kernel
theorem zd_Pa_add_28 : decode zb_Pa_add 28 = .ok (.iastore, 1) := by decide +kernel
theorem zd_Pa_add_29 : decode zb_Pa_add 29 = .ok (.aload_n 0, 1) := by decide +kernel
theorem zd_Pa_add_30 : decode zb_Pa_add 30 = .ok (.getfield 18, 3) := by decide +kernel
theorem zd_Pa_add_33 : decode zb_Pa_add 33 = .ok (.aload_n 0, 1) := by decide +kernel
theorem zd_Pa_add_34 : decode zb_Pa_add 34 = .ok (.getfield 35, 3) := by decide +kernel
theorem zd_Pa_add_37 : decode zb_Pa_add 37 = .ok (.lload_n 3, 1) := by decide +kernel
theorem zd_Pa_add_38 : decode zb_Pa_add 38 = .ok (.lastore, 1) := by decide +kernel
theorem zd_Pa_add_39 : decode zb_Pa_add 39 = .ok (.aload_n 0, 1) := by decide +kernel
theorem zd_Pa_add_40 : decode zb_Pa_add 40 = .ok (.getfield 22, 3) := by decide +kernel
theorem zd_Pa_add_43 : decode zb_Pa_add 43 = .ok (.aload_n 0, 1) := by decide +kernel
theorem zd_Pa_add_44 : decode zb_Pa_add 44 = .ok (.getfield 35, 3) := by decide +kernel
theorem zd_Pa_add_47 : decode zb_Pa_add 47 = .ok (.iload 5, 2) := by decide +kernel
theorem zd_Pa_add_49 : decode zb_Pa_add 49 = .ok (.iastore, 1) := by decide +kernel
theorem zd_Pa_add_50 : decode zb_Pa_add 50 = .ok (.aload_n 0, 1) := by decide +kernel
theorem zd_Pa_add_51 : decode zb_Pa_add 51 = .ok (.getfield 25, 3) := by decide +kernel
theorem zd_Pa_add_54 : decode zb_Pa_add 54 = .ok (.aload_n 0, 1) := by decide +kernel
theorem zd_Pa_add_55 : decode zb_Pa_add 55 = .ok (.getfield 35, 3) := by decide +kernel
theorem zd_Pa_add_58 : decode zb_Pa_add 58 = .ok (.iconst (-1), 1) := by decide +kernel
theorem zd_Pa_add_59 : decode zb_Pa_add 59 = .ok (.iastore, 1) := by decide +kernel
theorem zd_Pa_add_60 : decode zb_Pa_add 60 = .ok (.aload_n 0, 1) := by decide +kernel
theorem zd_Pa_add_61 : decode zb_Pa_add 61 = .ok (.dup, 1) := by decide +kernel
theorem zd_Pa_add_62 : decode zb_Pa_add 62 = .ok (.getfield 35, 3) := by decide +kernel
theorem zd_Pa_add_65 : decode zb_Pa_add 65 = .ok (.iconst 1, 1) := by decide +kernel
theorem zd_Pa_add_66 : decode zb_Pa_add 66 = .ok (.iadd, 1) := by decide +kernel
theorem zd_Pa_add_67 : decode zb_Pa_add 67 = .ok (.putfield 35, 3) := by decide +kernel
theorem zd_Pa_add_70 : decode zb_Pa_add 70 = .ok (.aload_n 0, 1) := by decide +kernel
theorem zd_Pa_add_71 : decode zb_Pa_add 71 = .ok (.getfield 35, 3) := by decide +kernel
theorem zd_Pa_add_74 : decode zb_Pa_add 74 = .ok (.iconst 1, 1) := by decide +kernel
theorem zd_Pa_add_75 : decode zb_Pa_add 75 = .ok (.isub, 1) := by decide +kernel
theorem zd_Pa_add_76 : decode zb_Pa_add 76 = .ok (.ireturn, 1) := by decide +kernel
theorem zd_MP_part_0 : decode zb_MP_part 0 = .ok (.aload_n 0, 1) := by decide +kernel
theorem zd_MP_part_1 : decode zb_MP_part 1 = .ok (.getfield 20, 3) := by decide +kernel
theorem zd_MP_part_4 : decode zb_MP_part 4 = .ok (.invokevirtual 46, 3) := by decide +kernel
theorem zd_MP_part_7 : decode zb_MP_part 7 = .ok (.ifCond .ne 27, 3) := by decide +kernel
theorem zd_MP_part_10 : decode zb_MP_part 10 = .ok (.aload_n 0, 1) := by decide +kernel
theorem zd_MP_part_11 : decode zb_MP_part 11 = .ok (.iload_n 1, 1) := by decide +kernel
theorem zd_MP_part_12 : decode zb_MP_part 12 = .ok (.invokevirtual 50, 3) := by decide +kernel
theorem zd_MP_part_15 : decode zb_MP_part 15 = .ok (.ifCond .eq 19, 3) := by decide +kernel
theorem zd_MP_part_18 : decode zb_MP_part 18 = .ok (.iload_n 2, 1) := by decide +kernel
theorem zd_MP_part_19 : decode zb_MP_part 19 = .ok (.lload_n 3, 1) := by decide +kernel
theorem zd_MP_part_20 : decode zb_MP_part 20 = .ok (.invokestatic 54, 3) := by decide +kernel
theorem zd_MP_part_23 : decode zb_MP_part 23 = .ok (.ifCond .eq 11, 3) := by decide +kernel
theorem zd_MP_part_26 : decode zb_MP_part 26 = .ok (.iload 5, 2) := by decide +kernel
theorem zd_MP_part_28 : decode zb_MP_part 28 = .ok (.invokestatic 58, 3) := by decide +kernel
theorem zd_MP_part_31 : decode zb_MP_part 31 = .ok (.ifCond .ne 5, 3) := by decide +kernel
theorem zd_MP_part_34 : decode zb_MP_part 34 = .ok (.iconst (-1), 1) := by decide +kernel
theorem zd_MP_part_35 : decode zb_MP_part 35 = .ok (.ireturn, 1) := by decide +kernel
theorem zd_MP_part_36 : decode zb_MP_part 36 = .ok (.aload_n 0, 1) := by decide +kernel
theorem zd_MP_part_37 : decode zb_MP_part 37 = .ok (.getfield 9, 3) := by decide +kernel
theorem zd_MP_part_40 : decode zb_MP_part 40 = .ok (.iload_n 1, 1) := by decide +kernel
theorem zd_MP_part_41 : decode zb_MP_part 41 = .ok (.dup2, 1) := by decide +kernel
theorem zd_MP_part_42 : decode zb_MP_part 42 = .ok (.iaload, 1) := by decide +kernel
theorem zd_MP_part_43 : decode zb_MP_part 43 = .ok (.iconst 1, 1) := by decide +kernel
theorem zd_MP_part_44 : decode zb_MP_part 44 = .ok (.iadd, 1) := by decide +kernel
theorem zd_MP_part_45 : decode zb_MP_part 45 = .ok (.iastore, 1) := by decide +kernel
theorem zd_MP_part_46 : decode zb_MP_part 46 = .ok (.aload_n 0, 1) := by decide +kernel
theorem zd_MP_part_47 : decode zb_MP_part 47 = .ok (.getfield 20, 3) := by decide +kernel
theorem zd_MP_part_50 : decode zb_MP_part 50 = .ok (.iload_n 1, 1) := by decide +kernel
theorem zd_MP_part_51 : decode zb_MP_part 51 = .ok (.iload_n 2, 1) := by decide +kernel
theorem zd_MP_part_52 : decode zb_MP_part 52 = .ok (.lload_n 3, 1) := by decide +kernel
theorem zd_MP_part_53 : decode zb_MP_part 53 = .ok (.iload 5, 2) := by decide +kernel
theorem zd_MP_part_55 : decode zb_MP_part 55 = .ok (.invokevirtual 61, 3) := by decide +kernel
theorem zd_MP_part_58 : decode zb_MP_part 58 = .ok (.ireturn, 1) := by decide +kernel
theorem zd_Pa_has_0 : decode zb_Pa_has 0 = .ok (.iload_n 1, 1) := by decide +kernel
theorem zd_Pa_has_1 : decode zb_Pa_has 1 = .ok (.ifCond .lt 15, 3) := by decide +kernel
theorem zd_Pa_has_4 : decode zb_Pa_has 4 = .ok (.iload_n 1, 1) := by decide +kernel
theorem zd_Pa_has_5 : decode zb_Pa_has 5 = .ok (.aload_n 0, 1) := by decide +kernel
theorem zd_Pa_has_6 : decode zb_Pa_has 6 = .ok (.getfield 35, 3) := by decide +kernel
theorem zd_Pa_has_9 : decode zb_Pa_has 9 = .ok (.if_icmp .ge 7, 3) := by decide +kernel
theorem zd_Pa_has_12 : decode zb_Pa_has 12 = .ok (.iconst 1, 1) := by decide +kernel
theorem zd_Pa_has_13 : decode zb_Pa_has 13 = .ok (.goto 4, 3) := by decide +kernel
theorem zd_Pa_has_16 : decode zb_Pa_has 16 = .ok (.iconst 0, 1) := by decide +kernel
theorem zd_Pa_has_17 : decode zb_Pa_has 17 = .ok (.ireturn, 1) := by decide +kernel
theorem zd_Ja_fill_0 : decode zb_Ja_fill 0 = .ok (.iconst 0, 1) := by decide +kernel
theorem zd_Ja_fill_1 : decode zb_Ja_fill 1 = .ok (.istore_n 3, 1) := by decide +kernel
theorem zd_Ja_fill_2 : decode zb_Ja_fill 2 = .ok (.aload_n 0, 1) := by decide +kernel
theorem zd_Ja_fill_3 : decode zb_Ja_fill 3 = .ok (.arraylength, 1) := by decide +kernel
theorem zd_Ja_fill_4 : decode zb_Ja_fill 4 = .ok (.istore 4, 2) := by decide +kernel
theorem zd_Ja_fill_6 : decode zb_Ja_fill 6 = .ok (.iload_n 3, 1) := by decide +kernel
theorem zd_Ja_fill_7 : decode zb_Ja_fill 7 = .ok (.iload 4, 2) := by decide +kernel
theorem zd_Ja_fill_9 : decode zb_Ja_fill 9 = .ok (.if_icmp .ge 13, 3) := by decide +kernel
theorem zd_Ja_fill_12 : decode zb_Ja_fill 12 = .ok (.aload_n 0, 1) := by decide +kernel
theorem zd_Ja_fill_13 : decode zb_Ja_fill 13 = .ok (.iload_n 3, 1) := by decide +kernel
theorem zd_Ja_fill_14 : decode zb_Ja_fill 14 = .ok (.lload_n 1, 1) := by decide +kernel
theorem zd_Ja_fill_15 : decode zb_Ja_fill 15 = .ok (.lastore, 1) := by decide +kernel
theorem zd_Ja_fill_16 : decode zb_Ja_fill 16 = .ok (.iinc 3 1, 3) := by decide +kernel
theorem zd_Ja_fill_19 : decode zb_Ja_fill 19 = .ok (.goto (-13), 3) := by decide +kernel
theorem zd_Ja_fill_22 : decode zb_Ja_fill 22 = .ok (.return_, 1) := by decide +kernel
theorem zd_Ne_goDeeper_0 : decode zb_Ne_goDeeper 0 = .ok (.aload_n 0, 1) := by decide +kernel
theorem zd_Ne_goDeeper_1 : decode zb_Ne_goDeeper 1 = .ok (.getfield 18, 3) := by decide +kernel
theorem zd_Ne_goDeeper_4 : decode zb_Ne_goDeeper 4 = .ok (.lconst 0, 1) := by decide +kernel
theorem zd_Ne_goDeeper_5 : decode zb_Ne_goDeeper 5 = .ok (.invokestatic 29, 3) := by decide +kernel
theorem zd_Ne_goDeeper_8 : decode zb_Ne_goDeeper 8 = .ok (.iconst 0, 1) := by decide +kernel
theorem zd_Ne_goDeeper_9 : decode zb_Ne_goDeeper 9 = .ok (.istore_n 2, 1) := by decide +kernel
theorem zd_Ne_goDeeper_10 : decode zb_Ne_goDeeper 10 = .ok (.iload_n 2, 1) := by decide +kernel
theorem zd_Ne_goDeeper_11 : decode zb_Ne_goDeeper 11 = .ok (.aload_n 1, 1) := by decide +kernel
theorem zd_Ne_goDeeper_12 : decode zb_Ne_goDeeper 12 = .ok (.getfield 35, 3) := by decide +kernel
theorem zd_Ne_goDeeper_15 : decode zb_Ne_goDeeper 15 = .ok (.if_icmp .ge 41, 3) := by decide +kernel
theorem zd_Ne_goDeeper_18 : decode zb_Ne_goDeeper 18 = .ok (.aload_n 1, 1) := by decide +kernel
theorem zd_Ne_goDeeper_19 : decode zb_Ne_goDeeper 19 = .ok (.getfield 57, 3) := by decide +kernel
theorem zd_Ne_goDeeper_22 : decode zb_Ne_goDeeper 22 = .ok (.iload_n 2, 1) := by decide +kernel
theorem zd_Ne_goDeeper_23 : decode zb_Ne_goDeeper 23 = .ok (.iaload, 1) := by decide +kernel
theorem zd_Ne_goDeeper_24 : decode zb_Ne_goDeeper 24 = .ok (.istore_n 3, 1) := by decide +kernel
theorem zd_Ne_goDeeper_25 : decode zb_Ne_goDeeper 25 = .ok (.iload_n 3, 1) := by decide +kernel
theorem zd_Ne_goDeeper_26 : decode zb_Ne_goDeeper 26 = .ok (.iconst (-1), 1) := by decide +kernel
theorem zd_Ne_goDeeper_27 : decode zb_Ne_goDeeper 27 = .ok (.if_icmp .eq 23, 3) := by decide +kernel
theorem zd_Ne_goDeeper_30 : decode zb_Ne_goDeeper 30 = .ok (.aload_n 0, 1) := by decide +kernel
theorem zd_Ne_goDeeper_31 : decode zb_Ne_goDeeper 31 = .ok (.getfield 18, 3) := by decide +kernel
theorem zd_Ne_goDeeper_34 : decode zb_Ne_goDeeper 34 = .ok (.iload_n 3, 1) := by decide +kernel
theorem zd_Ne_goDeeper_35 : decode zb_Ne_goDeeper 35 = .ok (.dup2, 1) := by decide +kernel
theorem zd_Ne_goDeeper_36 : decode zb_Ne_goDeeper 36 = .ok (.laload, 1) := by decide +kernel
theorem zd_Ne_goDeeper_37 : decode zb_Ne_goDeeper 37 = .ok (.aload_n 0, 1) := by decide +kernel
theorem zd_Ne_goDeeper_38 : decode zb_Ne_goDeeper 38 = .ok (.getfield 15, 3) := by decide +kernel
theorem zd_Ne_goDeeper_41 : decode zb_Ne_goDeeper 41 = .ok (.aload_n 1, 1) := by decide +kernel
theorem zd_Ne_goDeeper_42 : decode zb_Ne_goDeeper 42 = .ok (.getfield 49, 3) := by decide +kernel
theorem zd_Ne_goDeeper_45 : decode zb_Ne_goDeeper 45 = .ok (.iload_n 2, 1) := by decide +kernel
theorem zd_Ne_goDeeper_46 : decode zb_Ne_goDeeper 46 = .ok (.iaload, 1) := by decide +kernel
theorem zd_Ne_goDeeper_47 : decode zb_Ne_goDeeper 47 = .ok (.laload, 1) := by decide +kernel
theorem zd_Ne_goDeeper_48 : decode zb_Ne_goDeeper 48 = .ok (.ladd, 1) := by decide +kernel
theorem zd_Ne_goDeeper_49 : decode zb_Ne_goDeeper 49 = .ok (.lastore, 1) := by decide +kernel
theorem zd_Ne_goDeeper_50 : decode zb_Ne_goDeeper 50 = .ok (.iinc 2 1, 3) := by decide +kernel
theorem zd_Ne_goDeeper_53 : decode zb_Ne_goDeeper 53 = .ok (.goto (-43), 3) := by decide +kernel
theorem zd_Ne_goDeeper_56 : decode zb_Ne_goDeeper 56 = .ok (.iconst 0, 1) := by decide +kernel
theorem zd_Ne_goDeeper_57 : decode zb_Ne_goDeeper 57 = .ok (.istore_n 2, 1) := by decide +kernel
theorem zd_Ne_goDeeper_58 : decode zb_Ne_goDeeper 58 = .ok (.iload_n 2, 1) := by decide +kernel
theorem zd_Ne_goDeeper_59 : decode zb_Ne_goDeeper 59 = .ok (.bipush 8, 2) := by decide +kernel
theorem zd_Ne_goDeeper_61 : decode zb_Ne_goDeeper 61 = .ok (.if_icmp .ge 36, 3) := by decide +kernel
theorem zd_Ne_goDeeper_64 : decode zb_Ne_goDeeper 64 = .ok (.aload_n 0, 1) := by decide +kernel
theorem zd_Ne_goDeeper_65 : decode zb_Ne_goDeeper 65 = .ok (.getfield 15, 3) := by decide +kernel
theorem zd_Ne_goDeeper_68 : decode zb_Ne_goDeeper 68 = .ok (.iload_n 2, 1) := by decide +kernel
theorem zd_Ne_goDeeper_69 : decode zb_Ne_goDeeper 69 = .ok (.aload_n 0, 1) := by decide +kernel
theorem zd_Ne_goDeeper_70 : decode zb_Ne_goDeeper 70 = .ok (.getfield 18, 3) := by decide +kernel
theorem zd_Ne_goDeeper_73 : decode zb_Ne_goDeeper 73 = .ok (.iload_n 2, 1) := by decide +kernel
theorem zd_Ne_goDeeper_74 : decode zb_Ne_goDeeper 74 = .ok (.laload, 1) := by decide +kernel
theorem zd_Ne_goDeeper_75 : decode zb_Ne_goDeeper 75 = .ok (.lastore, 1) := by decide +kernel
theorem zd_Ne_goDeeper_76 : decode zb_Ne_goDeeper 76 = .ok (.aload_n 0, 1) := by decide +kernel
theorem zd_Ne_goDeeper_77 : decode zb_Ne_goDeeper 77 = .ok (.getfield 9, 3) := by decide +kernel
theorem zd_Ne_goDeeper_80 : decode zb_Ne_goDeeper 80 = .ok (.iload_n 2, 1) := by decide +kernel
theorem zd_Ne_goDeeper_81 : decode zb_Ne_goDeeper 81 = .ok (.dup2, 1) := by decide +kernel
theorem zd_Ne_goDeeper_82 : decode zb_Ne_goDeeper 82 = .ok (.laload, 1) := by decide +kernel
theorem zd_Ne_goDeeper_83 : decode zb_Ne_goDeeper 83 = .ok (.aload_n 0, 1) := by decide +kernel
theorem zd_Ne_goDeeper_84 : decode zb_Ne_goDeeper 84 = .ok (.getfield 18, 3) := by decide +kernel
theorem zd_Ne_goDeeper_87 : decode zb_Ne_goDeeper 87 = .ok (.iload_n 2, 1) := by decide +kernel
theorem zd_Ne_goDeeper_88 : decode zb_Ne_goDeeper 88 = .ok (.laload, 1) := by decide +kernel
theorem zd_Ne_goDeeper_89 : decode zb_Ne_goDeeper 89 = .ok (.ladd, 1) := by decide +kernel
theorem zd_Ne_goDeeper_90 : decode zb_Ne_goDeeper 90 = .ok (.lastore, 1) := by decide +kernel
theorem zd_Ne_goDeeper_91 : decode zb_Ne_goDeeper 91 = .ok (.iinc 2 1, 3) := by decide +kernel
theorem zd_Ne_goDeeper_94 : decode zb_Ne_goDeeper 94 = .ok (.goto (-36), 3) := by decide +kernel
theorem zd_Ne_goDeeper_97 : decode zb_Ne_goDeeper 97 = .ok (.return_, 1) := by decide +kernel
theorem zd_Ne_countWithin_0 : decode zb_Ne_countWithin 0 = .ok (.aload_n 0, 1) := by decide +kernel
theorem zd_Ne_countWithin_1 : decode zb_Ne_countWithin 1 = .ok (.getfield 9, 3) := by decide +kernel
theorem zd_Ne_countWithin_4 : decode zb_Ne_countWithin 4 = .ok (.lconst 0, 1) := by decide +kernel
theorem zd_Ne_countWithin_5 : decode zb_Ne_countWithin 5 = .ok (.invokestatic 29, 3) := by decide +kernel
theorem zd_Ne_countWithin_8 : decode zb_Ne_countWithin 8 = .ok (.aload_n 0, 1) := by decide +kernel
theorem zd_Ne_countWithin_9 : decode zb_Ne_countWithin 9 = .ok (.getfield 15, 3) := by decide +kernel
theorem zd_Ne_countWithin_12 : decode zb_Ne_countWithin 12 = .ok (.lconst 0, 1) := by decide +kernel
theorem zd_Ne_countWithin_13 : decode zb_Ne_countWithin 13 = .ok (.invokestatic 29, 3) := by decide +kernel
theorem zd_Ne_countWithin_16 : decode zb_Ne_countWithin 16 = .ok (.aload_n 0, 1) := by decide +kernel
theorem zd_Ne_countWithin_17 : decode zb_Ne_countWithin 17 = .ok (.getfield 9, 3) := by decide +kernel
theorem zd_Ne_countWithin_20 : decode zb_Ne_countWithin 20 = .ok (.iload_n 2, 1) := by decide +kernel
theorem zd_Ne_countWithin_21 : decode zb_Ne_countWithin 21 = .ok (.lconst 1, 1) := by decide +kernel
theorem zd_Ne_countWithin_22 : decode zb_Ne_countWithin 22 = .ok (.lastore, 1) := by decide +kernel
theorem zd_Ne_countWithin_23 : decode zb_Ne_countWithin 23 = .ok (.aload_n 0, 1) := by decide +kernel
theorem zd_Ne_countWithin_24 : decode zb_Ne_countWithin 24 = .ok (.getfield 15, 3) := by decide +kernel
theorem zd_Ne_countWithin_27 : decode zb_Ne_countWithin 27 = .ok (.iload_n 2, 1) := by decide +kernel
theorem zd_Ne_countWithin_28 : decode zb_Ne_countWithin 28 = .ok (.lconst 1, 1) := by decide +kernel
theorem zd_Ne_countWithin_29 : decode zb_Ne_countWithin 29 = .ok (.lastore, 1) := by decide +kernel
theorem zd_Ne_countWithin_30 : decode zb_Ne_countWithin 30 = .ok (.iconst 1, 1) := by decide +kernel
theorem zd_Ne_countWithin_31 : decode zb_Ne_countWithin 31 = .ok (.istore_n 3, 1) := by decide +kernel
theorem zd_Ne_countWithin_32 : decode zb_Ne_countWithin 32 = .ok (.iload_n 3, 1) := by decide +kernel
theorem zd_Ne_countWithin_33 : decode zb_Ne_countWithin 33 = .ok (.bipush 8, 2) := by decide +kernel
theorem zd_Ne_countWithin_35 : decode zb_Ne_countWithin 35 = .ok (.if_icmp .ge 14, 3) := by decide +kernel
theorem zd_Ne_countWithin_38 : decode zb_Ne_countWithin 38 = .ok (.aload_n 0, 1) := by decide +kernel
theorem zd_Ne_countWithin_39 : decode zb_Ne_countWithin 39 = .ok (.aload_n 1, 1) := by decide +kernel
theorem zd_Ne_countWithin_40 : decode zb_Ne_countWithin 40 = .ok (.invokevirtual 53, 3) := by decide +kernel
theorem zd_Ne_countWithin_43 : decode zb_Ne_countWithin 43 = .ok (.iinc 3 1, 3) := by decide +kernel
theorem zd_Ne_countWithin_46 : decode zb_Ne_countWithin 46 = .ok (.goto (-14), 3) := by decide +kernel
theorem zd_Ne_countWithin_49 : decode zb_Ne_countWithin 49 = .ok (.return_, 1) := by decide +kernel
theorem zd_Ne_holds_0 : decode zb_Ne_holds 0 = .ok (.aload_n 0, 1) := by decide +kernel
theorem zd_Ne_holds_1 : decode zb_Ne_holds 1 = .ok (.aload_n 1, 1) := by decide +kernel
theorem zd_Ne_holds_2 : decode zb_Ne_holds 2 = .ok (.iload_n 2, 1) := by decide +kernel
theorem zd_Ne_holds_3 : decode zb_Ne_holds 3 = .ok (.invokevirtual 21, 3) := by decide +kernel
theorem zd_Ne_holds_6 : decode zb_Ne_holds 6 = .ok (.aload_n 0, 1) := by decide +kernel
theorem zd_Ne_holds_7 : decode zb_Ne_holds 7 = .ok (.getfield 9, 3) := by decide +kernel
theorem zd_Ne_holds_10 : decode zb_Ne_holds 10 = .ok (.iload_n 3, 1) := by decide +kernel
theorem zd_Ne_holds_11 : decode zb_Ne_holds 11 = .ok (.laload, 1) := by decide +kernel
theorem zd_Ne_holds_12 : decode zb_Ne_holds 12 = .ok (.lconst 0, 1) := by decide +kernel
theorem zd_Ne_holds_13 : decode zb_Ne_holds 13 = .ok (.lcmp, 1) := by decide +kernel
theorem zd_Ne_holds_14 : decode zb_Ne_holds 14 = .ok (.ifCond .le 7, 3) := by decide +kernel
theorem zd_Ne_holds_17 : decode zb_Ne_holds 17 = .ok (.iconst 1, 1) := by decide +kernel
theorem zd_Ne_holds_18 : decode zb_Ne_holds 18 = .ok (.goto 4, 3) := by decide +kernel
theorem zd_Ne_holds_21 : decode zb_Ne_holds 21 = .ok (.iconst 0, 1) := by decide +kernel
theorem zd_Ne_holds_22 : decode zb_Ne_holds 22 = .ok (.ireturn, 1) := by decide +kernel
theorem zd_MP_into_0 : decode zb_MP_into 0 = .ok (.aload_n 0, 1) := by decide +kernel
theorem zd_MP_into_1 : decode zb_MP_into 1 = .ok (.getfield 20, 3) := by decide +kernel
theorem zd_MP_into_4 : decode zb_MP_into 4 = .ok (.iload_n 1, 1) := by decide +kernel
theorem zd_MP_into_5 : decode zb_MP_into 5 = .ok (.invokevirtual 65, 3) := by decide +kernel
theorem zd_MP_into_8 : decode zb_MP_into 8 = .ok (.ifCond .eq 24, 3) := by decide +kernel
theorem zd_MP_into_11 : decode zb_MP_into 11 = .ok (.aload_n 0, 1) := by decide +kernel
theorem zd_MP_into_12 : decode zb_MP_into 12 = .ok (.iload_n 2, 1) := by decide +kernel
theorem zd_MP_into_13 : decode zb_MP_into 13 = .ok (.invokevirtual 50, 3) := by decide +kernel
theorem zd_MP_into_16 : decode zb_MP_into 16 = .ok (.ifCond .eq 16, 3) := by decide +kernel
theorem zd_MP_into_19 : decode zb_MP_into 19 = .ok (.aload_n 0, 1) := by decide +kernel
theorem zd_MP_into_20 : decode zb_MP_into 20 = .ok (.getfield 20, 3) := by decide +kernel
theorem zd_MP_into_23 : decode zb_MP_into 23 = .ok (.getfield 68, 3) := by decide +kernel
theorem zd_MP_into_26 : decode zb_MP_into 26 = .ok (.iload_n 1, 1) := by decide +kernel
theorem zd_MP_into_27 : decode zb_MP_into 27 = .ok (.iaload, 1) := by decide +kernel
theorem zd_MP_into_28 : decode zb_MP_into 28 = .ok (.iconst (-1), 1) := by decide +kernel
theorem zd_MP_into_29 : decode zb_MP_into 29 = .ok (.if_icmp .eq 5, 3) := by decide +kernel
theorem zd_MP_into_32 : decode zb_MP_into 32 = .ok (.iconst 0, 1) := by decide +kernel
theorem zd_MP_into_33 : decode zb_MP_into 33 = .ok (.ireturn, 1) := by decide +kernel
theorem zd_MP_into_34 : decode zb_MP_into 34 = .ok (.aload_n 0, 1) := by decide +kernel
theorem zd_MP_into_35 : decode zb_MP_into 35 = .ok (.getfield 20, 3) := by decide +kernel
theorem zd_MP_into_38 : decode zb_MP_into 38 = .ok (.getfield 71, 3) := by decide +kernel
theorem zd_MP_into_41 : decode zb_MP_into 41 = .ok (.iload_n 1, 1) := by decide +kernel
theorem zd_MP_into_42 : decode zb_MP_into 42 = .ok (.iaload, 1) := by decide +kernel
theorem zd_MP_into_43 : decode zb_MP_into 43 = .ok (.istore_n 3, 1) := by decide +kernel
theorem zd_MP_into_44 : decode zb_MP_into 44 = .ok (.aload_n 0, 1) := by decide +kernel
theorem zd_MP_into_45 : decode zb_MP_into 45 = .ok (.getfield 27, 3) := by decide +kernel
theorem zd_MP_into_48 : decode zb_MP_into 48 = .ok (.aload_n 0, 1) := by decide +kernel
theorem zd_MP_into_49 : decode zb_MP_into 49 = .ok (.getfield 20, 3) := by decide +kernel
theorem zd_MP_into_52 : decode zb_MP_into 52 = .ok (.iload_n 2, 1) := by decide +kernel
theorem zd_MP_into_53 : decode zb_MP_into 53 = .ok (.iload_n 3, 1) := by decide +kernel
theorem zd_MP_into_54 : decode zb_MP_into 54 = .ok (.invokevirtual 74, 3) := by decide +kernel
theorem zd_MP_into_57 : decode zb_MP_into 57 = .ok (.ifCond .eq 5, 3) := by decide +kernel
theorem zd_MP_into_60 : decode zb_MP_into 60 = .ok (.iconst 0, 1) := by decide +kernel
theorem zd_MP_into_61 : decode zb_MP_into 61 = .ok (.ireturn, 1) := by decide +kernel
theorem zd_MP_into_62 : decode zb_MP_into 62 = .ok (.aload_n 0, 1) := by decide +kernel
theorem zd_MP_into_63 : decode zb_MP_into 63 = .ok (.getfield 20, 3) := by decide +kernel
theorem zd_MP_into_66 : decode zb_MP_into 66 = .ok (.getfield 68, 3) := by decide +kernel
theorem zd_MP_into_69 : decode zb_MP_into 69 = .ok (.iload_n 1, 1) := by decide +kernel
theorem zd_MP_into_70 : decode zb_MP_into 70 = .ok (.iload_n 2, 1) := by decide +kernel
theorem zd_MP_into_71 : decode zb_MP_into 71 = .ok (.iastore, 1) := by decide +kernel
theorem zd_MP_into_72 : decode zb_MP_into 72 = .ok (.aload_n 0, 1) := by decide +kernel
theorem zd_MP_into_73 : decode zb_MP_into 73 = .ok (.getfield 9, 3) := by decide +kernel
theorem zd_MP_into_76 : decode zb_MP_into 76 = .ok (.iload_n 3, 1) := by decide +kernel
theorem zd_MP_into_77 : decode zb_MP_into 77 = .ok (.dup2, 1) := by decide +kernel
theorem zd_MP_into_78 : decode zb_MP_into 78 = .ok (.iaload, 1) := by decide +kernel
theorem zd_MP_into_79 : decode zb_MP_into 79 = .ok (.iconst 1, 1) := by decide +kernel
theorem zd_MP_into_80 : decode zb_MP_into 80 = .ok (.iadd, 1) := by decide +kernel
theorem zd_MP_into_81 : decode zb_MP_into 81 = .ok (.iastore, 1) := by decide +kernel
theorem zd_MP_into_82 : decode zb_MP_into 82 = .ok (.iconst 1, 1) := by decide +kernel
theorem zd_MP_into_83 : decode zb_MP_into 83 = .ok (.ireturn, 1) := by decide +kernel
theorem zd_MP_life_0 : decode zb_MP_life 0 = .ok (.aload_n 0, 1) := by decide +kernel
theorem zd_MP_life_1 : decode zb_MP_life 1 = .ok (.getfield 20, 3) := by decide +kernel
theorem zd_MP_life_4 : decode zb_MP_life 4 = .ok (.iload_n 1, 1) := by decide +kernel
theorem zd_MP_life_5 : decode zb_MP_life 5 = .ok (.invokevirtual 65, 3) := by decide +kernel
theorem zd_MP_life_8 : decode zb_MP_life 8 = .ok (.ifCond .eq 10, 3) := by decide +kernel
theorem zd_MP_life_11 : decode zb_MP_life 11 = .ok (.iload_n 2, 1) := by decide +kernel
theorem zd_MP_life_12 : decode zb_MP_life 12 = .ok (.invokestatic 58, 3) := by decide +kernel
theorem zd_MP_life_15 : decode zb_MP_life 15 = .ok (.ifCond .ne 5, 3) := by decide +kernel
theorem zd_MP_life_18 : decode zb_MP_life 18 = .ok (.iconst 0, 1) := by decide +kernel
theorem zd_MP_life_19 : decode zb_MP_life 19 = .ok (.ireturn, 1) := by decide +kernel
theorem zd_MP_life_20 : decode zb_MP_life 20 = .ok (.aload_n 0, 1) := by decide +kernel
theorem zd_MP_life_21 : decode zb_MP_life 21 = .ok (.getfield 20, 3) := by decide +kernel
theorem zd_MP_life_24 : decode zb_MP_life 24 = .ok (.getfield 78, 3) := by decide +kernel
theorem zd_MP_life_27 : decode zb_MP_life 27 = .ok (.iload_n 1, 1) := by decide +kernel
theorem zd_MP_life_28 : decode zb_MP_life 28 = .ok (.iload_n 2, 1) := by decide +kernel
theorem zd_MP_life_29 : decode zb_MP_life 29 = .ok (.iastore, 1) := by decide +kernel
theorem zd_MP_life_30 : decode zb_MP_life 30 = .ok (.aload_n 0, 1) := by decide +kernel
theorem zd_MP_life_31 : decode zb_MP_life 31 = .ok (.getfield 9, 3) := by decide +kernel
theorem zd_MP_life_34 : decode zb_MP_life 34 = .ok (.aload_n 0, 1) := by decide +kernel
theorem zd_MP_life_35 : decode zb_MP_life 35 = .ok (.getfield 20, 3) := by decide +kernel
theorem zd_MP_life_38 : decode zb_MP_life 38 = .ok (.getfield 71, 3) := by decide +kernel
theorem zd_MP_life_41 : decode zb_MP_life 41 = .ok (.iload_n 1, 1) := by decide +kernel
theorem zd_MP_life_42 : decode zb_MP_life 42 = .ok (.iaload, 1) := by decide +kernel
theorem zd_MP_life_43 : decode zb_MP_life 43 = .ok (.dup2, 1) := by decide +kernel
theorem zd_MP_life_44 : decode zb_MP_life 44 = .ok (.iaload, 1) := by decide +kernel
theorem zd_MP_life_45 : decode zb_MP_life 45 = .ok (.iconst 1, 1) := by decide +kernel
theorem zd_MP_life_46 : decode zb_MP_life 46 = .ok (.iadd, 1) := by decide +kernel
theorem zd_MP_life_47 : decode zb_MP_life 47 = .ok (.iastore, 1) := by decide +kernel
theorem zd_MP_life_48 : decode zb_MP_life 48 = .ok (.iconst 1, 1) := by decide +kernel
theorem zd_MP_life_49 : decode zb_MP_life 49 = .ok (.ireturn, 1) := by decide +kernel
theorem zd_Ch_isFull_0 : decode zb_Ch_isFull 0 = .ok (.aload_n 0, 1) := by decide +kernel
theorem zd_Ch_isFull_1 : decode zb_Ch_isFull 1 = .ok (.getfield 25, 3) := by decide +kernel
theorem zd_Ch_isFull_4 : decode zb_Ch_isFull 4 = .ok (.bipush 20, 2) := by decide +kernel
theorem zd_Ch_isFull_6 : decode zb_Ch_isFull 6 = .ok (.if_icmp .lt 7, 3) := by decide +kernel
theorem zd_Ch_isFull_9 : decode zb_Ch_isFull 9 = .ok (.iconst 1, 1) := by decide +kernel
theorem zd_Ch_isFull_10 : decode zb_Ch_isFull 10 = .ok (.goto 4, 3) := by decide +kernel
theorem zd_Ch_isFull_13 : decode zb_Ch_isFull 13 = .ok (.iconst 0, 1) := by decide +kernel
theorem zd_Ch_isFull_14 : decode zb_Ch_isFull 14 = .ok (.ireturn, 1) := by decide +kernel
theorem zd_MP_isDay_0 : decode zb_MP_isDay 0 = .ok (.lload_n 0, 1) := by decide +kernel
theorem zd_MP_isDay_1 : decode zb_MP_isDay 1 = .ok (.lconst 0, 1) := by decide +kernel
theorem zd_MP_isDay_2 : decode zb_MP_isDay 2 = .ok (.lcmp, 1) := by decide +kernel
theorem zd_MP_isDay_3 : decode zb_MP_isDay 3 = .ok (.ifCond .lt 15, 3) := by decide +kernel
theorem zd_MP_isDay_6 : decode zb_MP_isDay 6 = .ok (.lload_n 0, 1) := by decide +kernel
theorem zd_MP_isDay_7 : decode zb_MP_isDay 7 = .ok (.ldc2_w 95, 3) := by decide +kernel
theorem zd_MP_isDay_10 : decode zb_MP_isDay 10 = .ok (.lcmp, 1) := by decide +kernel
theorem zd_MP_isDay_11 : decode zb_MP_isDay 11 = .ok (.ifCond .gt 7, 3) := by decide +kernel
theorem zd_MP_isDay_14 : decode zb_MP_isDay 14 = .ok (.iconst 1, 1) := by decide +kernel
theorem zd_MP_isDay_15 : decode zb_MP_isDay 15 = .ok (.goto 4, 3) := by decide +kernel
theorem zd_MP_isDay_18 : decode zb_MP_isDay 18 = .ok (.iconst 0, 1) := by decide +kernel
theorem zd_MP_isDay_19 : decode zb_MP_isDay 19 = .ok (.ireturn, 1) := by decide +kernel
theorem zd_Ch_add_0 : decode zb_Ch_add 0 = .ok (.aload_n 0, 1) := by decide +kernel
theorem zd_Ch_add_1 : decode zb_Ch_add 1 = .ok (.invokevirtual 29, 3) := by decide +kernel
theorem zd_Ch_add_4 : decode zb_Ch_add 4 = .ok (.ifCond .eq 4, 3) := by decide +kernel
theorem zd_Ch_add_7 : decode zb_Ch_add 7 = .ok (.return_, 1) := by decide +kernel
theorem zd_Ch_add_8 : decode zb_Ch_add 8 = .ok (.aload_n 0, 1) := by decide +kernel
theorem zd_Ch_add_9 : decode zb_Ch_add 9 = .ok (.getfield 9, 3) := by decide +kernel
theorem zd_Ch_add_12 : decode zb_Ch_add 12 = .ok (.aload_n 0, 1) := by decide +kernel
theorem zd_Ch_add_13 : decode zb_Ch_add 13 = .ok (.getfield 25, 3) := by decide +kernel
theorem zd_Ch_add_16 : decode zb_Ch_add 16 = .ok (.iload_n 1, 1) := by decide +kernel
theorem zd_Ch_add_17 : decode zb_Ch_add 17 = .ok (.iastore, 1) := by decide +kernel
theorem zd_Ch_add_18 : decode zb_Ch_add 18 = .ok (.aload_n 0, 1) := by decide +kernel
theorem zd_Ch_add_19 : decode zb_Ch_add 19 = .ok (.getfield 15, 3) := by decide +kernel
theorem zd_Ch_add_22 : decode zb_Ch_add 22 = .ok (.aload_n 0, 1) := by decide +kernel
theorem zd_Ch_add_23 : decode zb_Ch_add 23 = .ok (.getfield 25, 3) := by decide +kernel
theorem zd_Ch_add_26 : decode zb_Ch_add 26 = .ok (.lload_n 2, 1) := by decide +kernel
theorem zd_Ch_add_27 : decode zb_Ch_add 27 = .ok (.lastore, 1) := by decide +kernel
theorem zd_Ch_add_28 : decode zb_Ch_add 28 = .ok (.aload_n 0, 1) := by decide +kernel
theorem zd_Ch_add_29 : decode zb_Ch_add 29 = .ok (.getfield 19, 3) := by decide +kernel
theorem zd_Ch_add_32 : decode zb_Ch_add 32 = .ok (.aload_n 0, 1) := by decide +kernel
theorem zd_Ch_add_33 : decode zb_Ch_add 33 = .ok (.getfield 25, 3) := by decide +kernel
theorem zd_Ch_add_36 : decode zb_Ch_add 36 = .ok (.iload 4, 2) := by decide +kernel
theorem zd_Ch_add_38 : decode zb_Ch_add 38 = .ok (.iastore, 1) := by decide +kernel
theorem zd_Ch_add_39 : decode zb_Ch_add 39 = .ok (.aload_n 0, 1) := by decide +kernel
theorem zd_Ch_add_40 : decode zb_Ch_add 40 = .ok (.getfield 22, 3) := by decide +kernel
theorem zd_Ch_add_43 : decode zb_Ch_add 43 = .ok (.aload_n 0, 1) := by decide +kernel
theorem zd_Ch_add_44 : decode zb_Ch_add 44 = .ok (.getfield 25, 3) := by decide +kernel
theorem zd_Ch_add_47 : decode zb_Ch_add 47 = .ok (.lload 5, 2) := by decide +kernel
theorem zd_Ch_add_49 : decode zb_Ch_add 49 = .ok (.lastore, 1) := by decide +kernel
theorem zd_Ch_add_50 : decode zb_Ch_add 50 = .ok (.aload_n 0, 1) := by decide +kernel
theorem zd_Ch_add_51 : decode zb_Ch_add 51 = .ok (.dup, 1) := by decide +kernel
theorem zd_Ch_add_52 : decode zb_Ch_add 52 = .ok (.getfield 25, 3) := by decide +kernel
theorem zd_Ch_add_55 : decode zb_Ch_add 55 = .ok (.iconst 1, 1) := by decide +kernel
theorem zd_Ch_add_56 : decode zb_Ch_add 56 = .ok (.iadd, 1) := by decide +kernel
theorem zd_Ch_add_57 : decode zb_Ch_add 57 = .ok (.putfield 25, 3) := by decide +kernel
theorem zd_Ch_add_60 : decode zb_Ch_add 60 = .ok (.return_, 1) := by decide +kernel
theorem zd_MP_change_0 : decode zb_MP_change 0 = .ok (.aload_n 0, 1) := by decide +kernel
theorem zd_MP_change_1 : decode zb_MP_change 1 = .ok (.getfield 20, 3) := by decide +kernel
theorem zd_MP_change_4 : decode zb_MP_change 4 = .ok (.getfield 81, 3) := by decide +kernel
theorem zd_MP_change_7 : decode zb_MP_change 7 = .ok (.invokevirtual 85, 3) := by decide +kernel
theorem zd_MP_change_10 : decode zb_MP_change 10 = .ok (.ifCond .ne 31, 3) := by decide +kernel
theorem zd_MP_change_13 : decode zb_MP_change 13 = .ok (.aload_n 0, 1) := by decide +kernel
theorem zd_MP_change_14 : decode zb_MP_change 14 = .ok (.getfield 20, 3) := by decide +kernel
theorem zd_MP_change_17 : decode zb_MP_change 17 = .ok (.iload_n 1, 1) := by decide +kernel
theorem zd_MP_change_18 : decode zb_MP_change 18 = .ok (.invokevirtual 65, 3) := by decide +kernel
theorem zd_MP_change_21 : decode zb_MP_change 21 = .ok (.ifCond .eq 20, 3) := by decide +kernel
theorem zd_MP_change_24 : decode zb_MP_change 24 = .ok (.lload_n 2, 1) := by decide +kernel
theorem zd_MP_change_25 : decode zb_MP_change 25 = .ok (.invokestatic 88, 3) := by decide +kernel
theorem zd_MP_change_28 : decode zb_MP_change 28 = .ok (.ifCond .eq 13, 3) := by decide +kernel
theorem zd_MP_change_31 : decode zb_MP_change 31 = .ok (.iload 4, 2) := by decide +kernel
theorem zd_MP_change_33 : decode zb_MP_change 33 = .ok (.lload 5, 2) := by decide +kernel
theorem zd_MP_change_35 : decode zb_MP_change 35 = .ok (.invokestatic 54, 3) := by decide +kernel
theorem zd_MP_change_38 : decode zb_MP_change 38 = .ok (.ifCond .ne 5, 3) := by decide +kernel
theorem zd_MP_change_41 : decode zb_MP_change 41 = .ok (.iconst 0, 1) := by decide +kernel
theorem zd_MP_change_42 : decode zb_MP_change 42 = .ok (.ireturn, 1) := by decide +kernel
theorem zd_MP_change_43 : decode zb_MP_change 43 = .ok (.aload_n 0, 1) := by decide +kernel
theorem zd_MP_change_44 : decode zb_MP_change 44 = .ok (.getfield 20, 3) := by decide +kernel
theorem zd_MP_change_47 : decode zb_MP_change 47 = .ok (.getfield 81, 3) := by decide +kernel
theorem zd_MP_change_50 : decode zb_MP_change 50 = .ok (.iload_n 1, 1) := by decide +kernel
theorem zd_MP_change_51 : decode zb_MP_change 51 = .ok (.lload_n 2, 1) := by decide +kernel
theorem zd_MP_change_52 : decode zb_MP_change 52 = .ok (.iload 4, 2) := by decide +kernel
theorem zd_MP_change_54 : decode zb_MP_change 54 = .ok (.lload 5, 2) := by decide +kernel
theorem zd_MP_change_56 : decode zb_MP_change 56 = .ok (.invokevirtual 92, 3) := by decide +kernel
theorem zd_MP_change_59 : decode zb_MP_change 59 = .ok (.aload_n 0, 1) := by decide +kernel
theorem zd_MP_change_60 : decode zb_MP_change 60 = .ok (.getfield 9, 3) := by decide +kernel
theorem zd_MP_change_63 : decode zb_MP_change 63 = .ok (.aload_n 0, 1) := by decide +kernel
theorem zd_MP_change_64 : decode zb_MP_change 64 = .ok (.getfield 20, 3) := by decide +kernel
theorem zd_MP_change_67 : decode zb_MP_change 67 = .ok (.getfield 71, 3) := by decide +kernel
theorem zd_MP_change_70 : decode zb_MP_change 70 = .ok (.iload_n 1, 1) := by decide +kernel
theorem zd_MP_change_71 : decode zb_MP_change 71 = .ok (.iaload, 1) := by decide +kernel
theorem zd_MP_change_72 : decode zb_MP_change 72 = .ok (.dup2, 1) := by decide +kernel
theorem zd_MP_change_73 : decode zb_MP_change 73 = .ok (.iaload, 1) := by decide +kernel
theorem zd_MP_change_74 : decode zb_MP_change 74 = .ok (.iconst 1, 1) := by decide +kernel
theorem zd_MP_change_75 : decode zb_MP_change 75 = .ok (.iadd, 1) := by decide +kernel
theorem zd_MP_change_76 : decode zb_MP_change 76 = .ok (.iastore, 1) := by decide +kernel
theorem zd_MP_change_77 : decode zb_MP_change 77 = .ok (.iconst 1, 1) := by decide +kernel
theorem zd_MP_change_78 : decode zb_MP_change 78 = .ok (.ireturn, 1) := by decide +kernel
theorem zd_Ch_countingOn_0 : decode zb_Ch_countingOn 0 = .ok (.iconst (-1), 1) := by decide +kernel
theorem zd_Ch_countingOn_1 : decode zb_Ch_countingOn 1 = .ok (.istore 4, 2) := by decide +kernel
theorem zd_Ch_countingOn_3 : decode zb_Ch_countingOn 3 = .ok (.iconst 0, 1) := by decide +kernel
theorem zd_Ch_countingOn_4 : decode zb_Ch_countingOn 4 = .ok (.istore 5, 2) := by decide +kernel
theorem zd_Ch_countingOn_6 : decode zb_Ch_countingOn 6 = .ok (.iload 5, 2) := by decide +kernel
theorem zd_Ch_countingOn_8 : decode zb_Ch_countingOn 8 = .ok (.aload_n 0, 1) := by decide +kernel
theorem zd_Ch_countingOn_9 : decode zb_Ch_countingOn 9 = .ok (.getfield 25, 3) := by decide +kernel
theorem zd_Ch_countingOn_12 : decode zb_Ch_countingOn 12 = .ok (.if_icmp .ge 60, 3) := by decide +kernel
theorem zd_Ch_countingOn_15 : decode zb_Ch_countingOn 15 = .ok (.aload_n 0, 1) := by decide +kernel
theorem zd_Ch_countingOn_16 : decode zb_Ch_countingOn 16 = .ok (.getfield 9, 3) := by decide +kernel
theorem zd_Ch_countingOn_19 : decode zb_Ch_countingOn 19 = .ok (.iload 5, 2) := by decide +kernel
theorem zd_Ch_countingOn_21 : decode zb_Ch_countingOn 21 = .ok (.iaload, 1) := by decide +kernel
theorem zd_Ch_countingOn_22 : decode zb_Ch_countingOn 22 = .ok (.iload_n 1, 1) := by decide +kernel
theorem zd_Ch_countingOn_23 : decode zb_Ch_countingOn 23 = .ok (.if_icmp .ne 43, 3) := by decide +kernel
theorem zd_Ch_countingOn_26 : decode zb_Ch_countingOn 26 = .ok (.aload_n 0, 1) := by decide +kernel
theorem zd_Ch_countingOn_27 : decode zb_Ch_countingOn 27 = .ok (.getfield 15, 3) := by decide +kernel
theorem zd_Ch_countingOn_30 : decode zb_Ch_countingOn 30 = .ok (.iload 5, 2) := by decide +kernel
theorem zd_Ch_countingOn_32 : decode zb_Ch_countingOn 32 = .ok (.laload, 1) := by decide +kernel
theorem zd_Ch_countingOn_33 : decode zb_Ch_countingOn 33 = .ok (.lload_n 2, 1) := by decide +kernel
theorem zd_Ch_countingOn_34 : decode zb_Ch_countingOn 34 = .ok (.lcmp, 1) := by decide +kernel
theorem zd_Ch_countingOn_35 : decode zb_Ch_countingOn 35 = .ok (.ifCond .gt 31, 3) := by decide +kernel
theorem zd_Ch_countingOn_38 : decode zb_Ch_countingOn 38 = .ok (.iload 4, 2) := by decide +kernel
theorem zd_Ch_countingOn_40 : decode zb_Ch_countingOn 40 = .ok (.iconst (-1), 1) := by decide +kernel
theorem zd_Ch_countingOn_41 : decode zb_Ch_countingOn 41 = .ok (.if_icmp .eq 21, 3) := by decide +kernel
theorem zd_Ch_countingOn_44 : decode zb_Ch_countingOn 44 = .ok (.aload_n 0, 1) := by decide +kernel
theorem zd_Ch_countingOn_45 : decode zb_Ch_countingOn 45 = .ok (.getfield 15, 3) := by decide +kernel
theorem zd_Ch_countingOn_48 : decode zb_Ch_countingOn 48 = .ok (.iload 5, 2) := by decide +kernel
theorem zd_Ch_countingOn_50 : decode zb_Ch_countingOn 50 = .ok (.laload, 1) := by decide +kernel
theorem zd_Ch_countingOn_51 : decode zb_Ch_countingOn 51 = .ok (.aload_n 0, 1) := by decide +kernel
theorem zd_Ch_countingOn_52 : decode zb_Ch_countingOn 52 = .ok (.getfield 15, 3) := by decide +kernel
theorem zd_Ch_countingOn_55 : decode zb_Ch_countingOn 55 = .ok (.iload 4, 2) := by decide +kernel
theorem zd_Ch_countingOn_57 : decode zb_Ch_countingOn 57 = .ok (.laload, 1) := by decide +kernel
theorem zd_Ch_countingOn_58 : decode zb_Ch_countingOn 58 = .ok (.lcmp, 1) := by decide +kernel
theorem zd_Ch_countingOn_59 : decode zb_Ch_countingOn 59 = .ok (.ifCond .lt 7, 3) := by decide +kernel
theorem zd_Ch_countingOn_62 : decode zb_Ch_countingOn 62 = .ok (.iload 5, 2) := by decide +kernel
theorem zd_Ch_countingOn_64 : decode zb_Ch_countingOn 64 = .ok (.istore 4, 2) := by decide +kernel
theorem zd_Ch_countingOn_66 : decode zb_Ch_countingOn 66 = .ok (.iinc 5 1, 3) := by decide +kernel
theorem zd_Ch_countingOn_69 : decode zb_Ch_countingOn 69 = .ok (.goto (-63), 3) := by decide +kernel
theorem zd_Ch_countingOn_72 : decode zb_Ch_countingOn 72 = .ok (.iload 4, 2) := by decide +kernel
theorem zd_Ch_countingOn_74 : decode zb_Ch_countingOn 74 = .ok (.ireturn, 1) := by decide +kernel
theorem zd_Pa_gramsOn_0 : decode zb_Pa_gramsOn 0 = .ok (.aload_n 0, 1) := by decide +kernel
theorem zd_Pa_gramsOn_1 : decode zb_Pa_gramsOn 1 = .ok (.getfield 31, 3) := by decide +kernel
theorem zd_Pa_gramsOn_4 : decode zb_Pa_gramsOn 4 = .ok (.iload_n 1, 1) := by decide +kernel
theorem zd_Pa_gramsOn_5 : decode zb_Pa_gramsOn 5 = .ok (.lload_n 2, 1) := by decide +kernel
theorem zd_Pa_gramsOn_6 : decode zb_Pa_gramsOn 6 = .ok (.invokevirtual 43, 3) := by decide +kernel
theorem zd_Pa_gramsOn_9 : decode zb_Pa_gramsOn 9 = .ok (.istore 4, 2) := by decide +kernel
theorem zd_Pa_gramsOn_11 : decode zb_Pa_gramsOn 11 = .ok (.iload 4, 2) := by decide +kernel
theorem zd_Pa_gramsOn_13 : decode zb_Pa_gramsOn 13 = .ok (.iconst (-1), 1) := by decide +kernel
theorem zd_Pa_gramsOn_14 : decode zb_Pa_gramsOn 14 = .ok (.if_icmp .ne 12, 3) := by decide +kernel
theorem zd_Pa_gramsOn_17 : decode zb_Pa_gramsOn 17 = .ok (.aload_n 0, 1) := by decide +kernel
theorem zd_Pa_gramsOn_18 : decode zb_Pa_gramsOn 18 = .ok (.getfield 18, 3) := by decide +kernel
theorem zd_Pa_gramsOn_21 : decode zb_Pa_gramsOn 21 = .ok (.iload_n 1, 1) := by decide +kernel
theorem zd_Pa_gramsOn_22 : decode zb_Pa_gramsOn 22 = .ok (.laload, 1) := by decide +kernel
theorem zd_Pa_gramsOn_23 : decode zb_Pa_gramsOn 23 = .ok (.goto 13, 3) := by decide +kernel
theorem zd_Pa_gramsOn_26 : decode zb_Pa_gramsOn 26 = .ok (.aload_n 0, 1) := by decide +kernel
theorem zd_Pa_gramsOn_27 : decode zb_Pa_gramsOn 27 = .ok (.getfield 31, 3) := by decide +kernel
theorem zd_Pa_gramsOn_30 : decode zb_Pa_gramsOn 30 = .ok (.getfield 48, 3) := by decide +kernel
theorem zd_Pa_gramsOn_33 : decode zb_Pa_gramsOn 33 = .ok (.iload 4, 2) := by decide +kernel
theorem zd_Pa_gramsOn_35 : decode zb_Pa_gramsOn 35 = .ok (.laload, 1) := by decide +kernel
theorem zd_Pa_gramsOn_36 : decode zb_Pa_gramsOn 36 = .ok (.lreturn, 1) := by decide +kernel
theorem zd_Pa_kindOn_0 : decode zb_Pa_kindOn 0 = .ok (.aload_n 0, 1) := by decide +kernel
theorem zd_Pa_kindOn_1 : decode zb_Pa_kindOn 1 = .ok (.getfield 31, 3) := by decide +kernel
theorem zd_Pa_kindOn_4 : decode zb_Pa_kindOn 4 = .ok (.iload_n 1, 1) := by decide +kernel
theorem zd_Pa_kindOn_5 : decode zb_Pa_kindOn 5 = .ok (.lload_n 2, 1) := by decide +kernel
theorem zd_Pa_kindOn_6 : decode zb_Pa_kindOn 6 = .ok (.invokevirtual 43, 3) := by decide +kernel
theorem zd_Pa_kindOn_9 : decode zb_Pa_kindOn 9 = .ok (.istore 4, 2) := by decide +kernel
theorem zd_Pa_kindOn_11 : decode zb_Pa_kindOn 11 = .ok (.iload 4, 2) := by decide +kernel
theorem zd_Pa_kindOn_13 : decode zb_Pa_kindOn 13 = .ok (.iconst (-1), 1) := by decide +kernel
theorem zd_Pa_kindOn_14 : decode zb_Pa_kindOn 14 = .ok (.if_icmp .ne 12, 3) := by decide +kernel
theorem zd_Pa_kindOn_17 : decode zb_Pa_kindOn 17 = .ok (.aload_n 0, 1) := by decide +kernel
theorem zd_Pa_kindOn_18 : decode zb_Pa_kindOn 18 = .ok (.getfield 15, 3) := by decide +kernel
theorem zd_Pa_kindOn_21 : decode zb_Pa_kindOn 21 = .ok (.iload_n 1, 1) := by decide +kernel
theorem zd_Pa_kindOn_22 : decode zb_Pa_kindOn 22 = .ok (.iaload, 1) := by decide +kernel
theorem zd_Pa_kindOn_23 : decode zb_Pa_kindOn 23 = .ok (.goto 13, 3) := by decide +kernel
theorem zd_Pa_kindOn_26 : decode zb_Pa_kindOn 26 = .ok (.aload_n 0, 1) := by decide +kernel
theorem zd_Pa_kindOn_27 : decode zb_Pa_kindOn 27 = .ok (.getfield 31, 3) := by decide +kernel
theorem zd_Pa_kindOn_30 : decode zb_Pa_kindOn 30 = .ok (.getfield 47, 3) := by decide +kernel
theorem zd_Pa_kindOn_33 : decode zb_Pa_kindOn 33 = .ok (.iload 4, 2) := by decide +kernel
theorem zd_Pa_kindOn_35 : decode zb_Pa_kindOn 35 = .ok (.iaload, 1) := by decide +kernel
theorem zd_Pa_kindOn_36 : decode zb_Pa_kindOn 36 = .ok (.ireturn, 1) := by decide +kernel
theorem zd_Ne_sumByTimes_0 : decode zb_Ne_sumByTimes 0 = .ok (.aload 4, 2) := by decide +kernel
theorem zd_Ne_sumByTimes_2 : decode zb_Ne_sumByTimes 2 = .ok (.lconst 0, 1) := by decide +kernel
theorem zd_Ne_sumByTimes_3 : decode zb_Ne_sumByTimes 3 = .ok (.invokestatic 29, 3) := by decide +kernel
theorem zd_Ne_sumByTimes_6 : decode zb_Ne_sumByTimes 6 = .ok (.iconst 0, 1) := by decide +kernel
theorem zd_Ne_sumByTimes_7 : decode zb_Ne_sumByTimes 7 = .ok (.istore 5, 2) := by decide +kernel
theorem zd_Ne_sumByTimes_9 : decode zb_Ne_sumByTimes 9 = .ok (.iload 5, 2) := by decide +kernel
theorem zd_Ne_sumByTimes_11 : decode zb_Ne_sumByTimes 11 = .ok (.aload_n 1, 1) := by decide +kernel
theorem zd_Ne_sumByTimes_12 : decode zb_Ne_sumByTimes 12 = .ok (.getfield 35, 3) := by decide +kernel
theorem zd_Ne_sumByTimes_15 : decode zb_Ne_sumByTimes 15 = .ok (.if_icmp .ge 46, 3) := by decide +kernel
theorem zd_Ne_sumByTimes_18 : decode zb_Ne_sumByTimes 18 = .ok (.aload_n 1, 1) := by decide +kernel
theorem zd_Ne_sumByTimes_19 : decode zb_Ne_sumByTimes 19 = .ok (.iload 5, 2) := by decide +kernel
theorem zd_Ne_sumByTimes_21 : decode zb_Ne_sumByTimes 21 = .ok (.lload_n 2, 1) := by decide +kernel
theorem zd_Ne_sumByTimes_22 : decode zb_Ne_sumByTimes 22 = .ok (.invokevirtual 41, 3) := by decide +kernel
theorem zd_Ne_sumByTimes_25 : decode zb_Ne_sumByTimes 25 = .ok (.lstore 6, 2) := by decide +kernel
theorem zd_Ne_sumByTimes_27 : decode zb_Ne_sumByTimes 27 = .ok (.aload 4, 2) := by decide +kernel
theorem zd_Ne_sumByTimes_29 : decode zb_Ne_sumByTimes 29 = .ok (.aload_n 1, 1) := by decide +kernel
theorem zd_Ne_sumByTimes_30 : decode zb_Ne_sumByTimes 30 = .ok (.iload 5, 2) := by decide +kernel
theorem zd_Ne_sumByTimes_32 : decode zb_Ne_sumByTimes 32 = .ok (.lload_n 2, 1) := by decide +kernel
theorem zd_Ne_sumByTimes_33 : decode zb_Ne_sumByTimes 33 = .ok (.invokevirtual 45, 3) := by decide +kernel
theorem zd_Ne_sumByTimes_36 : decode zb_Ne_sumByTimes 36 = .ok (.dup2, 1) := by decide +kernel
theorem zd_Ne_sumByTimes_37 : decode zb_Ne_sumByTimes 37 = .ok (.laload, 1) := by decide +kernel
theorem zd_Ne_sumByTimes_38 : decode zb_Ne_sumByTimes 38 = .ok (.aload_n 0, 1) := by decide +kernel
theorem zd_Ne_sumByTimes_39 : decode zb_Ne_sumByTimes 39 = .ok (.getfield 9, 3) := by decide +kernel
theorem zd_Ne_sumByTimes_42 : decode zb_Ne_sumByTimes 42 = .ok (.aload_n 1, 1) := by decide +kernel
theorem zd_Ne_sumByTimes_43 : decode zb_Ne_sumByTimes 43 = .ok (.getfield 49, 3) := by decide +kernel
theorem zd_Ne_sumByTimes_46 : decode zb_Ne_sumByTimes 46 = .ok (.iload 5, 2) := by decide +kernel
theorem zd_Ne_sumByTimes_48 : decode zb_Ne_sumByTimes 48 = .ok (.iaload, 1) := by decide +kernel
theorem zd_Ne_sumByTimes_49 : decode zb_Ne_sumByTimes 49 = .ok (.laload, 1) := by decide +kernel
theorem zd_Ne_sumByTimes_50 : decode zb_Ne_sumByTimes 50 = .ok (.lload 6, 2) := by decide +kernel
theorem zd_Ne_sumByTimes_52 : decode zb_Ne_sumByTimes 52 = .ok (.lmul, 1) := by decide +kernel
theorem zd_Ne_sumByTimes_53 : decode zb_Ne_sumByTimes 53 = .ok (.ladd, 1) := by decide +kernel
theorem zd_Ne_sumByTimes_54 : decode zb_Ne_sumByTimes 54 = .ok (.lastore, 1) := by decide +kernel
theorem zd_Ne_sumByTimes_55 : decode zb_Ne_sumByTimes 55 = .ok (.iinc 5 1, 3) := by decide +kernel
theorem zd_Ne_sumByTimes_58 : decode zb_Ne_sumByTimes 58 = .ok (.goto (-49), 3) := by decide +kernel
theorem zd_Ne_sumByTimes_61 : decode zb_Ne_sumByTimes 61 = .ok (.return_, 1) := by decide +kernel
theorem zd_Ne_sumWithin_0 : decode zb_Ne_sumWithin 0 = .ok (.aload_n 0, 1) := by decide +kernel
theorem zd_Ne_sumWithin_1 : decode zb_Ne_sumWithin 1 = .ok (.aload_n 1, 1) := by decide +kernel
theorem zd_Ne_sumWithin_2 : decode zb_Ne_sumWithin 2 = .ok (.iload_n 2, 1) := by decide +kernel
theorem zd_Ne_sumWithin_3 : decode zb_Ne_sumWithin 3 = .ok (.invokevirtual 21, 3) := by decide +kernel
theorem zd_Ne_sumWithin_6 : decode zb_Ne_sumWithin 6 = .ok (.aload_n 0, 1) := by decide +kernel
theorem zd_Ne_sumWithin_7 : decode zb_Ne_sumWithin 7 = .ok (.aload_n 1, 1) := by decide +kernel
theorem zd_Ne_sumWithin_8 : decode zb_Ne_sumWithin 8 = .ok (.lload_n 3, 1) := by decide +kernel
theorem zd_Ne_sumWithin_9 : decode zb_Ne_sumWithin 9 = .ok (.aload 5, 2) := by decide +kernel
theorem zd_Ne_sumWithin_11 : decode zb_Ne_sumWithin 11 = .ok (.invokevirtual 25, 3) := by decide +kernel
theorem zd_Ne_sumWithin_14 : decode zb_Ne_sumWithin 14 = .ok (.return_, 1) := by decide +kernel
theorem zd_MP_totalOn_0 : decode zb_MP_totalOn 0 = .ok (.aload_n 0, 1) := by decide +kernel
theorem zd_MP_totalOn_1 : decode zb_MP_totalOn 1 = .ok (.iload_n 1, 1) := by decide +kernel
theorem zd_MP_totalOn_2 : decode zb_MP_totalOn 2 = .ok (.invokevirtual 50, 3) := by decide +kernel
theorem zd_MP_totalOn_5 : decode zb_MP_totalOn 5 = .ok (.ifCond .eq 17, 3) := by decide +kernel
theorem zd_MP_totalOn_8 : decode zb_MP_totalOn 8 = .ok (.iload_n 2, 1) := by decide +kernel
theorem zd_MP_totalOn_9 : decode zb_MP_totalOn 9 = .ok (.invokestatic 101, 3) := by decide +kernel
theorem zd_MP_totalOn_12 : decode zb_MP_totalOn 12 = .ok (.ifCond .eq 10, 3) := by decide +kernel
theorem zd_MP_totalOn_15 : decode zb_MP_totalOn 15 = .ok (.lload_n 3, 1) := by decide +kernel
theorem zd_MP_totalOn_16 : decode zb_MP_totalOn 16 = .ok (.invokestatic 88, 3) := by decide +kernel
theorem zd_MP_totalOn_19 : decode zb_MP_totalOn 19 = .ok (.ifCond .ne 7, 3) := by decide +kernel
theorem zd_MP_totalOn_22 : decode zb_MP_totalOn 22 = .ok (.ldc2_w 104, 3) := by decide +kernel
theorem zd_MP_totalOn_25 : decode zb_MP_totalOn 25 = .ok (.lreturn, 1) := by decide +kernel
theorem zd_MP_totalOn_26 : decode zb_MP_totalOn 26 = .ok (.aload_n 0, 1) := by decide +kernel
theorem zd_MP_totalOn_27 : decode zb_MP_totalOn 27 = .ok (.getfield 27, 3) := by decide +kernel
theorem zd_MP_totalOn_30 : decode zb_MP_totalOn 30 = .ok (.aload_n 0, 1) := by decide +kernel
theorem zd_MP_totalOn_31 : decode zb_MP_totalOn 31 = .ok (.getfield 20, 3) := by decide +kernel
theorem zd_MP_totalOn_34 : decode zb_MP_totalOn 34 = .ok (.iload_n 1, 1) := by decide +kernel
theorem zd_MP_totalOn_35 : decode zb_MP_totalOn 35 = .ok (.lload_n 3, 1) := by decide +kernel
theorem zd_MP_totalOn_36 : decode zb_MP_totalOn 36 = .ok (.aload_n 0, 1) := by decide +kernel
theorem zd_MP_totalOn_37 : decode zb_MP_totalOn 37 = .ok (.getfield 38, 3) := by decide +kernel
theorem zd_MP_totalOn_40 : decode zb_MP_totalOn 40 = .ok (.invokevirtual 106, 3) := by decide +kernel
theorem zd_MP_totalOn_43 : decode zb_MP_totalOn 43 = .ok (.aload_n 0, 1) := by decide +kernel
theorem zd_MP_totalOn_44 : decode zb_MP_totalOn 44 = .ok (.getfield 38, 3) := by decide +kernel
theorem zd_MP_totalOn_47 : decode zb_MP_totalOn 47 = .ok (.iload_n 2, 1) := by decide +kernel
theorem zd_MP_totalOn_48 : decode zb_MP_totalOn 48 = .ok (.laload, 1) := by decide +kernel
theorem zd_MP_totalOn_49 : decode zb_MP_totalOn 49 = .ok (.lreturn, 1) := by decide +kernel
theorem zd_MP_total_0 : decode zb_MP_total 0 = .ok (.aload_n 0, 1) := by decide +kernel
theorem zd_MP_total_1 : decode zb_MP_total 1 = .ok (.iload_n 1, 1) := by decide +kernel
theorem zd_MP_total_2 : decode zb_MP_total 2 = .ok (.iload_n 2, 1) := by decide +kernel
theorem zd_MP_total_3 : decode zb_MP_total 3 = .ok (.ldc2_w 95, 3) := by decide +kernel
theorem zd_MP_total_6 : decode zb_MP_total 6 = .ok (.invokevirtual 97, 3) := by decide +kernel
theorem zd_MP_total_9 : decode zb_MP_total 9 = .ok (.lreturn, 1) := by decide +kernel
theorem zd_MP_frees_0 : decode zb_MP_frees 0 = .ok (.iload_n 1, 1) := by decide +kernel
theorem zd_MP_frees_1 : decode zb_MP_frees 1 = .ok (.invokestatic 101, 3) := by decide +kernel
theorem zd_MP_frees_4 : decode zb_MP_frees 4 = .ok (.ifCond .eq 10, 3) := by decide +kernel
theorem zd_MP_frees_7 : decode zb_MP_frees 7 = .ok (.iload_n 2, 1) := by decide +kernel
theorem zd_MP_frees_8 : decode zb_MP_frees 8 = .ok (.invokestatic 58, 3) := by decide +kernel
theorem zd_MP_frees_11 : decode zb_MP_frees 11 = .ok (.ifCond .ne 7, 3) := by decide +kernel
theorem zd_MP_frees_14 : decode zb_MP_frees 14 = .ok (.ldc2_w 104, 3) := by decide +kernel
theorem zd_MP_frees_17 : decode zb_MP_frees 17 = .ok (.lreturn, 1) := by decide +kernel
theorem zd_MP_frees_18 : decode zb_MP_frees 18 = .ok (.lconst 0, 1) := by decide +kernel
theorem zd_MP_frees_19 : decode zb_MP_frees 19 = .ok (.lstore_n 3, 1) := by decide +kernel
theorem zd_MP_frees_20 : decode zb_MP_frees 20 = .ok (.iconst 0, 1) := by decide +kernel
theorem zd_MP_frees_21 : decode zb_MP_frees 21 = .ok (.istore 5, 2) := by decide +kernel
theorem zd_MP_frees_23 : decode zb_MP_frees 23 = .ok (.iload 5, 2) := by decide +kernel
theorem zd_MP_frees_25 : decode zb_MP_frees 25 = .ok (.aload_n 0, 1) := by decide +kernel
theorem zd_MP_frees_26 : decode zb_MP_frees 26 = .ok (.getfield 20, 3) := by decide +kernel
theorem zd_MP_frees_29 : decode zb_MP_frees 29 = .ok (.getfield 110, 3) := by decide +kernel
theorem zd_MP_frees_32 : decode zb_MP_frees 32 = .ok (.if_icmp .ge 54, 3) := by decide +kernel
theorem zd_MP_frees_35 : decode zb_MP_frees 35 = .ok (.aload_n 0, 1) := by decide +kernel
theorem zd_MP_frees_36 : decode zb_MP_frees 36 = .ok (.getfield 20, 3) := by decide +kernel
theorem zd_MP_frees_39 : decode zb_MP_frees 39 = .ok (.getfield 78, 3) := by decide +kernel
theorem zd_MP_frees_42 : decode zb_MP_frees 42 = .ok (.iload 5, 2) := by decide +kernel
theorem zd_MP_frees_44 : decode zb_MP_frees 44 = .ok (.iaload, 1) := by decide +kernel
theorem zd_MP_frees_45 : decode zb_MP_frees 45 = .ok (.iload_n 2, 1) := by decide +kernel
theorem zd_MP_frees_46 : decode zb_MP_frees 46 = .ok (.if_icmp .ne 34, 3) := by decide +kernel
theorem zd_MP_frees_49 : decode zb_MP_frees 49 = .ok (.aload_n 0, 1) := by decide +kernel
theorem zd_MP_frees_50 : decode zb_MP_frees 50 = .ok (.getfield 20, 3) := by decide +kernel
theorem zd_MP_frees_53 : decode zb_MP_frees 53 = .ok (.iload 5, 2) := by decide +kernel
theorem zd_MP_frees_55 : decode zb_MP_frees 55 = .ok (.ldc2_w 95, 3) := by decide +kernel
theorem zd_MP_frees_58 : decode zb_MP_frees 58 = .ok (.invokevirtual 113, 3) := by decide +kernel
theorem zd_MP_frees_61 : decode zb_MP_frees 61 = .ok (.iload_n 1, 1) := by decide +kernel
theorem zd_MP_frees_62 : decode zb_MP_frees 62 = .ok (.if_icmp .ne 18, 3) := by decide +kernel
theorem zd_MP_frees_65 : decode zb_MP_frees 65 = .ok (.lload_n 3, 1) := by decide +kernel
theorem zd_MP_frees_66 : decode zb_MP_frees 66 = .ok (.aload_n 0, 1) := by decide +kernel
theorem zd_MP_frees_67 : decode zb_MP_frees 67 = .ok (.getfield 20, 3) := by decide +kernel
theorem zd_MP_frees_70 : decode zb_MP_frees 70 = .ok (.iload 5, 2) := by decide +kernel
theorem zd_MP_frees_72 : decode zb_MP_frees 72 = .ok (.ldc2_w 95, 3) := by decide +kernel
theorem zd_MP_frees_75 : decode zb_MP_frees 75 = .ok (.invokevirtual 117, 3) := by decide +kernel
theorem zd_MP_frees_78 : decode zb_MP_frees 78 = .ok (.ladd, 1) := by decide +kernel
theorem zd_MP_frees_79 : decode zb_MP_frees 79 = .ok (.lstore_n 3, 1) := by decide +kernel
theorem zd_MP_frees_80 : decode zb_MP_frees 80 = .ok (.iinc 5 1, 3) := by decide +kernel
theorem zd_MP_frees_83 : decode zb_MP_frees 83 = .ok (.goto (-60), 3) := by decide +kernel
theorem zd_MP_frees_86 : decode zb_MP_frees 86 = .ok (.lload_n 3, 1) := by decide +kernel
theorem zd_MP_frees_87 : decode zb_MP_frees 87 = .ok (.lreturn, 1) := by decide +kernel
theorem zd_MP_version_0 : decode zb_MP_version 0 = .ok (.aload_n 0, 1) := by decide +kernel
theorem zd_MP_version_1 : decode zb_MP_version 1 = .ok (.iload_n 1, 1) := by decide +kernel
theorem zd_MP_version_2 : decode zb_MP_version 2 = .ok (.invokevirtual 50, 3) := by decide +kernel
theorem zd_MP_version_5 : decode zb_MP_version 5 = .ok (.ifCond .eq 12, 3) := by decide +kernel
theorem zd_MP_version_8 : decode zb_MP_version 8 = .ok (.aload_n 0, 1) := by decide +kernel
theorem zd_MP_version_9 : decode zb_MP_version 9 = .ok (.getfield 9, 3) := by decide +kernel
theorem zd_MP_version_12 : decode zb_MP_version 12 = .ok (.iload_n 1, 1) := by decide +kernel
theorem zd_MP_version_13 : decode zb_MP_version 13 = .ok (.iaload, 1) := by decide +kernel
theorem zd_MP_version_14 : decode zb_MP_version 14 = .ok (.goto 4, 3) := by decide +kernel
theorem zd_MP_version_17 : decode zb_MP_version 17 = .ok (.iconst (-1), 1) := by decide +kernel
theorem zd_MP_version_18 : decode zb_MP_version 18 = .ok (.ireturn, 1) := by decide +kernel
theorem zd_MP_isPerson_0 : decode zb_MP_isPerson 0 = .ok (.iload_n 0, 1) := by decide +kernel
theorem zd_MP_isPerson_1 : decode zb_MP_isPerson 1 = .ok (.ifCond .lt 13, 3) := by decide +kernel
theorem zd_MP_isPerson_4 : decode zb_MP_isPerson 4 = .ok (.iload_n 0, 1) := by decide +kernel
theorem zd_MP_isPerson_5 : decode zb_MP_isPerson 5 = .ok (.bipush 8, 2) := by decide +kernel
theorem zd_MP_isPerson_7 : decode zb_MP_isPerson 7 = .ok (.if_icmp .ge 7, 3) := by decide +kernel
theorem zd_MP_isPerson_10 : decode zb_MP_isPerson 10 = .ok (.iconst 1, 1) := by decide +kernel
theorem zd_MP_isPerson_11 : decode zb_MP_isPerson 11 = .ok (.goto 4, 3) := by decide +kernel
theorem zd_MP_isPerson_14 : decode zb_MP_isPerson 14 = .ok (.iconst 0, 1) := by decide +kernel
theorem zd_MP_isPerson_15 : decode zb_MP_isPerson 15 = .ok (.ireturn, 1) := by decide +kernel
theorem zd_MP_rightIndex_0 : decode zb_MP_rightIndex 0 = .ok (.iload_n 0, 1) := by decide +kernel
theorem zd_MP_rightIndex_1 : decode zb_MP_rightIndex 1 = .ok (.bipush 8, 2) := by decide +kernel
theorem zd_MP_rightIndex_3 : decode zb_MP_rightIndex 3 = .ok (.imul, 1) := by decide +kernel
theorem zd_MP_rightIndex_4 : decode zb_MP_rightIndex 4 = .ok (.iload_n 1, 1) := by decide +kernel
theorem zd_MP_rightIndex_5 : decode zb_MP_rightIndex 5 = .ok (.iadd, 1) := by decide +kernel
theorem zd_MP_rightIndex_6 : decode zb_MP_rightIndex 6 = .ok (.ireturn, 1) := by decide +kernel
theorem zd_MP_right_0 : decode zb_MP_right 0 = .ok (.iload_n 1, 1) := by decide +kernel
theorem zd_MP_right_1 : decode zb_MP_right 1 = .ok (.invokestatic 121, 3) := by decide +kernel
theorem zd_MP_right_4 : decode zb_MP_right 4 = .ok (.ifCond .eq 11, 3) := by decide +kernel
theorem zd_MP_right_7 : decode zb_MP_right 7 = .ok (.aload_n 0, 1) := by decide +kernel
theorem zd_MP_right_8 : decode zb_MP_right 8 = .ok (.iload_n 2, 1) := by decide +kernel
theorem zd_MP_right_9 : decode zb_MP_right 9 = .ok (.invokevirtual 50, 3) := by decide +kernel
theorem zd_MP_right_12 : decode zb_MP_right 12 = .ok (.ifCond .ne 5, 3) := by decide +kernel
theorem zd_MP_right_15 : decode zb_MP_right 15 = .ok (.iconst 0, 1) := by decide +kernel
theorem zd_MP_right_16 : decode zb_MP_right 16 = .ok (.ireturn, 1) := by decide +kernel
theorem zd_MP_right_17 : decode zb_MP_right 17 = .ok (.aload_n 0, 1) := by decide +kernel
theorem zd_MP_right_18 : decode zb_MP_right 18 = .ok (.getfield 13, 3) := by decide +kernel
theorem zd_MP_right_21 : decode zb_MP_right 21 = .ok (.iload_n 1, 1) := by decide +kernel
theorem zd_MP_right_22 : decode zb_MP_right 22 = .ok (.iload_n 2, 1) := by decide +kernel
theorem zd_MP_right_23 : decode zb_MP_right 23 = .ok (.invokestatic 124, 3) := by decide +kernel
theorem zd_MP_right_26 : decode zb_MP_right 26 = .ok (.iload_n 3, 1) := by decide +kernel
theorem zd_MP_right_27 : decode zb_MP_right 27 = .ok (.bastore, 1) := by decide +kernel
theorem zd_MP_right_28 : decode zb_MP_right 28 = .ok (.iconst 1, 1) := by decide +kernel
theorem zd_MP_right_29 : decode zb_MP_right 29 = .ok (.ireturn, 1) := by decide +kernel
theorem zd_Pa_ownPart_0 : decode zb_Pa_ownPart 0 = .ok (.iconst 0, 1) := by decide +kernel
theorem zd_Pa_ownPart_1 : decode zb_Pa_ownPart 1 = .ok (.istore_n 3, 1) := by decide +kernel
theorem zd_Pa_ownPart_2 : decode zb_Pa_ownPart 2 = .ok (.iconst 0, 1) := by decide +kernel
theorem zd_Pa_ownPart_3 : decode zb_Pa_ownPart 3 = .ok (.istore 4, 2) := by decide +kernel
theorem zd_Pa_ownPart_5 : decode zb_Pa_ownPart 5 = .ok (.iload 4, 2) := by decide +kernel
theorem zd_Pa_ownPart_7 : decode zb_Pa_ownPart 7 = .ok (.aload_n 0, 1) := by decide +kernel
theorem zd_Pa_ownPart_8 : decode zb_Pa_ownPart 8 = .ok (.getfield 35, 3) := by decide +kernel
theorem zd_Pa_ownPart_11 : decode zb_Pa_ownPart 11 = .ok (.if_icmp .ge 31, 3) := by decide +kernel
theorem zd_Pa_ownPart_14 : decode zb_Pa_ownPart 14 = .ok (.aload_n 0, 1) := by decide +kernel
theorem zd_Pa_ownPart_15 : decode zb_Pa_ownPart 15 = .ok (.getfield 9, 3) := by decide +kernel
theorem zd_Pa_ownPart_18 : decode zb_Pa_ownPart 18 = .ok (.iload 4, 2) := by decide +kernel
theorem zd_Pa_ownPart_20 : decode zb_Pa_ownPart 20 = .ok (.iaload, 1) := by decide +kernel
theorem zd_Pa_ownPart_21 : decode zb_Pa_ownPart 21 = .ok (.iload_n 1, 1) := by decide +kernel
theorem zd_Pa_ownPart_22 : decode zb_Pa_ownPart 22 = .ok (.if_icmp .ne 14, 3) := by decide +kernel
theorem zd_Pa_ownPart_25 : decode zb_Pa_ownPart 25 = .ok (.iload_n 3, 1) := by decide +kernel
theorem zd_Pa_ownPart_26 : decode zb_Pa_ownPart 26 = .ok (.iload_n 2, 1) := by decide +kernel
theorem zd_Pa_ownPart_27 : decode zb_Pa_ownPart 27 = .ok (.if_icmp .ne 6, 3) := by decide +kernel
theorem zd_Pa_ownPart_30 : decode zb_Pa_ownPart 30 = .ok (.iload 4, 2) := by decide +kernel
theorem zd_Pa_ownPart_32 : decode zb_Pa_ownPart 32 = .ok (.ireturn, 1) := by decide +kernel
theorem zd_Pa_ownPart_33 : decode zb_Pa_ownPart 33 = .ok (.iinc 3 1, 3) := by decide +kernel
theorem zd_Pa_ownPart_36 : decode zb_Pa_ownPart 36 = .ok (.iinc 4 1, 3) := by decide +kernel
theorem zd_Pa_ownPart_39 : decode zb_Pa_ownPart 39 = .ok (.goto (-34), 3) := by decide +kernel
theorem zd_Pa_ownPart_42 : decode zb_Pa_ownPart 42 = .ok (.iconst (-1), 1) := by decide +kernel
theorem zd_Pa_ownPart_43 : decode zb_Pa_ownPart 43 = .ok (.ireturn, 1) := by decide +kernel
theorem zd_Pa_ownGrams_0 : decode zb_Pa_ownGrams 0 = .ok (.lconst 0, 1) := by decide +kernel
theorem zd_Pa_ownGrams_1 : decode zb_Pa_ownGrams 1 = .ok (.lstore 5, 2) := by decide +kernel
theorem zd_Pa_ownGrams_3 : decode zb_Pa_ownGrams 3 = .ok (.iconst 0, 1) := by decide +kernel
theorem zd_Pa_ownGrams_4 : decode zb_Pa_ownGrams 4 = .ok (.istore 7, 2) := by decide +kernel
theorem zd_Pa_ownGrams_6 : decode zb_Pa_ownGrams 6 = .ok (.iload 7, 2) := by decide +kernel
theorem zd_Pa_ownGrams_8 : decode zb_Pa_ownGrams 8 = .ok (.aload_n 0, 1) := by decide +kernel
theorem zd_Pa_ownGrams_9 : decode zb_Pa_ownGrams 9 = .ok (.getfield 35, 3) := by decide +kernel
theorem zd_Pa_ownGrams_12 : decode zb_Pa_ownGrams 12 = .ok (.if_icmp .ge 43, 3) := by decide +kernel
theorem zd_Pa_ownGrams_15 : decode zb_Pa_ownGrams 15 = .ok (.aload_n 0, 1) := by decide +kernel
theorem zd_Pa_ownGrams_16 : decode zb_Pa_ownGrams 16 = .ok (.getfield 9, 3) := by decide +kernel
theorem zd_Pa_ownGrams_19 : decode zb_Pa_ownGrams 19 = .ok (.iload 7, 2) := by decide +kernel
theorem zd_Pa_ownGrams_21 : decode zb_Pa_ownGrams 21 = .ok (.iaload, 1) := by decide +kernel
theorem zd_Pa_ownGrams_22 : decode zb_Pa_ownGrams 22 = .ok (.iload_n 1, 1) := by decide +kernel
theorem zd_Pa_ownGrams_23 : decode zb_Pa_ownGrams 23 = .ok (.if_icmp .ne 26, 3) := by decide +kernel
theorem zd_Pa_ownGrams_26 : decode zb_Pa_ownGrams 26 = .ok (.aload_n 0, 1) := by decide +kernel
theorem zd_Pa_ownGrams_27 : decode zb_Pa_ownGrams 27 = .ok (.iload 7, 2) := by decide +kernel
theorem zd_Pa_ownGrams_29 : decode zb_Pa_ownGrams 29 = .ok (.lload_n 3, 1) := by decide +kernel
theorem zd_Pa_ownGrams_30 : decode zb_Pa_ownGrams 30 = .ok (.invokevirtual 49, 3) := by decide +kernel
theorem zd_Pa_ownGrams_33 : decode zb_Pa_ownGrams 33 = .ok (.iload_n 2, 1) := by decide +kernel
theorem zd_Pa_ownGrams_34 : decode zb_Pa_ownGrams 34 = .ok (.if_icmp .ne 15, 3) := by decide +kernel
theorem zd_Pa_ownGrams_37 : decode zb_Pa_ownGrams 37 = .ok (.lload 5, 2) := by decide +kernel
theorem zd_Pa_ownGrams_39 : decode zb_Pa_ownGrams 39 = .ok (.aload_n 0, 1) := by decide +kernel
theorem zd_Pa_ownGrams_40 : decode zb_Pa_ownGrams 40 = .ok (.iload 7, 2) := by decide +kernel
theorem zd_Pa_ownGrams_42 : decode zb_Pa_ownGrams 42 = .ok (.lload_n 3, 1) := by decide +kernel
theorem zd_Pa_ownGrams_43 : decode zb_Pa_ownGrams 43 = .ok (.invokevirtual 52, 3) := by decide +kernel
theorem zd_Pa_ownGrams_46 : decode zb_Pa_ownGrams 46 = .ok (.ladd, 1) := by decide +kernel
theorem zd_Pa_ownGrams_47 : decode zb_Pa_ownGrams 47 = .ok (.lstore 5, 2) := by decide +kernel
theorem zd_Pa_ownGrams_49 : decode zb_Pa_ownGrams 49 = .ok (.iinc 7 1, 3) := by decide +kernel
theorem zd_Pa_ownGrams_52 : decode zb_Pa_ownGrams 52 = .ok (.goto (-46), 3) := by decide +kernel
theorem zd_Pa_ownGrams_55 : decode zb_Pa_ownGrams 55 = .ok (.lload 5, 2) := by decide +kernel
theorem zd_Pa_ownGrams_57 : decode zb_Pa_ownGrams 57 = .ok (.lreturn, 1) := by decide +kernel
theorem zd_MP_seen_0 : decode zb_MP_seen 0 = .ok (.iload_n 1, 1) := by decide +kernel
theorem zd_MP_seen_1 : decode zb_MP_seen 1 = .ok (.invokestatic 121, 3) := by decide +kernel
theorem zd_MP_seen_4 : decode zb_MP_seen 4 = .ok (.ifCond .eq 11, 3) := by decide +kernel
theorem zd_MP_seen_7 : decode zb_MP_seen 7 = .ok (.aload_n 0, 1) := by decide +kernel
theorem zd_MP_seen_8 : decode zb_MP_seen 8 = .ok (.iload_n 2, 1) := by decide +kernel
theorem zd_MP_seen_9 : decode zb_MP_seen 9 = .ok (.invokevirtual 50, 3) := by decide +kernel
theorem zd_MP_seen_12 : decode zb_MP_seen 12 = .ok (.ifCond .ne 7, 3) := by decide +kernel
theorem zd_MP_seen_15 : decode zb_MP_seen 15 = .ok (.ldc2_w 104, 3) := by decide +kernel
theorem zd_MP_seen_18 : decode zb_MP_seen 18 = .ok (.lreturn, 1) := by decide +kernel
theorem zd_MP_seen_19 : decode zb_MP_seen 19 = .ok (.aload_n 0, 1) := by decide +kernel
theorem zd_MP_seen_20 : decode zb_MP_seen 20 = .ok (.getfield 20, 3) := by decide +kernel
theorem zd_MP_seen_23 : decode zb_MP_seen 23 = .ok (.iload_n 2, 1) := by decide +kernel
theorem zd_MP_seen_24 : decode zb_MP_seen 24 = .ok (.iload_n 3, 1) := by decide +kernel
theorem zd_MP_seen_25 : decode zb_MP_seen 25 = .ok (.invokevirtual 128, 3) := by decide +kernel
theorem zd_MP_seen_28 : decode zb_MP_seen 28 = .ok (.istore 5, 2) := by decide +kernel
theorem zd_MP_seen_30 : decode zb_MP_seen 30 = .ok (.iload 5, 2) := by decide +kernel
theorem zd_MP_seen_32 : decode zb_MP_seen 32 = .ok (.iconst (-1), 1) := by decide +kernel
theorem zd_MP_seen_33 : decode zb_MP_seen 33 = .ok (.if_icmp .ne 7, 3) := by decide +kernel
theorem zd_MP_seen_36 : decode zb_MP_seen 36 = .ok (.ldc2_w 104, 3) := by decide +kernel
theorem zd_MP_seen_39 : decode zb_MP_seen 39 = .ok (.lreturn, 1) := by decide +kernel
theorem zd_MP_seen_40 : decode zb_MP_seen 40 = .ok (.aload_n 0, 1) := by decide +kernel
theorem zd_MP_seen_41 : decode zb_MP_seen 41 = .ok (.getfield 13, 3) := by decide +kernel
theorem zd_MP_seen_44 : decode zb_MP_seen 44 = .ok (.iload_n 1, 1) := by decide +kernel
theorem zd_MP_seen_45 : decode zb_MP_seen 45 = .ok (.iload_n 2, 1) := by decide +kernel
theorem zd_MP_seen_46 : decode zb_MP_seen 46 = .ok (.invokestatic 124, 3) := by decide +kernel
theorem zd_MP_seen_49 : decode zb_MP_seen 49 = .ok (.baload, 1) := by decide +kernel
theorem zd_MP_seen_50 : decode zb_MP_seen 50 = .ok (.istore 6, 2) := by decide +kernel
theorem zd_MP_seen_52 : decode zb_MP_seen 52 = .ok (.aload_n 0, 1) := by decide +kernel
theorem zd_MP_seen_53 : decode zb_MP_seen 53 = .ok (.getfield 20, 3) := by decide +kernel
theorem zd_MP_seen_56 : decode zb_MP_seen 56 = .ok (.iload 5, 2) := by decide +kernel
theorem zd_MP_seen_58 : decode zb_MP_seen 58 = .ok (.ldc2_w 95, 3) := by decide +kernel
theorem zd_MP_seen_61 : decode zb_MP_seen 61 = .ok (.invokevirtual 113, 3) := by decide +kernel
theorem zd_MP_seen_64 : decode zb_MP_seen 64 = .ok (.istore 7, 2) := by decide +kernel
theorem zd_MP_seen_66 : decode zb_MP_seen 66 = .ok (.iload 4, 2) := by decide +kernel
theorem zd_MP_seen_68 : decode zb_MP_seen 68 = .ok (.tableswitch 89 0 2 #[28, 32, 66], 28) := by decide +kernel
theorem zd_MP_seen_96 : decode zb_MP_seen 96 = .ok (.iload 7, 2) := by decide +kernel
theorem zd_MP_seen_98 : decode zb_MP_seen 98 = .ok (.i2l, 1) := by decide +kernel
theorem zd_MP_seen_99 : decode zb_MP_seen 99 = .ok (.lreturn, 1) := by decide +kernel
theorem zd_MP_seen_100 : decode zb_MP_seen 100 = .ok (.iload 6, 2) := by decide +kernel
theorem zd_MP_seen_102 : decode zb_MP_seen 102 = .ok (.ifCond .eq 18, 3) := by decide +kernel
theorem zd_MP_seen_105 : decode zb_MP_seen 105 = .ok (.aload_n 0, 1) := by decide +kernel
theorem zd_MP_seen_106 : decode zb_MP_seen 106 = .ok (.getfield 20, 3) := by decide +kernel
theorem zd_MP_seen_109 : decode zb_MP_seen 109 = .ok (.iload 5, 2) := by decide +kernel
theorem zd_MP_seen_111 : decode zb_MP_seen 111 = .ok (.ldc2_w 95, 3) := by decide +kernel
theorem zd_MP_seen_114 : decode zb_MP_seen 114 = .ok (.invokevirtual 117, 3) := by decide +kernel
theorem zd_MP_seen_117 : decode zb_MP_seen 117 = .ok (.goto 16, 3) := by decide +kernel
theorem zd_MP_seen_120 : decode zb_MP_seen 120 = .ok (.aload_n 0, 1) := by decide +kernel
theorem zd_MP_seen_121 : decode zb_MP_seen 121 = .ok (.getfield 20, 3) := by decide +kernel
theorem zd_MP_seen_124 : decode zb_MP_seen 124 = .ok (.iload_n 2, 1) := by decide +kernel
theorem zd_MP_seen_125 : decode zb_MP_seen 125 = .ok (.iload 7, 2) := by decide +kernel
theorem zd_MP_seen_127 : decode zb_MP_seen 127 = .ok (.ldc2_w 95, 3) := by decide +kernel
theorem zd_MP_seen_130 : decode zb_MP_seen 130 = .ok (.invokevirtual 131, 3) := by decide +kernel
theorem zd_MP_seen_133 : decode zb_MP_seen 133 = .ok (.lreturn, 1) := by decide +kernel
theorem zd_MP_seen_134 : decode zb_MP_seen 134 = .ok (.iload 6, 2) := by decide +kernel
theorem zd_MP_seen_136 : decode zb_MP_seen 136 = .ok (.ifCond .eq 17, 3) := by decide +kernel
theorem zd_MP_seen_139 : decode zb_MP_seen 139 = .ok (.aload_n 0, 1) := by decide +kernel
theorem zd_MP_seen_140 : decode zb_MP_seen 140 = .ok (.getfield 20, 3) := by decide +kernel
theorem zd_MP_seen_143 : decode zb_MP_seen 143 = .ok (.getfield 78, 3) := by decide +kernel
theorem zd_MP_seen_146 : decode zb_MP_seen 146 = .ok (.iload 5, 2) := by decide +kernel
theorem zd_MP_seen_148 : decode zb_MP_seen 148 = .ok (.iaload, 1) := by decide +kernel
theorem zd_MP_seen_149 : decode zb_MP_seen 149 = .ok (.i2l, 1) := by decide +kernel
theorem zd_MP_seen_150 : decode zb_MP_seen 150 = .ok (.goto 6, 3) := by decide +kernel
theorem zd_MP_seen_153 : decode zb_MP_seen 153 = .ok (.ldc2_w 134, 3) := by decide +kernel
theorem zd_MP_seen_156 : decode zb_MP_seen 156 = .ok (.lreturn, 1) := by decide +kernel
theorem zd_MP_seen_157 : decode zb_MP_seen 157 = .ok (.ldc2_w 104, 3) := by decide +kernel
theorem zd_MP_seen_160 : decode zb_MP_seen 160 = .ok (.lreturn, 1) := by decide +kernel
theorem zd_Fo_addByte_0 : decode zb_Fo_addByte 0 = .ok (.iload_n 1, 1) := by decide +kernel
theorem zd_Fo_addByte_1 : decode zb_Fo_addByte 1 = .ok (.ifCond .lt 20, 3) := by decide +kernel
theorem zd_Fo_addByte_4 : decode zb_Fo_addByte 4 = .ok (.iload_n 1, 1) := by decide +kernel
theorem zd_Fo_addByte_5 : decode zb_Fo_addByte 5 = .ok (.sipush 255, 3) := by decide +kernel
theorem zd_Fo_addByte_8 : decode zb_Fo_addByte 8 = .ok (.if_icmp .gt 13, 3) := by decide +kernel
theorem zd_Fo_addByte_11 : decode zb_Fo_addByte 11 = .ok (.aload_n 0, 1) := by decide +kernel
theorem zd_Fo_addByte_12 : decode zb_Fo_addByte 12 = .ok (.getfield 25, 3) := by decide +kernel
theorem zd_Fo_addByte_15 : decode zb_Fo_addByte 15 = .ok (.sipush 300, 3) := by decide +kernel
theorem zd_Fo_addByte_18 : decode zb_Fo_addByte 18 = .ok (.if_icmp .lt 5, 3) := by decide +kernel
theorem zd_Fo_addByte_21 : decode zb_Fo_addByte 21 = .ok (.iconst 0, 1) := by decide +kernel
theorem zd_Fo_addByte_22 : decode zb_Fo_addByte 22 = .ok (.ireturn, 1) := by decide +kernel
theorem zd_Fo_addByte_23 : decode zb_Fo_addByte 23 = .ok (.aload_n 0, 1) := by decide +kernel
theorem zd_Fo_addByte_24 : decode zb_Fo_addByte 24 = .ok (.getfield 11, 3) := by decide +kernel
theorem zd_Fo_addByte_27 : decode zb_Fo_addByte 27 = .ok (.aload_n 0, 1) := by decide +kernel
theorem zd_Fo_addByte_28 : decode zb_Fo_addByte 28 = .ok (.getfield 25, 3) := by decide +kernel
theorem zd_Fo_addByte_31 : decode zb_Fo_addByte 31 = .ok (.iload_n 1, 1) := by decide +kernel
theorem zd_Fo_addByte_32 : decode zb_Fo_addByte 32 = .ok (.iastore, 1) := by decide +kernel
theorem zd_Fo_addByte_33 : decode zb_Fo_addByte 33 = .ok (.aload_n 0, 1) := by decide +kernel
theorem zd_Fo_addByte_34 : decode zb_Fo_addByte 34 = .ok (.dup, 1) := by decide +kernel
theorem zd_Fo_addByte_35 : decode zb_Fo_addByte 35 = .ok (.getfield 25, 3) := by decide +kernel
theorem zd_Fo_addByte_38 : decode zb_Fo_addByte 38 = .ok (.iconst 1, 1) := by decide +kernel
theorem zd_Fo_addByte_39 : decode zb_Fo_addByte 39 = .ok (.iadd, 1) := by decide +kernel
theorem zd_Fo_addByte_40 : decode zb_Fo_addByte 40 = .ok (.putfield 25, 3) := by decide +kernel
theorem zd_Fo_addByte_43 : decode zb_Fo_addByte 43 = .ok (.iconst 1, 1) := by decide +kernel
theorem zd_Fo_addByte_44 : decode zb_Fo_addByte 44 = .ok (.ireturn, 1) := by decide +kernel
theorem zd_MP_unit_0 : decode zb_MP_unit 0 = .ok (.aload_n 0, 1) := by decide +kernel
theorem zd_MP_unit_1 : decode zb_MP_unit 1 = .ok (.getfield 34, 3) := by decide +kernel
theorem zd_MP_unit_4 : decode zb_MP_unit 4 = .ok (.iload_n 1, 1) := by decide +kernel
theorem zd_MP_unit_5 : decode zb_MP_unit 5 = .ok (.invokevirtual 136, 3) := by decide +kernel
theorem zd_MP_unit_8 : decode zb_MP_unit 8 = .ok (.ireturn, 1) := by decide +kernel
theorem zd_Fo_isDigit_0 : decode zb_Fo_isDigit 0 = .ok (.iload_n 0, 1) := by decide +kernel
theorem zd_Fo_isDigit_1 : decode zb_Fo_isDigit 1 = .ok (.bipush 48, 2) := by decide +kernel
theorem zd_Fo_isDigit_3 : decode zb_Fo_isDigit 3 = .ok (.if_icmp .lt 13, 3) := by decide +kernel
theorem zd_Fo_isDigit_6 : decode zb_Fo_isDigit 6 = .ok (.iload_n 0, 1) := by decide +kernel
theorem zd_Fo_isDigit_7 : decode zb_Fo_isDigit 7 = .ok (.bipush 57, 2) := by decide +kernel
theorem zd_Fo_isDigit_9 : decode zb_Fo_isDigit 9 = .ok (.if_icmp .gt 7, 3) := by decide +kernel
theorem zd_Fo_isDigit_12 : decode zb_Fo_isDigit 12 = .ok (.iconst 1, 1) := by decide +kernel
theorem zd_Fo_isDigit_13 : decode zb_Fo_isDigit 13 = .ok (.goto 4, 3) := by decide +kernel
theorem zd_Fo_isDigit_16 : decode zb_Fo_isDigit 16 = .ok (.iconst 0, 1) := by decide +kernel
theorem zd_Fo_isDigit_17 : decode zb_Fo_isDigit 17 = .ok (.ireturn, 1) := by decide +kernel
theorem zd_Fo_signOf_0 : decode zb_Fo_signOf 0 = .ok (.iload_n 0, 1) := by decide +kernel
theorem zd_Fo_signOf_1 : decode zb_Fo_signOf 1 = .ok (.lookupswitch 55 #[(42, 52), (43, 46), (45, 49), (110, 43)], 43) := by decide +kernel
theorem zd_Fo_signOf_44 : decode zb_Fo_signOf 44 = .ok (.bipush (-6), 2) := by decide +kernel
theorem zd_Fo_signOf_46 : decode zb_Fo_signOf 46 = .ok (.ireturn, 1) := by decide +kernel
theorem zd_Fo_signOf_47 : decode zb_Fo_signOf 47 = .ok (.bipush (-7), 2) := by decide +kernel
theorem zd_Fo_signOf_49 : decode zb_Fo_signOf 49 = .ok (.ireturn, 1) := by decide +kernel
theorem zd_Fo_signOf_50 : decode zb_Fo_signOf 50 = .ok (.bipush (-8), 2) := by decide +kernel
theorem zd_Fo_signOf_52 : decode zb_Fo_signOf 52 = .ok (.ireturn, 1) := by decide +kernel
theorem zd_Fo_signOf_53 : decode zb_Fo_signOf 53 = .ok (.bipush (-9), 2) := by decide +kernel
theorem zd_Fo_signOf_55 : decode zb_Fo_signOf 55 = .ok (.ireturn, 1) := by decide +kernel
theorem zd_Fo_signOf_56 : decode zb_Fo_signOf 56 = .ok (.bipush (-12), 2) := by decide +kernel
theorem zd_Fo_signOf_58 : decode zb_Fo_signOf 58 = .ok (.ireturn, 1) := by decide +kernel
theorem zd_Fo_shareOf_0 : decode zb_Fo_shareOf 0 = .ok (.iload_n 0, 1) := by decide +kernel
theorem zd_Fo_shareOf_1 : decode zb_Fo_shareOf 1 = .ok (.bipush 48, 2) := by decide +kernel
theorem zd_Fo_shareOf_3 : decode zb_Fo_shareOf 3 = .ok (.isub, 1) := by decide +kernel
theorem zd_Fo_shareOf_4 : decode zb_Fo_shareOf 4 = .ok (.istore_n 1, 1) := by decide +kernel
theorem zd_Fo_shareOf_5 : decode zb_Fo_shareOf 5 = .ok (.iload_n 1, 1) := by decide +kernel
theorem zd_Fo_shareOf_6 : decode zb_Fo_shareOf 6 = .ok (.invokestatic 74, 3) := by decide +kernel
theorem zd_Fo_shareOf_9 : decode zb_Fo_shareOf 9 = .ok (.ifCond .eq 9, 3) := by decide +kernel
theorem zd_Fo_shareOf_12 : decode zb_Fo_shareOf 12 = .ok (.iconst (-1), 1) := by decide +kernel
theorem zd_Fo_shareOf_13 : decode zb_Fo_shareOf 13 = .ok (.iload_n 1, 1) := by decide +kernel
theorem zd_Fo_shareOf_14 : decode zb_Fo_shareOf 14 = .ok (.isub, 1) := by decide +kernel
theorem zd_Fo_shareOf_15 : decode zb_Fo_shareOf 15 = .ok (.goto 5, 3) := by decide +kernel
theorem zd_Fo_shareOf_18 : decode zb_Fo_shareOf 18 = .ok (.bipush (-12), 2) := by decide +kernel
theorem zd_Fo_shareOf_20 : decode zb_Fo_shareOf 20 = .ok (.ireturn, 1) := by decide +kernel
theorem zd_Fo_boundOf_0 : decode zb_Fo_boundOf 0 = .ok (.iload_n 0, 1) := by decide +kernel
theorem zd_Fo_boundOf_1 : decode zb_Fo_boundOf 1 = .ok (.bipush 105, 2) := by decide +kernel
theorem zd_Fo_boundOf_3 : decode zb_Fo_boundOf 3 = .ok (.if_icmp .ne 12, 3) := by decide +kernel
theorem zd_Fo_boundOf_6 : decode zb_Fo_boundOf 6 = .ok (.iload_n 1, 1) := by decide +kernel
theorem zd_Fo_boundOf_7 : decode zb_Fo_boundOf 7 = .ok (.bipush 110, 2) := by decide +kernel
theorem zd_Fo_boundOf_9 : decode zb_Fo_boundOf 9 = .ok (.if_icmp .ne 6, 3) := by decide +kernel
theorem zd_Fo_boundOf_12 : decode zb_Fo_boundOf 12 = .ok (.bipush (-10), 2) := by decide +kernel
theorem zd_Fo_boundOf_14 : decode zb_Fo_boundOf 14 = .ok (.ireturn, 1) := by decide +kernel
theorem zd_Fo_boundOf_15 : decode zb_Fo_boundOf 15 = .ok (.iload_n 0, 1) := by decide +kernel
theorem zd_Fo_boundOf_16 : decode zb_Fo_boundOf 16 = .ok (.bipush 97, 2) := by decide +kernel
theorem zd_Fo_boundOf_18 : decode zb_Fo_boundOf 18 = .ok (.if_icmp .ne 14, 3) := by decide +kernel
theorem zd_Fo_boundOf_21 : decode zb_Fo_boundOf 21 = .ok (.iload_n 1, 1) := by decide +kernel
theorem zd_Fo_boundOf_22 : decode zb_Fo_boundOf 22 = .ok (.bipush 120, 2) := by decide +kernel
theorem zd_Fo_boundOf_24 : decode zb_Fo_boundOf 24 = .ok (.if_icmp .ne 8, 3) := by decide +kernel
theorem zd_Fo_boundOf_27 : decode zb_Fo_boundOf 27 = .ok (.bipush (-11), 2) := by decide +kernel
theorem zd_Fo_boundOf_29 : decode zb_Fo_boundOf 29 = .ok (.goto 5, 3) := by decide +kernel
theorem zd_Fo_boundOf_32 : decode zb_Fo_boundOf 32 = .ok (.bipush (-12), 2) := by decide +kernel
theorem zd_Fo_boundOf_34 : decode zb_Fo_boundOf 34 = .ok (.ireturn, 1) := by decide +kernel
theorem zd_Fo_numberAt_0 : decode zb_Fo_numberAt 0 = .ok (.iload_n 2, 1) := by decide +kernel
theorem zd_Fo_numberAt_1 : decode zb_Fo_numberAt 1 = .ok (.iload_n 1, 1) := by decide +kernel
theorem zd_Fo_numberAt_2 : decode zb_Fo_numberAt 2 = .ok (.isub, 1) := by decide +kernel
theorem zd_Fo_numberAt_3 : decode zb_Fo_numberAt 3 = .ok (.bipush 6, 2) := by decide +kernel
theorem zd_Fo_numberAt_5 : decode zb_Fo_numberAt 5 = .ok (.if_icmp .le 6, 3) := by decide +kernel
theorem zd_Fo_numberAt_8 : decode zb_Fo_numberAt 8 = .ok (.bipush (-12), 2) := by decide +kernel
theorem zd_Fo_numberAt_10 : decode zb_Fo_numberAt 10 = .ok (.ireturn, 1) := by decide +kernel
theorem zd_Fo_numberAt_11 : decode zb_Fo_numberAt 11 = .ok (.iconst 0, 1) := by decide +kernel
theorem zd_Fo_numberAt_12 : decode zb_Fo_numberAt 12 = .ok (.istore_n 3, 1) := by decide +kernel
theorem zd_Fo_numberAt_13 : decode zb_Fo_numberAt 13 = .ok (.iload_n 1, 1) := by decide +kernel
theorem zd_Fo_numberAt_14 : decode zb_Fo_numberAt 14 = .ok (.istore 4, 2) := by decide +kernel
theorem zd_Fo_numberAt_16 : decode zb_Fo_numberAt 16 = .ok (.iload 4, 2) := by decide +kernel
theorem zd_Fo_numberAt_18 : decode zb_Fo_numberAt 18 = .ok (.iload_n 2, 1) := by decide +kernel
theorem zd_Fo_numberAt_19 : decode zb_Fo_numberAt 19 = .ok (.if_icmp .ge 41, 3) := by decide +kernel
theorem zd_Fo_numberAt_22 : decode zb_Fo_numberAt 22 = .ok (.aload_n 0, 1) := by decide +kernel
theorem zd_Fo_numberAt_23 : decode zb_Fo_numberAt 23 = .ok (.getfield 11, 3) := by decide +kernel
theorem zd_Fo_numberAt_26 : decode zb_Fo_numberAt 26 = .ok (.iload 4, 2) := by decide +kernel
theorem zd_Fo_numberAt_28 : decode zb_Fo_numberAt 28 = .ok (.iaload, 1) := by decide +kernel
theorem zd_Fo_numberAt_29 : decode zb_Fo_numberAt 29 = .ok (.invokestatic 58, 3) := by decide +kernel
theorem zd_Fo_numberAt_32 : decode zb_Fo_numberAt 32 = .ok (.ifCond .ne 6, 3) := by decide +kernel
theorem zd_Fo_numberAt_35 : decode zb_Fo_numberAt 35 = .ok (.bipush (-12), 2) := by decide +kernel
theorem zd_Fo_numberAt_37 : decode zb_Fo_numberAt 37 = .ok (.ireturn, 1) := by decide +kernel
theorem zd_Fo_numberAt_38 : decode zb_Fo_numberAt 38 = .ok (.iload_n 3, 1) := by decide +kernel
theorem zd_Fo_numberAt_39 : decode zb_Fo_numberAt 39 = .ok (.bipush 10, 2) := by decide +kernel
theorem zd_Fo_numberAt_41 : decode zb_Fo_numberAt 41 = .ok (.imul, 1) := by decide +kernel
theorem zd_Fo_numberAt_42 : decode zb_Fo_numberAt 42 = .ok (.aload_n 0, 1) := by decide +kernel
theorem zd_Fo_numberAt_43 : decode zb_Fo_numberAt 43 = .ok (.getfield 11, 3) := by decide +kernel
theorem zd_Fo_numberAt_46 : decode zb_Fo_numberAt 46 = .ok (.iload 4, 2) := by decide +kernel
theorem zd_Fo_numberAt_48 : decode zb_Fo_numberAt 48 = .ok (.iaload, 1) := by decide +kernel
theorem zd_Fo_numberAt_49 : decode zb_Fo_numberAt 49 = .ok (.bipush 48, 2) := by decide +kernel
theorem zd_Fo_numberAt_51 : decode zb_Fo_numberAt 51 = .ok (.isub, 1) := by decide +kernel
theorem zd_Fo_numberAt_52 : decode zb_Fo_numberAt 52 = .ok (.iadd, 1) := by decide +kernel
theorem zd_Fo_numberAt_53 : decode zb_Fo_numberAt 53 = .ok (.istore_n 3, 1) := by decide +kernel
theorem zd_Fo_numberAt_54 : decode zb_Fo_numberAt 54 = .ok (.iinc 4 1, 3) := by decide +kernel
theorem zd_Fo_numberAt_57 : decode zb_Fo_numberAt 57 = .ok (.goto (-41), 3) := by decide +kernel
theorem zd_Fo_numberAt_60 : decode zb_Fo_numberAt 60 = .ok (.iload_n 3, 1) := by decide +kernel
theorem zd_Fo_numberAt_61 : decode zb_Fo_numberAt 61 = .ok (.ireturn, 1) := by decide +kernel
theorem zd_Fo_wordAt_0 : decode zb_Fo_wordAt 0 = .ok (.aload_n 0, 1) := by decide +kernel
theorem zd_Fo_wordAt_1 : decode zb_Fo_wordAt 1 = .ok (.getfield 11, 3) := by decide +kernel
theorem zd_Fo_wordAt_4 : decode zb_Fo_wordAt 4 = .ok (.iload_n 1, 1) := by decide +kernel
theorem zd_Fo_wordAt_5 : decode zb_Fo_wordAt 5 = .ok (.iaload, 1) := by decide +kernel
theorem zd_Fo_wordAt_6 : decode zb_Fo_wordAt 6 = .ok (.istore_n 3, 1) := by decide +kernel
theorem zd_Fo_wordAt_7 : decode zb_Fo_wordAt 7 = .ok (.iload_n 3, 1) := by decide +kernel
theorem zd_Fo_wordAt_8 : decode zb_Fo_wordAt 8 = .ok (.invokestatic 58, 3) := by decide +kernel
theorem zd_Fo_wordAt_11 : decode zb_Fo_wordAt 11 = .ok (.ifCond .eq 10, 3) := by decide +kernel
theorem zd_Fo_wordAt_14 : decode zb_Fo_wordAt 14 = .ok (.aload_n 0, 1) := by decide +kernel
theorem zd_Fo_wordAt_15 : decode zb_Fo_wordAt 15 = .ok (.iload_n 1, 1) := by decide +kernel
theorem zd_Fo_wordAt_16 : decode zb_Fo_wordAt 16 = .ok (.iload_n 2, 1) := by decide +kernel
theorem zd_Fo_wordAt_17 : decode zb_Fo_wordAt 17 = .ok (.invokevirtual 61, 3) := by decide +kernel
theorem zd_Fo_wordAt_20 : decode zb_Fo_wordAt 20 = .ok (.ireturn, 1) := by decide +kernel
theorem zd_Fo_wordAt_21 : decode zb_Fo_wordAt 21 = .ok (.iload_n 2, 1) := by decide +kernel
theorem zd_Fo_wordAt_22 : decode zb_Fo_wordAt 22 = .ok (.iload_n 1, 1) := by decide +kernel
theorem zd_Fo_wordAt_23 : decode zb_Fo_wordAt 23 = .ok (.isub, 1) := by decide +kernel
theorem zd_Fo_wordAt_24 : decode zb_Fo_wordAt 24 = .ok (.tableswitch 87 1 3 #[28, 33, 56], 28) := by decide +kernel
theorem zd_Fo_wordAt_52 : decode zb_Fo_wordAt 52 = .ok (.iload_n 3, 1) := by decide +kernel
theorem zd_Fo_wordAt_53 : decode zb_Fo_wordAt 53 = .ok (.invokestatic 64, 3) := by decide +kernel
theorem zd_Fo_wordAt_56 : decode zb_Fo_wordAt 56 = .ok (.ireturn, 1) := by decide +kernel
theorem zd_Fo_wordAt_57 : decode zb_Fo_wordAt 57 = .ok (.iload_n 3, 1) := by decide +kernel
theorem zd_Fo_wordAt_58 : decode zb_Fo_wordAt 58 = .ok (.bipush 107, 2) := by decide +kernel
theorem zd_Fo_wordAt_60 : decode zb_Fo_wordAt 60 = .ok (.if_icmp .ne 17, 3) := by decide +kernel
theorem zd_Fo_wordAt_63 : decode zb_Fo_wordAt 63 = .ok (.aload_n 0, 1) := by decide +kernel
theorem zd_Fo_wordAt_64 : decode zb_Fo_wordAt 64 = .ok (.getfield 11, 3) := by decide +kernel
theorem zd_Fo_wordAt_67 : decode zb_Fo_wordAt 67 = .ok (.iload_n 1, 1) := by decide +kernel
theorem zd_Fo_wordAt_68 : decode zb_Fo_wordAt 68 = .ok (.iconst 1, 1) := by decide +kernel
theorem zd_Fo_wordAt_69 : decode zb_Fo_wordAt 69 = .ok (.iadd, 1) := by decide +kernel
theorem zd_Fo_wordAt_70 : decode zb_Fo_wordAt 70 = .ok (.iaload, 1) := by decide +kernel
theorem zd_Fo_wordAt_71 : decode zb_Fo_wordAt 71 = .ok (.invokestatic 68, 3) := by decide +kernel
theorem zd_Fo_wordAt_74 : decode zb_Fo_wordAt 74 = .ok (.goto 5, 3) := by decide +kernel
theorem zd_Fo_wordAt_77 : decode zb_Fo_wordAt 77 = .ok (.bipush (-12), 2) := by decide +kernel
theorem zd_Fo_wordAt_79 : decode zb_Fo_wordAt 79 = .ok (.ireturn, 1) := by decide +kernel
theorem zd_Fo_wordAt_80 : decode zb_Fo_wordAt 80 = .ok (.iload_n 3, 1) := by decide +kernel
theorem zd_Fo_wordAt_81 : decode zb_Fo_wordAt 81 = .ok (.bipush 109, 2) := by decide +kernel
theorem zd_Fo_wordAt_83 : decode zb_Fo_wordAt 83 = .ok (.if_icmp .ne 25, 3) := by decide +kernel
theorem zd_Fo_wordAt_86 : decode zb_Fo_wordAt 86 = .ok (.aload_n 0, 1) := by decide +kernel
theorem zd_Fo_wordAt_87 : decode zb_Fo_wordAt 87 = .ok (.getfield 11, 3) := by decide +kernel
theorem zd_Fo_wordAt_90 : decode zb_Fo_wordAt 90 = .ok (.iload_n 1, 1) := by decide +kernel
theorem zd_Fo_wordAt_91 : decode zb_Fo_wordAt 91 = .ok (.iconst 1, 1) := by decide +kernel
theorem zd_Fo_wordAt_92 : decode zb_Fo_wordAt 92 = .ok (.iadd, 1) := by decide +kernel
theorem zd_Fo_wordAt_93 : decode zb_Fo_wordAt 93 = .ok (.iaload, 1) := by decide +kernel
theorem zd_Fo_wordAt_94 : decode zb_Fo_wordAt 94 = .ok (.aload_n 0, 1) := by decide +kernel
theorem zd_Fo_wordAt_95 : decode zb_Fo_wordAt 95 = .ok (.getfield 11, 3) := by decide +kernel
theorem zd_Fo_wordAt_98 : decode zb_Fo_wordAt 98 = .ok (.iload_n 1, 1) := by decide +kernel
theorem zd_Fo_wordAt_99 : decode zb_Fo_wordAt 99 = .ok (.iconst 2, 1) := by decide +kernel
theorem zd_Fo_wordAt_100 : decode zb_Fo_wordAt 100 = .ok (.iadd, 1) := by decide +kernel
theorem zd_Fo_wordAt_101 : decode zb_Fo_wordAt 101 = .ok (.iaload, 1) := by decide +kernel
theorem zd_Fo_wordAt_102 : decode zb_Fo_wordAt 102 = .ok (.invokestatic 71, 3) := by decide +kernel
theorem zd_Fo_wordAt_105 : decode zb_Fo_wordAt 105 = .ok (.goto 5, 3) := by decide +kernel
theorem zd_Fo_wordAt_108 : decode zb_Fo_wordAt 108 = .ok (.bipush (-12), 2) := by decide +kernel
theorem zd_Fo_wordAt_110 : decode zb_Fo_wordAt 110 = .ok (.ireturn, 1) := by decide +kernel
theorem zd_Fo_wordAt_111 : decode zb_Fo_wordAt 111 = .ok (.bipush (-12), 2) := by decide +kernel
theorem zd_Fo_wordAt_113 : decode zb_Fo_wordAt 113 = .ok (.ireturn, 1) := by decide +kernel
theorem zd_Fo_joinsTwo_0 : decode zb_Fo_joinsTwo 0 = .ok (.iload_n 0, 1) := by decide +kernel
theorem zd_Fo_joinsTwo_1 : decode zb_Fo_joinsTwo 1 = .ok (.bipush (-7), 2) := by decide +kernel
theorem zd_Fo_joinsTwo_3 : decode zb_Fo_joinsTwo 3 = .ok (.if_icmp .gt 13, 3) := by decide +kernel
theorem zd_Fo_joinsTwo_6 : decode zb_Fo_joinsTwo 6 = .ok (.iload_n 0, 1) := by decide +kernel
theorem zd_Fo_joinsTwo_7 : decode zb_Fo_joinsTwo 7 = .ok (.bipush (-11), 2) := by decide +kernel
theorem zd_Fo_joinsTwo_9 : decode zb_Fo_joinsTwo 9 = .ok (.if_icmp .lt 7, 3) := by decide +kernel
theorem zd_Fo_joinsTwo_12 : decode zb_Fo_joinsTwo 12 = .ok (.iconst 1, 1) := by decide +kernel
theorem zd_Fo_joinsTwo_13 : decode zb_Fo_joinsTwo 13 = .ok (.goto 4, 3) := by decide +kernel
theorem zd_Fo_joinsTwo_16 : decode zb_Fo_joinsTwo 16 = .ok (.iconst 0, 1) := by decide +kernel
theorem zd_Fo_joinsTwo_17 : decode zb_Fo_joinsTwo 17 = .ok (.ireturn, 1) := by decide +kernel
theorem zd_Fo_takeWord_0 : decode zb_Fo_takeWord 0 = .ok (.iload_n 1, 1) := by decide +kernel
theorem zd_Fo_takeWord_1 : decode zb_Fo_takeWord 1 = .ok (.invokestatic 55, 3) := by decide +kernel
theorem zd_Fo_takeWord_4 : decode zb_Fo_takeWord 4 = .ok (.istore_n 2, 1) := by decide +kernel
theorem zd_Fo_takeWord_5 : decode zb_Fo_takeWord 5 = .ok (.iload_n 1, 1) := by decide +kernel
theorem zd_Fo_takeWord_6 : decode zb_Fo_takeWord 6 = .ok (.bipush (-12), 2) := by decide +kernel
theorem zd_Fo_takeWord_8 : decode zb_Fo_takeWord 8 = .ok (.if_icmp .eq 25, 3) := by decide +kernel
theorem zd_Fo_takeWord_11 : decode zb_Fo_takeWord 11 = .ok (.iload_n 2, 1) := by decide +kernel
theorem zd_Fo_takeWord_12 : decode zb_Fo_takeWord 12 = .ok (.ifCond .eq 11, 3) := by decide +kernel
theorem zd_Fo_takeWord_15 : decode zb_Fo_takeWord 15 = .ok (.aload_n 0, 1) := by decide +kernel
theorem zd_Fo_takeWord_16 : decode zb_Fo_takeWord 16 = .ok (.getfield 32, 3) := by decide +kernel
theorem zd_Fo_takeWord_19 : decode zb_Fo_takeWord 19 = .ok (.iconst 2, 1) := by decide +kernel
theorem zd_Fo_takeWord_20 : decode zb_Fo_takeWord 20 = .ok (.if_icmp .lt 13, 3) := by decide +kernel
theorem zd_Fo_takeWord_23 : decode zb_Fo_takeWord 23 = .ok (.aload_n 0, 1) := by decide +kernel
theorem zd_Fo_takeWord_24 : decode zb_Fo_takeWord 24 = .ok (.getfield 29, 3) := by decide +kernel
theorem zd_Fo_takeWord_27 : decode zb_Fo_takeWord 27 = .ok (.sipush 150, 3) := by decide +kernel
theorem zd_Fo_takeWord_30 : decode zb_Fo_takeWord 30 = .ok (.if_icmp .lt 5, 3) := by decide +kernel
theorem zd_Fo_takeWord_33 : decode zb_Fo_takeWord 33 = .ok (.iconst 0, 1) := by decide +kernel
theorem zd_Fo_takeWord_34 : decode zb_Fo_takeWord 34 = .ok (.ireturn, 1) := by decide +kernel
theorem zd_Fo_takeWord_35 : decode zb_Fo_takeWord 35 = .ok (.aload_n 0, 1) := by decide +kernel
theorem zd_Fo_takeWord_36 : decode zb_Fo_takeWord 36 = .ok (.getfield 15, 3) := by decide +kernel
theorem zd_Fo_takeWord_39 : decode zb_Fo_takeWord 39 = .ok (.aload_n 0, 1) := by decide +kernel
theorem zd_Fo_takeWord_40 : decode zb_Fo_takeWord 40 = .ok (.getfield 29, 3) := by decide +kernel
theorem zd_Fo_takeWord_43 : decode zb_Fo_takeWord 43 = .ok (.iload_n 1, 1) := by decide +kernel
theorem zd_Fo_takeWord_44 : decode zb_Fo_takeWord 44 = .ok (.iastore, 1) := by decide +kernel
theorem zd_Fo_takeWord_45 : decode zb_Fo_takeWord 45 = .ok (.aload_n 0, 1) := by decide +kernel
theorem zd_Fo_takeWord_46 : decode zb_Fo_takeWord 46 = .ok (.dup, 1) := by decide +kernel
theorem zd_Fo_takeWord_47 : decode zb_Fo_takeWord 47 = .ok (.getfield 29, 3) := by decide +kernel
theorem zd_Fo_takeWord_50 : decode zb_Fo_takeWord 50 = .ok (.iconst 1, 1) := by decide +kernel
theorem zd_Fo_takeWord_51 : decode zb_Fo_takeWord 51 = .ok (.iadd, 1) := by decide +kernel
theorem zd_Fo_takeWord_52 : decode zb_Fo_takeWord 52 = .ok (.putfield 29, 3) := by decide +kernel
theorem zd_Fo_takeWord_55 : decode zb_Fo_takeWord 55 = .ok (.aload_n 0, 1) := by decide +kernel
theorem zd_Fo_takeWord_56 : decode zb_Fo_takeWord 56 = .ok (.dup, 1) := by decide +kernel
theorem zd_Fo_takeWord_57 : decode zb_Fo_takeWord 57 = .ok (.getfield 32, 3) := by decide +kernel
theorem zd_Fo_takeWord_60 : decode zb_Fo_takeWord 60 = .ok (.iload_n 2, 1) := by decide +kernel
theorem zd_Fo_takeWord_61 : decode zb_Fo_takeWord 61 = .ok (.ifCond .eq 7, 3) := by decide +kernel
theorem zd_Fo_takeWord_64 : decode zb_Fo_takeWord 64 = .ok (.iconst (-1), 1) := by decide +kernel
theorem zd_Fo_takeWord_65 : decode zb_Fo_takeWord 65 = .ok (.goto 4, 3) := by decide +kernel
theorem zd_Fo_takeWord_68 : decode zb_Fo_takeWord 68 = .ok (.iconst 1, 1) := by decide +kernel
theorem zd_Fo_takeWord_69 : decode zb_Fo_takeWord 69 = .ok (.iadd, 1) := by decide +kernel
theorem zd_Fo_takeWord_70 : decode zb_Fo_takeWord 70 = .ok (.putfield 32, 3) := by decide +kernel
theorem zd_Fo_takeWord_73 : decode zb_Fo_takeWord 73 = .ok (.iconst 1, 1) := by decide +kernel
theorem zd_Fo_takeWord_74 : decode zb_Fo_takeWord 74 = .ok (.ireturn, 1) := by decide +kernel
theorem zd_Fo_isGap_0 : decode zb_Fo_isGap 0 = .ok (.iload_n 0, 1) := by decide +kernel
theorem zd_Fo_isGap_1 : decode zb_Fo_isGap 1 = .ok (.bipush 32, 2) := by decide +kernel
theorem zd_Fo_isGap_3 : decode zb_Fo_isGap 3 = .ok (.if_icmp .eq 9, 3) := by decide +kernel
theorem zd_Fo_isGap_6 : decode zb_Fo_isGap 6 = .ok (.iload_n 0, 1) := by decide +kernel
theorem zd_Fo_isGap_7 : decode zb_Fo_isGap 7 = .ok (.bipush 10, 2) := by decide +kernel
theorem zd_Fo_isGap_9 : decode zb_Fo_isGap 9 = .ok (.if_icmp .ne 7, 3) := by decide +kernel
theorem zd_Fo_isGap_12 : decode zb_Fo_isGap 12 = .ok (.iconst 1, 1) := by decide +kernel
theorem zd_Fo_isGap_13 : decode zb_Fo_isGap 13 = .ok (.goto 4, 3) := by decide +kernel
theorem zd_Fo_isGap_16 : decode zb_Fo_isGap 16 = .ok (.iconst 0, 1) := by decide +kernel
theorem zd_Fo_isGap_17 : decode zb_Fo_isGap 17 = .ok (.ireturn, 1) := by decide +kernel
theorem zd_Fo_readText_0 : decode zb_Fo_readText 0 = .ok (.aload_n 0, 1) := by decide +kernel
theorem zd_Fo_readText_1 : decode zb_Fo_readText 1 = .ok (.getfield 25, 3) := by decide +kernel
theorem zd_Fo_readText_4 : decode zb_Fo_readText 4 = .ok (.istore_n 1, 1) := by decide +kernel
theorem zd_Fo_readText_5 : decode zb_Fo_readText 5 = .ok (.aload_n 0, 1) := by decide +kernel
theorem zd_Fo_readText_6 : decode zb_Fo_readText 6 = .ok (.iconst 0, 1) := by decide +kernel
theorem zd_Fo_readText_7 : decode zb_Fo_readText 7 = .ok (.putfield 25, 3) := by decide +kernel
theorem zd_Fo_readText_10 : decode zb_Fo_readText 10 = .ok (.aload_n 0, 1) := by decide +kernel
theorem zd_Fo_readText_11 : decode zb_Fo_readText 11 = .ok (.iconst 0, 1) := by decide +kernel
theorem zd_Fo_readText_12 : decode zb_Fo_readText 12 = .ok (.putfield 29, 3) := by decide +kernel
theorem zd_Fo_readText_15 : decode zb_Fo_readText 15 = .ok (.aload_n 0, 1) := by decide +kernel
theorem zd_Fo_readText_16 : decode zb_Fo_readText 16 = .ok (.iconst 0, 1) := by decide +kernel
theorem zd_Fo_readText_17 : decode zb_Fo_readText 17 = .ok (.putfield 32, 3) := by decide +kernel
theorem zd_Fo_readText_20 : decode zb_Fo_readText 20 = .ok (.iconst 0, 1) := by decide +kernel
theorem zd_Fo_readText_21 : decode zb_Fo_readText 21 = .ok (.istore_n 2, 1) := by decide +kernel
theorem zd_Fo_readText_22 : decode zb_Fo_readText 22 = .ok (.iconst 0, 1) := by decide +kernel
theorem zd_Fo_readText_23 : decode zb_Fo_readText 23 = .ok (.istore_n 3, 1) := by decide +kernel
theorem zd_Fo_readText_24 : decode zb_Fo_readText 24 = .ok (.iload_n 3, 1) := by decide +kernel
theorem zd_Fo_readText_25 : decode zb_Fo_readText 25 = .ok (.iload_n 1, 1) := by decide +kernel
theorem zd_Fo_readText_26 : decode zb_Fo_readText 26 = .ok (.if_icmp .gt 55, 3) := by decide +kernel
theorem zd_Fo_readText_29 : decode zb_Fo_readText 29 = .ok (.iload_n 3, 1) := by decide +kernel
theorem zd_Fo_readText_30 : decode zb_Fo_readText 30 = .ok (.iload_n 1, 1) := by decide +kernel
theorem zd_Fo_readText_31 : decode zb_Fo_readText 31 = .ok (.if_icmp .eq 15, 3) := by decide +kernel
theorem zd_Fo_readText_34 : decode zb_Fo_readText 34 = .ok (.aload_n 0, 1) := by decide +kernel
theorem zd_Fo_readText_35 : decode zb_Fo_readText 35 = .ok (.getfield 11, 3) := by decide +kernel
theorem zd_Fo_readText_38 : decode zb_Fo_readText 38 = .ok (.iload_n 3, 1) := by decide +kernel
theorem zd_Fo_readText_39 : decode zb_Fo_readText 39 = .ok (.iaload, 1) := by decide +kernel
theorem zd_Fo_readText_40 : decode zb_Fo_readText 40 = .ok (.invokestatic 38, 3) := by decide +kernel
theorem zd_Fo_readText_43 : decode zb_Fo_readText 43 = .ok (.ifCond .eq 32, 3) := by decide +kernel
theorem zd_Fo_readText_46 : decode zb_Fo_readText 46 = .ok (.iload_n 2, 1) := by decide +kernel
theorem zd_Fo_readText_47 : decode zb_Fo_readText 47 = .ok (.iload_n 3, 1) := by decide +kernel
theorem zd_Fo_readText_48 : decode zb_Fo_readText 48 = .ok (.if_icmp .ge 23, 3) := by decide +kernel
theorem zd_Fo_readText_51 : decode zb_Fo_readText 51 = .ok (.aload_n 0, 1) := by decide +kernel
theorem zd_Fo_readText_52 : decode zb_Fo_readText 52 = .ok (.aload_n 0, 1) := by decide +kernel
theorem zd_Fo_readText_53 : decode zb_Fo_readText 53 = .ok (.iload_n 2, 1) := by decide +kernel
theorem zd_Fo_readText_54 : decode zb_Fo_readText 54 = .ok (.iload_n 3, 1) := by decide +kernel
theorem zd_Fo_readText_55 : decode zb_Fo_readText 55 = .ok (.invokevirtual 42, 3) := by decide +kernel
theorem zd_Fo_readText_58 : decode zb_Fo_readText 58 = .ok (.invokevirtual 46, 3) := by decide +kernel
theorem zd_Fo_readText_61 : decode zb_Fo_readText 61 = .ok (.ifCond .ne 10, 3) := by decide +kernel
theorem zd_Fo_readText_64 : decode zb_Fo_readText 64 = .ok (.iconst (-1), 1) := by decide +kernel
theorem zd_Fo_readText_65 : decode zb_Fo_readText 65 = .ok (.aload_n 0, 1) := by decide +kernel
theorem zd_Fo_readText_66 : decode zb_Fo_readText 66 = .ok (.getfield 29, 3) := by decide +kernel
theorem zd_Fo_readText_69 : decode zb_Fo_readText 69 = .ok (.isub, 1) := by decide +kernel
theorem zd_Fo_readText_70 : decode zb_Fo_readText 70 = .ok (.ireturn, 1) := by decide +kernel
theorem zd_Fo_readText_71 : decode zb_Fo_readText 71 = .ok (.iload_n 3, 1) := by decide +kernel
theorem zd_Fo_readText_72 : decode zb_Fo_readText 72 = .ok (.iconst 1, 1) := by decide +kernel
theorem zd_Fo_readText_73 : decode zb_Fo_readText 73 = .ok (.iadd, 1) := by decide +kernel
theorem zd_Fo_readText_74 : decode zb_Fo_readText 74 = .ok (.istore_n 2, 1) := by decide +kernel
theorem zd_Fo_readText_75 : decode zb_Fo_readText 75 = .ok (.iinc 3 1, 3) := by decide +kernel
theorem zd_Fo_readText_78 : decode zb_Fo_readText 78 = .ok (.goto (-54), 3) := by decide +kernel
theorem zd_Fo_readText_81 : decode zb_Fo_readText 81 = .ok (.aload_n 0, 1) := by decide +kernel
theorem zd_Fo_readText_82 : decode zb_Fo_readText 82 = .ok (.getfield 32, 3) := by decide +kernel
theorem zd_Fo_readText_85 : decode zb_Fo_readText 85 = .ok (.iconst 1, 1) := by decide +kernel
theorem zd_Fo_readText_86 : decode zb_Fo_readText 86 = .ok (.if_icmp .eq 10, 3) := by decide +kernel
theorem zd_Fo_readText_89 : decode zb_Fo_readText 89 = .ok (.iconst (-1), 1) := by decide +kernel
theorem zd_Fo_readText_90 : decode zb_Fo_readText 90 = .ok (.aload_n 0, 1) := by decide +kernel
theorem zd_Fo_readText_91 : decode zb_Fo_readText 91 = .ok (.getfield 29, 3) := by decide +kernel
theorem zd_Fo_readText_94 : decode zb_Fo_readText 94 = .ok (.isub, 1) := by decide +kernel
theorem zd_Fo_readText_95 : decode zb_Fo_readText 95 = .ok (.ireturn, 1) := by decide +kernel
theorem zd_Fo_readText_96 : decode zb_Fo_readText 96 = .ok (.aload_n 0, 1) := by decide +kernel
theorem zd_Fo_readText_97 : decode zb_Fo_readText 97 = .ok (.getfield 15, 3) := by decide +kernel
theorem zd_Fo_readText_100 : decode zb_Fo_readText 100 = .ok (.iconst 0, 1) := by decide +kernel
theorem zd_Fo_readText_101 : decode zb_Fo_readText 101 = .ok (.aload_n 0, 1) := by decide +kernel
theorem zd_Fo_readText_102 : decode zb_Fo_readText 102 = .ok (.getfield 18, 3) := by decide +kernel
theorem zd_Fo_readText_105 : decode zb_Fo_readText 105 = .ok (.iconst 0, 1) := by decide +kernel
theorem zd_Fo_readText_106 : decode zb_Fo_readText 106 = .ok (.aload_n 0, 1) := by decide +kernel
theorem zd_Fo_readText_107 : decode zb_Fo_readText 107 = .ok (.getfield 29, 3) := by decide +kernel
theorem zd_Fo_readText_110 : decode zb_Fo_readText 110 = .ok (.invokestatic 49, 3) := by decide +kernel
theorem zd_Fo_readText_113 : decode zb_Fo_readText 113 = .ok (.aload_n 0, 1) := by decide +kernel
theorem zd_Fo_readText_114 : decode zb_Fo_readText 114 = .ok (.aload_n 0, 1) := by decide +kernel
theorem zd_Fo_readText_115 : decode zb_Fo_readText 115 = .ok (.getfield 29, 3) := by decide +kernel
theorem zd_Fo_readText_118 : decode zb_Fo_readText 118 = .ok (.putfield 35, 3) := by decide +kernel
theorem zd_Fo_readText_121 : decode zb_Fo_readText 121 = .ok (.aload_n 0, 1) := by decide +kernel
theorem zd_Fo_readText_122 : decode zb_Fo_readText 122 = .ok (.getfield 35, 3) := by decide +kernel
theorem zd_Fo_readText_125 : decode zb_Fo_readText 125 = .ok (.ireturn, 1) := by decide +kernel
theorem zd_MP_score_0 : decode zb_MP_score 0 = .ok (.aload_n 0, 1) := by decide +kernel
theorem zd_MP_score_1 : decode zb_MP_score 1 = .ok (.getfield 34, 3) := by decide +kernel
theorem zd_MP_score_4 : decode zb_MP_score 4 = .ok (.invokevirtual 139, 3) := by decide +kernel
theorem zd_MP_score_7 : decode zb_MP_score 7 = .ok (.ireturn, 1) := by decide +kernel
theorem zd_Fo_isTold_0 : decode zb_Fo_isTold 0 = .ok (.aload_n 0, 1) := by decide +kernel
theorem zd_Fo_isTold_1 : decode zb_Fo_isTold 1 = .ok (.getfield 35, 3) := by decide +kernel
theorem zd_Fo_isTold_4 : decode zb_Fo_isTold 4 = .ok (.ifCond .le 7, 3) := by decide +kernel
theorem zd_Fo_isTold_7 : decode zb_Fo_isTold 7 = .ok (.iconst 1, 1) := by decide +kernel
theorem zd_Fo_isTold_8 : decode zb_Fo_isTold 8 = .ok (.goto 4, 3) := by decide +kernel
theorem zd_Fo_isTold_11 : decode zb_Fo_isTold 11 = .ok (.iconst 0, 1) := by decide +kernel
theorem zd_Fo_isTold_12 : decode zb_Fo_isTold 12 = .ok (.ireturn, 1) := by decide +kernel
theorem zd_Pa_ownCount_0 : decode zb_Pa_ownCount 0 = .ok (.iconst 0, 1) := by decide +kernel
theorem zd_Pa_ownCount_1 : decode zb_Pa_ownCount 1 = .ok (.istore_n 2, 1) := by decide +kernel
theorem zd_Pa_ownCount_2 : decode zb_Pa_ownCount 2 = .ok (.iconst 0, 1) := by decide +kernel
theorem zd_Pa_ownCount_3 : decode zb_Pa_ownCount 3 = .ok (.istore_n 3, 1) := by decide +kernel
theorem zd_Pa_ownCount_4 : decode zb_Pa_ownCount 4 = .ok (.iload_n 3, 1) := by decide +kernel
theorem zd_Pa_ownCount_5 : decode zb_Pa_ownCount 5 = .ok (.aload_n 0, 1) := by decide +kernel
theorem zd_Pa_ownCount_6 : decode zb_Pa_ownCount 6 = .ok (.getfield 35, 3) := by decide +kernel
theorem zd_Pa_ownCount_9 : decode zb_Pa_ownCount 9 = .ok (.if_icmp .ge 22, 3) := by decide +kernel
theorem zd_Pa_ownCount_12 : decode zb_Pa_ownCount 12 = .ok (.aload_n 0, 1) := by decide +kernel
theorem zd_Pa_ownCount_13 : decode zb_Pa_ownCount 13 = .ok (.getfield 9, 3) := by decide +kernel
theorem zd_Pa_ownCount_16 : decode zb_Pa_ownCount 16 = .ok (.iload_n 3, 1) := by decide +kernel
theorem zd_Pa_ownCount_17 : decode zb_Pa_ownCount 17 = .ok (.iaload, 1) := by decide +kernel
theorem zd_Pa_ownCount_18 : decode zb_Pa_ownCount 18 = .ok (.iload_n 1, 1) := by decide +kernel
theorem zd_Pa_ownCount_19 : decode zb_Pa_ownCount 19 = .ok (.if_icmp .ne 6, 3) := by decide +kernel
theorem zd_Pa_ownCount_22 : decode zb_Pa_ownCount 22 = .ok (.iinc 2 1, 3) := by decide +kernel
theorem zd_Pa_ownCount_25 : decode zb_Pa_ownCount 25 = .ok (.iinc 3 1, 3) := by decide +kernel
theorem zd_Pa_ownCount_28 : decode zb_Pa_ownCount 28 = .ok (.goto (-24), 3) := by decide +kernel
theorem zd_Pa_ownCount_31 : decode zb_Pa_ownCount 31 = .ok (.iload_n 2, 1) := by decide +kernel
theorem zd_Pa_ownCount_32 : decode zb_Pa_ownCount 32 = .ok (.ireturn, 1) := by decide +kernel
theorem zd_Fo_cutProduct_0 : decode zb_Fo_cutProduct 0 = .ok (.lload_n 0, 1) := by decide +kernel
theorem zd_Fo_cutProduct_1 : decode zb_Fo_cutProduct 1 = .ok (.lconst 0, 1) := by decide +kernel
theorem zd_Fo_cutProduct_2 : decode zb_Fo_cutProduct 2 = .ok (.lcmp, 1) := by decide +kernel
theorem zd_Fo_cutProduct_3 : decode zb_Fo_cutProduct 3 = .ok (.ifCond .ne 5, 3) := by decide +kernel
theorem zd_Fo_cutProduct_6 : decode zb_Fo_cutProduct 6 = .ok (.lconst 0, 1) := by decide +kernel
theorem zd_Fo_cutProduct_7 : decode zb_Fo_cutProduct 7 = .ok (.lreturn, 1) := by decide +kernel
theorem zd_Fo_cutProduct_8 : decode zb_Fo_cutProduct 8 = .ok (.lload_n 2, 1) := by decide +kernel
theorem zd_Fo_cutProduct_9 : decode zb_Fo_cutProduct 9 = .ok (.invokestatic 111, 3) := by decide +kernel
theorem zd_Fo_cutProduct_12 : decode zb_Fo_cutProduct 12 = .ok (.ldc2_w 109, 3) := by decide +kernel
theorem zd_Fo_cutProduct_15 : decode zb_Fo_cutProduct 15 = .ok (.lload_n 0, 1) := by decide +kernel
theorem zd_Fo_cutProduct_16 : decode zb_Fo_cutProduct 16 = .ok (.invokestatic 111, 3) := by decide +kernel
theorem zd_Fo_cutProduct_19 : decode zb_Fo_cutProduct 19 = .ok (.ldiv, 1) := by decide +kernel
theorem zd_Fo_cutProduct_20 : decode zb_Fo_cutProduct 20 = .ok (.lcmp, 1) := by decide +kernel
theorem zd_Fo_cutProduct_21 : decode zb_Fo_cutProduct 21 = .ok (.ifCond .gt 7, 3) := by decide +kernel
theorem zd_Fo_cutProduct_24 : decode zb_Fo_cutProduct 24 = .ok (.lload_n 0, 1) := by decide +kernel
theorem zd_Fo_cutProduct_25 : decode zb_Fo_cutProduct 25 = .ok (.lload_n 2, 1) := by decide +kernel
theorem zd_Fo_cutProduct_26 : decode zb_Fo_cutProduct 26 = .ok (.lmul, 1) := by decide +kernel
theorem zd_Fo_cutProduct_27 : decode zb_Fo_cutProduct 27 = .ok (.lreturn, 1) := by decide +kernel
theorem zd_Fo_cutProduct_28 : decode zb_Fo_cutProduct 28 = .ok (.lload_n 0, 1) := by decide +kernel
theorem zd_Fo_cutProduct_29 : decode zb_Fo_cutProduct 29 = .ok (.lconst 0, 1) := by decide +kernel
theorem zd_Fo_cutProduct_30 : decode zb_Fo_cutProduct 30 = .ok (.lcmp, 1) := by decide +kernel
theorem zd_Fo_cutProduct_31 : decode zb_Fo_cutProduct 31 = .ok (.ifCond .ge 7, 3) := by decide +kernel
theorem zd_Fo_cutProduct_34 : decode zb_Fo_cutProduct 34 = .ok (.iconst 1, 1) := by decide +kernel
theorem zd_Fo_cutProduct_35 : decode zb_Fo_cutProduct 35 = .ok (.goto 4, 3) := by decide +kernel
theorem zd_Fo_cutProduct_38 : decode zb_Fo_cutProduct 38 = .ok (.iconst 0, 1) := by decide +kernel
theorem zd_Fo_cutProduct_39 : decode zb_Fo_cutProduct 39 = .ok (.lload_n 2, 1) := by decide +kernel
theorem zd_Fo_cutProduct_40 : decode zb_Fo_cutProduct 40 = .ok (.lconst 0, 1) := by decide +kernel
theorem zd_Fo_cutProduct_41 : decode zb_Fo_cutProduct 41 = .ok (.lcmp, 1) := by decide +kernel
theorem zd_Fo_cutProduct_42 : decode zb_Fo_cutProduct 42 = .ok (.ifCond .ge 7, 3) := by decide +kernel
theorem zd_Fo_cutProduct_45 : decode zb_Fo_cutProduct 45 = .ok (.iconst 1, 1) := by decide +kernel
theorem zd_Fo_cutProduct_46 : decode zb_Fo_cutProduct 46 = .ok (.goto 4, 3) := by decide +kernel
theorem zd_Fo_cutProduct_49 : decode zb_Fo_cutProduct 49 = .ok (.iconst 0, 1) := by decide +kernel
theorem zd_Fo_cutProduct_50 : decode zb_Fo_cutProduct 50 = .ok (.if_icmp .ne 9, 3) := by decide +kernel
theorem zd_Fo_cutProduct_53 : decode zb_Fo_cutProduct 53 = .ok (.ldc2_w 109, 3) := by decide +kernel
theorem zd_Fo_cutProduct_56 : decode zb_Fo_cutProduct 56 = .ok (.goto 6, 3) := by decide +kernel
theorem zd_Fo_cutProduct_59 : decode zb_Fo_cutProduct 59 = .ok (.ldc2_w 107, 3) := by decide +kernel
theorem zd_Fo_cutProduct_62 : decode zb_Fo_cutProduct 62 = .ok (.lreturn, 1) := by decide +kernel
theorem zd_Fo_cut_0 : decode zb_Fo_cut 0 = .ok (.ldc2_w 107, 3) := by decide +kernel
theorem zd_Fo_cut_3 : decode zb_Fo_cut 3 = .ok (.ldc2_w 109, 3) := by decide +kernel
theorem zd_Fo_cut_6 : decode zb_Fo_cut 6 = .ok (.lload_n 0, 1) := by decide +kernel
theorem zd_Fo_cut_7 : decode zb_Fo_cut 7 = .ok (.invokestatic 99, 3) := by decide +kernel
theorem zd_Fo_cut_10 : decode zb_Fo_cut 10 = .ok (.invokestatic 104, 3) := by decide +kernel
theorem zd_Fo_cut_13 : decode zb_Fo_cut 13 = .ok (.lreturn, 1) := by decide +kernel
theorem zd_Fo_join_0 : decode zb_Fo_join 0 = .ok (.iload_n 0, 1) := by decide +kernel
theorem zd_Fo_join_1 : decode zb_Fo_join 1 = .ok (.tableswitch 57 (-10) (-7) #[51, 45, 38, 31], 31) := by decide +kernel
theorem zd_Fo_join_32 : decode zb_Fo_join 32 = .ok (.lload_n 1, 1) := by decide +kernel
theorem zd_Fo_join_33 : decode zb_Fo_join 33 = .ok (.lload_n 3, 1) := by decide +kernel
theorem zd_Fo_join_34 : decode zb_Fo_join 34 = .ok (.ladd, 1) := by decide +kernel
theorem zd_Fo_join_35 : decode zb_Fo_join 35 = .ok (.invokestatic 91, 3) := by decide +kernel
theorem zd_Fo_join_38 : decode zb_Fo_join 38 = .ok (.lreturn, 1) := by decide +kernel
theorem zd_Fo_join_39 : decode zb_Fo_join 39 = .ok (.lload_n 1, 1) := by decide +kernel
theorem zd_Fo_join_40 : decode zb_Fo_join 40 = .ok (.lload_n 3, 1) := by decide +kernel
theorem zd_Fo_join_41 : decode zb_Fo_join 41 = .ok (.lsub, 1) := by decide +kernel
theorem zd_Fo_join_42 : decode zb_Fo_join 42 = .ok (.invokestatic 91, 3) := by decide +kernel
theorem zd_Fo_join_45 : decode zb_Fo_join 45 = .ok (.lreturn, 1) := by decide +kernel
theorem zd_Fo_join_46 : decode zb_Fo_join 46 = .ok (.lload_n 1, 1) := by decide +kernel
theorem zd_Fo_join_47 : decode zb_Fo_join 47 = .ok (.lload_n 3, 1) := by decide +kernel
theorem zd_Fo_join_48 : decode zb_Fo_join 48 = .ok (.invokestatic 95, 3) := by decide +kernel
theorem zd_Fo_join_51 : decode zb_Fo_join 51 = .ok (.lreturn, 1) := by decide +kernel
theorem zd_Fo_join_52 : decode zb_Fo_join 52 = .ok (.lload_n 1, 1) := by decide +kernel
theorem zd_Fo_join_53 : decode zb_Fo_join 53 = .ok (.lload_n 3, 1) := by decide +kernel
theorem zd_Fo_join_54 : decode zb_Fo_join 54 = .ok (.invokestatic 99, 3) := by decide +kernel
theorem zd_Fo_join_57 : decode zb_Fo_join 57 = .ok (.lreturn, 1) := by decide +kernel
theorem zd_Fo_join_58 : decode zb_Fo_join 58 = .ok (.lload_n 1, 1) := by decide +kernel
theorem zd_Fo_join_59 : decode zb_Fo_join 59 = .ok (.lload_n 3, 1) := by decide +kernel
theorem zd_Fo_join_60 : decode zb_Fo_join 60 = .ok (.invokestatic 104, 3) := by decide +kernel
theorem zd_Fo_join_63 : decode zb_Fo_join 63 = .ok (.lreturn, 1) := by decide +kernel
theorem zd_Fo_share_0 : decode zb_Fo_share 0 = .ok (.lconst 0, 1) := by decide +kernel
theorem zd_Fo_share_1 : decode zb_Fo_share 1 = .ok (.lstore_n 2, 1) := by decide +kernel
theorem zd_Fo_share_2 : decode zb_Fo_share 2 = .ok (.iconst 0, 1) := by decide +kernel
theorem zd_Fo_share_3 : decode zb_Fo_share 3 = .ok (.istore 4, 2) := by decide +kernel
theorem zd_Fo_share_5 : decode zb_Fo_share 5 = .ok (.iload 4, 2) := by decide +kernel
theorem zd_Fo_share_7 : decode zb_Fo_share 7 = .ok (.iconst 5, 1) := by decide +kernel
theorem zd_Fo_share_8 : decode zb_Fo_share 8 = .ok (.if_icmp .ge 16, 3) := by decide +kernel
theorem zd_Fo_share_11 : decode zb_Fo_share 11 = .ok (.lload_n 2, 1) := by decide +kernel
theorem zd_Fo_share_12 : decode zb_Fo_share 12 = .ok (.aload_n 1, 1) := by decide +kernel
theorem zd_Fo_share_13 : decode zb_Fo_share 13 = .ok (.iload 4, 2) := by decide +kernel
theorem zd_Fo_share_15 : decode zb_Fo_share 15 = .ok (.laload, 1) := by decide +kernel
theorem zd_Fo_share_16 : decode zb_Fo_share 16 = .ok (.ladd, 1) := by decide +kernel
theorem zd_Fo_share_17 : decode zb_Fo_share 17 = .ok (.lstore_n 2, 1) := by decide +kernel
theorem zd_Fo_share_18 : decode zb_Fo_share 18 = .ok (.iinc 4 1, 3) := by decide +kernel
theorem zd_Fo_share_21 : decode zb_Fo_share 21 = .ok (.goto (-16), 3) := by decide +kernel
theorem zd_Fo_share_24 : decode zb_Fo_share 24 = .ok (.lload_n 2, 1) := by decide +kernel
theorem zd_Fo_share_25 : decode zb_Fo_share 25 = .ok (.lconst 0, 1) := by decide +kernel
theorem zd_Fo_share_26 : decode zb_Fo_share 26 = .ok (.lcmp, 1) := by decide +kernel
theorem zd_Fo_share_27 : decode zb_Fo_share 27 = .ok (.ifCond .le 22, 3) := by decide +kernel
theorem zd_Fo_share_30 : decode zb_Fo_share 30 = .ok (.iload_n 0, 1) := by decide +kernel
theorem zd_Fo_share_31 : decode zb_Fo_share 31 = .ok (.invokestatic 74, 3) := by decide +kernel
theorem zd_Fo_share_34 : decode zb_Fo_share 34 = .ok (.ifCond .eq 15, 3) := by decide +kernel
theorem zd_Fo_share_37 : decode zb_Fo_share 37 = .ok (.ldc2_w 89, 3) := by decide +kernel
theorem zd_Fo_share_40 : decode zb_Fo_share 40 = .ok (.aload_n 1, 1) := by decide +kernel
theorem zd_Fo_share_41 : decode zb_Fo_share 41 = .ok (.iload_n 0, 1) := by decide +kernel
theorem zd_Fo_share_42 : decode zb_Fo_share 42 = .ok (.laload, 1) := by decide +kernel
theorem zd_Fo_share_43 : decode zb_Fo_share 43 = .ok (.lmul, 1) := by decide +kernel
theorem zd_Fo_share_44 : decode zb_Fo_share 44 = .ok (.lload_n 2, 1) := by decide +kernel
theorem zd_Fo_share_45 : decode zb_Fo_share 45 = .ok (.ldiv, 1) := by decide +kernel
theorem zd_Fo_share_46 : decode zb_Fo_share 46 = .ok (.goto 4, 3) := by decide +kernel
theorem zd_Fo_share_49 : decode zb_Fo_share 49 = .ok (.lconst 0, 1) := by decide +kernel
theorem zd_Fo_share_50 : decode zb_Fo_share 50 = .ok (.lreturn, 1) := by decide +kernel
theorem zd_Fo_valueOf_0 : decode zb_Fo_valueOf 0 = .ok (.iload_n 0, 1) := by decide +kernel
theorem zd_Fo_valueOf_1 : decode zb_Fo_valueOf 1 = .ok (.ifCond .lt 6, 3) := by decide +kernel
theorem zd_Fo_valueOf_4 : decode zb_Fo_valueOf 4 = .ok (.iload_n 0, 1) := by decide +kernel
theorem zd_Fo_valueOf_5 : decode zb_Fo_valueOf 5 = .ok (.i2l, 1) := by decide +kernel
theorem zd_Fo_valueOf_6 : decode zb_Fo_valueOf 6 = .ok (.lreturn, 1) := by decide +kernel
theorem zd_Fo_valueOf_7 : decode zb_Fo_valueOf 7 = .ok (.iload_n 0, 1) := by decide +kernel
theorem zd_Fo_valueOf_8 : decode zb_Fo_valueOf 8 = .ok (.bipush (-6), 2) := by decide +kernel
theorem zd_Fo_valueOf_10 : decode zb_Fo_valueOf 10 = .ok (.if_icmp .ne 6, 3) := by decide +kernel
theorem zd_Fo_valueOf_13 : decode zb_Fo_valueOf 13 = .ok (.iload_n 2, 1) := by decide +kernel
theorem zd_Fo_valueOf_14 : decode zb_Fo_valueOf 14 = .ok (.i2l, 1) := by decide +kernel
theorem zd_Fo_valueOf_15 : decode zb_Fo_valueOf 15 = .ok (.lreturn, 1) := by decide +kernel
theorem zd_Fo_valueOf_16 : decode zb_Fo_valueOf 16 = .ok (.iconst (-1), 1) := by decide +kernel
theorem zd_Fo_valueOf_17 : decode zb_Fo_valueOf 17 = .ok (.iload_n 0, 1) := by decide +kernel
theorem zd_Fo_valueOf_18 : decode zb_Fo_valueOf 18 = .ok (.isub, 1) := by decide +kernel
theorem zd_Fo_valueOf_19 : decode zb_Fo_valueOf 19 = .ok (.aload_n 1, 1) := by decide +kernel
theorem zd_Fo_valueOf_20 : decode zb_Fo_valueOf 20 = .ok (.invokestatic 85, 3) := by decide +kernel
theorem zd_Fo_valueOf_23 : decode zb_Fo_valueOf 23 = .ok (.lreturn, 1) := by decide +kernel
theorem zd_Fo_value_0 : decode zb_Fo_value 0 = .ok (.iconst 0, 1) := by decide +kernel
theorem zd_Fo_value_1 : decode zb_Fo_value 1 = .ok (.istore_n 3, 1) := by decide +kernel
theorem zd_Fo_value_2 : decode zb_Fo_value 2 = .ok (.iconst 0, 1) := by decide +kernel
theorem zd_Fo_value_3 : decode zb_Fo_value 3 = .ok (.istore 4, 2) := by decide +kernel
theorem zd_Fo_value_5 : decode zb_Fo_value 5 = .ok (.iload 4, 2) := by decide +kernel
theorem zd_Fo_value_7 : decode zb_Fo_value 7 = .ok (.aload_n 0, 1) := by decide +kernel
theorem zd_Fo_value_8 : decode zb_Fo_value 8 = .ok (.getfield 35, 3) := by decide +kernel
theorem zd_Fo_value_11 : decode zb_Fo_value 11 = .ok (.if_icmp .ge 80, 3) := by decide +kernel
theorem zd_Fo_value_14 : decode zb_Fo_value 14 = .ok (.aload_n 0, 1) := by decide +kernel
theorem zd_Fo_value_15 : decode zb_Fo_value 15 = .ok (.getfield 18, 3) := by decide +kernel
theorem zd_Fo_value_18 : decode zb_Fo_value 18 = .ok (.iload 4, 2) := by decide +kernel
theorem zd_Fo_value_20 : decode zb_Fo_value 20 = .ok (.iaload, 1) := by decide +kernel
theorem zd_Fo_value_21 : decode zb_Fo_value 21 = .ok (.istore 5, 2) := by decide +kernel
theorem zd_Fo_value_23 : decode zb_Fo_value 23 = .ok (.iload 5, 2) := by decide +kernel
theorem zd_Fo_value_25 : decode zb_Fo_value 25 = .ok (.invokestatic 55, 3) := by decide +kernel
theorem zd_Fo_value_28 : decode zb_Fo_value 28 = .ok (.ifCond .ne 22, 3) := by decide +kernel
theorem zd_Fo_value_31 : decode zb_Fo_value 31 = .ok (.aload_n 0, 1) := by decide +kernel
theorem zd_Fo_value_32 : decode zb_Fo_value 32 = .ok (.getfield 21, 3) := by decide +kernel
theorem zd_Fo_value_35 : decode zb_Fo_value 35 = .ok (.iload_n 3, 1) := by decide +kernel
theorem zd_Fo_value_36 : decode zb_Fo_value 36 = .ok (.iload 5, 2) := by decide +kernel
theorem zd_Fo_value_38 : decode zb_Fo_value 38 = .ok (.aload_n 1, 1) := by decide +kernel
theorem zd_Fo_value_39 : decode zb_Fo_value 39 = .ok (.iload_n 2, 1) := by decide +kernel
theorem zd_Fo_value_40 : decode zb_Fo_value 40 = .ok (.invokestatic 77, 3) := by decide +kernel
theorem zd_Fo_value_43 : decode zb_Fo_value 43 = .ok (.lastore, 1) := by decide +kernel
theorem zd_Fo_value_44 : decode zb_Fo_value 44 = .ok (.iinc 3 1, 3) := by decide +kernel
theorem zd_Fo_value_47 : decode zb_Fo_value 47 = .ok (.goto 38, 3) := by decide +kernel
theorem zd_Fo_value_50 : decode zb_Fo_value 50 = .ok (.iload_n 3, 1) := by decide +kernel
theorem zd_Fo_value_51 : decode zb_Fo_value 51 = .ok (.iconst 2, 1) := by decide +kernel
theorem zd_Fo_value_52 : decode zb_Fo_value 52 = .ok (.if_icmp .lt 33, 3) := by decide +kernel
theorem zd_Fo_value_55 : decode zb_Fo_value 55 = .ok (.iinc 3 (-1), 3) := by decide +kernel
theorem zd_Fo_value_58 : decode zb_Fo_value 58 = .ok (.aload_n 0, 1) := by decide +kernel
theorem zd_Fo_value_59 : decode zb_Fo_value 59 = .ok (.getfield 21, 3) := by decide +kernel
theorem zd_Fo_value_62 : decode zb_Fo_value 62 = .ok (.iload_n 3, 1) := by decide +kernel
theorem zd_Fo_value_63 : decode zb_Fo_value 63 = .ok (.iconst 1, 1) := by decide +kernel
theorem zd_Fo_value_64 : decode zb_Fo_value 64 = .ok (.isub, 1) := by decide +kernel
theorem zd_Fo_value_65 : decode zb_Fo_value 65 = .ok (.iload 5, 2) := by decide +kernel
theorem zd_Fo_value_67 : decode zb_Fo_value 67 = .ok (.aload_n 0, 1) := by decide +kernel
theorem zd_Fo_value_68 : decode zb_Fo_value 68 = .ok (.getfield 21, 3) := by decide +kernel
theorem zd_Fo_value_71 : decode zb_Fo_value 71 = .ok (.iload_n 3, 1) := by decide +kernel
theorem zd_Fo_value_72 : decode zb_Fo_value 72 = .ok (.iconst 1, 1) := by decide +kernel
theorem zd_Fo_value_73 : decode zb_Fo_value 73 = .ok (.isub, 1) := by decide +kernel
theorem zd_Fo_value_74 : decode zb_Fo_value 74 = .ok (.laload, 1) := by decide +kernel
theorem zd_Fo_value_75 : decode zb_Fo_value 75 = .ok (.aload_n 0, 1) := by decide +kernel
theorem zd_Fo_value_76 : decode zb_Fo_value 76 = .ok (.getfield 21, 3) := by decide +kernel
theorem zd_Fo_value_79 : decode zb_Fo_value 79 = .ok (.iload_n 3, 1) := by decide +kernel
theorem zd_Fo_value_80 : decode zb_Fo_value 80 = .ok (.laload, 1) := by decide +kernel
theorem zd_Fo_value_81 : decode zb_Fo_value 81 = .ok (.invokestatic 81, 3) := by decide +kernel
theorem zd_Fo_value_84 : decode zb_Fo_value 84 = .ok (.lastore, 1) := by decide +kernel
theorem zd_Fo_value_85 : decode zb_Fo_value 85 = .ok (.iinc 4 1, 3) := by decide +kernel
theorem zd_Fo_value_88 : decode zb_Fo_value 88 = .ok (.goto (-83), 3) := by decide +kernel
theorem zd_Fo_value_91 : decode zb_Fo_value 91 = .ok (.aload_n 0, 1) := by decide +kernel
theorem zd_Fo_value_92 : decode zb_Fo_value 92 = .ok (.getfield 21, 3) := by decide +kernel
theorem zd_Fo_value_95 : decode zb_Fo_value 95 = .ok (.iconst 0, 1) := by decide +kernel
theorem zd_Fo_value_96 : decode zb_Fo_value 96 = .ok (.laload, 1) := by decide +kernel
theorem zd_Fo_value_97 : decode zb_Fo_value 97 = .ok (.lreturn, 1) := by decide +kernel
theorem zd_MP_valueFor_0 : decode zb_MP_valueFor 0 = .ok (.aload_n 0, 1) := by decide +kernel
theorem zd_MP_valueFor_1 : decode zb_MP_valueFor 1 = .ok (.getfield 27, 3) := by decide +kernel
theorem zd_MP_valueFor_4 : decode zb_MP_valueFor 4 = .ok (.aload_n 0, 1) := by decide +kernel
theorem zd_MP_valueFor_5 : decode zb_MP_valueFor 5 = .ok (.getfield 20, 3) := by decide +kernel
theorem zd_MP_valueFor_8 : decode zb_MP_valueFor 8 = .ok (.iload_n 1, 1) := by decide +kernel
theorem zd_MP_valueFor_9 : decode zb_MP_valueFor 9 = .ok (.ldc2_w 95, 3) := by decide +kernel
theorem zd_MP_valueFor_12 : decode zb_MP_valueFor 12 = .ok (.aload_n 0, 1) := by decide +kernel
theorem zd_MP_valueFor_13 : decode zb_MP_valueFor 13 = .ok (.getfield 38, 3) := by decide +kernel
theorem zd_MP_valueFor_16 : decode zb_MP_valueFor 16 = .ok (.invokevirtual 106, 3) := by decide +kernel
theorem zd_MP_valueFor_19 : decode zb_MP_valueFor 19 = .ok (.aload_n 0, 1) := by decide +kernel
theorem zd_MP_valueFor_20 : decode zb_MP_valueFor 20 = .ok (.getfield 34, 3) := by decide +kernel
theorem zd_MP_valueFor_23 : decode zb_MP_valueFor 23 = .ok (.aload_n 0, 1) := by decide +kernel
theorem zd_MP_valueFor_24 : decode zb_MP_valueFor 24 = .ok (.getfield 38, 3) := by decide +kernel
theorem zd_MP_valueFor_27 : decode zb_MP_valueFor 27 = .ok (.aload_n 0, 1) := by decide +kernel
theorem zd_MP_valueFor_28 : decode zb_MP_valueFor 28 = .ok (.getfield 20, 3) := by decide +kernel
theorem zd_MP_valueFor_31 : decode zb_MP_valueFor 31 = .ok (.iload_n 1, 1) := by decide +kernel
theorem zd_MP_valueFor_32 : decode zb_MP_valueFor 32 = .ok (.invokevirtual 167, 3) := by decide +kernel
theorem zd_MP_valueFor_35 : decode zb_MP_valueFor 35 = .ok (.invokevirtual 170, 3) := by decide +kernel
theorem zd_MP_valueFor_38 : decode zb_MP_valueFor 38 = .ok (.lreturn, 1) := by decide +kernel
theorem zd_MP_scored_0 : decode zb_MP_scored 0 = .ok (.aload_n 0, 1) := by decide +kernel
theorem zd_MP_scored_1 : decode zb_MP_scored 1 = .ok (.getfield 34, 3) := by decide +kernel
theorem zd_MP_scored_4 : decode zb_MP_scored 4 = .ok (.invokevirtual 143, 3) := by decide +kernel
theorem zd_MP_scored_7 : decode zb_MP_scored 7 = .ok (.ifCond .eq 11, 3) := by decide +kernel
theorem zd_MP_scored_10 : decode zb_MP_scored 10 = .ok (.aload_n 0, 1) := by decide +kernel
theorem zd_MP_scored_11 : decode zb_MP_scored 11 = .ok (.iload_n 1, 1) := by decide +kernel
theorem zd_MP_scored_12 : decode zb_MP_scored 12 = .ok (.invokevirtual 50, 3) := by decide +kernel
theorem zd_MP_scored_15 : decode zb_MP_scored 15 = .ok (.ifCond .ne 7, 3) := by decide +kernel
theorem zd_MP_scored_18 : decode zb_MP_scored 18 = .ok (.ldc2_w 148, 3) := by decide +kernel
theorem zd_MP_scored_21 : decode zb_MP_scored 21 = .ok (.lreturn, 1) := by decide +kernel
theorem zd_MP_scored_22 : decode zb_MP_scored 22 = .ok (.aload_n 0, 1) := by decide +kernel
theorem zd_MP_scored_23 : decode zb_MP_scored 23 = .ok (.iload_n 1, 1) := by decide +kernel
theorem zd_MP_scored_24 : decode zb_MP_scored 24 = .ok (.invokevirtual 150, 3) := by decide +kernel
theorem zd_MP_scored_27 : decode zb_MP_scored 27 = .ok (.lreturn, 1) := by decide +kernel
theorem zd_Ch_dropLast_0 : decode zb_Ch_dropLast 0 = .ok (.aload_n 0, 1) := by decide +kernel
theorem zd_Ch_dropLast_1 : decode zb_Ch_dropLast 1 = .ok (.getfield 25, 3) := by decide +kernel
theorem zd_Ch_dropLast_4 : decode zb_Ch_dropLast 4 = .ok (.ifCond .le 13, 3) := by decide +kernel
theorem zd_Ch_dropLast_7 : decode zb_Ch_dropLast 7 = .ok (.aload_n 0, 1) := by decide +kernel
theorem zd_Ch_dropLast_8 : decode zb_Ch_dropLast 8 = .ok (.dup, 1) := by decide +kernel
theorem zd_Ch_dropLast_9 : decode zb_Ch_dropLast 9 = .ok (.getfield 25, 3) := by decide +kernel
theorem zd_Ch_dropLast_12 : decode zb_Ch_dropLast 12 = .ok (.iconst 1, 1) := by decide +kernel
theorem zd_Ch_dropLast_13 : decode zb_Ch_dropLast 13 = .ok (.isub, 1) := by decide +kernel
theorem zd_Ch_dropLast_14 : decode zb_Ch_dropLast 14 = .ok (.putfield 25, 3) := by decide +kernel
theorem zd_Ch_dropLast_17 : decode zb_Ch_dropLast 17 = .ok (.return_, 1) := by decide +kernel
theorem zd_MP_swap_0 : decode zb_MP_swap 0 = .ok (.aload_n 0, 1) := by decide +kernel
theorem zd_MP_swap_1 : decode zb_MP_swap 1 = .ok (.getfield 34, 3) := by decide +kernel
theorem zd_MP_swap_4 : decode zb_MP_swap 4 = .ok (.invokevirtual 143, 3) := by decide +kernel
theorem zd_MP_swap_7 : decode zb_MP_swap 7 = .ok (.ifCond .eq 34, 3) := by decide +kernel
theorem zd_MP_swap_10 : decode zb_MP_swap 10 = .ok (.aload_n 0, 1) := by decide +kernel
theorem zd_MP_swap_11 : decode zb_MP_swap 11 = .ok (.getfield 20, 3) := by decide +kernel
theorem zd_MP_swap_14 : decode zb_MP_swap 14 = .ok (.getfield 81, 3) := by decide +kernel
theorem zd_MP_swap_17 : decode zb_MP_swap 17 = .ok (.invokevirtual 85, 3) := by decide +kernel
theorem zd_MP_swap_20 : decode zb_MP_swap 20 = .ok (.ifCond .ne 21, 3) := by decide +kernel
theorem zd_MP_swap_23 : decode zb_MP_swap 23 = .ok (.aload_n 0, 1) := by decide +kernel
theorem zd_MP_swap_24 : decode zb_MP_swap 24 = .ok (.getfield 20, 3) := by decide +kernel
theorem zd_MP_swap_27 : decode zb_MP_swap 27 = .ok (.iload_n 1, 1) := by decide +kernel
theorem zd_MP_swap_28 : decode zb_MP_swap 28 = .ok (.invokevirtual 65, 3) := by decide +kernel
theorem zd_MP_swap_31 : decode zb_MP_swap 31 = .ok (.ifCond .eq 10, 3) := by decide +kernel
theorem zd_MP_swap_34 : decode zb_MP_swap 34 = .ok (.iload_n 2, 1) := by decide +kernel
theorem zd_MP_swap_35 : decode zb_MP_swap 35 = .ok (.invokestatic 101, 3) := by decide +kernel
theorem zd_MP_swap_38 : decode zb_MP_swap 38 = .ok (.ifCond .ne 5, 3) := by decide +kernel
theorem zd_MP_swap_41 : decode zb_MP_swap 41 = .ok (.iconst (-1), 1) := by decide +kernel
theorem zd_MP_swap_42 : decode zb_MP_swap 42 = .ok (.ireturn, 1) := by decide +kernel
theorem zd_MP_swap_43 : decode zb_MP_swap 43 = .ok (.aload_n 0, 1) := by decide +kernel
theorem zd_MP_swap_44 : decode zb_MP_swap 44 = .ok (.getfield 20, 3) := by decide +kernel
theorem zd_MP_swap_47 : decode zb_MP_swap 47 = .ok (.getfield 71, 3) := by decide +kernel
theorem zd_MP_swap_50 : decode zb_MP_swap 50 = .ok (.iload_n 1, 1) := by decide +kernel
theorem zd_MP_swap_51 : decode zb_MP_swap 51 = .ok (.iaload, 1) := by decide +kernel
theorem zd_MP_swap_52 : decode zb_MP_swap 52 = .ok (.istore_n 3, 1) := by decide +kernel
theorem zd_MP_swap_53 : decode zb_MP_swap 53 = .ok (.aload_n 0, 1) := by decide +kernel
theorem zd_MP_swap_54 : decode zb_MP_swap 54 = .ok (.iload_n 3, 1) := by decide +kernel
theorem zd_MP_swap_55 : decode zb_MP_swap 55 = .ok (.invokevirtual 150, 3) := by decide +kernel
theorem zd_MP_swap_58 : decode zb_MP_swap 58 = .ok (.lstore 4, 2) := by decide +kernel
theorem zd_MP_swap_60 : decode zb_MP_swap 60 = .ok (.aload_n 0, 1) := by decide +kernel
theorem zd_MP_swap_61 : decode zb_MP_swap 61 = .ok (.getfield 20, 3) := by decide +kernel
theorem zd_MP_swap_64 : decode zb_MP_swap 64 = .ok (.getfield 81, 3) := by decide +kernel
theorem zd_MP_swap_67 : decode zb_MP_swap 67 = .ok (.iload_n 1, 1) := by decide +kernel
theorem zd_MP_swap_68 : decode zb_MP_swap 68 = .ok (.ldc2_w 95, 3) := by decide +kernel
theorem zd_MP_swap_71 : decode zb_MP_swap 71 = .ok (.iload_n 2, 1) := by decide +kernel
theorem zd_MP_swap_72 : decode zb_MP_swap 72 = .ok (.aload_n 0, 1) := by decide +kernel
theorem zd_MP_swap_73 : decode zb_MP_swap 73 = .ok (.getfield 20, 3) := by decide +kernel
theorem zd_MP_swap_76 : decode zb_MP_swap 76 = .ok (.iload_n 1, 1) := by decide +kernel
theorem zd_MP_swap_77 : decode zb_MP_swap 77 = .ok (.ldc2_w 95, 3) := by decide +kernel
theorem zd_MP_swap_80 : decode zb_MP_swap 80 = .ok (.invokevirtual 117, 3) := by decide +kernel
theorem zd_MP_swap_83 : decode zb_MP_swap 83 = .ok (.invokevirtual 92, 3) := by decide +kernel
theorem zd_MP_swap_86 : decode zb_MP_swap 86 = .ok (.aload_n 0, 1) := by decide +kernel
theorem zd_MP_swap_87 : decode zb_MP_swap 87 = .ok (.iload_n 3, 1) := by decide +kernel
theorem zd_MP_swap_88 : decode zb_MP_swap 88 = .ok (.invokevirtual 150, 3) := by decide +kernel
theorem zd_MP_swap_91 : decode zb_MP_swap 91 = .ok (.lload 4, 2) := by decide +kernel
theorem zd_MP_swap_93 : decode zb_MP_swap 93 = .ok (.lcmp, 1) := by decide +kernel
theorem zd_MP_swap_94 : decode zb_MP_swap 94 = .ok (.ifCond .gt 15, 3) := by decide +kernel
theorem zd_MP_swap_97 : decode zb_MP_swap 97 = .ok (.aload_n 0, 1) := by decide +kernel
theorem zd_MP_swap_98 : decode zb_MP_swap 98 = .ok (.getfield 20, 3) := by decide +kernel
theorem zd_MP_swap_101 : decode zb_MP_swap 101 = .ok (.getfield 81, 3) := by decide +kernel
theorem zd_MP_swap_104 : decode zb_MP_swap 104 = .ok (.invokevirtual 154, 3) := by decide +kernel
theorem zd_MP_swap_107 : decode zb_MP_swap 107 = .ok (.iconst 0, 1) := by decide +kernel
theorem zd_MP_swap_108 : decode zb_MP_swap 108 = .ok (.ireturn, 1) := by decide +kernel
theorem zd_MP_swap_109 : decode zb_MP_swap 109 = .ok (.aload_n 0, 1) := by decide +kernel
theorem zd_MP_swap_110 : decode zb_MP_swap 110 = .ok (.getfield 9, 3) := by decide +kernel
theorem zd_MP_swap_113 : decode zb_MP_swap 113 = .ok (.iload_n 3, 1) := by decide +kernel
theorem zd_MP_swap_114 : decode zb_MP_swap 114 = .ok (.dup2, 1) := by decide +kernel
theorem zd_MP_swap_115 : decode zb_MP_swap 115 = .ok (.iaload, 1) := by decide +kernel
theorem zd_MP_swap_116 : decode zb_MP_swap 116 = .ok (.iconst 1, 1) := by decide +kernel
theorem zd_MP_swap_117 : decode zb_MP_swap 117 = .ok (.iadd, 1) := by decide +kernel
theorem zd_MP_swap_118 : decode zb_MP_swap 118 = .ok (.iastore, 1) := by decide +kernel
theorem zd_MP_swap_119 : decode zb_MP_swap 119 = .ok (.iconst 1, 1) := by decide +kernel
theorem zd_MP_swap_120 : decode zb_MP_swap 120 = .ok (.ireturn, 1) := by decide +kernel
theorem zd_MP_mark_0 : decode zb_MP_mark 0 = .ok (.aload_n 0, 1) := by decide +kernel
theorem zd_MP_mark_1 : decode zb_MP_mark 1 = .ok (.iload_n 1, 1) := by decide +kernel
theorem zd_MP_mark_2 : decode zb_MP_mark 2 = .ok (.invokevirtual 50, 3) := by decide +kernel
theorem zd_MP_mark_5 : decode zb_MP_mark 5 = .ok (.ifCond .eq 15, 3) := by decide +kernel
theorem zd_MP_mark_8 : decode zb_MP_mark 8 = .ok (.iload 4, 2) := by decide +kernel
theorem zd_MP_mark_10 : decode zb_MP_mark 10 = .ok (.ifCond .lt 10, 3) := by decide +kernel
theorem zd_MP_mark_13 : decode zb_MP_mark 13 = .ok (.iload 4, 2) := by decide +kernel
theorem zd_MP_mark_15 : decode zb_MP_mark 15 = .ok (.bipush 8, 2) := by decide +kernel
theorem zd_MP_mark_17 : decode zb_MP_mark 17 = .ok (.if_icmp .lt 5, 3) := by decide +kernel
theorem zd_MP_mark_20 : decode zb_MP_mark 20 = .ok (.iconst (-1), 1) := by decide +kernel
theorem zd_MP_mark_21 : decode zb_MP_mark 21 = .ok (.ireturn, 1) := by decide +kernel
theorem zd_MP_mark_22 : decode zb_MP_mark 22 = .ok (.aload_n 0, 1) := by decide +kernel
theorem zd_MP_mark_23 : decode zb_MP_mark 23 = .ok (.getfield 27, 3) := by decide +kernel
theorem zd_MP_mark_26 : decode zb_MP_mark 26 = .ok (.aload_n 0, 1) := by decide +kernel
theorem zd_MP_mark_27 : decode zb_MP_mark 27 = .ok (.getfield 20, 3) := by decide +kernel
theorem zd_MP_mark_30 : decode zb_MP_mark 30 = .ok (.iload_n 1, 1) := by decide +kernel
theorem zd_MP_mark_31 : decode zb_MP_mark 31 = .ok (.ldc2_w 95, 3) := by decide +kernel
theorem zd_MP_mark_34 : decode zb_MP_mark 34 = .ok (.aload_n 0, 1) := by decide +kernel
theorem zd_MP_mark_35 : decode zb_MP_mark 35 = .ok (.getfield 38, 3) := by decide +kernel
theorem zd_MP_mark_38 : decode zb_MP_mark 38 = .ok (.invokevirtual 106, 3) := by decide +kernel
theorem zd_MP_mark_41 : decode zb_MP_mark 41 = .ok (.lload_n 2, 1) := by decide +kernel
theorem zd_MP_mark_42 : decode zb_MP_mark 42 = .ok (.lstore 5, 2) := by decide +kernel
theorem zd_MP_mark_44 : decode zb_MP_mark 44 = .ok (.iconst 0, 1) := by decide +kernel
theorem zd_MP_mark_45 : decode zb_MP_mark 45 = .ok (.istore 7, 2) := by decide +kernel
theorem zd_MP_mark_47 : decode zb_MP_mark 47 = .ok (.iload 7, 2) := by decide +kernel
theorem zd_MP_mark_49 : decode zb_MP_mark 49 = .ok (.iconst 5, 1) := by decide +kernel
theorem zd_MP_mark_50 : decode zb_MP_mark 50 = .ok (.if_icmp .ge 37, 3) := by decide +kernel
theorem zd_MP_mark_53 : decode zb_MP_mark 53 = .ok (.lload 5, 2) := by decide +kernel
theorem zd_MP_mark_55 : decode zb_MP_mark 55 = .ok (.aload_n 0, 1) := by decide +kernel
theorem zd_MP_mark_56 : decode zb_MP_mark 56 = .ok (.getfield 38, 3) := by decide +kernel
theorem zd_MP_mark_59 : decode zb_MP_mark 59 = .ok (.iload 7, 2) := by decide +kernel
theorem zd_MP_mark_61 : decode zb_MP_mark 61 = .ok (.laload, 1) := by decide +kernel
theorem zd_MP_mark_62 : decode zb_MP_mark 62 = .ok (.ladd, 1) := by decide +kernel
theorem zd_MP_mark_63 : decode zb_MP_mark 63 = .ok (.lconst 1, 1) := by decide +kernel
theorem zd_MP_mark_64 : decode zb_MP_mark 64 = .ok (.ladd, 1) := by decide +kernel
theorem zd_MP_mark_65 : decode zb_MP_mark 65 = .ok (.ldc2_w 157, 3) := by decide +kernel
theorem zd_MP_mark_68 : decode zb_MP_mark 68 = .ok (.lmul, 1) := by decide +kernel
theorem zd_MP_mark_69 : decode zb_MP_mark 69 = .ok (.lstore 5, 2) := by decide +kernel
theorem zd_MP_mark_71 : decode zb_MP_mark 71 = .ok (.lload 5, 2) := by decide +kernel
theorem zd_MP_mark_73 : decode zb_MP_mark 73 = .ok (.lload 5, 2) := by decide +kernel
theorem zd_MP_mark_75 : decode zb_MP_mark 75 = .ok (.bipush 32, 2) := by decide +kernel
theorem zd_MP_mark_77 : decode zb_MP_mark 77 = .ok (.lushr, 1) := by decide +kernel
theorem zd_MP_mark_78 : decode zb_MP_mark 78 = .ok (.lxor, 1) := by decide +kernel
theorem zd_MP_mark_79 : decode zb_MP_mark 79 = .ok (.lstore 5, 2) := by decide +kernel
theorem zd_MP_mark_81 : decode zb_MP_mark 81 = .ok (.iinc 7 1, 3) := by decide +kernel
theorem zd_MP_mark_84 : decode zb_MP_mark 84 = .ok (.goto (-37), 3) := by decide +kernel
theorem zd_MP_mark_87 : decode zb_MP_mark 87 = .ok (.lload 5, 2) := by decide +kernel
theorem zd_MP_mark_89 : decode zb_MP_mark 89 = .ok (.aload_n 0, 1) := by decide +kernel
theorem zd_MP_mark_90 : decode zb_MP_mark 90 = .ok (.getfield 9, 3) := by decide +kernel
theorem zd_MP_mark_93 : decode zb_MP_mark 93 = .ok (.iload_n 1, 1) := by decide +kernel
theorem zd_MP_mark_94 : decode zb_MP_mark 94 = .ok (.iaload, 1) := by decide +kernel
theorem zd_MP_mark_95 : decode zb_MP_mark 95 = .ok (.i2l, 1) := by decide +kernel
theorem zd_MP_mark_96 : decode zb_MP_mark 96 = .ok (.ladd, 1) := by decide +kernel
theorem zd_MP_mark_97 : decode zb_MP_mark 97 = .ok (.ldc2_w 157, 3) := by decide +kernel
theorem zd_MP_mark_100 : decode zb_MP_mark 100 = .ok (.lmul, 1) := by decide +kernel
theorem zd_MP_mark_101 : decode zb_MP_mark 101 = .ok (.lstore 5, 2) := by decide +kernel
theorem zd_MP_mark_103 : decode zb_MP_mark 103 = .ok (.lload 5, 2) := by decide +kernel
theorem zd_MP_mark_105 : decode zb_MP_mark 105 = .ok (.bipush 8, 2) := by decide +kernel
theorem zd_MP_mark_107 : decode zb_MP_mark 107 = .ok (.bipush 7, 2) := by decide +kernel
theorem zd_MP_mark_109 : decode zb_MP_mark 109 = .ok (.iload 4, 2) := by decide +kernel
theorem zd_MP_mark_111 : decode zb_MP_mark 111 = .ok (.isub, 1) := by decide +kernel
theorem zd_MP_mark_112 : decode zb_MP_mark 112 = .ok (.imul, 1) := by decide +kernel
theorem zd_MP_mark_113 : decode zb_MP_mark 113 = .ok (.lushr, 1) := by decide +kernel
theorem zd_MP_mark_114 : decode zb_MP_mark 114 = .ok (.l2i, 1) := by decide +kernel
theorem zd_MP_mark_115 : decode zb_MP_mark 115 = .ok (.sipush 255, 3) := by decide +kernel
theorem zd_MP_mark_118 : decode zb_MP_mark 118 = .ok (.iand, 1) := by decide +kernel
theorem zd_MP_mark_119 : decode zb_MP_mark 119 = .ok (.ireturn, 1) := by decide +kernel
theorem zd_Ne_sumOfAll_0 : decode zb_Ne_sumOfAll 0 = .ok (.aload_n 0, 1) := by decide +kernel
theorem zd_Ne_sumOfAll_1 : decode zb_Ne_sumOfAll 1 = .ok (.getfield 9, 3) := by decide +kernel
theorem zd_Ne_sumOfAll_4 : decode zb_Ne_sumOfAll 4 = .ok (.lconst 1, 1) := by decide +kernel
theorem zd_Ne_sumOfAll_5 : decode zb_Ne_sumOfAll 5 = .ok (.invokestatic 29, 3) := by decide +kernel
theorem zd_Ne_sumOfAll_8 : decode zb_Ne_sumOfAll 8 = .ok (.aload_n 0, 1) := by decide +kernel
theorem zd_Ne_sumOfAll_9 : decode zb_Ne_sumOfAll 9 = .ok (.aload_n 1, 1) := by decide +kernel
theorem zd_Ne_sumOfAll_10 : decode zb_Ne_sumOfAll 10 = .ok (.lload_n 2, 1) := by decide +kernel
theorem zd_Ne_sumOfAll_11 : decode zb_Ne_sumOfAll 11 = .ok (.aload 4, 2) := by decide +kernel
theorem zd_Ne_sumOfAll_13 : decode zb_Ne_sumOfAll 13 = .ok (.invokevirtual 25, 3) := by decide +kernel
theorem zd_Ne_sumOfAll_16 : decode zb_Ne_sumOfAll 16 = .ok (.return_, 1) := by decide +kernel
theorem zd_MP_kindsAhead_0 : decode zb_MP_kindsAhead 0 = .ok (.iconst 0, 1) := by decide +kernel
theorem zd_MP_kindsAhead_1 : decode zb_MP_kindsAhead 1 = .ok (.istore_n 2, 1) := by decide +kernel
theorem zd_MP_kindsAhead_2 : decode zb_MP_kindsAhead 2 = .ok (.iconst 0, 1) := by decide +kernel
theorem zd_MP_kindsAhead_3 : decode zb_MP_kindsAhead 3 = .ok (.istore_n 3, 1) := by decide +kernel
theorem zd_MP_kindsAhead_4 : decode zb_MP_kindsAhead 4 = .ok (.iload_n 3, 1) := by decide +kernel
theorem zd_MP_kindsAhead_5 : decode zb_MP_kindsAhead 5 = .ok (.iconst 5, 1) := by decide +kernel
theorem zd_MP_kindsAhead_6 : decode zb_MP_kindsAhead 6 = .ok (.if_icmp .ge 49, 3) := by decide +kernel
theorem zd_MP_kindsAhead_9 : decode zb_MP_kindsAhead 9 = .ok (.aload_n 0, 1) := by decide +kernel
theorem zd_MP_kindsAhead_10 : decode zb_MP_kindsAhead 10 = .ok (.getfield 38, 3) := by decide +kernel
theorem zd_MP_kindsAhead_13 : decode zb_MP_kindsAhead 13 = .ok (.iload_n 3, 1) := by decide +kernel
theorem zd_MP_kindsAhead_14 : decode zb_MP_kindsAhead 14 = .ok (.laload, 1) := by decide +kernel
theorem zd_MP_kindsAhead_15 : decode zb_MP_kindsAhead 15 = .ok (.aload_n 0, 1) := by decide +kernel
theorem zd_MP_kindsAhead_16 : decode zb_MP_kindsAhead 16 = .ok (.getfield 38, 3) := by decide +kernel
theorem zd_MP_kindsAhead_19 : decode zb_MP_kindsAhead 19 = .ok (.iload_n 1, 1) := by decide +kernel
theorem zd_MP_kindsAhead_20 : decode zb_MP_kindsAhead 20 = .ok (.laload, 1) := by decide +kernel
theorem zd_MP_kindsAhead_21 : decode zb_MP_kindsAhead 21 = .ok (.lcmp, 1) := by decide +kernel
theorem zd_MP_kindsAhead_22 : decode zb_MP_kindsAhead 22 = .ok (.ifCond .gt 24, 3) := by decide +kernel
theorem zd_MP_kindsAhead_25 : decode zb_MP_kindsAhead 25 = .ok (.aload_n 0, 1) := by decide +kernel
theorem zd_MP_kindsAhead_26 : decode zb_MP_kindsAhead 26 = .ok (.getfield 38, 3) := by decide +kernel
theorem zd_MP_kindsAhead_29 : decode zb_MP_kindsAhead 29 = .ok (.iload_n 3, 1) := by decide +kernel
theorem zd_MP_kindsAhead_30 : decode zb_MP_kindsAhead 30 = .ok (.laload, 1) := by decide +kernel
theorem zd_MP_kindsAhead_31 : decode zb_MP_kindsAhead 31 = .ok (.aload_n 0, 1) := by decide +kernel
theorem zd_MP_kindsAhead_32 : decode zb_MP_kindsAhead 32 = .ok (.getfield 38, 3) := by decide +kernel
theorem zd_MP_kindsAhead_35 : decode zb_MP_kindsAhead 35 = .ok (.iload_n 1, 1) := by decide +kernel
theorem zd_MP_kindsAhead_36 : decode zb_MP_kindsAhead 36 = .ok (.laload, 1) := by decide +kernel
theorem zd_MP_kindsAhead_37 : decode zb_MP_kindsAhead 37 = .ok (.lcmp, 1) := by decide +kernel
theorem zd_MP_kindsAhead_38 : decode zb_MP_kindsAhead 38 = .ok (.ifCond .ne 11, 3) := by decide +kernel
theorem zd_MP_kindsAhead_41 : decode zb_MP_kindsAhead 41 = .ok (.iload_n 3, 1) := by decide +kernel
theorem zd_MP_kindsAhead_42 : decode zb_MP_kindsAhead 42 = .ok (.iload_n 1, 1) := by decide +kernel
theorem zd_MP_kindsAhead_43 : decode zb_MP_kindsAhead 43 = .ok (.if_icmp .ge 6, 3) := by decide +kernel
theorem zd_MP_kindsAhead_46 : decode zb_MP_kindsAhead 46 = .ok (.iinc 2 1, 3) := by decide +kernel
theorem zd_MP_kindsAhead_49 : decode zb_MP_kindsAhead 49 = .ok (.iinc 3 1, 3) := by decide +kernel
theorem zd_MP_kindsAhead_52 : decode zb_MP_kindsAhead 52 = .ok (.goto (-48), 3) := by decide +kernel
theorem zd_MP_kindsAhead_55 : decode zb_MP_kindsAhead 55 = .ok (.iload_n 2, 1) := by decide +kernel
theorem zd_MP_kindsAhead_56 : decode zb_MP_kindsAhead 56 = .ok (.ireturn, 1) := by decide +kernel
theorem zd_MP_most_0 : decode zb_MP_most 0 = .ok (.aload_n 0, 1) := by decide +kernel
theorem zd_MP_most_1 : decode zb_MP_most 1 = .ok (.getfield 27, 3) := by decide +kernel
theorem zd_MP_most_4 : decode zb_MP_most 4 = .ok (.aload_n 0, 1) := by decide +kernel
theorem zd_MP_most_5 : decode zb_MP_most 5 = .ok (.getfield 20, 3) := by decide +kernel
theorem zd_MP_most_8 : decode zb_MP_most 8 = .ok (.ldc2_w 95, 3) := by decide +kernel
theorem zd_MP_most_11 : decode zb_MP_most 11 = .ok (.aload_n 0, 1) := by decide +kernel
theorem zd_MP_most_12 : decode zb_MP_most 12 = .ok (.getfield 38, 3) := by decide +kernel
theorem zd_MP_most_15 : decode zb_MP_most 15 = .ok (.invokevirtual 159, 3) := by decide +kernel
theorem zd_MP_most_18 : decode zb_MP_most 18 = .ok (.iconst 0, 1) := by decide +kernel
theorem zd_MP_most_19 : decode zb_MP_most 19 = .ok (.istore_n 2, 1) := by decide +kernel
theorem zd_MP_most_20 : decode zb_MP_most 20 = .ok (.iload_n 2, 1) := by decide +kernel
theorem zd_MP_most_21 : decode zb_MP_most 21 = .ok (.iconst 5, 1) := by decide +kernel
theorem zd_MP_most_22 : decode zb_MP_most 22 = .ok (.if_icmp .ge 31, 3) := by decide +kernel
theorem zd_MP_most_25 : decode zb_MP_most 25 = .ok (.aload_n 0, 1) := by decide +kernel
theorem zd_MP_most_26 : decode zb_MP_most 26 = .ok (.getfield 38, 3) := by decide +kernel
theorem zd_MP_most_29 : decode zb_MP_most 29 = .ok (.iload_n 2, 1) := by decide +kernel
theorem zd_MP_most_30 : decode zb_MP_most 30 = .ok (.laload, 1) := by decide +kernel
theorem zd_MP_most_31 : decode zb_MP_most 31 = .ok (.lconst 0, 1) := by decide +kernel
theorem zd_MP_most_32 : decode zb_MP_most 32 = .ok (.lcmp, 1) := by decide +kernel
theorem zd_MP_most_33 : decode zb_MP_most 33 = .ok (.ifCond .le 14, 3) := by decide +kernel
theorem zd_MP_most_36 : decode zb_MP_most 36 = .ok (.aload_n 0, 1) := by decide +kernel
theorem zd_MP_most_37 : decode zb_MP_most 37 = .ok (.iload_n 2, 1) := by decide +kernel
theorem zd_MP_most_38 : decode zb_MP_most 38 = .ok (.invokevirtual 163, 3) := by decide +kernel
theorem zd_MP_most_41 : decode zb_MP_most 41 = .ok (.iload_n 1, 1) := by decide +kernel
theorem zd_MP_most_42 : decode zb_MP_most 42 = .ok (.if_icmp .ne 5, 3) := by decide +kernel
theorem zd_MP_most_45 : decode zb_MP_most 45 = .ok (.iload_n 2, 1) := by decide +kernel
theorem zd_MP_most_46 : decode zb_MP_most 46 = .ok (.ireturn, 1) := by decide +kernel
theorem zd_MP_most_47 : decode zb_MP_most 47 = .ok (.iinc 2 1, 3) := by decide +kernel
theorem zd_MP_most_50 : decode zb_MP_most 50 = .ok (.goto (-30), 3) := by decide +kernel
theorem zd_MP_most_53 : decode zb_MP_most 53 = .ok (.iconst (-1), 1) := by decide +kernel
theorem zd_MP_most_54 : decode zb_MP_most 54 = .ok (.ireturn, 1) := by decide +kernel
end
section
theorem zd_Mo_good_0 : decode zb_Mo_good 0 = .ok (.aload_n 0, 1) := by decide +kernel
theorem zd_Mo_good_1 : decode zb_Mo_good 1 = .ok (.getfield 66, 3) := by decide +kernel
theorem zd_Mo_good_4 : decode zb_Mo_good 4 = .ok (.bipush 8, 2) := by decide +kernel
theorem zd_Mo_good_6 : decode zb_Mo_good 6 = .ok (.if_icmp .ne 5, 3) := by decide +kernel
theorem zd_Mo_good_9 : decode zb_Mo_good 9 = .ok (.iconst (-1), 1) := by decide +kernel
theorem zd_Mo_good_10 : decode zb_Mo_good 10 = .ok (.ireturn, 1) := by decide +kernel
theorem zd_Mo_good_11 : decode zb_Mo_good 11 = .ok (.aload_n 0, 1) := by decide +kernel
theorem zd_Mo_good_12 : decode zb_Mo_good 12 = .ok (.dup, 1) := by decide +kernel
theorem zd_Mo_good_13 : decode zb_Mo_good 13 = .ok (.getfield 66, 3) := by decide +kernel
theorem zd_Mo_good_16 : decode zb_Mo_good 16 = .ok (.iconst 1, 1) := by decide +kernel
theorem zd_Mo_good_17 : decode zb_Mo_good 17 = .ok (.iadd, 1) := by decide +kernel
theorem zd_Mo_good_18 : decode zb_Mo_good 18 = .ok (.putfield 66, 3) := by decide +kernel
theorem zd_Mo_good_21 : decode zb_Mo_good 21 = .ok (.aload_n 0, 1) := by decide +kernel
theorem zd_Mo_good_22 : decode zb_Mo_good 22 = .ok (.getfield 66, 3) := by decide +kernel
theorem zd_Mo_good_25 : decode zb_Mo_good 25 = .ok (.iconst 1, 1) := by decide +kernel
theorem zd_Mo_good_26 : decode zb_Mo_good 26 = .ok (.isub, 1) := by decide +kernel
theorem zd_Mo_good_27 : decode zb_Mo_good 27 = .ok (.ireturn, 1) := by decide +kernel
theorem zd_Mo_isGood_0 : decode zb_Mo_isGood 0 = .ok (.iload_n 1, 1) := by decide +kernel
theorem zd_Mo_isGood_1 : decode zb_Mo_isGood 1 = .ok (.ifCond .lt 15, 3) := by decide +kernel
theorem zd_Mo_isGood_4 : decode zb_Mo_isGood 4 = .ok (.iload_n 1, 1) := by decide +kernel
theorem zd_Mo_isGood_5 : decode zb_Mo_isGood 5 = .ok (.aload_n 0, 1) := by decide +kernel
theorem zd_Mo_isGood_6 : decode zb_Mo_isGood 6 = .ok (.getfield 66, 3) := by decide +kernel
theorem zd_Mo_isGood_9 : decode zb_Mo_isGood 9 = .ok (.if_icmp .ge 7, 3) := by decide +kernel
theorem zd_Mo_isGood_12 : decode zb_Mo_isGood 12 = .ok (.iconst 1, 1) := by decide +kernel
theorem zd_Mo_isGood_13 : decode zb_Mo_isGood 13 = .ok (.goto 4, 3) := by decide +kernel
theorem zd_Mo_isGood_16 : decode zb_Mo_isGood 16 = .ok (.iconst 0, 1) := by decide +kernel
theorem zd_Mo_isGood_17 : decode zb_Mo_isGood 17 = .ok (.ireturn, 1) := by decide +kernel
theorem zd_Mo_isKind_0 : decode zb_Mo_isKind 0 = .ok (.iload_n 0, 1) := by decide +kernel
theorem zd_Mo_isKind_1 : decode zb_Mo_isKind 1 = .ok (.ifCond .lt 12, 3) := by decide +kernel
theorem zd_Mo_isKind_4 : decode zb_Mo_isKind 4 = .ok (.iload_n 0, 1) := by decide +kernel
theorem zd_Mo_isKind_5 : decode zb_Mo_isKind 5 = .ok (.iconst 5, 1) := by decide +kernel
theorem zd_Mo_isKind_6 : decode zb_Mo_isKind 6 = .ok (.if_icmp .ge 7, 3) := by decide +kernel
theorem zd_Mo_isKind_9 : decode zb_Mo_isKind 9 = .ok (.iconst 1, 1) := by decide +kernel
theorem zd_Mo_isKind_10 : decode zb_Mo_isKind 10 = .ok (.goto 4, 3) := by decide +kernel
theorem zd_Mo_isKind_13 : decode zb_Mo_isKind 13 = .ok (.iconst 0, 1) := by decide +kernel
theorem zd_Mo_isKind_14 : decode zb_Mo_isKind 14 = .ok (.ireturn, 1) := by decide +kernel
theorem zd_Mo_isIn_0 : decode zb_Mo_isIn 0 = .ok (.lload_n 0, 1) := by decide +kernel
theorem zd_Mo_isIn_1 : decode zb_Mo_isIn 1 = .ok (.lload_n 2, 1) := by decide +kernel
theorem zd_Mo_isIn_2 : decode zb_Mo_isIn 2 = .ok (.lcmp, 1) := by decide +kernel
theorem zd_Mo_isIn_3 : decode zb_Mo_isIn 3 = .ok (.ifCond .lt 14, 3) := by decide +kernel
theorem zd_Mo_isIn_6 : decode zb_Mo_isIn 6 = .ok (.lload_n 0, 1) := by decide +kernel
theorem zd_Mo_isIn_7 : decode zb_Mo_isIn 7 = .ok (.lload 4, 2) := by decide +kernel
theorem zd_Mo_isIn_9 : decode zb_Mo_isIn 9 = .ok (.lcmp, 1) := by decide +kernel
theorem zd_Mo_isIn_10 : decode zb_Mo_isIn 10 = .ok (.ifCond .gt 7, 3) := by decide +kernel
theorem zd_Mo_isIn_13 : decode zb_Mo_isIn 13 = .ok (.iconst 1, 1) := by decide +kernel
theorem zd_Mo_isIn_14 : decode zb_Mo_isIn 14 = .ok (.goto 4, 3) := by decide +kernel
theorem zd_Mo_isIn_17 : decode zb_Mo_isIn 17 = .ok (.iconst 0, 1) := by decide +kernel
theorem zd_Mo_isIn_18 : decode zb_Mo_isIn 18 = .ok (.ireturn, 1) := by decide +kernel
theorem zd_Mo_part_0 : decode zb_Mo_part 0 = .ok (.aload_n 0, 1) := by decide +kernel
theorem zd_Mo_part_1 : decode zb_Mo_part 1 = .ok (.getfield 70, 3) := by decide +kernel
theorem zd_Mo_part_4 : decode zb_Mo_part 4 = .ok (.bipush 24, 2) := by decide +kernel
theorem zd_Mo_part_6 : decode zb_Mo_part 6 = .ok (.if_icmp .eq 42, 3) := by decide +kernel
theorem zd_Mo_part_9 : decode zb_Mo_part 9 = .ok (.aload_n 0, 1) := by decide +kernel
theorem zd_Mo_part_10 : decode zb_Mo_part 10 = .ok (.iload_n 1, 1) := by decide +kernel
theorem zd_Mo_part_11 : decode zb_Mo_part 11 = .ok (.invokevirtual 73, 3) := by decide +kernel
theorem zd_Mo_part_14 : decode zb_Mo_part 14 = .ok (.ifCond .eq 34, 3) := by decide +kernel
theorem zd_Mo_part_17 : decode zb_Mo_part 17 = .ok (.iload_n 2, 1) := by decide +kernel
theorem zd_Mo_part_18 : decode zb_Mo_part 18 = .ok (.invokestatic 77, 3) := by decide +kernel
theorem zd_Mo_part_21 : decode zb_Mo_part 21 = .ok (.ifCond .eq 27, 3) := by decide +kernel
theorem zd_Mo_part_24 : decode zb_Mo_part 24 = .ok (.lload_n 3, 1) := by decide +kernel
theorem zd_Mo_part_25 : decode zb_Mo_part 25 = .ok (.lconst 0, 1) := by decide +kernel
theorem zd_Mo_part_26 : decode zb_Mo_part 26 = .ok (.ldc2_w 80, 3) := by decide +kernel
theorem zd_Mo_part_29 : decode zb_Mo_part 29 = .ok (.invokestatic 82, 3) := by decide +kernel
theorem zd_Mo_part_32 : decode zb_Mo_part 32 = .ok (.ifCond .eq 16, 3) := by decide +kernel
theorem zd_Mo_part_35 : decode zb_Mo_part 35 = .ok (.iload 5, 2) := by decide +kernel
theorem zd_Mo_part_37 : decode zb_Mo_part 37 = .ok (.i2l, 1) := by decide +kernel
theorem zd_Mo_part_38 : decode zb_Mo_part 38 = .ok (.lconst 0, 1) := by decide +kernel
theorem zd_Mo_part_39 : decode zb_Mo_part 39 = .ok (.ldc2_w 86, 3) := by decide +kernel
theorem zd_Mo_part_42 : decode zb_Mo_part 42 = .ok (.invokestatic 82, 3) := by decide +kernel
theorem zd_Mo_part_45 : decode zb_Mo_part 45 = .ok (.ifCond .ne 5, 3) := by decide +kernel
theorem zd_Mo_part_48 : decode zb_Mo_part 48 = .ok (.iconst (-1), 1) := by decide +kernel
theorem zd_Mo_part_49 : decode zb_Mo_part 49 = .ok (.ireturn, 1) := by decide +kernel
theorem zd_Mo_part_50 : decode zb_Mo_part 50 = .ok (.aload_n 0, 1) := by decide +kernel
theorem zd_Mo_part_51 : decode zb_Mo_part 51 = .ok (.getfield 13, 3) := by decide +kernel
theorem zd_Mo_part_54 : decode zb_Mo_part 54 = .ok (.aload_n 0, 1) := by decide +kernel
theorem zd_Mo_part_55 : decode zb_Mo_part 55 = .ok (.getfield 70, 3) := by decide +kernel
theorem zd_Mo_part_58 : decode zb_Mo_part 58 = .ok (.iload_n 1, 1) := by decide +kernel
theorem zd_Mo_part_59 : decode zb_Mo_part 59 = .ok (.iastore, 1) := by decide +kernel
theorem zd_Mo_part_60 : decode zb_Mo_part 60 = .ok (.aload_n 0, 1) := by decide +kernel
theorem zd_Mo_part_61 : decode zb_Mo_part 61 = .ok (.getfield 16, 3) := by decide +kernel
theorem zd_Mo_part_64 : decode zb_Mo_part 64 = .ok (.aload_n 0, 1) := by decide +kernel
theorem zd_Mo_part_65 : decode zb_Mo_part 65 = .ok (.getfield 70, 3) := by decide +kernel
theorem zd_Mo_part_68 : decode zb_Mo_part 68 = .ok (.iload_n 2, 1) := by decide +kernel
theorem zd_Mo_part_69 : decode zb_Mo_part 69 = .ok (.iastore, 1) := by decide +kernel
theorem zd_Mo_part_70 : decode zb_Mo_part 70 = .ok (.aload_n 0, 1) := by decide +kernel
theorem zd_Mo_part_71 : decode zb_Mo_part 71 = .ok (.getfield 19, 3) := by decide +kernel
theorem zd_Mo_part_74 : decode zb_Mo_part 74 = .ok (.aload_n 0, 1) := by decide +kernel
theorem zd_Mo_part_75 : decode zb_Mo_part 75 = .ok (.getfield 70, 3) := by decide +kernel
theorem zd_Mo_part_78 : decode zb_Mo_part 78 = .ok (.lload_n 3, 1) := by decide +kernel
theorem zd_Mo_part_79 : decode zb_Mo_part 79 = .ok (.lastore, 1) := by decide +kernel
theorem zd_Mo_part_80 : decode zb_Mo_part 80 = .ok (.aload_n 0, 1) := by decide +kernel
theorem zd_Mo_part_81 : decode zb_Mo_part 81 = .ok (.getfield 23, 3) := by decide +kernel
theorem zd_Mo_part_84 : decode zb_Mo_part 84 = .ok (.aload_n 0, 1) := by decide +kernel
theorem zd_Mo_part_85 : decode zb_Mo_part 85 = .ok (.getfield 70, 3) := by decide +kernel
theorem zd_Mo_part_88 : decode zb_Mo_part 88 = .ok (.iload 5, 2) := by decide +kernel
theorem zd_Mo_part_90 : decode zb_Mo_part 90 = .ok (.iastore, 1) := by decide +kernel
theorem zd_Mo_part_91 : decode zb_Mo_part 91 = .ok (.aload_n 0, 1) := by decide +kernel
theorem zd_Mo_part_92 : decode zb_Mo_part 92 = .ok (.getfield 26, 3) := by decide +kernel
theorem zd_Mo_part_95 : decode zb_Mo_part 95 = .ok (.aload_n 0, 1) := by decide +kernel
theorem zd_Mo_part_96 : decode zb_Mo_part 96 = .ok (.getfield 70, 3) := by decide +kernel
theorem zd_Mo_part_99 : decode zb_Mo_part 99 = .ok (.iconst (-1), 1) := by decide +kernel
theorem zd_Mo_part_100 : decode zb_Mo_part 100 = .ok (.iastore, 1) := by decide +kernel
theorem zd_Mo_part_101 : decode zb_Mo_part 101 = .ok (.aload_n 0, 1) := by decide +kernel
theorem zd_Mo_part_102 : decode zb_Mo_part 102 = .ok (.dup, 1) := by decide +kernel
theorem zd_Mo_part_103 : decode zb_Mo_part 103 = .ok (.getfield 70, 3) := by decide +kernel
theorem zd_Mo_part_106 : decode zb_Mo_part 106 = .ok (.iconst 1, 1) := by decide +kernel
theorem zd_Mo_part_107 : decode zb_Mo_part 107 = .ok (.iadd, 1) := by decide +kernel
theorem zd_Mo_part_108 : decode zb_Mo_part 108 = .ok (.putfield 70, 3) := by decide +kernel
theorem zd_Mo_part_111 : decode zb_Mo_part 111 = .ok (.aload_n 0, 1) := by decide +kernel
theorem zd_Mo_part_112 : decode zb_Mo_part 112 = .ok (.getfield 7, 3) := by decide +kernel
theorem zd_Mo_part_115 : decode zb_Mo_part 115 = .ok (.iload_n 1, 1) := by decide +kernel
theorem zd_Mo_part_116 : decode zb_Mo_part 116 = .ok (.dup2, 1) := by decide +kernel
theorem zd_Mo_part_117 : decode zb_Mo_part 117 = .ok (.iaload, 1) := by decide +kernel
theorem zd_Mo_part_118 : decode zb_Mo_part 118 = .ok (.iconst 1, 1) := by decide +kernel
theorem zd_Mo_part_119 : decode zb_Mo_part 119 = .ok (.iadd, 1) := by decide +kernel
theorem zd_Mo_part_120 : decode zb_Mo_part 120 = .ok (.iastore, 1) := by decide +kernel
theorem zd_Mo_part_121 : decode zb_Mo_part 121 = .ok (.aload_n 0, 1) := by decide +kernel
theorem zd_Mo_part_122 : decode zb_Mo_part 122 = .ok (.getfield 70, 3) := by decide +kernel
theorem zd_Mo_part_125 : decode zb_Mo_part 125 = .ok (.iconst 1, 1) := by decide +kernel
theorem zd_Mo_part_126 : decode zb_Mo_part 126 = .ok (.isub, 1) := by decide +kernel
theorem zd_Mo_part_127 : decode zb_Mo_part 127 = .ok (.ireturn, 1) := by decide +kernel
theorem zd_Mo_isPart_0 : decode zb_Mo_isPart 0 = .ok (.iload_n 1, 1) := by decide +kernel
theorem zd_Mo_isPart_1 : decode zb_Mo_isPart 1 = .ok (.ifCond .lt 15, 3) := by decide +kernel
theorem zd_Mo_isPart_4 : decode zb_Mo_isPart 4 = .ok (.iload_n 1, 1) := by decide +kernel
theorem zd_Mo_isPart_5 : decode zb_Mo_isPart 5 = .ok (.aload_n 0, 1) := by decide +kernel
theorem zd_Mo_isPart_6 : decode zb_Mo_isPart 6 = .ok (.getfield 70, 3) := by decide +kernel
theorem zd_Mo_isPart_9 : decode zb_Mo_isPart 9 = .ok (.if_icmp .ge 7, 3) := by decide +kernel
theorem zd_Mo_isPart_12 : decode zb_Mo_isPart 12 = .ok (.iconst 1, 1) := by decide +kernel
theorem zd_Mo_isPart_13 : decode zb_Mo_isPart 13 = .ok (.goto 4, 3) := by decide +kernel
theorem zd_Mo_isPart_16 : decode zb_Mo_isPart 16 = .ok (.iconst 0, 1) := by decide +kernel
theorem zd_Mo_isPart_17 : decode zb_Mo_isPart 17 = .ok (.ireturn, 1) := by decide +kernel
theorem zd_Mo_inside_0 : decode zb_Mo_inside 0 = .ok (.iconst 1, 1) := by decide +kernel
theorem zd_Mo_inside_1 : decode zb_Mo_inside 1 = .ok (.iload_n 1, 1) := by decide +kernel
theorem zd_Mo_inside_2 : decode zb_Mo_inside 2 = .ok (.ishl, 1) := by decide +kernel
theorem zd_Mo_inside_3 : decode zb_Mo_inside 3 = .ok (.istore_n 2, 1) := by decide +kernel
theorem zd_Mo_inside_4 : decode zb_Mo_inside 4 = .ok (.iconst 0, 1) := by decide +kernel
theorem zd_Mo_inside_5 : decode zb_Mo_inside 5 = .ok (.istore_n 3, 1) := by decide +kernel
theorem zd_Mo_inside_6 : decode zb_Mo_inside 6 = .ok (.iload_n 3, 1) := by decide +kernel
theorem zd_Mo_inside_7 : decode zb_Mo_inside 7 = .ok (.bipush 8, 2) := by decide +kernel
theorem zd_Mo_inside_9 : decode zb_Mo_inside 9 = .ok (.if_icmp .ge 68, 3) := by decide +kernel
theorem zd_Mo_inside_12 : decode zb_Mo_inside 12 = .ok (.iconst 0, 1) := by decide +kernel
theorem zd_Mo_inside_13 : decode zb_Mo_inside 13 = .ok (.istore 4, 2) := by decide +kernel
theorem zd_Mo_inside_15 : decode zb_Mo_inside 15 = .ok (.iload 4, 2) := by decide +kernel
theorem zd_Mo_inside_17 : decode zb_Mo_inside 17 = .ok (.aload_n 0, 1) := by decide +kernel
theorem zd_Mo_inside_18 : decode zb_Mo_inside 18 = .ok (.getfield 70, 3) := by decide +kernel
theorem zd_Mo_inside_21 : decode zb_Mo_inside 21 = .ok (.if_icmp .ge 50, 3) := by decide +kernel
theorem zd_Mo_inside_24 : decode zb_Mo_inside 24 = .ok (.iload_n 2, 1) := by decide +kernel
theorem zd_Mo_inside_25 : decode zb_Mo_inside 25 = .ok (.iload_n 2, 1) := by decide +kernel
theorem zd_Mo_inside_26 : decode zb_Mo_inside 26 = .ok (.aload_n 0, 1) := by decide +kernel
theorem zd_Mo_inside_27 : decode zb_Mo_inside 27 = .ok (.getfield 13, 3) := by decide +kernel
theorem zd_Mo_inside_30 : decode zb_Mo_inside 30 = .ok (.iload 4, 2) := by decide +kernel
theorem zd_Mo_inside_32 : decode zb_Mo_inside 32 = .ok (.iaload, 1) := by decide +kernel
theorem zd_Mo_inside_33 : decode zb_Mo_inside 33 = .ok (.ishr, 1) := by decide +kernel
theorem zd_Mo_inside_34 : decode zb_Mo_inside 34 = .ok (.iconst 1, 1) := by decide +kernel
theorem zd_Mo_inside_35 : decode zb_Mo_inside 35 = .ok (.iand, 1) := by decide +kernel
theorem zd_Mo_inside_36 : decode zb_Mo_inside 36 = .ok (.iconst 1, 1) := by decide +kernel
theorem zd_Mo_inside_37 : decode zb_Mo_inside 37 = .ok (.if_icmp .ne 25, 3) := by decide +kernel
theorem zd_Mo_inside_40 : decode zb_Mo_inside 40 = .ok (.aload_n 0, 1) := by decide +kernel
theorem zd_Mo_inside_41 : decode zb_Mo_inside 41 = .ok (.getfield 26, 3) := by decide +kernel
theorem zd_Mo_inside_44 : decode zb_Mo_inside 44 = .ok (.iload 4, 2) := by decide +kernel
theorem zd_Mo_inside_46 : decode zb_Mo_inside 46 = .ok (.iaload, 1) := by decide +kernel
theorem zd_Mo_inside_47 : decode zb_Mo_inside 47 = .ok (.ifCond .lt 15, 3) := by decide +kernel
theorem zd_Mo_inside_50 : decode zb_Mo_inside 50 = .ok (.iconst 1, 1) := by decide +kernel
theorem zd_Mo_inside_51 : decode zb_Mo_inside 51 = .ok (.aload_n 0, 1) := by decide +kernel
theorem zd_Mo_inside_52 : decode zb_Mo_inside 52 = .ok (.getfield 26, 3) := by decide +kernel
theorem zd_Mo_inside_55 : decode zb_Mo_inside 55 = .ok (.iload 4, 2) := by decide +kernel
theorem zd_Mo_inside_57 : decode zb_Mo_inside 57 = .ok (.iaload, 1) := by decide +kernel
theorem zd_Mo_inside_58 : decode zb_Mo_inside 58 = .ok (.ishl, 1) := by decide +kernel
theorem zd_Mo_inside_59 : decode zb_Mo_inside 59 = .ok (.goto 4, 3) := by decide +kernel
theorem zd_Mo_inside_62 : decode zb_Mo_inside 62 = .ok (.iconst 0, 1) := by decide +kernel
theorem zd_Mo_inside_63 : decode zb_Mo_inside 63 = .ok (.ior, 1) := by decide +kernel
theorem zd_Mo_inside_64 : decode zb_Mo_inside 64 = .ok (.istore_n 2, 1) := by decide +kernel
theorem zd_Mo_inside_65 : decode zb_Mo_inside 65 = .ok (.iinc 4 1, 3) := by decide +kernel
theorem zd_Mo_inside_68 : decode zb_Mo_inside 68 = .ok (.goto (-53), 3) := by decide +kernel
theorem zd_Mo_inside_71 : decode zb_Mo_inside 71 = .ok (.iinc 3 1, 3) := by decide +kernel
theorem zd_Mo_inside_74 : decode zb_Mo_inside 74 = .ok (.goto (-68), 3) := by decide +kernel
theorem zd_Mo_inside_77 : decode zb_Mo_inside 77 = .ok (.iload_n 2, 1) := by decide +kernel
theorem zd_Mo_inside_78 : decode zb_Mo_inside 78 = .ok (.ireturn, 1) := by decide +kernel
theorem zd_Mo_into_0 : decode zb_Mo_into 0 = .ok (.aload_n 0, 1) := by decide +kernel
theorem zd_Mo_into_1 : decode zb_Mo_into 1 = .ok (.iload_n 1, 1) := by decide +kernel
theorem zd_Mo_into_2 : decode zb_Mo_into 2 = .ok (.invokevirtual 88, 3) := by decide +kernel
theorem zd_Mo_into_5 : decode zb_Mo_into 5 = .ok (.ifCond .eq 38, 3) := by decide +kernel
theorem zd_Mo_into_8 : decode zb_Mo_into 8 = .ok (.aload_n 0, 1) := by decide +kernel
theorem zd_Mo_into_9 : decode zb_Mo_into 9 = .ok (.iload_n 2, 1) := by decide +kernel
theorem zd_Mo_into_10 : decode zb_Mo_into 10 = .ok (.invokevirtual 73, 3) := by decide +kernel
theorem zd_Mo_into_13 : decode zb_Mo_into 13 = .ok (.ifCond .eq 30, 3) := by decide +kernel
theorem zd_Mo_into_16 : decode zb_Mo_into 16 = .ok (.aload_n 0, 1) := by decide +kernel
theorem zd_Mo_into_17 : decode zb_Mo_into 17 = .ok (.getfield 26, 3) := by decide +kernel
theorem zd_Mo_into_20 : decode zb_Mo_into 20 = .ok (.iload_n 1, 1) := by decide +kernel
theorem zd_Mo_into_21 : decode zb_Mo_into 21 = .ok (.iaload, 1) := by decide +kernel
theorem zd_Mo_into_22 : decode zb_Mo_into 22 = .ok (.ifCond .ge 21, 3) := by decide +kernel
theorem zd_Mo_into_25 : decode zb_Mo_into 25 = .ok (.aload_n 0, 1) := by decide +kernel
theorem zd_Mo_into_26 : decode zb_Mo_into 26 = .ok (.iload_n 2, 1) := by decide +kernel
theorem zd_Mo_into_27 : decode zb_Mo_into 27 = .ok (.invokevirtual 91, 3) := by decide +kernel
theorem zd_Mo_into_30 : decode zb_Mo_into 30 = .ok (.aload_n 0, 1) := by decide +kernel
theorem zd_Mo_into_31 : decode zb_Mo_into 31 = .ok (.getfield 13, 3) := by decide +kernel
theorem zd_Mo_into_34 : decode zb_Mo_into 34 = .ok (.iload_n 1, 1) := by decide +kernel
theorem zd_Mo_into_35 : decode zb_Mo_into 35 = .ok (.iaload, 1) := by decide +kernel
theorem zd_Mo_into_36 : decode zb_Mo_into 36 = .ok (.ishr, 1) := by decide +kernel
theorem zd_Mo_into_37 : decode zb_Mo_into 37 = .ok (.iconst 1, 1) := by decide +kernel
theorem zd_Mo_into_38 : decode zb_Mo_into 38 = .ok (.iand, 1) := by decide +kernel
theorem zd_Mo_into_39 : decode zb_Mo_into 39 = .ok (.iconst 1, 1) := by decide +kernel
theorem zd_Mo_into_40 : decode zb_Mo_into 40 = .ok (.if_icmp .ne 5, 3) := by decide +kernel
theorem zd_Mo_into_43 : decode zb_Mo_into 43 = .ok (.iconst 0, 1) := by decide +kernel
theorem zd_Mo_into_44 : decode zb_Mo_into 44 = .ok (.ireturn, 1) := by decide +kernel
theorem zd_Mo_into_45 : decode zb_Mo_into 45 = .ok (.aload_n 0, 1) := by decide +kernel
theorem zd_Mo_into_46 : decode zb_Mo_into 46 = .ok (.getfield 26, 3) := by decide +kernel
theorem zd_Mo_into_49 : decode zb_Mo_into 49 = .ok (.iload_n 1, 1) := by decide +kernel
theorem zd_Mo_into_50 : decode zb_Mo_into 50 = .ok (.iload_n 2, 1) := by decide +kernel
theorem zd_Mo_into_51 : decode zb_Mo_into 51 = .ok (.iastore, 1) := by decide +kernel
theorem zd_Mo_into_52 : decode zb_Mo_into 52 = .ok (.aload_n 0, 1) := by decide +kernel
theorem zd_Mo_into_53 : decode zb_Mo_into 53 = .ok (.getfield 7, 3) := by decide +kernel
theorem zd_Mo_into_56 : decode zb_Mo_into 56 = .ok (.aload_n 0, 1) := by decide +kernel
theorem zd_Mo_into_57 : decode zb_Mo_into 57 = .ok (.getfield 13, 3) := by decide +kernel
theorem zd_Mo_into_60 : decode zb_Mo_into 60 = .ok (.iload_n 1, 1) := by decide +kernel
theorem zd_Mo_into_61 : decode zb_Mo_into 61 = .ok (.iaload, 1) := by decide +kernel
theorem zd_Mo_into_62 : decode zb_Mo_into 62 = .ok (.dup2, 1) := by decide +kernel
theorem zd_Mo_into_63 : decode zb_Mo_into 63 = .ok (.iaload, 1) := by decide +kernel
theorem zd_Mo_into_64 : decode zb_Mo_into 64 = .ok (.iconst 1, 1) := by decide +kernel
theorem zd_Mo_into_65 : decode zb_Mo_into 65 = .ok (.iadd, 1) := by decide +kernel
theorem zd_Mo_into_66 : decode zb_Mo_into 66 = .ok (.iastore, 1) := by decide +kernel
theorem zd_Mo_into_67 : decode zb_Mo_into 67 = .ok (.iconst 1, 1) := by decide +kernel
theorem zd_Mo_into_68 : decode zb_Mo_into 68 = .ok (.ireturn, 1) := by decide +kernel
theorem zd_Mo_life_0 : decode zb_Mo_life 0 = .ok (.aload_n 0, 1) := by decide +kernel
theorem zd_Mo_life_1 : decode zb_Mo_life 1 = .ok (.iload_n 1, 1) := by decide +kernel
theorem zd_Mo_life_2 : decode zb_Mo_life 2 = .ok (.invokevirtual 88, 3) := by decide +kernel
theorem zd_Mo_life_5 : decode zb_Mo_life 5 = .ok (.ifCond .eq 15, 3) := by decide +kernel
theorem zd_Mo_life_8 : decode zb_Mo_life 8 = .ok (.iload_n 2, 1) := by decide +kernel
theorem zd_Mo_life_9 : decode zb_Mo_life 9 = .ok (.i2l, 1) := by decide +kernel
theorem zd_Mo_life_10 : decode zb_Mo_life 10 = .ok (.lconst 0, 1) := by decide +kernel
theorem zd_Mo_life_11 : decode zb_Mo_life 11 = .ok (.ldc2_w 86, 3) := by decide +kernel
theorem zd_Mo_life_14 : decode zb_Mo_life 14 = .ok (.invokestatic 82, 3) := by decide +kernel
theorem zd_Mo_life_17 : decode zb_Mo_life 17 = .ok (.ifCond .ne 5, 3) := by decide +kernel
theorem zd_Mo_life_20 : decode zb_Mo_life 20 = .ok (.iconst 0, 1) := by decide +kernel
theorem zd_Mo_life_21 : decode zb_Mo_life 21 = .ok (.ireturn, 1) := by decide +kernel
theorem zd_Mo_life_22 : decode zb_Mo_life 22 = .ok (.aload_n 0, 1) := by decide +kernel
theorem zd_Mo_life_23 : decode zb_Mo_life 23 = .ok (.getfield 23, 3) := by decide +kernel
theorem zd_Mo_life_26 : decode zb_Mo_life 26 = .ok (.iload_n 1, 1) := by decide +kernel
theorem zd_Mo_life_27 : decode zb_Mo_life 27 = .ok (.iload_n 2, 1) := by decide +kernel
theorem zd_Mo_life_28 : decode zb_Mo_life 28 = .ok (.iastore, 1) := by decide +kernel
theorem zd_Mo_life_29 : decode zb_Mo_life 29 = .ok (.aload_n 0, 1) := by decide +kernel
theorem zd_Mo_life_30 : decode zb_Mo_life 30 = .ok (.getfield 7, 3) := by decide +kernel
theorem zd_Mo_life_33 : decode zb_Mo_life 33 = .ok (.aload_n 0, 1) := by decide +kernel
theorem zd_Mo_life_34 : decode zb_Mo_life 34 = .ok (.getfield 13, 3) := by decide +kernel
theorem zd_Mo_life_37 : decode zb_Mo_life 37 = .ok (.iload_n 1, 1) := by decide +kernel
theorem zd_Mo_life_38 : decode zb_Mo_life 38 = .ok (.iaload, 1) := by decide +kernel
theorem zd_Mo_life_39 : decode zb_Mo_life 39 = .ok (.dup2, 1) := by decide +kernel
theorem zd_Mo_life_40 : decode zb_Mo_life 40 = .ok (.iaload, 1) := by decide +kernel
theorem zd_Mo_life_41 : decode zb_Mo_life 41 = .ok (.iconst 1, 1) := by decide +kernel
theorem zd_Mo_life_42 : decode zb_Mo_life 42 = .ok (.iadd, 1) := by decide +kernel
theorem zd_Mo_life_43 : decode zb_Mo_life 43 = .ok (.iastore, 1) := by decide +kernel
theorem zd_Mo_life_44 : decode zb_Mo_life 44 = .ok (.iconst 1, 1) := by decide +kernel
theorem zd_Mo_life_45 : decode zb_Mo_life 45 = .ok (.ireturn, 1) := by decide +kernel
theorem zd_Mo_add_0 : decode zb_Mo_add 0 = .ok (.aload_n 0, 1) := by decide +kernel
theorem zd_Mo_add_1 : decode zb_Mo_add 1 = .ok (.getfield 29, 3) := by decide +kernel
theorem zd_Mo_add_4 : decode zb_Mo_add 4 = .ok (.aload_n 0, 1) := by decide +kernel
theorem zd_Mo_add_5 : decode zb_Mo_add 5 = .ok (.getfield 95, 3) := by decide +kernel
theorem zd_Mo_add_8 : decode zb_Mo_add 8 = .ok (.iload_n 1, 1) := by decide +kernel
theorem zd_Mo_add_9 : decode zb_Mo_add 9 = .ok (.iastore, 1) := by decide +kernel
theorem zd_Mo_add_10 : decode zb_Mo_add 10 = .ok (.aload_n 0, 1) := by decide +kernel
theorem zd_Mo_add_11 : decode zb_Mo_add 11 = .ok (.getfield 32, 3) := by decide +kernel
theorem zd_Mo_add_14 : decode zb_Mo_add 14 = .ok (.aload_n 0, 1) := by decide +kernel
theorem zd_Mo_add_15 : decode zb_Mo_add 15 = .ok (.getfield 95, 3) := by decide +kernel
theorem zd_Mo_add_18 : decode zb_Mo_add 18 = .ok (.lload_n 2, 1) := by decide +kernel
theorem zd_Mo_add_19 : decode zb_Mo_add 19 = .ok (.lastore, 1) := by decide +kernel
theorem zd_Mo_add_20 : decode zb_Mo_add 20 = .ok (.aload_n 0, 1) := by decide +kernel
theorem zd_Mo_add_21 : decode zb_Mo_add 21 = .ok (.getfield 35, 3) := by decide +kernel
theorem zd_Mo_add_24 : decode zb_Mo_add 24 = .ok (.aload_n 0, 1) := by decide +kernel
theorem zd_Mo_add_25 : decode zb_Mo_add 25 = .ok (.getfield 95, 3) := by decide +kernel
theorem zd_Mo_add_28 : decode zb_Mo_add 28 = .ok (.iload 4, 2) := by decide +kernel
theorem zd_Mo_add_30 : decode zb_Mo_add 30 = .ok (.iastore, 1) := by decide +kernel
theorem zd_Mo_add_31 : decode zb_Mo_add 31 = .ok (.aload_n 0, 1) := by decide +kernel
theorem zd_Mo_add_32 : decode zb_Mo_add 32 = .ok (.getfield 38, 3) := by decide +kernel
theorem zd_Mo_add_35 : decode zb_Mo_add 35 = .ok (.aload_n 0, 1) := by decide +kernel
theorem zd_Mo_add_36 : decode zb_Mo_add 36 = .ok (.getfield 95, 3) := by decide +kernel
theorem zd_Mo_add_39 : decode zb_Mo_add 39 = .ok (.lload 5, 2) := by decide +kernel
theorem zd_Mo_add_41 : decode zb_Mo_add 41 = .ok (.lastore, 1) := by decide +kernel
theorem zd_Mo_add_42 : decode zb_Mo_add 42 = .ok (.aload_n 0, 1) := by decide +kernel
theorem zd_Mo_add_43 : decode zb_Mo_add 43 = .ok (.dup, 1) := by decide +kernel
theorem zd_Mo_add_44 : decode zb_Mo_add 44 = .ok (.getfield 95, 3) := by decide +kernel
theorem zd_Mo_add_47 : decode zb_Mo_add 47 = .ok (.iconst 1, 1) := by decide +kernel
theorem zd_Mo_add_48 : decode zb_Mo_add 48 = .ok (.iadd, 1) := by decide +kernel
theorem zd_Mo_add_49 : decode zb_Mo_add 49 = .ok (.putfield 95, 3) := by decide +kernel
theorem zd_Mo_add_52 : decode zb_Mo_add 52 = .ok (.return_, 1) := by decide +kernel
theorem zd_Mo_change_0 : decode zb_Mo_change 0 = .ok (.aload_n 0, 1) := by decide +kernel
theorem zd_Mo_change_1 : decode zb_Mo_change 1 = .ok (.getfield 95, 3) := by decide +kernel
theorem zd_Mo_change_4 : decode zb_Mo_change 4 = .ok (.bipush 20, 2) := by decide +kernel
theorem zd_Mo_change_6 : decode zb_Mo_change 6 = .ok (.if_icmp .eq 42, 3) := by decide +kernel
theorem zd_Mo_change_9 : decode zb_Mo_change 9 = .ok (.aload_n 0, 1) := by decide +kernel
theorem zd_Mo_change_10 : decode zb_Mo_change 10 = .ok (.iload_n 1, 1) := by decide +kernel
theorem zd_Mo_change_11 : decode zb_Mo_change 11 = .ok (.invokevirtual 88, 3) := by decide +kernel
theorem zd_Mo_change_14 : decode zb_Mo_change 14 = .ok (.ifCond .eq 34, 3) := by decide +kernel
theorem zd_Mo_change_17 : decode zb_Mo_change 17 = .ok (.lload_n 2, 1) := by decide +kernel
theorem zd_Mo_change_18 : decode zb_Mo_change 18 = .ok (.lconst 0, 1) := by decide +kernel
theorem zd_Mo_change_19 : decode zb_Mo_change 19 = .ok (.ldc2_w 98, 3) := by decide +kernel
theorem zd_Mo_change_22 : decode zb_Mo_change 22 = .ok (.invokestatic 82, 3) := by decide +kernel
theorem zd_Mo_change_25 : decode zb_Mo_change 25 = .ok (.ifCond .eq 23, 3) := by decide +kernel
theorem zd_Mo_change_28 : decode zb_Mo_change 28 = .ok (.iload 4, 2) := by decide +kernel
theorem zd_Mo_change_30 : decode zb_Mo_change 30 = .ok (.invokestatic 77, 3) := by decide +kernel
theorem zd_Mo_change_33 : decode zb_Mo_change 33 = .ok (.ifCond .eq 15, 3) := by decide +kernel
theorem zd_Mo_change_36 : decode zb_Mo_change 36 = .ok (.lload 5, 2) := by decide +kernel
theorem zd_Mo_change_38 : decode zb_Mo_change 38 = .ok (.lconst 0, 1) := by decide +kernel
theorem zd_Mo_change_39 : decode zb_Mo_change 39 = .ok (.ldc2_w 80, 3) := by decide +kernel
theorem zd_Mo_change_42 : decode zb_Mo_change 42 = .ok (.invokestatic 82, 3) := by decide +kernel
theorem zd_Mo_change_45 : decode zb_Mo_change 45 = .ok (.ifCond .ne 5, 3) := by decide +kernel
theorem zd_Mo_change_48 : decode zb_Mo_change 48 = .ok (.iconst 0, 1) := by decide +kernel
theorem zd_Mo_change_49 : decode zb_Mo_change 49 = .ok (.ireturn, 1) := by decide +kernel
theorem zd_Mo_change_50 : decode zb_Mo_change 50 = .ok (.aload_n 0, 1) := by decide +kernel
theorem zd_Mo_change_51 : decode zb_Mo_change 51 = .ok (.iload_n 1, 1) := by decide +kernel
theorem zd_Mo_change_52 : decode zb_Mo_change 52 = .ok (.lload_n 2, 1) := by decide +kernel
theorem zd_Mo_change_53 : decode zb_Mo_change 53 = .ok (.iload 4, 2) := by decide +kernel
theorem zd_Mo_change_55 : decode zb_Mo_change 55 = .ok (.lload 5, 2) := by decide +kernel
theorem zd_Mo_change_57 : decode zb_Mo_change 57 = .ok (.invokevirtual 100, 3) := by decide +kernel
theorem zd_Mo_change_60 : decode zb_Mo_change 60 = .ok (.aload_n 0, 1) := by decide +kernel
theorem zd_Mo_change_61 : decode zb_Mo_change 61 = .ok (.getfield 7, 3) := by decide +kernel
theorem zd_Mo_change_64 : decode zb_Mo_change 64 = .ok (.aload_n 0, 1) := by decide +kernel
theorem zd_Mo_change_65 : decode zb_Mo_change 65 = .ok (.getfield 13, 3) := by decide +kernel
theorem zd_Mo_change_68 : decode zb_Mo_change 68 = .ok (.iload_n 1, 1) := by decide +kernel
theorem zd_Mo_change_69 : decode zb_Mo_change 69 = .ok (.iaload, 1) := by decide +kernel
theorem zd_Mo_change_70 : decode zb_Mo_change 70 = .ok (.dup2, 1) := by decide +kernel
theorem zd_Mo_change_71 : decode zb_Mo_change 71 = .ok (.iaload, 1) := by decide +kernel
theorem zd_Mo_change_72 : decode zb_Mo_change 72 = .ok (.iconst 1, 1) := by decide +kernel
theorem zd_Mo_change_73 : decode zb_Mo_change 73 = .ok (.iadd, 1) := by decide +kernel
theorem zd_Mo_change_74 : decode zb_Mo_change 74 = .ok (.iastore, 1) := by decide +kernel
theorem zd_Mo_change_75 : decode zb_Mo_change 75 = .ok (.iconst 1, 1) := by decide +kernel
theorem zd_Mo_change_76 : decode zb_Mo_change 76 = .ok (.ireturn, 1) := by decide +kernel
theorem zd_Mo_changeOf_0 : decode zb_Mo_changeOf 0 = .ok (.iconst (-1), 1) := by decide +kernel
theorem zd_Mo_changeOf_1 : decode zb_Mo_changeOf 1 = .ok (.istore 4, 2) := by decide +kernel
theorem zd_Mo_changeOf_3 : decode zb_Mo_changeOf 3 = .ok (.iconst 0, 1) := by decide +kernel
theorem zd_Mo_changeOf_4 : decode zb_Mo_changeOf 4 = .ok (.istore 5, 2) := by decide +kernel
theorem zd_Mo_changeOf_6 : decode zb_Mo_changeOf 6 = .ok (.iload 5, 2) := by decide +kernel
theorem zd_Mo_changeOf_8 : decode zb_Mo_changeOf 8 = .ok (.aload_n 0, 1) := by decide +kernel
theorem zd_Mo_changeOf_9 : decode zb_Mo_changeOf 9 = .ok (.getfield 95, 3) := by decide +kernel
theorem zd_Mo_changeOf_12 : decode zb_Mo_changeOf 12 = .ok (.if_icmp .ge 76, 3) := by decide +kernel
theorem zd_Mo_changeOf_15 : decode zb_Mo_changeOf 15 = .ok (.aload_n 0, 1) := by decide +kernel
theorem zd_Mo_changeOf_16 : decode zb_Mo_changeOf 16 = .ok (.getfield 29, 3) := by decide +kernel
theorem zd_Mo_changeOf_19 : decode zb_Mo_changeOf 19 = .ok (.iload 5, 2) := by decide +kernel
theorem zd_Mo_changeOf_21 : decode zb_Mo_changeOf 21 = .ok (.iaload, 1) := by decide +kernel
theorem zd_Mo_changeOf_22 : decode zb_Mo_changeOf 22 = .ok (.iload_n 1, 1) := by decide +kernel
theorem zd_Mo_changeOf_23 : decode zb_Mo_changeOf 23 = .ok (.if_icmp .ne 19, 3) := by decide +kernel
theorem zd_Mo_changeOf_26 : decode zb_Mo_changeOf 26 = .ok (.aload_n 0, 1) := by decide +kernel
theorem zd_Mo_changeOf_27 : decode zb_Mo_changeOf 27 = .ok (.getfield 32, 3) := by decide +kernel
theorem zd_Mo_changeOf_30 : decode zb_Mo_changeOf 30 = .ok (.iload 5, 2) := by decide +kernel
theorem zd_Mo_changeOf_32 : decode zb_Mo_changeOf 32 = .ok (.laload, 1) := by decide +kernel
theorem zd_Mo_changeOf_33 : decode zb_Mo_changeOf 33 = .ok (.lload_n 2, 1) := by decide +kernel
theorem zd_Mo_changeOf_34 : decode zb_Mo_changeOf 34 = .ok (.lcmp, 1) := by decide +kernel
theorem zd_Mo_changeOf_35 : decode zb_Mo_changeOf 35 = .ok (.ifCond .gt 7, 3) := by decide +kernel
theorem zd_Mo_changeOf_38 : decode zb_Mo_changeOf 38 = .ok (.iconst 1, 1) := by decide +kernel
theorem zd_Mo_changeOf_39 : decode zb_Mo_changeOf 39 = .ok (.goto 4, 3) := by decide +kernel
theorem zd_Mo_changeOf_42 : decode zb_Mo_changeOf 42 = .ok (.iconst 0, 1) := by decide +kernel
theorem zd_Mo_changeOf_43 : decode zb_Mo_changeOf 43 = .ok (.istore 6, 2) := by decide +kernel
theorem zd_Mo_changeOf_45 : decode zb_Mo_changeOf 45 = .ok (.iload 6, 2) := by decide +kernel
theorem zd_Mo_changeOf_47 : decode zb_Mo_changeOf 47 = .ok (.ifCond .eq 31, 3) := by decide +kernel
theorem zd_Mo_changeOf_50 : decode zb_Mo_changeOf 50 = .ok (.iload 4, 2) := by decide +kernel
theorem zd_Mo_changeOf_52 : decode zb_Mo_changeOf 52 = .ok (.ifCond .lt 21, 3) := by decide +kernel
theorem zd_Mo_changeOf_55 : decode zb_Mo_changeOf 55 = .ok (.aload_n 0, 1) := by decide +kernel
theorem zd_Mo_changeOf_56 : decode zb_Mo_changeOf 56 = .ok (.getfield 32, 3) := by decide +kernel
theorem zd_Mo_changeOf_59 : decode zb_Mo_changeOf 59 = .ok (.iload 5, 2) := by decide +kernel
theorem zd_Mo_changeOf_61 : decode zb_Mo_changeOf 61 = .ok (.laload, 1) := by decide +kernel
theorem zd_Mo_changeOf_62 : decode zb_Mo_changeOf 62 = .ok (.aload_n 0, 1) := by decide +kernel
theorem zd_Mo_changeOf_63 : decode zb_Mo_changeOf 63 = .ok (.getfield 32, 3) := by decide +kernel
theorem zd_Mo_changeOf_66 : decode zb_Mo_changeOf 66 = .ok (.iload 4, 2) := by decide +kernel
theorem zd_Mo_changeOf_68 : decode zb_Mo_changeOf 68 = .ok (.laload, 1) := by decide +kernel
theorem zd_Mo_changeOf_69 : decode zb_Mo_changeOf 69 = .ok (.lcmp, 1) := by decide +kernel
theorem zd_Mo_changeOf_70 : decode zb_Mo_changeOf 70 = .ok (.ifCond .lt 8, 3) := by decide +kernel
theorem zd_Mo_changeOf_73 : decode zb_Mo_changeOf 73 = .ok (.iload 5, 2) := by decide +kernel
theorem zd_Mo_changeOf_75 : decode zb_Mo_changeOf 75 = .ok (.goto 5, 3) := by decide +kernel
theorem zd_Mo_changeOf_78 : decode zb_Mo_changeOf 78 = .ok (.iload 4, 2) := by decide +kernel
theorem zd_Mo_changeOf_80 : decode zb_Mo_changeOf 80 = .ok (.istore 4, 2) := by decide +kernel
theorem zd_Mo_changeOf_82 : decode zb_Mo_changeOf 82 = .ok (.iinc 5 1, 3) := by decide +kernel
theorem zd_Mo_changeOf_85 : decode zb_Mo_changeOf 85 = .ok (.goto (-79), 3) := by decide +kernel
theorem zd_Mo_changeOf_88 : decode zb_Mo_changeOf 88 = .ok (.iload 4, 2) := by decide +kernel
theorem zd_Mo_changeOf_90 : decode zb_Mo_changeOf 90 = .ok (.ireturn, 1) := by decide +kernel
theorem zd_Mo_kindOn_0 : decode zb_Mo_kindOn 0 = .ok (.aload_n 0, 1) := by decide +kernel
theorem zd_Mo_kindOn_1 : decode zb_Mo_kindOn 1 = .ok (.iload_n 1, 1) := by decide +kernel
theorem zd_Mo_kindOn_2 : decode zb_Mo_kindOn 2 = .ok (.lload_n 2, 1) := by decide +kernel
theorem zd_Mo_kindOn_3 : decode zb_Mo_kindOn 3 = .ok (.invokevirtual 104, 3) := by decide +kernel
theorem zd_Mo_kindOn_6 : decode zb_Mo_kindOn 6 = .ok (.istore 4, 2) := by decide +kernel
theorem zd_Mo_kindOn_8 : decode zb_Mo_kindOn 8 = .ok (.iload 4, 2) := by decide +kernel
theorem zd_Mo_kindOn_10 : decode zb_Mo_kindOn 10 = .ok (.ifCond .ge 12, 3) := by decide +kernel
theorem zd_Mo_kindOn_13 : decode zb_Mo_kindOn 13 = .ok (.aload_n 0, 1) := by decide +kernel
theorem zd_Mo_kindOn_14 : decode zb_Mo_kindOn 14 = .ok (.getfield 16, 3) := by decide +kernel
theorem zd_Mo_kindOn_17 : decode zb_Mo_kindOn 17 = .ok (.iload_n 1, 1) := by decide +kernel
theorem zd_Mo_kindOn_18 : decode zb_Mo_kindOn 18 = .ok (.iaload, 1) := by decide +kernel
theorem zd_Mo_kindOn_19 : decode zb_Mo_kindOn 19 = .ok (.goto 10, 3) := by decide +kernel
theorem zd_Mo_kindOn_22 : decode zb_Mo_kindOn 22 = .ok (.aload_n 0, 1) := by decide +kernel
theorem zd_Mo_kindOn_23 : decode zb_Mo_kindOn 23 = .ok (.getfield 35, 3) := by decide +kernel
theorem zd_Mo_kindOn_26 : decode zb_Mo_kindOn 26 = .ok (.iload 4, 2) := by decide +kernel
theorem zd_Mo_kindOn_28 : decode zb_Mo_kindOn 28 = .ok (.iaload, 1) := by decide +kernel
theorem zd_Mo_kindOn_29 : decode zb_Mo_kindOn 29 = .ok (.ireturn, 1) := by decide +kernel
theorem zd_Mo_gramsOn_0 : decode zb_Mo_gramsOn 0 = .ok (.aload_n 0, 1) := by decide +kernel
theorem zd_Mo_gramsOn_1 : decode zb_Mo_gramsOn 1 = .ok (.iload_n 1, 1) := by decide +kernel
theorem zd_Mo_gramsOn_2 : decode zb_Mo_gramsOn 2 = .ok (.lload_n 2, 1) := by decide +kernel
theorem zd_Mo_gramsOn_3 : decode zb_Mo_gramsOn 3 = .ok (.invokevirtual 104, 3) := by decide +kernel
theorem zd_Mo_gramsOn_6 : decode zb_Mo_gramsOn 6 = .ok (.istore 4, 2) := by decide +kernel
theorem zd_Mo_gramsOn_8 : decode zb_Mo_gramsOn 8 = .ok (.iload 4, 2) := by decide +kernel
theorem zd_Mo_gramsOn_10 : decode zb_Mo_gramsOn 10 = .ok (.ifCond .ge 12, 3) := by decide +kernel
theorem zd_Mo_gramsOn_13 : decode zb_Mo_gramsOn 13 = .ok (.aload_n 0, 1) := by decide +kernel
theorem zd_Mo_gramsOn_14 : decode zb_Mo_gramsOn 14 = .ok (.getfield 19, 3) := by decide +kernel
theorem zd_Mo_gramsOn_17 : decode zb_Mo_gramsOn 17 = .ok (.iload_n 1, 1) := by decide +kernel
theorem zd_Mo_gramsOn_18 : decode zb_Mo_gramsOn 18 = .ok (.laload, 1) := by decide +kernel
theorem zd_Mo_gramsOn_19 : decode zb_Mo_gramsOn 19 = .ok (.goto 10, 3) := by decide +kernel
theorem zd_Mo_gramsOn_22 : decode zb_Mo_gramsOn 22 = .ok (.aload_n 0, 1) := by decide +kernel
theorem zd_Mo_gramsOn_23 : decode zb_Mo_gramsOn 23 = .ok (.getfield 38, 3) := by decide +kernel
theorem zd_Mo_gramsOn_26 : decode zb_Mo_gramsOn 26 = .ok (.iload 4, 2) := by decide +kernel
theorem zd_Mo_gramsOn_28 : decode zb_Mo_gramsOn 28 = .ok (.laload, 1) := by decide +kernel
theorem zd_Mo_gramsOn_29 : decode zb_Mo_gramsOn 29 = .ok (.lreturn, 1) := by decide +kernel
theorem zd_Mo_sum_0 : decode zb_Mo_sum 0 = .ok (.iconst 0, 1) := by decide +kernel
theorem zd_Mo_sum_1 : decode zb_Mo_sum 1 = .ok (.istore 4, 2) := by decide +kernel
theorem zd_Mo_sum_3 : decode zb_Mo_sum 3 = .ok (.iload 4, 2) := by decide +kernel
theorem zd_Mo_sum_5 : decode zb_Mo_sum 5 = .ok (.bipush 8, 2) := by decide +kernel
theorem zd_Mo_sum_7 : decode zb_Mo_sum 7 = .ok (.if_icmp .ge 25, 3) := by decide +kernel
theorem zd_Mo_sum_10 : decode zb_Mo_sum 10 = .ok (.aload_n 0, 1) := by decide +kernel
theorem zd_Mo_sum_11 : decode zb_Mo_sum 11 = .ok (.getfield 57, 3) := by decide +kernel
theorem zd_Mo_sum_14 : decode zb_Mo_sum 14 = .ok (.iload 4, 2) := by decide +kernel
theorem zd_Mo_sum_16 : decode zb_Mo_sum 16 = .ok (.lconst 0, 1) := by decide +kernel
theorem zd_Mo_sum_17 : decode zb_Mo_sum 17 = .ok (.lastore, 1) := by decide +kernel
theorem zd_Mo_sum_18 : decode zb_Mo_sum 18 = .ok (.aload_n 0, 1) := by decide +kernel
theorem zd_Mo_sum_19 : decode zb_Mo_sum 19 = .ok (.getfield 60, 3) := by decide +kernel
theorem zd_Mo_sum_22 : decode zb_Mo_sum 22 = .ok (.iload 4, 2) := by decide +kernel
theorem zd_Mo_sum_24 : decode zb_Mo_sum 24 = .ok (.lconst 0, 1) := by decide +kernel
theorem zd_Mo_sum_25 : decode zb_Mo_sum 25 = .ok (.lastore, 1) := by decide +kernel
theorem zd_Mo_sum_26 : decode zb_Mo_sum 26 = .ok (.iinc 4 1, 3) := by decide +kernel
theorem zd_Mo_sum_29 : decode zb_Mo_sum 29 = .ok (.goto (-26), 3) := by decide +kernel
theorem zd_Mo_sum_32 : decode zb_Mo_sum 32 = .ok (.iconst 0, 1) := by decide +kernel
theorem zd_Mo_sum_33 : decode zb_Mo_sum 33 = .ok (.istore 4, 2) := by decide +kernel
theorem zd_Mo_sum_35 : decode zb_Mo_sum 35 = .ok (.iload 4, 2) := by decide +kernel
theorem zd_Mo_sum_37 : decode zb_Mo_sum 37 = .ok (.aload_n 0, 1) := by decide +kernel
theorem zd_Mo_sum_38 : decode zb_Mo_sum 38 = .ok (.getfield 70, 3) := by decide +kernel
theorem zd_Mo_sum_41 : decode zb_Mo_sum 41 = .ok (.if_icmp .ge 46, 3) := by decide +kernel
theorem zd_Mo_sum_44 : decode zb_Mo_sum 44 = .ok (.aload_n 0, 1) := by decide +kernel
theorem zd_Mo_sum_45 : decode zb_Mo_sum 45 = .ok (.getfield 57, 3) := by decide +kernel
theorem zd_Mo_sum_48 : decode zb_Mo_sum 48 = .ok (.aload_n 0, 1) := by decide +kernel
theorem zd_Mo_sum_49 : decode zb_Mo_sum 49 = .ok (.getfield 13, 3) := by decide +kernel
theorem zd_Mo_sum_52 : decode zb_Mo_sum 52 = .ok (.iload 4, 2) := by decide +kernel
theorem zd_Mo_sum_54 : decode zb_Mo_sum 54 = .ok (.iaload, 1) := by decide +kernel
theorem zd_Mo_sum_55 : decode zb_Mo_sum 55 = .ok (.dup2, 1) := by decide +kernel
theorem zd_Mo_sum_56 : decode zb_Mo_sum 56 = .ok (.laload, 1) := by decide +kernel
theorem zd_Mo_sum_57 : decode zb_Mo_sum 57 = .ok (.aload_n 0, 1) := by decide +kernel
theorem zd_Mo_sum_58 : decode zb_Mo_sum 58 = .ok (.iload 4, 2) := by decide +kernel
theorem zd_Mo_sum_60 : decode zb_Mo_sum 60 = .ok (.lload_n 2, 1) := by decide +kernel
theorem zd_Mo_sum_61 : decode zb_Mo_sum 61 = .ok (.invokevirtual 108, 3) := by decide +kernel
theorem zd_Mo_sum_64 : decode zb_Mo_sum 64 = .ok (.iload_n 1, 1) := by decide +kernel
theorem zd_Mo_sum_65 : decode zb_Mo_sum 65 = .ok (.if_icmp .ne 13, 3) := by decide +kernel
theorem zd_Mo_sum_68 : decode zb_Mo_sum 68 = .ok (.aload_n 0, 1) := by decide +kernel
theorem zd_Mo_sum_69 : decode zb_Mo_sum 69 = .ok (.iload 4, 2) := by decide +kernel
theorem zd_Mo_sum_71 : decode zb_Mo_sum 71 = .ok (.lload_n 2, 1) := by decide +kernel
theorem zd_Mo_sum_72 : decode zb_Mo_sum 72 = .ok (.invokevirtual 111, 3) := by decide +kernel
theorem zd_Mo_sum_75 : decode zb_Mo_sum 75 = .ok (.goto 4, 3) := by decide +kernel
theorem zd_Mo_sum_78 : decode zb_Mo_sum 78 = .ok (.lconst 0, 1) := by decide +kernel
theorem zd_Mo_sum_79 : decode zb_Mo_sum 79 = .ok (.ladd, 1) := by decide +kernel
theorem zd_Mo_sum_80 : decode zb_Mo_sum 80 = .ok (.lastore, 1) := by decide +kernel
theorem zd_Mo_sum_81 : decode zb_Mo_sum 81 = .ok (.iinc 4 1, 3) := by decide +kernel
theorem zd_Mo_sum_84 : decode zb_Mo_sum 84 = .ok (.goto (-49), 3) := by decide +kernel
theorem zd_Mo_sum_87 : decode zb_Mo_sum 87 = .ok (.iconst 0, 1) := by decide +kernel
theorem zd_Mo_sum_88 : decode zb_Mo_sum 88 = .ok (.istore 4, 2) := by decide +kernel
theorem zd_Mo_sum_90 : decode zb_Mo_sum 90 = .ok (.iload 4, 2) := by decide +kernel
theorem zd_Mo_sum_92 : decode zb_Mo_sum 92 = .ok (.bipush 8, 2) := by decide +kernel
theorem zd_Mo_sum_94 : decode zb_Mo_sum 94 = .ok (.if_icmp .ge 128, 3) := by decide +kernel
theorem zd_Mo_sum_97 : decode zb_Mo_sum 97 = .ok (.iconst 0, 1) := by decide +kernel
theorem zd_Mo_sum_98 : decode zb_Mo_sum 98 = .ok (.istore 5, 2) := by decide +kernel
theorem zd_Mo_sum_100 : decode zb_Mo_sum 100 = .ok (.iload 5, 2) := by decide +kernel
theorem zd_Mo_sum_102 : decode zb_Mo_sum 102 = .ok (.bipush 8, 2) := by decide +kernel
theorem zd_Mo_sum_104 : decode zb_Mo_sum 104 = .ok (.if_icmp .ge 23, 3) := by decide +kernel
theorem zd_Mo_sum_107 : decode zb_Mo_sum 107 = .ok (.aload_n 0, 1) := by decide +kernel
theorem zd_Mo_sum_108 : decode zb_Mo_sum 108 = .ok (.getfield 63, 3) := by decide +kernel
theorem zd_Mo_sum_111 : decode zb_Mo_sum 111 = .ok (.iload 5, 2) := by decide +kernel
theorem zd_Mo_sum_113 : decode zb_Mo_sum 113 = .ok (.aload_n 0, 1) := by decide +kernel
theorem zd_Mo_sum_114 : decode zb_Mo_sum 114 = .ok (.getfield 57, 3) := by decide +kernel
theorem zd_Mo_sum_117 : decode zb_Mo_sum 117 = .ok (.iload 5, 2) := by decide +kernel
theorem zd_Mo_sum_119 : decode zb_Mo_sum 119 = .ok (.laload, 1) := by decide +kernel
theorem zd_Mo_sum_120 : decode zb_Mo_sum 120 = .ok (.lastore, 1) := by decide +kernel
theorem zd_Mo_sum_121 : decode zb_Mo_sum 121 = .ok (.iinc 5 1, 3) := by decide +kernel
theorem zd_Mo_sum_124 : decode zb_Mo_sum 124 = .ok (.goto (-24), 3) := by decide +kernel
theorem zd_Mo_sum_127 : decode zb_Mo_sum 127 = .ok (.iconst 0, 1) := by decide +kernel
theorem zd_Mo_sum_128 : decode zb_Mo_sum 128 = .ok (.istore 5, 2) := by decide +kernel
theorem zd_Mo_sum_130 : decode zb_Mo_sum 130 = .ok (.iload 5, 2) := by decide +kernel
theorem zd_Mo_sum_132 : decode zb_Mo_sum 132 = .ok (.aload_n 0, 1) := by decide +kernel
theorem zd_Mo_sum_133 : decode zb_Mo_sum 133 = .ok (.getfield 70, 3) := by decide +kernel
theorem zd_Mo_sum_136 : decode zb_Mo_sum 136 = .ok (.if_icmp .ge 50, 3) := by decide +kernel
theorem zd_Mo_sum_139 : decode zb_Mo_sum 139 = .ok (.aload_n 0, 1) := by decide +kernel
theorem zd_Mo_sum_140 : decode zb_Mo_sum 140 = .ok (.getfield 63, 3) := by decide +kernel
theorem zd_Mo_sum_143 : decode zb_Mo_sum 143 = .ok (.aload_n 0, 1) := by decide +kernel
theorem zd_Mo_sum_144 : decode zb_Mo_sum 144 = .ok (.getfield 13, 3) := by decide +kernel
theorem zd_Mo_sum_147 : decode zb_Mo_sum 147 = .ok (.iload 5, 2) := by decide +kernel
theorem zd_Mo_sum_149 : decode zb_Mo_sum 149 = .ok (.iaload, 1) := by decide +kernel
theorem zd_Mo_sum_150 : decode zb_Mo_sum 150 = .ok (.dup2, 1) := by decide +kernel
theorem zd_Mo_sum_151 : decode zb_Mo_sum 151 = .ok (.laload, 1) := by decide +kernel
theorem zd_Mo_sum_152 : decode zb_Mo_sum 152 = .ok (.aload_n 0, 1) := by decide +kernel
theorem zd_Mo_sum_153 : decode zb_Mo_sum 153 = .ok (.getfield 26, 3) := by decide +kernel
theorem zd_Mo_sum_156 : decode zb_Mo_sum 156 = .ok (.iload 5, 2) := by decide +kernel
theorem zd_Mo_sum_158 : decode zb_Mo_sum 158 = .ok (.iaload, 1) := by decide +kernel
theorem zd_Mo_sum_159 : decode zb_Mo_sum 159 = .ok (.ifCond .ge 7, 3) := by decide +kernel
theorem zd_Mo_sum_162 : decode zb_Mo_sum 162 = .ok (.lconst 0, 1) := by decide +kernel
theorem zd_Mo_sum_163 : decode zb_Mo_sum 163 = .ok (.goto 15, 3) := by decide +kernel
theorem zd_Mo_sum_166 : decode zb_Mo_sum 166 = .ok (.aload_n 0, 1) := by decide +kernel
theorem zd_Mo_sum_167 : decode zb_Mo_sum 167 = .ok (.getfield 60, 3) := by decide +kernel
theorem zd_Mo_sum_170 : decode zb_Mo_sum 170 = .ok (.aload_n 0, 1) := by decide +kernel
theorem zd_Mo_sum_171 : decode zb_Mo_sum 171 = .ok (.getfield 26, 3) := by decide +kernel
theorem zd_Mo_sum_174 : decode zb_Mo_sum 174 = .ok (.iload 5, 2) := by decide +kernel
theorem zd_Mo_sum_176 : decode zb_Mo_sum 176 = .ok (.iaload, 1) := by decide +kernel
theorem zd_Mo_sum_177 : decode zb_Mo_sum 177 = .ok (.laload, 1) := by decide +kernel
theorem zd_Mo_sum_178 : decode zb_Mo_sum 178 = .ok (.ladd, 1) := by decide +kernel
theorem zd_Mo_sum_179 : decode zb_Mo_sum 179 = .ok (.lastore, 1) := by decide +kernel
theorem zd_Mo_sum_180 : decode zb_Mo_sum 180 = .ok (.iinc 5 1, 3) := by decide +kernel
theorem zd_Mo_sum_183 : decode zb_Mo_sum 183 = .ok (.goto (-53), 3) := by decide +kernel
theorem zd_Mo_sum_186 : decode zb_Mo_sum 186 = .ok (.iconst 0, 1) := by decide +kernel
theorem zd_Mo_sum_187 : decode zb_Mo_sum 187 = .ok (.istore 5, 2) := by decide +kernel
theorem zd_Mo_sum_189 : decode zb_Mo_sum 189 = .ok (.iload 5, 2) := by decide +kernel
theorem zd_Mo_sum_191 : decode zb_Mo_sum 191 = .ok (.bipush 8, 2) := by decide +kernel
theorem zd_Mo_sum_193 : decode zb_Mo_sum 193 = .ok (.if_icmp .ge 23, 3) := by decide +kernel
theorem zd_Mo_sum_196 : decode zb_Mo_sum 196 = .ok (.aload_n 0, 1) := by decide +kernel
theorem zd_Mo_sum_197 : decode zb_Mo_sum 197 = .ok (.getfield 60, 3) := by decide +kernel
theorem zd_Mo_sum_200 : decode zb_Mo_sum 200 = .ok (.iload 5, 2) := by decide +kernel
theorem zd_Mo_sum_202 : decode zb_Mo_sum 202 = .ok (.aload_n 0, 1) := by decide +kernel
theorem zd_Mo_sum_203 : decode zb_Mo_sum 203 = .ok (.getfield 63, 3) := by decide +kernel
theorem zd_Mo_sum_206 : decode zb_Mo_sum 206 = .ok (.iload 5, 2) := by decide +kernel
theorem zd_Mo_sum_208 : decode zb_Mo_sum 208 = .ok (.laload, 1) := by decide +kernel
theorem zd_Mo_sum_209 : decode zb_Mo_sum 209 = .ok (.lastore, 1) := by decide +kernel
theorem zd_Mo_sum_210 : decode zb_Mo_sum 210 = .ok (.iinc 5 1, 3) := by decide +kernel
theorem zd_Mo_sum_213 : decode zb_Mo_sum 213 = .ok (.goto (-24), 3) := by decide +kernel
theorem zd_Mo_sum_216 : decode zb_Mo_sum 216 = .ok (.iinc 4 1, 3) := by decide +kernel
theorem zd_Mo_sum_219 : decode zb_Mo_sum 219 = .ok (.goto (-129), 3) := by decide +kernel
theorem zd_Mo_sum_222 : decode zb_Mo_sum 222 = .ok (.return_, 1) := by decide +kernel
theorem zd_Mo_totalOn_0 : decode zb_Mo_totalOn 0 = .ok (.aload_n 0, 1) := by decide +kernel
theorem zd_Mo_totalOn_1 : decode zb_Mo_totalOn 1 = .ok (.iload_n 1, 1) := by decide +kernel
theorem zd_Mo_totalOn_2 : decode zb_Mo_totalOn 2 = .ok (.invokevirtual 73, 3) := by decide +kernel
theorem zd_Mo_totalOn_5 : decode zb_Mo_totalOn 5 = .ok (.ifCond .eq 21, 3) := by decide +kernel
theorem zd_Mo_totalOn_8 : decode zb_Mo_totalOn 8 = .ok (.iload_n 2, 1) := by decide +kernel
theorem zd_Mo_totalOn_9 : decode zb_Mo_totalOn 9 = .ok (.invokestatic 77, 3) := by decide +kernel
theorem zd_Mo_totalOn_12 : decode zb_Mo_totalOn 12 = .ok (.ifCond .eq 14, 3) := by decide +kernel
theorem zd_Mo_totalOn_15 : decode zb_Mo_totalOn 15 = .ok (.lload_n 3, 1) := by decide +kernel
theorem zd_Mo_totalOn_16 : decode zb_Mo_totalOn 16 = .ok (.lconst 0, 1) := by decide +kernel
theorem zd_Mo_totalOn_17 : decode zb_Mo_totalOn 17 = .ok (.ldc2_w 98, 3) := by decide +kernel
theorem zd_Mo_totalOn_20 : decode zb_Mo_totalOn 20 = .ok (.invokestatic 82, 3) := by decide +kernel
theorem zd_Mo_totalOn_23 : decode zb_Mo_totalOn 23 = .ok (.ifCond .ne 7, 3) := by decide +kernel
theorem zd_Mo_totalOn_26 : decode zb_Mo_totalOn 26 = .ok (.ldc2_w 119, 3) := by decide +kernel
theorem zd_Mo_totalOn_29 : decode zb_Mo_totalOn 29 = .ok (.lreturn, 1) := by decide +kernel
theorem zd_Mo_totalOn_30 : decode zb_Mo_totalOn 30 = .ok (.aload_n 0, 1) := by decide +kernel
theorem zd_Mo_totalOn_31 : decode zb_Mo_totalOn 31 = .ok (.iload_n 2, 1) := by decide +kernel
theorem zd_Mo_totalOn_32 : decode zb_Mo_totalOn 32 = .ok (.lload_n 3, 1) := by decide +kernel
theorem zd_Mo_totalOn_33 : decode zb_Mo_totalOn 33 = .ok (.invokevirtual 121, 3) := by decide +kernel
theorem zd_Mo_totalOn_36 : decode zb_Mo_totalOn 36 = .ok (.aload_n 0, 1) := by decide +kernel
theorem zd_Mo_totalOn_37 : decode zb_Mo_totalOn 37 = .ok (.getfield 60, 3) := by decide +kernel
theorem zd_Mo_totalOn_40 : decode zb_Mo_totalOn 40 = .ok (.iload_n 1, 1) := by decide +kernel
theorem zd_Mo_totalOn_41 : decode zb_Mo_totalOn 41 = .ok (.laload, 1) := by decide +kernel
theorem zd_Mo_totalOn_42 : decode zb_Mo_totalOn 42 = .ok (.lreturn, 1) := by decide +kernel
theorem zd_Mo_total_0 : decode zb_Mo_total 0 = .ok (.aload_n 0, 1) := by decide +kernel
theorem zd_Mo_total_1 : decode zb_Mo_total 1 = .ok (.iload_n 1, 1) := by decide +kernel
theorem zd_Mo_total_2 : decode zb_Mo_total 2 = .ok (.iload_n 2, 1) := by decide +kernel
theorem zd_Mo_total_3 : decode zb_Mo_total 3 = .ok (.ldc2_w 98, 3) := by decide +kernel
theorem zd_Mo_total_6 : decode zb_Mo_total 6 = .ok (.invokevirtual 115, 3) := by decide +kernel
theorem zd_Mo_total_9 : decode zb_Mo_total 9 = .ok (.lreturn, 1) := by decide +kernel
theorem zd_Mo_frees_0 : decode zb_Mo_frees 0 = .ok (.iload_n 1, 1) := by decide +kernel
theorem zd_Mo_frees_1 : decode zb_Mo_frees 1 = .ok (.invokestatic 77, 3) := by decide +kernel
theorem zd_Mo_frees_4 : decode zb_Mo_frees 4 = .ok (.ifCond .eq 15, 3) := by decide +kernel
theorem zd_Mo_frees_7 : decode zb_Mo_frees 7 = .ok (.iload_n 2, 1) := by decide +kernel
theorem zd_Mo_frees_8 : decode zb_Mo_frees 8 = .ok (.i2l, 1) := by decide +kernel
theorem zd_Mo_frees_9 : decode zb_Mo_frees 9 = .ok (.lconst 0, 1) := by decide +kernel
theorem zd_Mo_frees_10 : decode zb_Mo_frees 10 = .ok (.ldc2_w 86, 3) := by decide +kernel
theorem zd_Mo_frees_13 : decode zb_Mo_frees 13 = .ok (.invokestatic 82, 3) := by decide +kernel
theorem zd_Mo_frees_16 : decode zb_Mo_frees 16 = .ok (.ifCond .ne 7, 3) := by decide +kernel
theorem zd_Mo_frees_19 : decode zb_Mo_frees 19 = .ok (.ldc2_w 119, 3) := by decide +kernel
theorem zd_Mo_frees_22 : decode zb_Mo_frees 22 = .ok (.lreturn, 1) := by decide +kernel
theorem zd_Mo_frees_23 : decode zb_Mo_frees 23 = .ok (.lconst 0, 1) := by decide +kernel
theorem zd_Mo_frees_24 : decode zb_Mo_frees 24 = .ok (.lstore_n 3, 1) := by decide +kernel
theorem zd_Mo_frees_25 : decode zb_Mo_frees 25 = .ok (.iconst 0, 1) := by decide +kernel
theorem zd_Mo_frees_26 : decode zb_Mo_frees 26 = .ok (.istore 5, 2) := by decide +kernel
theorem zd_Mo_frees_28 : decode zb_Mo_frees 28 = .ok (.iload 5, 2) := by decide +kernel
theorem zd_Mo_frees_30 : decode zb_Mo_frees 30 = .ok (.aload_n 0, 1) := by decide +kernel
theorem zd_Mo_frees_31 : decode zb_Mo_frees 31 = .ok (.getfield 70, 3) := by decide +kernel
theorem zd_Mo_frees_34 : decode zb_Mo_frees 34 = .ok (.if_icmp .ge 49, 3) := by decide +kernel
theorem zd_Mo_frees_37 : decode zb_Mo_frees 37 = .ok (.lload_n 3, 1) := by decide +kernel
theorem zd_Mo_frees_38 : decode zb_Mo_frees 38 = .ok (.aload_n 0, 1) := by decide +kernel
theorem zd_Mo_frees_39 : decode zb_Mo_frees 39 = .ok (.getfield 23, 3) := by decide +kernel
theorem zd_Mo_frees_42 : decode zb_Mo_frees 42 = .ok (.iload 5, 2) := by decide +kernel
theorem zd_Mo_frees_44 : decode zb_Mo_frees 44 = .ok (.iaload, 1) := by decide +kernel
theorem zd_Mo_frees_45 : decode zb_Mo_frees 45 = .ok (.iload_n 2, 1) := by decide +kernel
theorem zd_Mo_frees_46 : decode zb_Mo_frees 46 = .ok (.if_icmp .ne 28, 3) := by decide +kernel
theorem zd_Mo_frees_49 : decode zb_Mo_frees 49 = .ok (.aload_n 0, 1) := by decide +kernel
theorem zd_Mo_frees_50 : decode zb_Mo_frees 50 = .ok (.iload 5, 2) := by decide +kernel
theorem zd_Mo_frees_52 : decode zb_Mo_frees 52 = .ok (.ldc2_w 98, 3) := by decide +kernel
theorem zd_Mo_frees_55 : decode zb_Mo_frees 55 = .ok (.invokevirtual 108, 3) := by decide +kernel
theorem zd_Mo_frees_58 : decode zb_Mo_frees 58 = .ok (.iload_n 1, 1) := by decide +kernel
theorem zd_Mo_frees_59 : decode zb_Mo_frees 59 = .ok (.if_icmp .ne 15, 3) := by decide +kernel
theorem zd_Mo_frees_62 : decode zb_Mo_frees 62 = .ok (.aload_n 0, 1) := by decide +kernel
theorem zd_Mo_frees_63 : decode zb_Mo_frees 63 = .ok (.iload 5, 2) := by decide +kernel
theorem zd_Mo_frees_65 : decode zb_Mo_frees 65 = .ok (.ldc2_w 98, 3) := by decide +kernel
theorem zd_Mo_frees_68 : decode zb_Mo_frees 68 = .ok (.invokevirtual 111, 3) := by decide +kernel
theorem zd_Mo_frees_71 : decode zb_Mo_frees 71 = .ok (.goto 4, 3) := by decide +kernel
theorem zd_Mo_frees_74 : decode zb_Mo_frees 74 = .ok (.lconst 0, 1) := by decide +kernel
theorem zd_Mo_frees_75 : decode zb_Mo_frees 75 = .ok (.ladd, 1) := by decide +kernel
theorem zd_Mo_frees_76 : decode zb_Mo_frees 76 = .ok (.lstore_n 3, 1) := by decide +kernel
theorem zd_Mo_frees_77 : decode zb_Mo_frees 77 = .ok (.iinc 5 1, 3) := by decide +kernel
theorem zd_Mo_frees_80 : decode zb_Mo_frees 80 = .ok (.goto (-52), 3) := by decide +kernel
theorem zd_Mo_frees_83 : decode zb_Mo_frees 83 = .ok (.lload_n 3, 1) := by decide +kernel
theorem zd_Mo_frees_84 : decode zb_Mo_frees 84 = .ok (.lreturn, 1) := by decide +kernel
theorem zd_Mo_version_0 : decode zb_Mo_version 0 = .ok (.aload_n 0, 1) := by decide +kernel
theorem zd_Mo_version_1 : decode zb_Mo_version 1 = .ok (.iload_n 1, 1) := by decide +kernel
theorem zd_Mo_version_2 : decode zb_Mo_version 2 = .ok (.invokevirtual 73, 3) := by decide +kernel
theorem zd_Mo_version_5 : decode zb_Mo_version 5 = .ok (.ifCond .eq 12, 3) := by decide +kernel
theorem zd_Mo_version_8 : decode zb_Mo_version 8 = .ok (.aload_n 0, 1) := by decide +kernel
theorem zd_Mo_version_9 : decode zb_Mo_version 9 = .ok (.getfield 7, 3) := by decide +kernel
theorem zd_Mo_version_12 : decode zb_Mo_version 12 = .ok (.iload_n 1, 1) := by decide +kernel
theorem zd_Mo_version_13 : decode zb_Mo_version 13 = .ok (.iaload, 1) := by decide +kernel
theorem zd_Mo_version_14 : decode zb_Mo_version 14 = .ok (.goto 4, 3) := by decide +kernel
theorem zd_Mo_version_17 : decode zb_Mo_version 17 = .ok (.iconst (-1), 1) := by decide +kernel
theorem zd_Mo_version_18 : decode zb_Mo_version 18 = .ok (.ireturn, 1) := by decide +kernel
theorem zd_Mo_right_0 : decode zb_Mo_right 0 = .ok (.iload_n 1, 1) := by decide +kernel
theorem zd_Mo_right_1 : decode zb_Mo_right 1 = .ok (.i2l, 1) := by decide +kernel
theorem zd_Mo_right_2 : decode zb_Mo_right 2 = .ok (.lconst 0, 1) := by decide +kernel
theorem zd_Mo_right_3 : decode zb_Mo_right 3 = .ok (.ldc2_w 125, 3) := by decide +kernel
theorem zd_Mo_right_6 : decode zb_Mo_right 6 = .ok (.invokestatic 82, 3) := by decide +kernel
theorem zd_Mo_right_9 : decode zb_Mo_right 9 = .ok (.ifCond .eq 11, 3) := by decide +kernel
theorem zd_Mo_right_12 : decode zb_Mo_right 12 = .ok (.aload_n 0, 1) := by decide +kernel
theorem zd_Mo_right_13 : decode zb_Mo_right 13 = .ok (.iload_n 2, 1) := by decide +kernel
theorem zd_Mo_right_14 : decode zb_Mo_right 14 = .ok (.invokevirtual 73, 3) := by decide +kernel
theorem zd_Mo_right_17 : decode zb_Mo_right 17 = .ok (.ifCond .ne 5, 3) := by decide +kernel
theorem zd_Mo_right_20 : decode zb_Mo_right 20 = .ok (.iconst 0, 1) := by decide +kernel
theorem zd_Mo_right_21 : decode zb_Mo_right 21 = .ok (.ireturn, 1) := by decide +kernel
theorem zd_Mo_right_22 : decode zb_Mo_right 22 = .ok (.aload_n 0, 1) := by decide +kernel
theorem zd_Mo_right_23 : decode zb_Mo_right 23 = .ok (.getfield 41, 3) := by decide +kernel
theorem zd_Mo_right_26 : decode zb_Mo_right 26 = .ok (.bipush 8, 2) := by decide +kernel
theorem zd_Mo_right_28 : decode zb_Mo_right 28 = .ok (.iload_n 1, 1) := by decide +kernel
theorem zd_Mo_right_29 : decode zb_Mo_right 29 = .ok (.imul, 1) := by decide +kernel
theorem zd_Mo_right_30 : decode zb_Mo_right 30 = .ok (.iload_n 2, 1) := by decide +kernel
theorem zd_Mo_right_31 : decode zb_Mo_right 31 = .ok (.iadd, 1) := by decide +kernel
theorem zd_Mo_right_32 : decode zb_Mo_right 32 = .ok (.iload_n 3, 1) := by decide +kernel
theorem zd_Mo_right_33 : decode zb_Mo_right 33 = .ok (.bastore, 1) := by decide +kernel
theorem zd_Mo_right_34 : decode zb_Mo_right 34 = .ok (.iconst 1, 1) := by decide +kernel
theorem zd_Mo_right_35 : decode zb_Mo_right 35 = .ok (.ireturn, 1) := by decide +kernel
theorem zd_Mo_partOf_0 : decode zb_Mo_partOf 0 = .ok (.iconst 0, 1) := by decide +kernel
theorem zd_Mo_partOf_1 : decode zb_Mo_partOf 1 = .ok (.istore_n 3, 1) := by decide +kernel
theorem zd_Mo_partOf_2 : decode zb_Mo_partOf 2 = .ok (.iconst 0, 1) := by decide +kernel
theorem zd_Mo_partOf_3 : decode zb_Mo_partOf 3 = .ok (.istore 4, 2) := by decide +kernel
theorem zd_Mo_partOf_5 : decode zb_Mo_partOf 5 = .ok (.iload 4, 2) := by decide +kernel
theorem zd_Mo_partOf_7 : decode zb_Mo_partOf 7 = .ok (.aload_n 0, 1) := by decide +kernel
theorem zd_Mo_partOf_8 : decode zb_Mo_partOf 8 = .ok (.getfield 70, 3) := by decide +kernel
theorem zd_Mo_partOf_11 : decode zb_Mo_partOf 11 = .ok (.if_icmp .ge 31, 3) := by decide +kernel
theorem zd_Mo_partOf_14 : decode zb_Mo_partOf 14 = .ok (.aload_n 0, 1) := by decide +kernel
theorem zd_Mo_partOf_15 : decode zb_Mo_partOf 15 = .ok (.getfield 13, 3) := by decide +kernel
theorem zd_Mo_partOf_18 : decode zb_Mo_partOf 18 = .ok (.iload 4, 2) := by decide +kernel
theorem zd_Mo_partOf_20 : decode zb_Mo_partOf 20 = .ok (.iaload, 1) := by decide +kernel
theorem zd_Mo_partOf_21 : decode zb_Mo_partOf 21 = .ok (.iload_n 1, 1) := by decide +kernel
theorem zd_Mo_partOf_22 : decode zb_Mo_partOf 22 = .ok (.if_icmp .ne 14, 3) := by decide +kernel
theorem zd_Mo_partOf_25 : decode zb_Mo_partOf 25 = .ok (.iload_n 3, 1) := by decide +kernel
theorem zd_Mo_partOf_26 : decode zb_Mo_partOf 26 = .ok (.iload_n 2, 1) := by decide +kernel
theorem zd_Mo_partOf_27 : decode zb_Mo_partOf 27 = .ok (.if_icmp .ne 6, 3) := by decide +kernel
theorem zd_Mo_partOf_30 : decode zb_Mo_partOf 30 = .ok (.iload 4, 2) := by decide +kernel
theorem zd_Mo_partOf_32 : decode zb_Mo_partOf 32 = .ok (.ireturn, 1) := by decide +kernel
theorem zd_Mo_partOf_33 : decode zb_Mo_partOf 33 = .ok (.iinc 3 1, 3) := by decide +kernel
theorem zd_Mo_partOf_36 : decode zb_Mo_partOf 36 = .ok (.iinc 4 1, 3) := by decide +kernel
theorem zd_Mo_partOf_39 : decode zb_Mo_partOf 39 = .ok (.goto (-34), 3) := by decide +kernel
theorem zd_Mo_partOf_42 : decode zb_Mo_partOf 42 = .ok (.iconst (-1), 1) := by decide +kernel
theorem zd_Mo_partOf_43 : decode zb_Mo_partOf 43 = .ok (.ireturn, 1) := by decide +kernel
theorem zd_Mo_seen_0 : decode zb_Mo_seen 0 = .ok (.iload_n 1, 1) := by decide +kernel
theorem zd_Mo_seen_1 : decode zb_Mo_seen 1 = .ok (.i2l, 1) := by decide +kernel
theorem zd_Mo_seen_2 : decode zb_Mo_seen 2 = .ok (.lconst 0, 1) := by decide +kernel
theorem zd_Mo_seen_3 : decode zb_Mo_seen 3 = .ok (.ldc2_w 125, 3) := by decide +kernel
theorem zd_Mo_seen_6 : decode zb_Mo_seen 6 = .ok (.invokestatic 82, 3) := by decide +kernel
theorem zd_Mo_seen_9 : decode zb_Mo_seen 9 = .ok (.ifCond .eq 33, 3) := by decide +kernel
theorem zd_Mo_seen_12 : decode zb_Mo_seen 12 = .ok (.aload_n 0, 1) := by decide +kernel
theorem zd_Mo_seen_13 : decode zb_Mo_seen 13 = .ok (.iload_n 2, 1) := by decide +kernel
theorem zd_Mo_seen_14 : decode zb_Mo_seen 14 = .ok (.invokevirtual 73, 3) := by decide +kernel
theorem zd_Mo_seen_17 : decode zb_Mo_seen 17 = .ok (.ifCond .eq 25, 3) := by decide +kernel
theorem zd_Mo_seen_20 : decode zb_Mo_seen 20 = .ok (.iload 4, 2) := by decide +kernel
theorem zd_Mo_seen_22 : decode zb_Mo_seen 22 = .ok (.i2l, 1) := by decide +kernel
theorem zd_Mo_seen_23 : decode zb_Mo_seen 23 = .ok (.lconst 0, 1) := by decide +kernel
theorem zd_Mo_seen_24 : decode zb_Mo_seen 24 = .ok (.ldc2_w 127, 3) := by decide +kernel
theorem zd_Mo_seen_27 : decode zb_Mo_seen 27 = .ok (.invokestatic 82, 3) := by decide +kernel
theorem zd_Mo_seen_30 : decode zb_Mo_seen 30 = .ok (.ifCond .eq 12, 3) := by decide +kernel
theorem zd_Mo_seen_33 : decode zb_Mo_seen 33 = .ok (.aload_n 0, 1) := by decide +kernel
theorem zd_Mo_seen_34 : decode zb_Mo_seen 34 = .ok (.iload_n 2, 1) := by decide +kernel
theorem zd_Mo_seen_35 : decode zb_Mo_seen 35 = .ok (.iload_n 3, 1) := by decide +kernel
theorem zd_Mo_seen_36 : decode zb_Mo_seen 36 = .ok (.invokevirtual 129, 3) := by decide +kernel
theorem zd_Mo_seen_39 : decode zb_Mo_seen 39 = .ok (.ifCond .ge 7, 3) := by decide +kernel
theorem zd_Mo_seen_42 : decode zb_Mo_seen 42 = .ok (.ldc2_w 119, 3) := by decide +kernel
theorem zd_Mo_seen_45 : decode zb_Mo_seen 45 = .ok (.lreturn, 1) := by decide +kernel
theorem zd_Mo_seen_46 : decode zb_Mo_seen 46 = .ok (.aload_n 0, 1) := by decide +kernel
theorem zd_Mo_seen_47 : decode zb_Mo_seen 47 = .ok (.iload_n 2, 1) := by decide +kernel
theorem zd_Mo_seen_48 : decode zb_Mo_seen 48 = .ok (.iload_n 3, 1) := by decide +kernel
theorem zd_Mo_seen_49 : decode zb_Mo_seen 49 = .ok (.invokevirtual 129, 3) := by decide +kernel
theorem zd_Mo_seen_52 : decode zb_Mo_seen 52 = .ok (.istore 5, 2) := by decide +kernel
theorem zd_Mo_seen_54 : decode zb_Mo_seen 54 = .ok (.aload_n 0, 1) := by decide +kernel
theorem zd_Mo_seen_55 : decode zb_Mo_seen 55 = .ok (.getfield 41, 3) := by decide +kernel
theorem zd_Mo_seen_58 : decode zb_Mo_seen 58 = .ok (.bipush 8, 2) := by decide +kernel
theorem zd_Mo_seen_60 : decode zb_Mo_seen 60 = .ok (.iload_n 1, 1) := by decide +kernel
theorem zd_Mo_seen_61 : decode zb_Mo_seen 61 = .ok (.imul, 1) := by decide +kernel
theorem zd_Mo_seen_62 : decode zb_Mo_seen 62 = .ok (.iload_n 2, 1) := by decide +kernel
theorem zd_Mo_seen_63 : decode zb_Mo_seen 63 = .ok (.iadd, 1) := by decide +kernel
theorem zd_Mo_seen_64 : decode zb_Mo_seen 64 = .ok (.baload, 1) := by decide +kernel
theorem zd_Mo_seen_65 : decode zb_Mo_seen 65 = .ok (.istore 6, 2) := by decide +kernel
theorem zd_Mo_seen_67 : decode zb_Mo_seen 67 = .ok (.iload 4, 2) := by decide +kernel
theorem zd_Mo_seen_69 : decode zb_Mo_seen 69 = .ok (.ifCond .ne 14, 3) := by decide +kernel
theorem zd_Mo_seen_72 : decode zb_Mo_seen 72 = .ok (.aload_n 0, 1) := by decide +kernel
theorem zd_Mo_seen_73 : decode zb_Mo_seen 73 = .ok (.iload 5, 2) := by decide +kernel
theorem zd_Mo_seen_75 : decode zb_Mo_seen 75 = .ok (.ldc2_w 98, 3) := by decide +kernel
theorem zd_Mo_seen_78 : decode zb_Mo_seen 78 = .ok (.invokevirtual 108, 3) := by decide +kernel
theorem zd_Mo_seen_81 : decode zb_Mo_seen 81 = .ok (.i2l, 1) := by decide +kernel
theorem zd_Mo_seen_82 : decode zb_Mo_seen 82 = .ok (.lreturn, 1) := by decide +kernel
theorem zd_Mo_seen_83 : decode zb_Mo_seen 83 = .ok (.iload 4, 2) := by decide +kernel
theorem zd_Mo_seen_85 : decode zb_Mo_seen 85 = .ok (.iconst 2, 1) := by decide +kernel
theorem zd_Mo_seen_86 : decode zb_Mo_seen 86 = .ok (.if_icmp .ne 23, 3) := by decide +kernel
theorem zd_Mo_seen_89 : decode zb_Mo_seen 89 = .ok (.iload 6, 2) := by decide +kernel
theorem zd_Mo_seen_91 : decode zb_Mo_seen 91 = .ok (.ifCond .eq 14, 3) := by decide +kernel
theorem zd_Mo_seen_94 : decode zb_Mo_seen 94 = .ok (.aload_n 0, 1) := by decide +kernel
theorem zd_Mo_seen_95 : decode zb_Mo_seen 95 = .ok (.getfield 23, 3) := by decide +kernel
theorem zd_Mo_seen_98 : decode zb_Mo_seen 98 = .ok (.iload 5, 2) := by decide +kernel
theorem zd_Mo_seen_100 : decode zb_Mo_seen 100 = .ok (.iaload, 1) := by decide +kernel
theorem zd_Mo_seen_101 : decode zb_Mo_seen 101 = .ok (.i2l, 1) := by decide +kernel
theorem zd_Mo_seen_102 : decode zb_Mo_seen 102 = .ok (.goto 6, 3) := by decide +kernel
theorem zd_Mo_seen_105 : decode zb_Mo_seen 105 = .ok (.ldc2_w 133, 3) := by decide +kernel
theorem zd_Mo_seen_108 : decode zb_Mo_seen 108 = .ok (.lreturn, 1) := by decide +kernel
theorem zd_Mo_seen_109 : decode zb_Mo_seen 109 = .ok (.iload 6, 2) := by decide +kernel
theorem zd_Mo_seen_111 : decode zb_Mo_seen 111 = .ok (.ifCond .eq 13, 3) := by decide +kernel
theorem zd_Mo_seen_114 : decode zb_Mo_seen 114 = .ok (.aload_n 0, 1) := by decide +kernel
theorem zd_Mo_seen_115 : decode zb_Mo_seen 115 = .ok (.iload 5, 2) := by decide +kernel
theorem zd_Mo_seen_117 : decode zb_Mo_seen 117 = .ok (.ldc2_w 98, 3) := by decide +kernel
theorem zd_Mo_seen_120 : decode zb_Mo_seen 120 = .ok (.invokevirtual 111, 3) := by decide +kernel
theorem zd_Mo_seen_123 : decode zb_Mo_seen 123 = .ok (.lreturn, 1) := by decide +kernel
theorem zd_Mo_seen_124 : decode zb_Mo_seen 124 = .ok (.lconst 0, 1) := by decide +kernel
theorem zd_Mo_seen_125 : decode zb_Mo_seen 125 = .ok (.lstore 7, 2) := by decide +kernel
theorem zd_Mo_seen_127 : decode zb_Mo_seen 127 = .ok (.iconst 0, 1) := by decide +kernel
theorem zd_Mo_seen_128 : decode zb_Mo_seen 128 = .ok (.istore 9, 2) := by decide +kernel
theorem zd_Mo_seen_130 : decode zb_Mo_seen 130 = .ok (.iload 9, 2) := by decide +kernel
theorem zd_Mo_seen_132 : decode zb_Mo_seen 132 = .ok (.aload_n 0, 1) := by decide +kernel
theorem zd_Mo_seen_133 : decode zb_Mo_seen 133 = .ok (.getfield 70, 3) := by decide +kernel
theorem zd_Mo_seen_136 : decode zb_Mo_seen 136 = .ok (.if_icmp .ge 71, 3) := by decide +kernel
theorem zd_Mo_seen_139 : decode zb_Mo_seen 139 = .ok (.aload_n 0, 1) := by decide +kernel
theorem zd_Mo_seen_140 : decode zb_Mo_seen 140 = .ok (.getfield 13, 3) := by decide +kernel
theorem zd_Mo_seen_143 : decode zb_Mo_seen 143 = .ok (.iload 9, 2) := by decide +kernel
theorem zd_Mo_seen_145 : decode zb_Mo_seen 145 = .ok (.iaload, 1) := by decide +kernel
theorem zd_Mo_seen_146 : decode zb_Mo_seen 146 = .ok (.iload_n 2, 1) := by decide +kernel
theorem zd_Mo_seen_147 : decode zb_Mo_seen 147 = .ok (.if_icmp .ne 28, 3) := by decide +kernel
theorem zd_Mo_seen_150 : decode zb_Mo_seen 150 = .ok (.aload_n 0, 1) := by decide +kernel
theorem zd_Mo_seen_151 : decode zb_Mo_seen 151 = .ok (.iload 9, 2) := by decide +kernel
theorem zd_Mo_seen_153 : decode zb_Mo_seen 153 = .ok (.ldc2_w 98, 3) := by decide +kernel
theorem zd_Mo_seen_156 : decode zb_Mo_seen 156 = .ok (.invokevirtual 108, 3) := by decide +kernel
theorem zd_Mo_seen_159 : decode zb_Mo_seen 159 = .ok (.aload_n 0, 1) := by decide +kernel
theorem zd_Mo_seen_160 : decode zb_Mo_seen 160 = .ok (.iload 5, 2) := by decide +kernel
theorem zd_Mo_seen_162 : decode zb_Mo_seen 162 = .ok (.ldc2_w 98, 3) := by decide +kernel
theorem zd_Mo_seen_165 : decode zb_Mo_seen 165 = .ok (.invokevirtual 108, 3) := by decide +kernel
theorem zd_Mo_seen_168 : decode zb_Mo_seen 168 = .ok (.if_icmp .ne 7, 3) := by decide +kernel
theorem zd_Mo_seen_171 : decode zb_Mo_seen 171 = .ok (.iconst 1, 1) := by decide +kernel
theorem zd_Mo_seen_172 : decode zb_Mo_seen 172 = .ok (.goto 4, 3) := by decide +kernel
theorem zd_Mo_seen_175 : decode zb_Mo_seen 175 = .ok (.iconst 0, 1) := by decide +kernel
theorem zd_Mo_seen_176 : decode zb_Mo_seen 176 = .ok (.istore 10, 2) := by decide +kernel
theorem zd_Mo_seen_178 : decode zb_Mo_seen 178 = .ok (.lload 7, 2) := by decide +kernel
theorem zd_Mo_seen_180 : decode zb_Mo_seen 180 = .ok (.iload 10, 2) := by decide +kernel
theorem zd_Mo_seen_182 : decode zb_Mo_seen 182 = .ok (.ifCond .eq 15, 3) := by decide +kernel
theorem zd_Mo_seen_185 : decode zb_Mo_seen 185 = .ok (.aload_n 0, 1) := by decide +kernel
theorem zd_Mo_seen_186 : decode zb_Mo_seen 186 = .ok (.iload 9, 2) := by decide +kernel
theorem zd_Mo_seen_188 : decode zb_Mo_seen 188 = .ok (.ldc2_w 98, 3) := by decide +kernel
theorem zd_Mo_seen_191 : decode zb_Mo_seen 191 = .ok (.invokevirtual 111, 3) := by decide +kernel
theorem zd_Mo_seen_194 : decode zb_Mo_seen 194 = .ok (.goto 4, 3) := by decide +kernel
theorem zd_Mo_seen_197 : decode zb_Mo_seen 197 = .ok (.lconst 0, 1) := by decide +kernel
theorem zd_Mo_seen_198 : decode zb_Mo_seen 198 = .ok (.ladd, 1) := by decide +kernel
theorem zd_Mo_seen_199 : decode zb_Mo_seen 199 = .ok (.lstore 7, 2) := by decide +kernel
theorem zd_Mo_seen_201 : decode zb_Mo_seen 201 = .ok (.iinc 9 1, 3) := by decide +kernel
theorem zd_Mo_seen_204 : decode zb_Mo_seen 204 = .ok (.goto (-74), 3) := by decide +kernel
theorem zd_Mo_seen_207 : decode zb_Mo_seen 207 = .ok (.lload 7, 2) := by decide +kernel
theorem zd_Mo_seen_209 : decode zb_Mo_seen 209 = .ok (.lreturn, 1) := by decide +kernel
theorem zd_Mo_unit_0 : decode zb_Mo_unit 0 = .ok (.iload_n 1, 1) := by decide +kernel
theorem zd_Mo_unit_1 : decode zb_Mo_unit 1 = .ok (.i2l, 1) := by decide +kernel
theorem zd_Mo_unit_2 : decode zb_Mo_unit 2 = .ok (.lconst 0, 1) := by decide +kernel
theorem zd_Mo_unit_3 : decode zb_Mo_unit 3 = .ok (.ldc2_w 135, 3) := by decide +kernel
theorem zd_Mo_unit_6 : decode zb_Mo_unit 6 = .ok (.invokestatic 82, 3) := by decide +kernel
theorem zd_Mo_unit_9 : decode zb_Mo_unit 9 = .ok (.ifCond .eq 13, 3) := by decide +kernel
theorem zd_Mo_unit_12 : decode zb_Mo_unit 12 = .ok (.aload_n 0, 1) := by decide +kernel
theorem zd_Mo_unit_13 : decode zb_Mo_unit 13 = .ok (.getfield 137, 3) := by decide +kernel
theorem zd_Mo_unit_16 : decode zb_Mo_unit 16 = .ok (.sipush 300, 3) := by decide +kernel
theorem zd_Mo_unit_19 : decode zb_Mo_unit 19 = .ok (.if_icmp .ne 5, 3) := by decide +kernel
theorem zd_Mo_unit_22 : decode zb_Mo_unit 22 = .ok (.iconst 0, 1) := by decide +kernel
theorem zd_Mo_unit_23 : decode zb_Mo_unit 23 = .ok (.ireturn, 1) := by decide +kernel
theorem zd_Mo_unit_24 : decode zb_Mo_unit 24 = .ok (.aload_n 0, 1) := by decide +kernel
theorem zd_Mo_unit_25 : decode zb_Mo_unit 25 = .ok (.getfield 45, 3) := by decide +kernel
theorem zd_Mo_unit_28 : decode zb_Mo_unit 28 = .ok (.aload_n 0, 1) := by decide +kernel
theorem zd_Mo_unit_29 : decode zb_Mo_unit 29 = .ok (.getfield 137, 3) := by decide +kernel
theorem zd_Mo_unit_32 : decode zb_Mo_unit 32 = .ok (.iload_n 1, 1) := by decide +kernel
theorem zd_Mo_unit_33 : decode zb_Mo_unit 33 = .ok (.iastore, 1) := by decide +kernel
theorem zd_Mo_unit_34 : decode zb_Mo_unit 34 = .ok (.aload_n 0, 1) := by decide +kernel
theorem zd_Mo_unit_35 : decode zb_Mo_unit 35 = .ok (.dup, 1) := by decide +kernel
theorem zd_Mo_unit_36 : decode zb_Mo_unit 36 = .ok (.getfield 137, 3) := by decide +kernel
theorem zd_Mo_unit_39 : decode zb_Mo_unit 39 = .ok (.iconst 1, 1) := by decide +kernel
theorem zd_Mo_unit_40 : decode zb_Mo_unit 40 = .ok (.iadd, 1) := by decide +kernel
theorem zd_Mo_unit_41 : decode zb_Mo_unit 41 = .ok (.putfield 137, 3) := by decide +kernel
theorem zd_Mo_unit_44 : decode zb_Mo_unit 44 = .ok (.iconst 1, 1) := by decide +kernel
theorem zd_Mo_unit_45 : decode zb_Mo_unit 45 = .ok (.ireturn, 1) := by decide +kernel
theorem zd_Mo_isBlank_0 : decode zb_Mo_isBlank 0 = .ok (.iload_n 0, 1) := by decide +kernel
theorem zd_Mo_isBlank_1 : decode zb_Mo_isBlank 1 = .ok (.bipush 32, 2) := by decide +kernel
theorem zd_Mo_isBlank_3 : decode zb_Mo_isBlank 3 = .ok (.if_icmp .eq 9, 3) := by decide +kernel
theorem zd_Mo_isBlank_6 : decode zb_Mo_isBlank 6 = .ok (.iload_n 0, 1) := by decide +kernel
theorem zd_Mo_isBlank_7 : decode zb_Mo_isBlank 7 = .ok (.bipush 10, 2) := by decide +kernel
theorem zd_Mo_isBlank_9 : decode zb_Mo_isBlank 9 = .ok (.if_icmp .ne 7, 3) := by decide +kernel
theorem zd_Mo_isBlank_12 : decode zb_Mo_isBlank 12 = .ok (.iconst 1, 1) := by decide +kernel
theorem zd_Mo_isBlank_13 : decode zb_Mo_isBlank 13 = .ok (.goto 4, 3) := by decide +kernel
theorem zd_Mo_isBlank_16 : decode zb_Mo_isBlank 16 = .ok (.iconst 0, 1) := by decide +kernel
theorem zd_Mo_isBlank_17 : decode zb_Mo_isBlank 17 = .ok (.ireturn, 1) := by decide +kernel
theorem zd_Mo_is_0 : decode zb_Mo_is 0 = .ok (.aload_n 0, 1) := by decide +kernel
theorem zd_Mo_is_1 : decode zb_Mo_is 1 = .ok (.getfield 45, 3) := by decide +kernel
theorem zd_Mo_is_4 : decode zb_Mo_is 4 = .ok (.iload_n 1, 1) := by decide +kernel
theorem zd_Mo_is_5 : decode zb_Mo_is 5 = .ok (.iaload, 1) := by decide +kernel
theorem zd_Mo_is_6 : decode zb_Mo_is 6 = .ok (.iload_n 2, 1) := by decide +kernel
theorem zd_Mo_is_7 : decode zb_Mo_is 7 = .ok (.if_icmp .ne 32, 3) := by decide +kernel
theorem zd_Mo_is_10 : decode zb_Mo_is 10 = .ok (.aload_n 0, 1) := by decide +kernel
theorem zd_Mo_is_11 : decode zb_Mo_is 11 = .ok (.getfield 45, 3) := by decide +kernel
theorem zd_Mo_is_14 : decode zb_Mo_is 14 = .ok (.iload_n 1, 1) := by decide +kernel
theorem zd_Mo_is_15 : decode zb_Mo_is 15 = .ok (.iconst 1, 1) := by decide +kernel
theorem zd_Mo_is_16 : decode zb_Mo_is 16 = .ok (.iadd, 1) := by decide +kernel
theorem zd_Mo_is_17 : decode zb_Mo_is 17 = .ok (.iaload, 1) := by decide +kernel
theorem zd_Mo_is_18 : decode zb_Mo_is 18 = .ok (.iload_n 3, 1) := by decide +kernel
theorem zd_Mo_is_19 : decode zb_Mo_is 19 = .ok (.if_icmp .ne 20, 3) := by decide +kernel
theorem zd_Mo_is_22 : decode zb_Mo_is 22 = .ok (.aload_n 0, 1) := by decide +kernel
theorem zd_Mo_is_23 : decode zb_Mo_is 23 = .ok (.getfield 45, 3) := by decide +kernel
theorem zd_Mo_is_26 : decode zb_Mo_is 26 = .ok (.iload_n 1, 1) := by decide +kernel
theorem zd_Mo_is_27 : decode zb_Mo_is 27 = .ok (.iconst 2, 1) := by decide +kernel
theorem zd_Mo_is_28 : decode zb_Mo_is 28 = .ok (.iadd, 1) := by decide +kernel
theorem zd_Mo_is_29 : decode zb_Mo_is 29 = .ok (.iaload, 1) := by decide +kernel
theorem zd_Mo_is_30 : decode zb_Mo_is 30 = .ok (.iload 4, 2) := by decide +kernel
theorem zd_Mo_is_32 : decode zb_Mo_is 32 = .ok (.if_icmp .ne 7, 3) := by decide +kernel
theorem zd_Mo_is_35 : decode zb_Mo_is 35 = .ok (.iconst 1, 1) := by decide +kernel
theorem zd_Mo_is_36 : decode zb_Mo_is 36 = .ok (.goto 4, 3) := by decide +kernel
theorem zd_Mo_is_39 : decode zb_Mo_is 39 = .ok (.iconst 0, 1) := by decide +kernel
theorem zd_Mo_is_40 : decode zb_Mo_is 40 = .ok (.ireturn, 1) := by decide +kernel
theorem zd_Mo_wordAt_0 : decode zb_Mo_wordAt 0 = .ok (.aload_n 0, 1) := by decide +kernel
theorem zd_Mo_wordAt_1 : decode zb_Mo_wordAt 1 = .ok (.getfield 45, 3) := by decide +kernel
theorem zd_Mo_wordAt_4 : decode zb_Mo_wordAt 4 = .ok (.iload_n 1, 1) := by decide +kernel
theorem zd_Mo_wordAt_5 : decode zb_Mo_wordAt 5 = .ok (.iaload, 1) := by decide +kernel
theorem zd_Mo_wordAt_6 : decode zb_Mo_wordAt 6 = .ok (.istore_n 3, 1) := by decide +kernel
theorem zd_Mo_wordAt_7 : decode zb_Mo_wordAt 7 = .ok (.iload_n 2, 1) := by decide +kernel
theorem zd_Mo_wordAt_8 : decode zb_Mo_wordAt 8 = .ok (.iconst 1, 1) := by decide +kernel
theorem zd_Mo_wordAt_9 : decode zb_Mo_wordAt 9 = .ok (.if_icmp .ne 63, 3) := by decide +kernel
theorem zd_Mo_wordAt_12 : decode zb_Mo_wordAt 12 = .ok (.iload_n 3, 1) := by decide +kernel
theorem zd_Mo_wordAt_13 : decode zb_Mo_wordAt 13 = .ok (.bipush 110, 2) := by decide +kernel
theorem zd_Mo_wordAt_15 : decode zb_Mo_wordAt 15 = .ok (.if_icmp .eq 21, 3) := by decide +kernel
theorem zd_Mo_wordAt_18 : decode zb_Mo_wordAt 18 = .ok (.iload_n 3, 1) := by decide +kernel
theorem zd_Mo_wordAt_19 : decode zb_Mo_wordAt 19 = .ok (.bipush 43, 2) := by decide +kernel
theorem zd_Mo_wordAt_21 : decode zb_Mo_wordAt 21 = .ok (.if_icmp .eq 15, 3) := by decide +kernel
theorem zd_Mo_wordAt_24 : decode zb_Mo_wordAt 24 = .ok (.iload_n 3, 1) := by decide +kernel
theorem zd_Mo_wordAt_25 : decode zb_Mo_wordAt 25 = .ok (.bipush 45, 2) := by decide +kernel
theorem zd_Mo_wordAt_27 : decode zb_Mo_wordAt 27 = .ok (.if_icmp .eq 9, 3) := by decide +kernel
theorem zd_Mo_wordAt_30 : decode zb_Mo_wordAt 30 = .ok (.iload_n 3, 1) := by decide +kernel
theorem zd_Mo_wordAt_31 : decode zb_Mo_wordAt 31 = .ok (.bipush 42, 2) := by decide +kernel
theorem zd_Mo_wordAt_33 : decode zb_Mo_wordAt 33 = .ok (.if_icmp .ne 39, 3) := by decide +kernel
theorem zd_Mo_wordAt_36 : decode zb_Mo_wordAt 36 = .ok (.iload_n 3, 1) := by decide +kernel
theorem zd_Mo_wordAt_37 : decode zb_Mo_wordAt 37 = .ok (.bipush 110, 2) := by decide +kernel
theorem zd_Mo_wordAt_39 : decode zb_Mo_wordAt 39 = .ok (.if_icmp .ne 8, 3) := by decide +kernel
theorem zd_Mo_wordAt_42 : decode zb_Mo_wordAt 42 = .ok (.bipush (-6), 2) := by decide +kernel
theorem zd_Mo_wordAt_44 : decode zb_Mo_wordAt 44 = .ok (.goto 27, 3) := by decide +kernel
theorem zd_Mo_wordAt_47 : decode zb_Mo_wordAt 47 = .ok (.iload_n 3, 1) := by decide +kernel
theorem zd_Mo_wordAt_48 : decode zb_Mo_wordAt 48 = .ok (.bipush 43, 2) := by decide +kernel
theorem zd_Mo_wordAt_50 : decode zb_Mo_wordAt 50 = .ok (.if_icmp .ne 8, 3) := by decide +kernel
theorem zd_Mo_wordAt_53 : decode zb_Mo_wordAt 53 = .ok (.bipush (-7), 2) := by decide +kernel
theorem zd_Mo_wordAt_55 : decode zb_Mo_wordAt 55 = .ok (.goto 16, 3) := by decide +kernel
theorem zd_Mo_wordAt_58 : decode zb_Mo_wordAt 58 = .ok (.iload_n 3, 1) := by decide +kernel
theorem zd_Mo_wordAt_59 : decode zb_Mo_wordAt 59 = .ok (.bipush 45, 2) := by decide +kernel
theorem zd_Mo_wordAt_61 : decode zb_Mo_wordAt 61 = .ok (.if_icmp .ne 8, 3) := by decide +kernel
theorem zd_Mo_wordAt_64 : decode zb_Mo_wordAt 64 = .ok (.bipush (-8), 2) := by decide +kernel
theorem zd_Mo_wordAt_66 : decode zb_Mo_wordAt 66 = .ok (.goto 5, 3) := by decide +kernel
theorem zd_Mo_wordAt_69 : decode zb_Mo_wordAt 69 = .ok (.bipush (-9), 2) := by decide +kernel
theorem zd_Mo_wordAt_71 : decode zb_Mo_wordAt 71 = .ok (.ireturn, 1) := by decide +kernel
theorem zd_Mo_wordAt_72 : decode zb_Mo_wordAt 72 = .ok (.iload_n 2, 1) := by decide +kernel
theorem zd_Mo_wordAt_73 : decode zb_Mo_wordAt 73 = .ok (.iconst 2, 1) := by decide +kernel
theorem zd_Mo_wordAt_74 : decode zb_Mo_wordAt 74 = .ok (.if_icmp .ne 49, 3) := by decide +kernel
theorem zd_Mo_wordAt_77 : decode zb_Mo_wordAt 77 = .ok (.iload_n 3, 1) := by decide +kernel
theorem zd_Mo_wordAt_78 : decode zb_Mo_wordAt 78 = .ok (.bipush 107, 2) := by decide +kernel
theorem zd_Mo_wordAt_80 : decode zb_Mo_wordAt 80 = .ok (.if_icmp .ne 43, 3) := by decide +kernel
theorem zd_Mo_wordAt_83 : decode zb_Mo_wordAt 83 = .ok (.aload_n 0, 1) := by decide +kernel
theorem zd_Mo_wordAt_84 : decode zb_Mo_wordAt 84 = .ok (.getfield 45, 3) := by decide +kernel
theorem zd_Mo_wordAt_87 : decode zb_Mo_wordAt 87 = .ok (.iload_n 1, 1) := by decide +kernel
theorem zd_Mo_wordAt_88 : decode zb_Mo_wordAt 88 = .ok (.iconst 1, 1) := by decide +kernel
theorem zd_Mo_wordAt_89 : decode zb_Mo_wordAt 89 = .ok (.iadd, 1) := by decide +kernel
theorem zd_Mo_wordAt_90 : decode zb_Mo_wordAt 90 = .ok (.iaload, 1) := by decide +kernel
theorem zd_Mo_wordAt_91 : decode zb_Mo_wordAt 91 = .ok (.bipush 48, 2) := by decide +kernel
theorem zd_Mo_wordAt_93 : decode zb_Mo_wordAt 93 = .ok (.if_icmp .lt 30, 3) := by decide +kernel
theorem zd_Mo_wordAt_96 : decode zb_Mo_wordAt 96 = .ok (.aload_n 0, 1) := by decide +kernel
theorem zd_Mo_wordAt_97 : decode zb_Mo_wordAt 97 = .ok (.getfield 45, 3) := by decide +kernel
theorem zd_Mo_wordAt_100 : decode zb_Mo_wordAt 100 = .ok (.iload_n 1, 1) := by decide +kernel
theorem zd_Mo_wordAt_101 : decode zb_Mo_wordAt 101 = .ok (.iconst 1, 1) := by decide +kernel
theorem zd_Mo_wordAt_102 : decode zb_Mo_wordAt 102 = .ok (.iadd, 1) := by decide +kernel
theorem zd_Mo_wordAt_103 : decode zb_Mo_wordAt 103 = .ok (.iaload, 1) := by decide +kernel
theorem zd_Mo_wordAt_104 : decode zb_Mo_wordAt 104 = .ok (.bipush 52, 2) := by decide +kernel
theorem zd_Mo_wordAt_106 : decode zb_Mo_wordAt 106 = .ok (.if_icmp .gt 17, 3) := by decide +kernel
theorem zd_Mo_wordAt_109 : decode zb_Mo_wordAt 109 = .ok (.iconst (-1), 1) := by decide +kernel
theorem zd_Mo_wordAt_110 : decode zb_Mo_wordAt 110 = .ok (.aload_n 0, 1) := by decide +kernel
theorem zd_Mo_wordAt_111 : decode zb_Mo_wordAt 111 = .ok (.getfield 45, 3) := by decide +kernel
theorem zd_Mo_wordAt_114 : decode zb_Mo_wordAt 114 = .ok (.iload_n 1, 1) := by decide +kernel
theorem zd_Mo_wordAt_115 : decode zb_Mo_wordAt 115 = .ok (.iconst 1, 1) := by decide +kernel
theorem zd_Mo_wordAt_116 : decode zb_Mo_wordAt 116 = .ok (.iadd, 1) := by decide +kernel
theorem zd_Mo_wordAt_117 : decode zb_Mo_wordAt 117 = .ok (.iaload, 1) := by decide +kernel
theorem zd_Mo_wordAt_118 : decode zb_Mo_wordAt 118 = .ok (.bipush 48, 2) := by decide +kernel
theorem zd_Mo_wordAt_120 : decode zb_Mo_wordAt 120 = .ok (.isub, 1) := by decide +kernel
theorem zd_Mo_wordAt_121 : decode zb_Mo_wordAt 121 = .ok (.isub, 1) := by decide +kernel
theorem zd_Mo_wordAt_122 : decode zb_Mo_wordAt 122 = .ok (.ireturn, 1) := by decide +kernel
theorem zd_Mo_wordAt_123 : decode zb_Mo_wordAt 123 = .ok (.iload_n 2, 1) := by decide +kernel
theorem zd_Mo_wordAt_124 : decode zb_Mo_wordAt 124 = .ok (.iconst 3, 1) := by decide +kernel
theorem zd_Mo_wordAt_125 : decode zb_Mo_wordAt 125 = .ok (.if_icmp .ne 20, 3) := by decide +kernel
theorem zd_Mo_wordAt_128 : decode zb_Mo_wordAt 128 = .ok (.aload_n 0, 1) := by decide +kernel
theorem zd_Mo_wordAt_129 : decode zb_Mo_wordAt 129 = .ok (.iload_n 1, 1) := by decide +kernel
theorem zd_Mo_wordAt_130 : decode zb_Mo_wordAt 130 = .ok (.bipush 109, 2) := by decide +kernel
theorem zd_Mo_wordAt_132 : decode zb_Mo_wordAt 132 = .ok (.bipush 105, 2) := by decide +kernel
theorem zd_Mo_wordAt_134 : decode zb_Mo_wordAt 134 = .ok (.bipush 110, 2) := by decide +kernel
theorem zd_Mo_wordAt_136 : decode zb_Mo_wordAt 136 = .ok (.invokevirtual 140, 3) := by decide +kernel
theorem zd_Mo_wordAt_139 : decode zb_Mo_wordAt 139 = .ok (.ifCond .eq 6, 3) := by decide +kernel
theorem zd_Mo_wordAt_142 : decode zb_Mo_wordAt 142 = .ok (.bipush (-10), 2) := by decide +kernel
theorem zd_Mo_wordAt_144 : decode zb_Mo_wordAt 144 = .ok (.ireturn, 1) := by decide +kernel
theorem zd_Mo_wordAt_145 : decode zb_Mo_wordAt 145 = .ok (.iload_n 2, 1) := by decide +kernel
theorem zd_Mo_wordAt_146 : decode zb_Mo_wordAt 146 = .ok (.iconst 3, 1) := by decide +kernel
theorem zd_Mo_wordAt_147 : decode zb_Mo_wordAt 147 = .ok (.if_icmp .ne 20, 3) := by decide +kernel
theorem zd_Mo_wordAt_150 : decode zb_Mo_wordAt 150 = .ok (.aload_n 0, 1) := by decide +kernel
theorem zd_Mo_wordAt_151 : decode zb_Mo_wordAt 151 = .ok (.iload_n 1, 1) := by decide +kernel
theorem zd_Mo_wordAt_152 : decode zb_Mo_wordAt 152 = .ok (.bipush 109, 2) := by decide +kernel
theorem zd_Mo_wordAt_154 : decode zb_Mo_wordAt 154 = .ok (.bipush 97, 2) := by decide +kernel
theorem zd_Mo_wordAt_156 : decode zb_Mo_wordAt 156 = .ok (.bipush 120, 2) := by decide +kernel
theorem zd_Mo_wordAt_158 : decode zb_Mo_wordAt 158 = .ok (.invokevirtual 140, 3) := by decide +kernel
theorem zd_Mo_wordAt_161 : decode zb_Mo_wordAt 161 = .ok (.ifCond .eq 6, 3) := by decide +kernel
theorem zd_Mo_wordAt_164 : decode zb_Mo_wordAt 164 = .ok (.bipush (-11), 2) := by decide +kernel
theorem zd_Mo_wordAt_166 : decode zb_Mo_wordAt 166 = .ok (.ireturn, 1) := by decide +kernel
theorem zd_Mo_wordAt_167 : decode zb_Mo_wordAt 167 = .ok (.iload_n 2, 1) := by decide +kernel
theorem zd_Mo_wordAt_168 : decode zb_Mo_wordAt 168 = .ok (.bipush 6, 2) := by decide +kernel
theorem zd_Mo_wordAt_170 : decode zb_Mo_wordAt 170 = .ok (.if_icmp .gt 7, 3) := by decide +kernel
theorem zd_Mo_wordAt_173 : decode zb_Mo_wordAt 173 = .ok (.iconst 0, 1) := by decide +kernel
theorem zd_Mo_wordAt_174 : decode zb_Mo_wordAt 174 = .ok (.goto 5, 3) := by decide +kernel
theorem zd_Mo_wordAt_177 : decode zb_Mo_wordAt 177 = .ok (.bipush (-12), 2) := by decide +kernel
theorem zd_Mo_wordAt_179 : decode zb_Mo_wordAt 179 = .ok (.istore 4, 2) := by decide +kernel
theorem zd_Mo_wordAt_181 : decode zb_Mo_wordAt 181 = .ok (.iload_n 1, 1) := by decide +kernel
theorem zd_Mo_wordAt_182 : decode zb_Mo_wordAt 182 = .ok (.istore 5, 2) := by decide +kernel
theorem zd_Mo_wordAt_184 : decode zb_Mo_wordAt 184 = .ok (.iload 5, 2) := by decide +kernel
theorem zd_Mo_wordAt_186 : decode zb_Mo_wordAt 186 = .ok (.iload_n 1, 1) := by decide +kernel
theorem zd_Mo_wordAt_187 : decode zb_Mo_wordAt 187 = .ok (.iload_n 2, 1) := by decide +kernel
theorem zd_Mo_wordAt_188 : decode zb_Mo_wordAt 188 = .ok (.iadd, 1) := by decide +kernel
theorem zd_Mo_wordAt_189 : decode zb_Mo_wordAt 189 = .ok (.if_icmp .ge 61, 3) := by decide +kernel
theorem zd_Mo_wordAt_192 : decode zb_Mo_wordAt 192 = .ok (.iload 4, 2) := by decide +kernel
theorem zd_Mo_wordAt_194 : decode zb_Mo_wordAt 194 = .ok (.ifCond .lt 56, 3) := by decide +kernel
theorem zd_Mo_wordAt_197 : decode zb_Mo_wordAt 197 = .ok (.aload_n 0, 1) := by decide +kernel
theorem zd_Mo_wordAt_198 : decode zb_Mo_wordAt 198 = .ok (.getfield 45, 3) := by decide +kernel
theorem zd_Mo_wordAt_201 : decode zb_Mo_wordAt 201 = .ok (.iload 5, 2) := by decide +kernel
theorem zd_Mo_wordAt_203 : decode zb_Mo_wordAt 203 = .ok (.iaload, 1) := by decide +kernel
theorem zd_Mo_wordAt_204 : decode zb_Mo_wordAt 204 = .ok (.bipush 48, 2) := by decide +kernel
theorem zd_Mo_wordAt_206 : decode zb_Mo_wordAt 206 = .ok (.if_icmp .lt 34, 3) := by decide +kernel
theorem zd_Mo_wordAt_209 : decode zb_Mo_wordAt 209 = .ok (.aload_n 0, 1) := by decide +kernel
theorem zd_Mo_wordAt_210 : decode zb_Mo_wordAt 210 = .ok (.getfield 45, 3) := by decide +kernel
theorem zd_Mo_wordAt_213 : decode zb_Mo_wordAt 213 = .ok (.iload 5, 2) := by decide +kernel
theorem zd_Mo_wordAt_215 : decode zb_Mo_wordAt 215 = .ok (.iaload, 1) := by decide +kernel
theorem zd_Mo_wordAt_216 : decode zb_Mo_wordAt 216 = .ok (.bipush 57, 2) := by decide +kernel
theorem zd_Mo_wordAt_218 : decode zb_Mo_wordAt 218 = .ok (.if_icmp .gt 22, 3) := by decide +kernel
theorem zd_Mo_wordAt_221 : decode zb_Mo_wordAt 221 = .ok (.bipush 10, 2) := by decide +kernel
theorem zd_Mo_wordAt_223 : decode zb_Mo_wordAt 223 = .ok (.iload 4, 2) := by decide +kernel
theorem zd_Mo_wordAt_225 : decode zb_Mo_wordAt 225 = .ok (.imul, 1) := by decide +kernel
theorem zd_Mo_wordAt_226 : decode zb_Mo_wordAt 226 = .ok (.aload_n 0, 1) := by decide +kernel
theorem zd_Mo_wordAt_227 : decode zb_Mo_wordAt 227 = .ok (.getfield 45, 3) := by decide +kernel
theorem zd_Mo_wordAt_230 : decode zb_Mo_wordAt 230 = .ok (.iload 5, 2) := by decide +kernel
theorem zd_Mo_wordAt_232 : decode zb_Mo_wordAt 232 = .ok (.iaload, 1) := by decide +kernel
theorem zd_Mo_wordAt_233 : decode zb_Mo_wordAt 233 = .ok (.iadd, 1) := by decide +kernel
theorem zd_Mo_wordAt_234 : decode zb_Mo_wordAt 234 = .ok (.bipush 48, 2) := by decide +kernel
theorem zd_Mo_wordAt_236 : decode zb_Mo_wordAt 236 = .ok (.isub, 1) := by decide +kernel
theorem zd_Mo_wordAt_237 : decode zb_Mo_wordAt 237 = .ok (.goto 5, 3) := by decide +kernel
theorem zd_Mo_wordAt_240 : decode zb_Mo_wordAt 240 = .ok (.bipush (-12), 2) := by decide +kernel
theorem zd_Mo_wordAt_242 : decode zb_Mo_wordAt 242 = .ok (.istore 4, 2) := by decide +kernel
theorem zd_Mo_wordAt_244 : decode zb_Mo_wordAt 244 = .ok (.iinc 5 1, 3) := by decide +kernel
theorem zd_Mo_wordAt_247 : decode zb_Mo_wordAt 247 = .ok (.goto (-63), 3) := by decide +kernel
theorem zd_Mo_wordAt_250 : decode zb_Mo_wordAt 250 = .ok (.iload 4, 2) := by decide +kernel
theorem zd_Mo_wordAt_252 : decode zb_Mo_wordAt 252 = .ok (.ireturn, 1) := by decide +kernel
theorem zd_Mo_isOfTwo_0 : decode zb_Mo_isOfTwo 0 = .ok (.iload_n 0, 1) := by decide +kernel
theorem zd_Mo_isOfTwo_1 : decode zb_Mo_isOfTwo 1 = .ok (.bipush (-7), 2) := by decide +kernel
theorem zd_Mo_isOfTwo_3 : decode zb_Mo_isOfTwo 3 = .ok (.if_icmp .gt 7, 3) := by decide +kernel
theorem zd_Mo_isOfTwo_6 : decode zb_Mo_isOfTwo 6 = .ok (.iconst 1, 1) := by decide +kernel
theorem zd_Mo_isOfTwo_7 : decode zb_Mo_isOfTwo 7 = .ok (.goto 4, 3) := by decide +kernel
theorem zd_Mo_isOfTwo_10 : decode zb_Mo_isOfTwo 10 = .ok (.iconst 0, 1) := by decide +kernel
theorem zd_Mo_isOfTwo_11 : decode zb_Mo_isOfTwo 11 = .ok (.ireturn, 1) := by decide +kernel
theorem zd_Mo_score_0 : decode zb_Mo_score 0 = .ok (.iconst 0, 1) := by decide +kernel
theorem zd_Mo_score_1 : decode zb_Mo_score 1 = .ok (.istore_n 1, 1) := by decide +kernel
theorem zd_Mo_score_2 : decode zb_Mo_score 2 = .ok (.iconst 0, 1) := by decide +kernel
theorem zd_Mo_score_3 : decode zb_Mo_score 3 = .ok (.istore_n 2, 1) := by decide +kernel
theorem zd_Mo_score_4 : decode zb_Mo_score 4 = .ok (.iconst (-1), 1) := by decide +kernel
theorem zd_Mo_score_5 : decode zb_Mo_score 5 = .ok (.istore_n 3, 1) := by decide +kernel
theorem zd_Mo_score_6 : decode zb_Mo_score 6 = .ok (.iconst 0, 1) := by decide +kernel
theorem zd_Mo_score_7 : decode zb_Mo_score 7 = .ok (.istore 4, 2) := by decide +kernel
theorem zd_Mo_score_9 : decode zb_Mo_score 9 = .ok (.iload 4, 2) := by decide +kernel
theorem zd_Mo_score_11 : decode zb_Mo_score 11 = .ok (.aload_n 0, 1) := by decide +kernel
theorem zd_Mo_score_12 : decode zb_Mo_score 12 = .ok (.getfield 137, 3) := by decide +kernel
theorem zd_Mo_score_15 : decode zb_Mo_score 15 = .ok (.if_icmp .ge 126, 3) := by decide +kernel
theorem zd_Mo_score_18 : decode zb_Mo_score 18 = .ok (.iload_n 3, 1) := by decide +kernel
theorem zd_Mo_score_19 : decode zb_Mo_score 19 = .ok (.ifCond .ge 122, 3) := by decide +kernel
theorem zd_Mo_score_22 : decode zb_Mo_score 22 = .ok (.aload_n 0, 1) := by decide +kernel
theorem zd_Mo_score_23 : decode zb_Mo_score 23 = .ok (.getfield 45, 3) := by decide +kernel
theorem zd_Mo_score_26 : decode zb_Mo_score 26 = .ok (.iload 4, 2) := by decide +kernel
theorem zd_Mo_score_28 : decode zb_Mo_score 28 = .ok (.iaload, 1) := by decide +kernel
theorem zd_Mo_score_29 : decode zb_Mo_score 29 = .ok (.invokestatic 144, 3) := by decide +kernel
theorem zd_Mo_score_32 : decode zb_Mo_score 32 = .ok (.ifCond .eq 9, 3) := by decide +kernel
theorem zd_Mo_score_35 : decode zb_Mo_score 35 = .ok (.iinc 4 1, 3) := by decide +kernel
theorem zd_Mo_score_38 : decode zb_Mo_score 38 = .ok (.goto (-29), 3) := by decide +kernel
theorem zd_Mo_score_41 : decode zb_Mo_score 41 = .ok (.iload 4, 2) := by decide +kernel
theorem zd_Mo_score_43 : decode zb_Mo_score 43 = .ok (.istore 5, 2) := by decide +kernel
theorem zd_Mo_score_45 : decode zb_Mo_score 45 = .ok (.iload 4, 2) := by decide +kernel
theorem zd_Mo_score_47 : decode zb_Mo_score 47 = .ok (.aload_n 0, 1) := by decide +kernel
theorem zd_Mo_score_48 : decode zb_Mo_score 48 = .ok (.getfield 137, 3) := by decide +kernel
theorem zd_Mo_score_51 : decode zb_Mo_score 51 = .ok (.if_icmp .ge 22, 3) := by decide +kernel
theorem zd_Mo_score_54 : decode zb_Mo_score 54 = .ok (.aload_n 0, 1) := by decide +kernel
theorem zd_Mo_score_55 : decode zb_Mo_score 55 = .ok (.getfield 45, 3) := by decide +kernel
theorem zd_Mo_score_58 : decode zb_Mo_score 58 = .ok (.iload 4, 2) := by decide +kernel
theorem zd_Mo_score_60 : decode zb_Mo_score 60 = .ok (.iaload, 1) := by decide +kernel
theorem zd_Mo_score_61 : decode zb_Mo_score 61 = .ok (.invokestatic 144, 3) := by decide +kernel
theorem zd_Mo_score_64 : decode zb_Mo_score 64 = .ok (.ifCond .ne 9, 3) := by decide +kernel
theorem zd_Mo_score_67 : decode zb_Mo_score 67 = .ok (.iinc 4 1, 3) := by decide +kernel
theorem zd_Mo_score_70 : decode zb_Mo_score 70 = .ok (.goto (-25), 3) := by decide +kernel
theorem zd_Mo_score_73 : decode zb_Mo_score 73 = .ok (.aload_n 0, 1) := by decide +kernel
theorem zd_Mo_score_74 : decode zb_Mo_score 74 = .ok (.iload 5, 2) := by decide +kernel
theorem zd_Mo_score_76 : decode zb_Mo_score 76 = .ok (.iload 4, 2) := by decide +kernel
theorem zd_Mo_score_78 : decode zb_Mo_score 78 = .ok (.iload 5, 2) := by decide +kernel
theorem zd_Mo_score_80 : decode zb_Mo_score 80 = .ok (.isub, 1) := by decide +kernel
theorem zd_Mo_score_81 : decode zb_Mo_score 81 = .ok (.invokevirtual 147, 3) := by decide +kernel
theorem zd_Mo_score_84 : decode zb_Mo_score 84 = .ok (.istore 6, 2) := by decide +kernel
theorem zd_Mo_score_86 : decode zb_Mo_score 86 = .ok (.iload 6, 2) := by decide +kernel
theorem zd_Mo_score_88 : decode zb_Mo_score 88 = .ok (.bipush (-12), 2) := by decide +kernel
theorem zd_Mo_score_90 : decode zb_Mo_score 90 = .ok (.if_icmp .eq 16, 3) := by decide +kernel
theorem zd_Mo_score_93 : decode zb_Mo_score 93 = .ok (.iload 6, 2) := by decide +kernel
theorem zd_Mo_score_95 : decode zb_Mo_score 95 = .ok (.invokestatic 150, 3) := by decide +kernel
theorem zd_Mo_score_98 : decode zb_Mo_score 98 = .ok (.ifCond .eq 13, 3) := by decide +kernel
theorem zd_Mo_score_101 : decode zb_Mo_score 101 = .ok (.iload_n 2, 1) := by decide +kernel
theorem zd_Mo_score_102 : decode zb_Mo_score 102 = .ok (.iconst 2, 1) := by decide +kernel
theorem zd_Mo_score_103 : decode zb_Mo_score 103 = .ok (.if_icmp .ge 8, 3) := by decide +kernel
theorem zd_Mo_score_106 : decode zb_Mo_score 106 = .ok (.iload_n 1, 1) := by decide +kernel
theorem zd_Mo_score_107 : decode zb_Mo_score 107 = .ok (.istore_n 3, 1) := by decide +kernel
theorem zd_Mo_score_108 : decode zb_Mo_score 108 = .ok (.goto 30, 3) := by decide +kernel
theorem zd_Mo_score_111 : decode zb_Mo_score 111 = .ok (.aload_n 0, 1) := by decide +kernel
theorem zd_Mo_score_112 : decode zb_Mo_score 112 = .ok (.getfield 51, 3) := by decide +kernel
theorem zd_Mo_score_115 : decode zb_Mo_score 115 = .ok (.iload_n 1, 1) := by decide +kernel
theorem zd_Mo_score_116 : decode zb_Mo_score 116 = .ok (.iload 6, 2) := by decide +kernel
theorem zd_Mo_score_118 : decode zb_Mo_score 118 = .ok (.iastore, 1) := by decide +kernel
theorem zd_Mo_score_119 : decode zb_Mo_score 119 = .ok (.iload_n 2, 1) := by decide +kernel
theorem zd_Mo_score_120 : decode zb_Mo_score 120 = .ok (.iload 6, 2) := by decide +kernel
theorem zd_Mo_score_122 : decode zb_Mo_score 122 = .ok (.invokestatic 150, 3) := by decide +kernel
theorem zd_Mo_score_125 : decode zb_Mo_score 125 = .ok (.ifCond .eq 7, 3) := by decide +kernel
theorem zd_Mo_score_128 : decode zb_Mo_score 128 = .ok (.iconst (-1), 1) := by decide +kernel
theorem zd_Mo_score_129 : decode zb_Mo_score 129 = .ok (.goto 4, 3) := by decide +kernel
theorem zd_Mo_score_132 : decode zb_Mo_score 132 = .ok (.iconst 1, 1) := by decide +kernel
theorem zd_Mo_score_133 : decode zb_Mo_score 133 = .ok (.iadd, 1) := by decide +kernel
theorem zd_Mo_score_134 : decode zb_Mo_score 134 = .ok (.istore_n 2, 1) := by decide +kernel
theorem zd_Mo_score_135 : decode zb_Mo_score 135 = .ok (.iinc 1 1, 3) := by decide +kernel
theorem zd_Mo_score_138 : decode zb_Mo_score 138 = .ok (.goto (-129), 3) := by decide +kernel
theorem zd_Mo_score_141 : decode zb_Mo_score 141 = .ok (.aload_n 0, 1) := by decide +kernel
theorem zd_Mo_score_142 : decode zb_Mo_score 142 = .ok (.iconst 0, 1) := by decide +kernel
theorem zd_Mo_score_143 : decode zb_Mo_score 143 = .ok (.putfield 137, 3) := by decide +kernel
theorem zd_Mo_score_146 : decode zb_Mo_score 146 = .ok (.iload_n 3, 1) := by decide +kernel
theorem zd_Mo_score_147 : decode zb_Mo_score 147 = .ok (.ifCond .ge 10, 3) := by decide +kernel
theorem zd_Mo_score_150 : decode zb_Mo_score 150 = .ok (.iload_n 2, 1) := by decide +kernel
theorem zd_Mo_score_151 : decode zb_Mo_score 151 = .ok (.iconst 1, 1) := by decide +kernel
theorem zd_Mo_score_152 : decode zb_Mo_score 152 = .ok (.if_icmp .eq 5, 3) := by decide +kernel
theorem zd_Mo_score_155 : decode zb_Mo_score 155 = .ok (.iload_n 1, 1) := by decide +kernel
theorem zd_Mo_score_156 : decode zb_Mo_score 156 = .ok (.istore_n 3, 1) := by decide +kernel
theorem zd_Mo_score_157 : decode zb_Mo_score 157 = .ok (.iload_n 3, 1) := by decide +kernel
theorem zd_Mo_score_158 : decode zb_Mo_score 158 = .ok (.ifCond .lt 7, 3) := by decide +kernel
theorem zd_Mo_score_161 : decode zb_Mo_score 161 = .ok (.iconst (-1), 1) := by decide +kernel
theorem zd_Mo_score_162 : decode zb_Mo_score 162 = .ok (.iload_n 3, 1) := by decide +kernel
theorem zd_Mo_score_163 : decode zb_Mo_score 163 = .ok (.isub, 1) := by decide +kernel
theorem zd_Mo_score_164 : decode zb_Mo_score 164 = .ok (.ireturn, 1) := by decide +kernel
theorem zd_Mo_score_165 : decode zb_Mo_score 165 = .ok (.iconst 0, 1) := by decide +kernel
theorem zd_Mo_score_166 : decode zb_Mo_score 166 = .ok (.istore 5, 2) := by decide +kernel
theorem zd_Mo_score_168 : decode zb_Mo_score 168 = .ok (.iload 5, 2) := by decide +kernel
theorem zd_Mo_score_170 : decode zb_Mo_score 170 = .ok (.iload_n 1, 1) := by decide +kernel
theorem zd_Mo_score_171 : decode zb_Mo_score 171 = .ok (.if_icmp .ge 23, 3) := by decide +kernel
theorem zd_Mo_score_174 : decode zb_Mo_score 174 = .ok (.aload_n 0, 1) := by decide +kernel
theorem zd_Mo_score_175 : decode zb_Mo_score 175 = .ok (.getfield 48, 3) := by decide +kernel
theorem zd_Mo_score_178 : decode zb_Mo_score 178 = .ok (.iload 5, 2) := by decide +kernel
theorem zd_Mo_score_180 : decode zb_Mo_score 180 = .ok (.aload_n 0, 1) := by decide +kernel
theorem zd_Mo_score_181 : decode zb_Mo_score 181 = .ok (.getfield 51, 3) := by decide +kernel
theorem zd_Mo_score_184 : decode zb_Mo_score 184 = .ok (.iload 5, 2) := by decide +kernel
theorem zd_Mo_score_186 : decode zb_Mo_score 186 = .ok (.iaload, 1) := by decide +kernel
theorem zd_Mo_score_187 : decode zb_Mo_score 187 = .ok (.iastore, 1) := by decide +kernel
theorem zd_Mo_score_188 : decode zb_Mo_score 188 = .ok (.iinc 5 1, 3) := by decide +kernel
theorem zd_Mo_score_191 : decode zb_Mo_score 191 = .ok (.goto (-23), 3) := by decide +kernel
theorem zd_Mo_score_194 : decode zb_Mo_score 194 = .ok (.aload_n 0, 1) := by decide +kernel
theorem zd_Mo_score_195 : decode zb_Mo_score 195 = .ok (.iload_n 1, 1) := by decide +kernel
theorem zd_Mo_score_196 : decode zb_Mo_score 196 = .ok (.putfield 153, 3) := by decide +kernel
theorem zd_Mo_score_199 : decode zb_Mo_score 199 = .ok (.aload_n 0, 1) := by decide +kernel
theorem zd_Mo_score_200 : decode zb_Mo_score 200 = .ok (.iconst 1, 1) := by decide +kernel
theorem zd_Mo_score_201 : decode zb_Mo_score 201 = .ok (.putfield 156, 3) := by decide +kernel
theorem zd_Mo_score_204 : decode zb_Mo_score 204 = .ok (.iload_n 1, 1) := by decide +kernel
theorem zd_Mo_score_205 : decode zb_Mo_score 205 = .ok (.ireturn, 1) := by decide +kernel
theorem zd_Mo_shareOf_0 : decode zb_Mo_shareOf 0 = .ok (.lconst 0, 1) := by decide +kernel
theorem zd_Mo_shareOf_1 : decode zb_Mo_shareOf 1 = .ok (.lstore_n 3, 1) := by decide +kernel
theorem zd_Mo_shareOf_2 : decode zb_Mo_shareOf 2 = .ok (.lconst 0, 1) := by decide +kernel
theorem zd_Mo_shareOf_3 : decode zb_Mo_shareOf 3 = .ok (.lstore 5, 2) := by decide +kernel
theorem zd_Mo_shareOf_5 : decode zb_Mo_shareOf 5 = .ok (.iconst 0, 1) := by decide +kernel
theorem zd_Mo_shareOf_6 : decode zb_Mo_shareOf 6 = .ok (.istore 7, 2) := by decide +kernel
theorem zd_Mo_shareOf_8 : decode zb_Mo_shareOf 8 = .ok (.iload 7, 2) := by decide +kernel
theorem zd_Mo_shareOf_10 : decode zb_Mo_shareOf 10 = .ok (.iconst 5, 1) := by decide +kernel
theorem zd_Mo_shareOf_11 : decode zb_Mo_shareOf 11 = .ok (.if_icmp .ge 46, 3) := by decide +kernel
theorem zd_Mo_shareOf_14 : decode zb_Mo_shareOf 14 = .ok (.aload_n 0, 1) := by decide +kernel
theorem zd_Mo_shareOf_15 : decode zb_Mo_shareOf 15 = .ok (.iload 7, 2) := by decide +kernel
theorem zd_Mo_shareOf_17 : decode zb_Mo_shareOf 17 = .ok (.ldc2_w 98, 3) := by decide +kernel
theorem zd_Mo_shareOf_20 : decode zb_Mo_shareOf 20 = .ok (.invokevirtual 121, 3) := by decide +kernel
theorem zd_Mo_shareOf_23 : decode zb_Mo_shareOf 23 = .ok (.lload_n 3, 1) := by decide +kernel
theorem zd_Mo_shareOf_24 : decode zb_Mo_shareOf 24 = .ok (.aload_n 0, 1) := by decide +kernel
theorem zd_Mo_shareOf_25 : decode zb_Mo_shareOf 25 = .ok (.getfield 60, 3) := by decide +kernel
theorem zd_Mo_shareOf_28 : decode zb_Mo_shareOf 28 = .ok (.iload_n 1, 1) := by decide +kernel
theorem zd_Mo_shareOf_29 : decode zb_Mo_shareOf 29 = .ok (.laload, 1) := by decide +kernel
theorem zd_Mo_shareOf_30 : decode zb_Mo_shareOf 30 = .ok (.ladd, 1) := by decide +kernel
theorem zd_Mo_shareOf_31 : decode zb_Mo_shareOf 31 = .ok (.lstore_n 3, 1) := by decide +kernel
theorem zd_Mo_shareOf_32 : decode zb_Mo_shareOf 32 = .ok (.iload 7, 2) := by decide +kernel
theorem zd_Mo_shareOf_34 : decode zb_Mo_shareOf 34 = .ok (.iload_n 2, 1) := by decide +kernel
theorem zd_Mo_shareOf_35 : decode zb_Mo_shareOf 35 = .ok (.if_icmp .ne 12, 3) := by decide +kernel
theorem zd_Mo_shareOf_38 : decode zb_Mo_shareOf 38 = .ok (.aload_n 0, 1) := by decide +kernel
theorem zd_Mo_shareOf_39 : decode zb_Mo_shareOf 39 = .ok (.getfield 60, 3) := by decide +kernel
theorem zd_Mo_shareOf_42 : decode zb_Mo_shareOf 42 = .ok (.iload_n 1, 1) := by decide +kernel
theorem zd_Mo_shareOf_43 : decode zb_Mo_shareOf 43 = .ok (.laload, 1) := by decide +kernel
theorem zd_Mo_shareOf_44 : decode zb_Mo_shareOf 44 = .ok (.goto 5, 3) := by decide +kernel
theorem zd_Mo_shareOf_47 : decode zb_Mo_shareOf 47 = .ok (.lload 5, 2) := by decide +kernel
theorem zd_Mo_shareOf_49 : decode zb_Mo_shareOf 49 = .ok (.lstore 5, 2) := by decide +kernel
theorem zd_Mo_shareOf_51 : decode zb_Mo_shareOf 51 = .ok (.iinc 7 1, 3) := by decide +kernel
theorem zd_Mo_shareOf_54 : decode zb_Mo_shareOf 54 = .ok (.goto (-46), 3) := by decide +kernel
theorem zd_Mo_shareOf_57 : decode zb_Mo_shareOf 57 = .ok (.lload_n 3, 1) := by decide +kernel
theorem zd_Mo_shareOf_58 : decode zb_Mo_shareOf 58 = .ok (.lconst 0, 1) := by decide +kernel
theorem zd_Mo_shareOf_59 : decode zb_Mo_shareOf 59 = .ok (.lcmp, 1) := by decide +kernel
theorem zd_Mo_shareOf_60 : decode zb_Mo_shareOf 60 = .ok (.ifCond .ne 7, 3) := by decide +kernel
theorem zd_Mo_shareOf_63 : decode zb_Mo_shareOf 63 = .ok (.lconst 0, 1) := by decide +kernel
theorem zd_Mo_shareOf_64 : decode zb_Mo_shareOf 64 = .ok (.goto 11, 3) := by decide +kernel
theorem zd_Mo_shareOf_67 : decode zb_Mo_shareOf 67 = .ok (.ldc2_w 164, 3) := by decide +kernel
theorem zd_Mo_shareOf_70 : decode zb_Mo_shareOf 70 = .ok (.lload 5, 2) := by decide +kernel
theorem zd_Mo_shareOf_72 : decode zb_Mo_shareOf 72 = .ok (.lmul, 1) := by decide +kernel
theorem zd_Mo_shareOf_73 : decode zb_Mo_shareOf 73 = .ok (.lload_n 3, 1) := by decide +kernel
theorem zd_Mo_shareOf_74 : decode zb_Mo_shareOf 74 = .ok (.ldiv, 1) := by decide +kernel
theorem zd_Mo_shareOf_75 : decode zb_Mo_shareOf 75 = .ok (.lreturn, 1) := by decide +kernel
theorem zd_Mo_countOf_0 : decode zb_Mo_countOf 0 = .ok (.iconst 0, 1) := by decide +kernel
theorem zd_Mo_countOf_1 : decode zb_Mo_countOf 1 = .ok (.istore_n 2, 1) := by decide +kernel
theorem zd_Mo_countOf_2 : decode zb_Mo_countOf 2 = .ok (.iconst 0, 1) := by decide +kernel
theorem zd_Mo_countOf_3 : decode zb_Mo_countOf 3 = .ok (.istore_n 3, 1) := by decide +kernel
theorem zd_Mo_countOf_4 : decode zb_Mo_countOf 4 = .ok (.iload_n 3, 1) := by decide +kernel
theorem zd_Mo_countOf_5 : decode zb_Mo_countOf 5 = .ok (.aload_n 0, 1) := by decide +kernel
theorem zd_Mo_countOf_6 : decode zb_Mo_countOf 6 = .ok (.getfield 70, 3) := by decide +kernel
theorem zd_Mo_countOf_9 : decode zb_Mo_countOf 9 = .ok (.if_icmp .ge 27, 3) := by decide +kernel
theorem zd_Mo_countOf_12 : decode zb_Mo_countOf 12 = .ok (.iload_n 2, 1) := by decide +kernel
theorem zd_Mo_countOf_13 : decode zb_Mo_countOf 13 = .ok (.aload_n 0, 1) := by decide +kernel
theorem zd_Mo_countOf_14 : decode zb_Mo_countOf 14 = .ok (.getfield 13, 3) := by decide +kernel
theorem zd_Mo_countOf_17 : decode zb_Mo_countOf 17 = .ok (.iload_n 3, 1) := by decide +kernel
theorem zd_Mo_countOf_18 : decode zb_Mo_countOf 18 = .ok (.iaload, 1) := by decide +kernel
theorem zd_Mo_countOf_19 : decode zb_Mo_countOf 19 = .ok (.iload_n 1, 1) := by decide +kernel
theorem zd_Mo_countOf_20 : decode zb_Mo_countOf 20 = .ok (.if_icmp .ne 7, 3) := by decide +kernel
theorem zd_Mo_countOf_23 : decode zb_Mo_countOf 23 = .ok (.iconst 1, 1) := by decide +kernel
theorem zd_Mo_countOf_24 : decode zb_Mo_countOf 24 = .ok (.goto 4, 3) := by decide +kernel
theorem zd_Mo_countOf_27 : decode zb_Mo_countOf 27 = .ok (.iconst 0, 1) := by decide +kernel
theorem zd_Mo_countOf_28 : decode zb_Mo_countOf 28 = .ok (.iadd, 1) := by decide +kernel
theorem zd_Mo_countOf_29 : decode zb_Mo_countOf 29 = .ok (.istore_n 2, 1) := by decide +kernel
theorem zd_Mo_countOf_30 : decode zb_Mo_countOf 30 = .ok (.iinc 3 1, 3) := by decide +kernel
theorem zd_Mo_countOf_33 : decode zb_Mo_countOf 33 = .ok (.goto (-29), 3) := by decide +kernel
theorem zd_Mo_countOf_36 : decode zb_Mo_countOf 36 = .ok (.iload_n 2, 1) := by decide +kernel
theorem zd_Mo_countOf_37 : decode zb_Mo_countOf 37 = .ok (.i2l, 1) := by decide +kernel
theorem zd_Mo_countOf_38 : decode zb_Mo_countOf 38 = .ok (.lreturn, 1) := by decide +kernel
theorem zd_Mo_product_0 : decode zb_Mo_product 0 = .ok (.lload_n 0, 1) := by decide +kernel
theorem zd_Mo_product_1 : decode zb_Mo_product 1 = .ok (.lconst 0, 1) := by decide +kernel
theorem zd_Mo_product_2 : decode zb_Mo_product 2 = .ok (.lcmp, 1) := by decide +kernel
theorem zd_Mo_product_3 : decode zb_Mo_product 3 = .ok (.ifCond .eq 9, 3) := by decide +kernel
theorem zd_Mo_product_6 : decode zb_Mo_product 6 = .ok (.lload_n 2, 1) := by decide +kernel
theorem zd_Mo_product_7 : decode zb_Mo_product 7 = .ok (.lconst 0, 1) := by decide +kernel
theorem zd_Mo_product_8 : decode zb_Mo_product 8 = .ok (.lcmp, 1) := by decide +kernel
theorem zd_Mo_product_9 : decode zb_Mo_product 9 = .ok (.ifCond .ne 5, 3) := by decide +kernel
theorem zd_Mo_product_12 : decode zb_Mo_product 12 = .ok (.lconst 0, 1) := by decide +kernel
theorem zd_Mo_product_13 : decode zb_Mo_product 13 = .ok (.lreturn, 1) := by decide +kernel
theorem zd_Mo_product_14 : decode zb_Mo_product 14 = .ok (.lload_n 0, 1) := by decide +kernel
theorem zd_Mo_product_15 : decode zb_Mo_product 15 = .ok (.lconst 0, 1) := by decide +kernel
theorem zd_Mo_product_16 : decode zb_Mo_product 16 = .ok (.lcmp, 1) := by decide +kernel
theorem zd_Mo_product_17 : decode zb_Mo_product 17 = .ok (.ifCond .ge 8, 3) := by decide +kernel
theorem zd_Mo_product_20 : decode zb_Mo_product 20 = .ok (.lload_n 0, 1) := by decide +kernel
theorem zd_Mo_product_21 : decode zb_Mo_product 21 = .ok (.lneg, 1) := by decide +kernel
theorem zd_Mo_product_22 : decode zb_Mo_product 22 = .ok (.goto 4, 3) := by decide +kernel
theorem zd_Mo_product_25 : decode zb_Mo_product 25 = .ok (.lload_n 0, 1) := by decide +kernel
theorem zd_Mo_product_26 : decode zb_Mo_product 26 = .ok (.lstore 4, 2) := by decide +kernel
theorem zd_Mo_product_28 : decode zb_Mo_product 28 = .ok (.lload_n 2, 1) := by decide +kernel
theorem zd_Mo_product_29 : decode zb_Mo_product 29 = .ok (.lconst 0, 1) := by decide +kernel
theorem zd_Mo_product_30 : decode zb_Mo_product 30 = .ok (.lcmp, 1) := by decide +kernel
theorem zd_Mo_product_31 : decode zb_Mo_product 31 = .ok (.ifCond .ge 8, 3) := by decide +kernel
theorem zd_Mo_product_34 : decode zb_Mo_product 34 = .ok (.lload_n 2, 1) := by decide +kernel
theorem zd_Mo_product_35 : decode zb_Mo_product 35 = .ok (.lneg, 1) := by decide +kernel
theorem zd_Mo_product_36 : decode zb_Mo_product 36 = .ok (.goto 4, 3) := by decide +kernel
theorem zd_Mo_product_39 : decode zb_Mo_product 39 = .ok (.lload_n 2, 1) := by decide +kernel
theorem zd_Mo_product_40 : decode zb_Mo_product 40 = .ok (.lstore 6, 2) := by decide +kernel
theorem zd_Mo_product_42 : decode zb_Mo_product 42 = .ok (.lload 6, 2) := by decide +kernel
theorem zd_Mo_product_44 : decode zb_Mo_product 44 = .ok (.ldc2_w 160, 3) := by decide +kernel
theorem zd_Mo_product_47 : decode zb_Mo_product 47 = .ok (.lload 4, 2) := by decide +kernel
theorem zd_Mo_product_49 : decode zb_Mo_product 49 = .ok (.ldiv, 1) := by decide +kernel
theorem zd_Mo_product_50 : decode zb_Mo_product 50 = .ok (.lcmp, 1) := by decide +kernel
theorem zd_Mo_product_51 : decode zb_Mo_product 51 = .ok (.ifCond .le 9, 3) := by decide +kernel
theorem zd_Mo_product_54 : decode zb_Mo_product 54 = .ok (.ldc2_w 160, 3) := by decide +kernel
theorem zd_Mo_product_57 : decode zb_Mo_product 57 = .ok (.goto 8, 3) := by decide +kernel
theorem zd_Mo_product_60 : decode zb_Mo_product 60 = .ok (.lload 4, 2) := by decide +kernel
theorem zd_Mo_product_62 : decode zb_Mo_product 62 = .ok (.lload 6, 2) := by decide +kernel
theorem zd_Mo_product_64 : decode zb_Mo_product 64 = .ok (.lmul, 1) := by decide +kernel
theorem zd_Mo_product_65 : decode zb_Mo_product 65 = .ok (.lstore 8, 2) := by decide +kernel
theorem zd_Mo_product_67 : decode zb_Mo_product 67 = .ok (.lload_n 0, 1) := by decide +kernel
theorem zd_Mo_product_68 : decode zb_Mo_product 68 = .ok (.lconst 0, 1) := by decide +kernel
theorem zd_Mo_product_69 : decode zb_Mo_product 69 = .ok (.lcmp, 1) := by decide +kernel
theorem zd_Mo_product_70 : decode zb_Mo_product 70 = .ok (.ifCond .ge 7, 3) := by decide +kernel
theorem zd_Mo_product_73 : decode zb_Mo_product 73 = .ok (.iconst 1, 1) := by decide +kernel
theorem zd_Mo_product_74 : decode zb_Mo_product 74 = .ok (.goto 4, 3) := by decide +kernel
theorem zd_Mo_product_77 : decode zb_Mo_product 77 = .ok (.iconst 0, 1) := by decide +kernel
theorem zd_Mo_product_78 : decode zb_Mo_product 78 = .ok (.lload_n 2, 1) := by decide +kernel
theorem zd_Mo_product_79 : decode zb_Mo_product 79 = .ok (.lconst 0, 1) := by decide +kernel
theorem zd_Mo_product_80 : decode zb_Mo_product 80 = .ok (.lcmp, 1) := by decide +kernel
theorem zd_Mo_product_81 : decode zb_Mo_product 81 = .ok (.ifCond .ge 7, 3) := by decide +kernel
theorem zd_Mo_product_84 : decode zb_Mo_product 84 = .ok (.iconst 1, 1) := by decide +kernel
theorem zd_Mo_product_85 : decode zb_Mo_product 85 = .ok (.goto 4, 3) := by decide +kernel
theorem zd_Mo_product_88 : decode zb_Mo_product 88 = .ok (.iconst 0, 1) := by decide +kernel
theorem zd_Mo_product_89 : decode zb_Mo_product 89 = .ok (.if_icmp .ne 8, 3) := by decide +kernel
theorem zd_Mo_product_92 : decode zb_Mo_product 92 = .ok (.lload 8, 2) := by decide +kernel
theorem zd_Mo_product_94 : decode zb_Mo_product 94 = .ok (.goto 6, 3) := by decide +kernel
theorem zd_Mo_product_97 : decode zb_Mo_product 97 = .ok (.lload 8, 2) := by decide +kernel
theorem zd_Mo_product_99 : decode zb_Mo_product 99 = .ok (.lneg, 1) := by decide +kernel
theorem zd_Mo_product_100 : decode zb_Mo_product 100 = .ok (.lreturn, 1) := by decide +kernel
theorem zd_Mo_cut_0 : decode zb_Mo_cut 0 = .ok (.lload_n 0, 1) := by decide +kernel
theorem zd_Mo_cut_1 : decode zb_Mo_cut 1 = .ok (.ldc2_w 160, 3) := by decide +kernel
theorem zd_Mo_cut_4 : decode zb_Mo_cut 4 = .ok (.lcmp, 1) := by decide +kernel
theorem zd_Mo_cut_5 : decode zb_Mo_cut 5 = .ok (.ifCond .le 9, 3) := by decide +kernel
theorem zd_Mo_cut_8 : decode zb_Mo_cut 8 = .ok (.ldc2_w 160, 3) := by decide +kernel
theorem zd_Mo_cut_11 : decode zb_Mo_cut 11 = .ok (.goto 18, 3) := by decide +kernel
theorem zd_Mo_cut_14 : decode zb_Mo_cut 14 = .ok (.lload_n 0, 1) := by decide +kernel
theorem zd_Mo_cut_15 : decode zb_Mo_cut 15 = .ok (.ldc2_w 162, 3) := by decide +kernel
theorem zd_Mo_cut_18 : decode zb_Mo_cut 18 = .ok (.lcmp, 1) := by decide +kernel
theorem zd_Mo_cut_19 : decode zb_Mo_cut 19 = .ok (.ifCond .ge 9, 3) := by decide +kernel
theorem zd_Mo_cut_22 : decode zb_Mo_cut 22 = .ok (.ldc2_w 162, 3) := by decide +kernel
theorem zd_Mo_cut_25 : decode zb_Mo_cut 25 = .ok (.goto 4, 3) := by decide +kernel
theorem zd_Mo_cut_28 : decode zb_Mo_cut 28 = .ok (.lload_n 0, 1) := by decide +kernel
theorem zd_Mo_cut_29 : decode zb_Mo_cut 29 = .ok (.lreturn, 1) := by decide +kernel
theorem zd_Mo_ofTwo_0 : decode zb_Mo_ofTwo 0 = .ok (.iload_n 0, 1) := by decide +kernel
theorem zd_Mo_ofTwo_1 : decode zb_Mo_ofTwo 1 = .ok (.tableswitch 63 (-10) (-7) #[51, 45, 38, 31], 31) := by decide +kernel
theorem zd_Mo_ofTwo_32 : decode zb_Mo_ofTwo 32 = .ok (.lload_n 1, 1) := by decide +kernel
theorem zd_Mo_ofTwo_33 : decode zb_Mo_ofTwo 33 = .ok (.lload_n 3, 1) := by decide +kernel
theorem zd_Mo_ofTwo_34 : decode zb_Mo_ofTwo 34 = .ok (.ladd, 1) := by decide +kernel
theorem zd_Mo_ofTwo_35 : decode zb_Mo_ofTwo 35 = .ok (.invokestatic 166, 3) := by decide +kernel
theorem zd_Mo_ofTwo_38 : decode zb_Mo_ofTwo 38 = .ok (.lreturn, 1) := by decide +kernel
theorem zd_Mo_ofTwo_39 : decode zb_Mo_ofTwo 39 = .ok (.lload_n 1, 1) := by decide +kernel
theorem zd_Mo_ofTwo_40 : decode zb_Mo_ofTwo 40 = .ok (.lload_n 3, 1) := by decide +kernel
theorem zd_Mo_ofTwo_41 : decode zb_Mo_ofTwo 41 = .ok (.lsub, 1) := by decide +kernel
theorem zd_Mo_ofTwo_42 : decode zb_Mo_ofTwo 42 = .ok (.invokestatic 166, 3) := by decide +kernel
theorem zd_Mo_ofTwo_45 : decode zb_Mo_ofTwo 45 = .ok (.lreturn, 1) := by decide +kernel
theorem zd_Mo_ofTwo_46 : decode zb_Mo_ofTwo 46 = .ok (.lload_n 1, 1) := by decide +kernel
theorem zd_Mo_ofTwo_47 : decode zb_Mo_ofTwo 47 = .ok (.lload_n 3, 1) := by decide +kernel
theorem zd_Mo_ofTwo_48 : decode zb_Mo_ofTwo 48 = .ok (.invokestatic 170, 3) := by decide +kernel
theorem zd_Mo_ofTwo_51 : decode zb_Mo_ofTwo 51 = .ok (.lreturn, 1) := by decide +kernel
theorem zd_Mo_ofTwo_52 : decode zb_Mo_ofTwo 52 = .ok (.lload_n 1, 1) := by decide +kernel
theorem zd_Mo_ofTwo_53 : decode zb_Mo_ofTwo 53 = .ok (.lload_n 3, 1) := by decide +kernel
theorem zd_Mo_ofTwo_54 : decode zb_Mo_ofTwo 54 = .ok (.lcmp, 1) := by decide +kernel
theorem zd_Mo_ofTwo_55 : decode zb_Mo_ofTwo 55 = .ok (.ifCond .ge 7, 3) := by decide +kernel
theorem zd_Mo_ofTwo_58 : decode zb_Mo_ofTwo 58 = .ok (.lload_n 1, 1) := by decide +kernel
theorem zd_Mo_ofTwo_59 : decode zb_Mo_ofTwo 59 = .ok (.goto 4, 3) := by decide +kernel
theorem zd_Mo_ofTwo_62 : decode zb_Mo_ofTwo 62 = .ok (.lload_n 3, 1) := by decide +kernel
theorem zd_Mo_ofTwo_63 : decode zb_Mo_ofTwo 63 = .ok (.lreturn, 1) := by decide +kernel
theorem zd_Mo_ofTwo_64 : decode zb_Mo_ofTwo 64 = .ok (.lload_n 1, 1) := by decide +kernel
theorem zd_Mo_ofTwo_65 : decode zb_Mo_ofTwo 65 = .ok (.lload_n 3, 1) := by decide +kernel
theorem zd_Mo_ofTwo_66 : decode zb_Mo_ofTwo 66 = .ok (.lcmp, 1) := by decide +kernel
theorem zd_Mo_ofTwo_67 : decode zb_Mo_ofTwo 67 = .ok (.ifCond .le 7, 3) := by decide +kernel
theorem zd_Mo_ofTwo_70 : decode zb_Mo_ofTwo 70 = .ok (.lload_n 1, 1) := by decide +kernel
theorem zd_Mo_ofTwo_71 : decode zb_Mo_ofTwo 71 = .ok (.goto 4, 3) := by decide +kernel
theorem zd_Mo_ofTwo_74 : decode zb_Mo_ofTwo 74 = .ok (.lload_n 3, 1) := by decide +kernel
theorem zd_Mo_ofTwo_75 : decode zb_Mo_ofTwo 75 = .ok (.lreturn, 1) := by decide +kernel
theorem zd_Mo_valueOf_0 : decode zb_Mo_valueOf 0 = .ok (.iconst 0, 1) := by decide +kernel
theorem zd_Mo_valueOf_1 : decode zb_Mo_valueOf 1 = .ok (.istore_n 2, 1) := by decide +kernel
theorem zd_Mo_valueOf_2 : decode zb_Mo_valueOf 2 = .ok (.iconst 0, 1) := by decide +kernel
theorem zd_Mo_valueOf_3 : decode zb_Mo_valueOf 3 = .ok (.istore_n 3, 1) := by decide +kernel
theorem zd_Mo_valueOf_4 : decode zb_Mo_valueOf 4 = .ok (.iload_n 3, 1) := by decide +kernel
theorem zd_Mo_valueOf_5 : decode zb_Mo_valueOf 5 = .ok (.aload_n 0, 1) := by decide +kernel
theorem zd_Mo_valueOf_6 : decode zb_Mo_valueOf 6 = .ok (.getfield 153, 3) := by decide +kernel
theorem zd_Mo_valueOf_9 : decode zb_Mo_valueOf 9 = .ok (.if_icmp .ge 102, 3) := by decide +kernel
theorem zd_Mo_valueOf_12 : decode zb_Mo_valueOf 12 = .ok (.aload_n 0, 1) := by decide +kernel
theorem zd_Mo_valueOf_13 : decode zb_Mo_valueOf 13 = .ok (.getfield 48, 3) := by decide +kernel
theorem zd_Mo_valueOf_16 : decode zb_Mo_valueOf 16 = .ok (.iload_n 3, 1) := by decide +kernel
theorem zd_Mo_valueOf_17 : decode zb_Mo_valueOf 17 = .ok (.iaload, 1) := by decide +kernel
theorem zd_Mo_valueOf_18 : decode zb_Mo_valueOf 18 = .ok (.istore 4, 2) := by decide +kernel
theorem zd_Mo_valueOf_20 : decode zb_Mo_valueOf 20 = .ok (.iload 4, 2) := by decide +kernel
theorem zd_Mo_valueOf_22 : decode zb_Mo_valueOf 22 = .ok (.invokestatic 150, 3) := by decide +kernel
theorem zd_Mo_valueOf_25 : decode zb_Mo_valueOf 25 = .ok (.ifCond .eq 36, 3) := by decide +kernel
theorem zd_Mo_valueOf_28 : decode zb_Mo_valueOf 28 = .ok (.iinc 2 (-1), 3) := by decide +kernel
theorem zd_Mo_valueOf_31 : decode zb_Mo_valueOf 31 = .ok (.aload_n 0, 1) := by decide +kernel
theorem zd_Mo_valueOf_32 : decode zb_Mo_valueOf 32 = .ok (.getfield 54, 3) := by decide +kernel
theorem zd_Mo_valueOf_35 : decode zb_Mo_valueOf 35 = .ok (.iload_n 2, 1) := by decide +kernel
theorem zd_Mo_valueOf_36 : decode zb_Mo_valueOf 36 = .ok (.iconst 1, 1) := by decide +kernel
theorem zd_Mo_valueOf_37 : decode zb_Mo_valueOf 37 = .ok (.isub, 1) := by decide +kernel
theorem zd_Mo_valueOf_38 : decode zb_Mo_valueOf 38 = .ok (.iload 4, 2) := by decide +kernel
theorem zd_Mo_valueOf_40 : decode zb_Mo_valueOf 40 = .ok (.aload_n 0, 1) := by decide +kernel
theorem zd_Mo_valueOf_41 : decode zb_Mo_valueOf 41 = .ok (.getfield 54, 3) := by decide +kernel
theorem zd_Mo_valueOf_44 : decode zb_Mo_valueOf 44 = .ok (.iload_n 2, 1) := by decide +kernel
theorem zd_Mo_valueOf_45 : decode zb_Mo_valueOf 45 = .ok (.iconst 1, 1) := by decide +kernel
theorem zd_Mo_valueOf_46 : decode zb_Mo_valueOf 46 = .ok (.isub, 1) := by decide +kernel
theorem zd_Mo_valueOf_47 : decode zb_Mo_valueOf 47 = .ok (.laload, 1) := by decide +kernel
theorem zd_Mo_valueOf_48 : decode zb_Mo_valueOf 48 = .ok (.aload_n 0, 1) := by decide +kernel
theorem zd_Mo_valueOf_49 : decode zb_Mo_valueOf 49 = .ok (.getfield 54, 3) := by decide +kernel
theorem zd_Mo_valueOf_52 : decode zb_Mo_valueOf 52 = .ok (.iload_n 2, 1) := by decide +kernel
theorem zd_Mo_valueOf_53 : decode zb_Mo_valueOf 53 = .ok (.laload, 1) := by decide +kernel
theorem zd_Mo_valueOf_54 : decode zb_Mo_valueOf 54 = .ok (.invokestatic 174, 3) := by decide +kernel
theorem zd_Mo_valueOf_57 : decode zb_Mo_valueOf 57 = .ok (.lastore, 1) := by decide +kernel
theorem zd_Mo_valueOf_58 : decode zb_Mo_valueOf 58 = .ok (.goto 47, 3) := by decide +kernel
theorem zd_Mo_valueOf_61 : decode zb_Mo_valueOf 61 = .ok (.aload_n 0, 1) := by decide +kernel
theorem zd_Mo_valueOf_62 : decode zb_Mo_valueOf 62 = .ok (.getfield 54, 3) := by decide +kernel
theorem zd_Mo_valueOf_65 : decode zb_Mo_valueOf 65 = .ok (.iload_n 2, 1) := by decide +kernel
theorem zd_Mo_valueOf_66 : decode zb_Mo_valueOf 66 = .ok (.iload 4, 2) := by decide +kernel
theorem zd_Mo_valueOf_68 : decode zb_Mo_valueOf 68 = .ok (.ifCond .lt 9, 3) := by decide +kernel
theorem zd_Mo_valueOf_71 : decode zb_Mo_valueOf 71 = .ok (.iload 4, 2) := by decide +kernel
theorem zd_Mo_valueOf_73 : decode zb_Mo_valueOf 73 = .ok (.i2l, 1) := by decide +kernel
theorem zd_Mo_valueOf_74 : decode zb_Mo_valueOf 74 = .ok (.goto 27, 3) := by decide +kernel
theorem zd_Mo_valueOf_77 : decode zb_Mo_valueOf 77 = .ok (.iload 4, 2) := by decide +kernel
theorem zd_Mo_valueOf_79 : decode zb_Mo_valueOf 79 = .ok (.bipush (-6), 2) := by decide +kernel
theorem zd_Mo_valueOf_81 : decode zb_Mo_valueOf 81 = .ok (.if_icmp .ne 11, 3) := by decide +kernel
theorem zd_Mo_valueOf_84 : decode zb_Mo_valueOf 84 = .ok (.aload_n 0, 1) := by decide +kernel
theorem zd_Mo_valueOf_85 : decode zb_Mo_valueOf 85 = .ok (.iload_n 1, 1) := by decide +kernel
theorem zd_Mo_valueOf_86 : decode zb_Mo_valueOf 86 = .ok (.invokevirtual 178, 3) := by decide +kernel
theorem zd_Mo_valueOf_89 : decode zb_Mo_valueOf 89 = .ok (.goto 12, 3) := by decide +kernel
theorem zd_Mo_valueOf_92 : decode zb_Mo_valueOf 92 = .ok (.aload_n 0, 1) := by decide +kernel
theorem zd_Mo_valueOf_93 : decode zb_Mo_valueOf 93 = .ok (.iload_n 1, 1) := by decide +kernel
theorem zd_Mo_valueOf_94 : decode zb_Mo_valueOf 94 = .ok (.iconst (-1), 1) := by decide +kernel
theorem zd_Mo_valueOf_95 : decode zb_Mo_valueOf 95 = .ok (.iload 4, 2) := by decide +kernel
theorem zd_Mo_valueOf_97 : decode zb_Mo_valueOf 97 = .ok (.isub, 1) := by decide +kernel
theorem zd_Mo_valueOf_98 : decode zb_Mo_valueOf 98 = .ok (.invokevirtual 182, 3) := by decide +kernel
theorem zd_Mo_valueOf_101 : decode zb_Mo_valueOf 101 = .ok (.lastore, 1) := by decide +kernel
theorem zd_Mo_valueOf_102 : decode zb_Mo_valueOf 102 = .ok (.iinc 2 1, 3) := by decide +kernel
theorem zd_Mo_valueOf_105 : decode zb_Mo_valueOf 105 = .ok (.iinc 3 1, 3) := by decide +kernel
theorem zd_Mo_valueOf_108 : decode zb_Mo_valueOf 108 = .ok (.goto (-104), 3) := by decide +kernel
theorem zd_Mo_valueOf_111 : decode zb_Mo_valueOf 111 = .ok (.aload_n 0, 1) := by decide +kernel
theorem zd_Mo_valueOf_112 : decode zb_Mo_valueOf 112 = .ok (.getfield 54, 3) := by decide +kernel
theorem zd_Mo_valueOf_115 : decode zb_Mo_valueOf 115 = .ok (.iconst 0, 1) := by decide +kernel
theorem zd_Mo_valueOf_116 : decode zb_Mo_valueOf 116 = .ok (.laload, 1) := by decide +kernel
theorem zd_Mo_valueOf_117 : decode zb_Mo_valueOf 117 = .ok (.lreturn, 1) := by decide +kernel
theorem zd_Mo_scored_0 : decode zb_Mo_scored 0 = .ok (.aload_n 0, 1) := by decide +kernel
theorem zd_Mo_scored_1 : decode zb_Mo_scored 1 = .ok (.getfield 156, 3) := by decide +kernel
theorem zd_Mo_scored_4 : decode zb_Mo_scored 4 = .ok (.ifCond .eq 19, 3) := by decide +kernel
theorem zd_Mo_scored_7 : decode zb_Mo_scored 7 = .ok (.aload_n 0, 1) := by decide +kernel
theorem zd_Mo_scored_8 : decode zb_Mo_scored 8 = .ok (.iload_n 1, 1) := by decide +kernel
theorem zd_Mo_scored_9 : decode zb_Mo_scored 9 = .ok (.invokevirtual 73, 3) := by decide +kernel
theorem zd_Mo_scored_12 : decode zb_Mo_scored 12 = .ok (.ifCond .eq 11, 3) := by decide +kernel
theorem zd_Mo_scored_15 : decode zb_Mo_scored 15 = .ok (.aload_n 0, 1) := by decide +kernel
theorem zd_Mo_scored_16 : decode zb_Mo_scored 16 = .ok (.iload_n 1, 1) := by decide +kernel
theorem zd_Mo_scored_17 : decode zb_Mo_scored 17 = .ok (.invokevirtual 186, 3) := by decide +kernel
theorem zd_Mo_scored_20 : decode zb_Mo_scored 20 = .ok (.goto 6, 3) := by decide +kernel
theorem zd_Mo_scored_23 : decode zb_Mo_scored 23 = .ok (.ldc2_w 189, 3) := by decide +kernel
theorem zd_Mo_scored_26 : decode zb_Mo_scored 26 = .ok (.lreturn, 1) := by decide +kernel
theorem zd_Mo_swap_0 : decode zb_Mo_swap 0 = .ok (.aload_n 0, 1) := by decide +kernel
theorem zd_Mo_swap_1 : decode zb_Mo_swap 1 = .ok (.iload_n 1, 1) := by decide +kernel
theorem zd_Mo_swap_2 : decode zb_Mo_swap 2 = .ok (.invokevirtual 88, 3) := by decide +kernel
theorem zd_Mo_swap_5 : decode zb_Mo_swap 5 = .ok (.ifCond .eq 26, 3) := by decide +kernel
theorem zd_Mo_swap_8 : decode zb_Mo_swap 8 = .ok (.iload_n 2, 1) := by decide +kernel
theorem zd_Mo_swap_9 : decode zb_Mo_swap 9 = .ok (.invokestatic 77, 3) := by decide +kernel
theorem zd_Mo_swap_12 : decode zb_Mo_swap 12 = .ok (.ifCond .eq 19, 3) := by decide +kernel
theorem zd_Mo_swap_15 : decode zb_Mo_swap 15 = .ok (.aload_n 0, 1) := by decide +kernel
theorem zd_Mo_swap_16 : decode zb_Mo_swap 16 = .ok (.getfield 156, 3) := by decide +kernel
theorem zd_Mo_swap_19 : decode zb_Mo_swap 19 = .ok (.ifCond .eq 12, 3) := by decide +kernel
theorem zd_Mo_swap_22 : decode zb_Mo_swap 22 = .ok (.aload_n 0, 1) := by decide +kernel
theorem zd_Mo_swap_23 : decode zb_Mo_swap 23 = .ok (.getfield 95, 3) := by decide +kernel
theorem zd_Mo_swap_26 : decode zb_Mo_swap 26 = .ok (.bipush 20, 2) := by decide +kernel
theorem zd_Mo_swap_28 : decode zb_Mo_swap 28 = .ok (.if_icmp .ne 5, 3) := by decide +kernel
theorem zd_Mo_swap_31 : decode zb_Mo_swap 31 = .ok (.iconst (-1), 1) := by decide +kernel
theorem zd_Mo_swap_32 : decode zb_Mo_swap 32 = .ok (.ireturn, 1) := by decide +kernel
theorem zd_Mo_swap_33 : decode zb_Mo_swap 33 = .ok (.aload_n 0, 1) := by decide +kernel
theorem zd_Mo_swap_34 : decode zb_Mo_swap 34 = .ok (.aload_n 0, 1) := by decide +kernel
theorem zd_Mo_swap_35 : decode zb_Mo_swap 35 = .ok (.getfield 13, 3) := by decide +kernel
theorem zd_Mo_swap_38 : decode zb_Mo_swap 38 = .ok (.iload_n 1, 1) := by decide +kernel
theorem zd_Mo_swap_39 : decode zb_Mo_swap 39 = .ok (.iaload, 1) := by decide +kernel
theorem zd_Mo_swap_40 : decode zb_Mo_swap 40 = .ok (.invokevirtual 186, 3) := by decide +kernel
theorem zd_Mo_swap_43 : decode zb_Mo_swap 43 = .ok (.lstore_n 3, 1) := by decide +kernel
theorem zd_Mo_swap_44 : decode zb_Mo_swap 44 = .ok (.aload_n 0, 1) := by decide +kernel
theorem zd_Mo_swap_45 : decode zb_Mo_swap 45 = .ok (.iload_n 1, 1) := by decide +kernel
theorem zd_Mo_swap_46 : decode zb_Mo_swap 46 = .ok (.ldc2_w 98, 3) := by decide +kernel
theorem zd_Mo_swap_49 : decode zb_Mo_swap 49 = .ok (.iload_n 2, 1) := by decide +kernel
theorem zd_Mo_swap_50 : decode zb_Mo_swap 50 = .ok (.aload_n 0, 1) := by decide +kernel
theorem zd_Mo_swap_51 : decode zb_Mo_swap 51 = .ok (.iload_n 1, 1) := by decide +kernel
theorem zd_Mo_swap_52 : decode zb_Mo_swap 52 = .ok (.ldc2_w 98, 3) := by decide +kernel
theorem zd_Mo_swap_55 : decode zb_Mo_swap 55 = .ok (.invokevirtual 111, 3) := by decide +kernel
theorem zd_Mo_swap_58 : decode zb_Mo_swap 58 = .ok (.invokevirtual 100, 3) := by decide +kernel
theorem zd_Mo_swap_61 : decode zb_Mo_swap 61 = .ok (.aload_n 0, 1) := by decide +kernel
theorem zd_Mo_swap_62 : decode zb_Mo_swap 62 = .ok (.aload_n 0, 1) := by decide +kernel
theorem zd_Mo_swap_63 : decode zb_Mo_swap 63 = .ok (.getfield 13, 3) := by decide +kernel
theorem zd_Mo_swap_66 : decode zb_Mo_swap 66 = .ok (.iload_n 1, 1) := by decide +kernel
theorem zd_Mo_swap_67 : decode zb_Mo_swap 67 = .ok (.iaload, 1) := by decide +kernel
theorem zd_Mo_swap_68 : decode zb_Mo_swap 68 = .ok (.invokevirtual 186, 3) := by decide +kernel
theorem zd_Mo_swap_71 : decode zb_Mo_swap 71 = .ok (.lload_n 3, 1) := by decide +kernel
theorem zd_Mo_swap_72 : decode zb_Mo_swap 72 = .ok (.lcmp, 1) := by decide +kernel
theorem zd_Mo_swap_73 : decode zb_Mo_swap 73 = .ok (.ifCond .le 20, 3) := by decide +kernel
theorem zd_Mo_swap_76 : decode zb_Mo_swap 76 = .ok (.aload_n 0, 1) := by decide +kernel
theorem zd_Mo_swap_77 : decode zb_Mo_swap 77 = .ok (.getfield 7, 3) := by decide +kernel
theorem zd_Mo_swap_80 : decode zb_Mo_swap 80 = .ok (.aload_n 0, 1) := by decide +kernel
theorem zd_Mo_swap_81 : decode zb_Mo_swap 81 = .ok (.getfield 13, 3) := by decide +kernel
theorem zd_Mo_swap_84 : decode zb_Mo_swap 84 = .ok (.iload_n 1, 1) := by decide +kernel
theorem zd_Mo_swap_85 : decode zb_Mo_swap 85 = .ok (.iaload, 1) := by decide +kernel
theorem zd_Mo_swap_86 : decode zb_Mo_swap 86 = .ok (.dup2, 1) := by decide +kernel
theorem zd_Mo_swap_87 : decode zb_Mo_swap 87 = .ok (.iaload, 1) := by decide +kernel
theorem zd_Mo_swap_88 : decode zb_Mo_swap 88 = .ok (.iconst 1, 1) := by decide +kernel
theorem zd_Mo_swap_89 : decode zb_Mo_swap 89 = .ok (.iadd, 1) := by decide +kernel
theorem zd_Mo_swap_90 : decode zb_Mo_swap 90 = .ok (.iastore, 1) := by decide +kernel
theorem zd_Mo_swap_91 : decode zb_Mo_swap 91 = .ok (.iconst 1, 1) := by decide +kernel
theorem zd_Mo_swap_92 : decode zb_Mo_swap 92 = .ok (.ireturn, 1) := by decide +kernel
theorem zd_Mo_swap_93 : decode zb_Mo_swap 93 = .ok (.aload_n 0, 1) := by decide +kernel
theorem zd_Mo_swap_94 : decode zb_Mo_swap 94 = .ok (.dup, 1) := by decide +kernel
theorem zd_Mo_swap_95 : decode zb_Mo_swap 95 = .ok (.getfield 95, 3) := by decide +kernel
theorem zd_Mo_swap_98 : decode zb_Mo_swap 98 = .ok (.iconst 1, 1) := by decide +kernel
theorem zd_Mo_swap_99 : decode zb_Mo_swap 99 = .ok (.isub, 1) := by decide +kernel
theorem zd_Mo_swap_100 : decode zb_Mo_swap 100 = .ok (.putfield 95, 3) := by decide +kernel
theorem zd_Mo_swap_103 : decode zb_Mo_swap 103 = .ok (.iconst 0, 1) := by decide +kernel
theorem zd_Mo_swap_104 : decode zb_Mo_swap 104 = .ok (.ireturn, 1) := by decide +kernel
theorem zd_Mo_mark_0 : decode zb_Mo_mark 0 = .ok (.aload_n 0, 1) := by decide +kernel
theorem zd_Mo_mark_1 : decode zb_Mo_mark 1 = .ok (.iload_n 1, 1) := by decide +kernel
theorem zd_Mo_mark_2 : decode zb_Mo_mark 2 = .ok (.invokevirtual 73, 3) := by decide +kernel
theorem zd_Mo_mark_5 : decode zb_Mo_mark 5 = .ok (.ifCond .eq 16, 3) := by decide +kernel
theorem zd_Mo_mark_8 : decode zb_Mo_mark 8 = .ok (.iload 4, 2) := by decide +kernel
theorem zd_Mo_mark_10 : decode zb_Mo_mark 10 = .ok (.i2l, 1) := by decide +kernel
theorem zd_Mo_mark_11 : decode zb_Mo_mark 11 = .ok (.lconst 0, 1) := by decide +kernel
theorem zd_Mo_mark_12 : decode zb_Mo_mark 12 = .ok (.ldc2_w 125, 3) := by decide +kernel
theorem zd_Mo_mark_15 : decode zb_Mo_mark 15 = .ok (.invokestatic 82, 3) := by decide +kernel
theorem zd_Mo_mark_18 : decode zb_Mo_mark 18 = .ok (.ifCond .ne 5, 3) := by decide +kernel
theorem zd_Mo_mark_21 : decode zb_Mo_mark 21 = .ok (.iconst (-1), 1) := by decide +kernel
theorem zd_Mo_mark_22 : decode zb_Mo_mark 22 = .ok (.ireturn, 1) := by decide +kernel
theorem zd_Mo_mark_23 : decode zb_Mo_mark 23 = .ok (.lload_n 2, 1) := by decide +kernel
theorem zd_Mo_mark_24 : decode zb_Mo_mark 24 = .ok (.lstore 5, 2) := by decide +kernel
theorem zd_Mo_mark_26 : decode zb_Mo_mark 26 = .ok (.iconst 0, 1) := by decide +kernel
theorem zd_Mo_mark_27 : decode zb_Mo_mark 27 = .ok (.istore 7, 2) := by decide +kernel
theorem zd_Mo_mark_29 : decode zb_Mo_mark 29 = .ok (.iload 7, 2) := by decide +kernel
theorem zd_Mo_mark_31 : decode zb_Mo_mark 31 = .ok (.iconst 5, 1) := by decide +kernel
theorem zd_Mo_mark_32 : decode zb_Mo_mark 32 = .ok (.if_icmp .ge 45, 3) := by decide +kernel
theorem zd_Mo_mark_35 : decode zb_Mo_mark 35 = .ok (.aload_n 0, 1) := by decide +kernel
theorem zd_Mo_mark_36 : decode zb_Mo_mark 36 = .ok (.iload 7, 2) := by decide +kernel
theorem zd_Mo_mark_38 : decode zb_Mo_mark 38 = .ok (.ldc2_w 98, 3) := by decide +kernel
theorem zd_Mo_mark_41 : decode zb_Mo_mark 41 = .ok (.invokevirtual 121, 3) := by decide +kernel
theorem zd_Mo_mark_44 : decode zb_Mo_mark 44 = .ok (.lload 5, 2) := by decide +kernel
theorem zd_Mo_mark_46 : decode zb_Mo_mark 46 = .ok (.aload_n 0, 1) := by decide +kernel
theorem zd_Mo_mark_47 : decode zb_Mo_mark 47 = .ok (.getfield 60, 3) := by decide +kernel
theorem zd_Mo_mark_50 : decode zb_Mo_mark 50 = .ok (.iload_n 1, 1) := by decide +kernel
theorem zd_Mo_mark_51 : decode zb_Mo_mark 51 = .ok (.laload, 1) := by decide +kernel
theorem zd_Mo_mark_52 : decode zb_Mo_mark 52 = .ok (.ladd, 1) := by decide +kernel
theorem zd_Mo_mark_53 : decode zb_Mo_mark 53 = .ok (.lconst 1, 1) := by decide +kernel
theorem zd_Mo_mark_54 : decode zb_Mo_mark 54 = .ok (.ladd, 1) := by decide +kernel
theorem zd_Mo_mark_55 : decode zb_Mo_mark 55 = .ok (.ldc2_w 191, 3) := by decide +kernel
theorem zd_Mo_mark_58 : decode zb_Mo_mark 58 = .ok (.lmul, 1) := by decide +kernel
theorem zd_Mo_mark_59 : decode zb_Mo_mark 59 = .ok (.lstore 5, 2) := by decide +kernel
theorem zd_Mo_mark_61 : decode zb_Mo_mark 61 = .ok (.lload 5, 2) := by decide +kernel
theorem zd_Mo_mark_63 : decode zb_Mo_mark 63 = .ok (.lload 5, 2) := by decide +kernel
theorem zd_Mo_mark_65 : decode zb_Mo_mark 65 = .ok (.bipush 32, 2) := by decide +kernel
theorem zd_Mo_mark_67 : decode zb_Mo_mark 67 = .ok (.lushr, 1) := by decide +kernel
theorem zd_Mo_mark_68 : decode zb_Mo_mark 68 = .ok (.lxor, 1) := by decide +kernel
theorem zd_Mo_mark_69 : decode zb_Mo_mark 69 = .ok (.lstore 5, 2) := by decide +kernel
theorem zd_Mo_mark_71 : decode zb_Mo_mark 71 = .ok (.iinc 7 1, 3) := by decide +kernel
theorem zd_Mo_mark_74 : decode zb_Mo_mark 74 = .ok (.goto (-45), 3) := by decide +kernel
theorem zd_Mo_mark_77 : decode zb_Mo_mark 77 = .ok (.lload 5, 2) := by decide +kernel
theorem zd_Mo_mark_79 : decode zb_Mo_mark 79 = .ok (.aload_n 0, 1) := by decide +kernel
theorem zd_Mo_mark_80 : decode zb_Mo_mark 80 = .ok (.getfield 7, 3) := by decide +kernel
theorem zd_Mo_mark_83 : decode zb_Mo_mark 83 = .ok (.iload_n 1, 1) := by decide +kernel
theorem zd_Mo_mark_84 : decode zb_Mo_mark 84 = .ok (.iaload, 1) := by decide +kernel
theorem zd_Mo_mark_85 : decode zb_Mo_mark 85 = .ok (.i2l, 1) := by decide +kernel
theorem zd_Mo_mark_86 : decode zb_Mo_mark 86 = .ok (.ladd, 1) := by decide +kernel
theorem zd_Mo_mark_87 : decode zb_Mo_mark 87 = .ok (.ldc2_w 191, 3) := by decide +kernel
theorem zd_Mo_mark_90 : decode zb_Mo_mark 90 = .ok (.lmul, 1) := by decide +kernel
theorem zd_Mo_mark_91 : decode zb_Mo_mark 91 = .ok (.lstore 5, 2) := by decide +kernel
theorem zd_Mo_mark_93 : decode zb_Mo_mark 93 = .ok (.lload 5, 2) := by decide +kernel
theorem zd_Mo_mark_95 : decode zb_Mo_mark 95 = .ok (.bipush 56, 2) := by decide +kernel
theorem zd_Mo_mark_97 : decode zb_Mo_mark 97 = .ok (.bipush 8, 2) := by decide +kernel
theorem zd_Mo_mark_99 : decode zb_Mo_mark 99 = .ok (.iload 4, 2) := by decide +kernel
theorem zd_Mo_mark_101 : decode zb_Mo_mark 101 = .ok (.imul, 1) := by decide +kernel
theorem zd_Mo_mark_102 : decode zb_Mo_mark 102 = .ok (.isub, 1) := by decide +kernel
theorem zd_Mo_mark_103 : decode zb_Mo_mark 103 = .ok (.lushr, 1) := by decide +kernel
theorem zd_Mo_mark_104 : decode zb_Mo_mark 104 = .ok (.ldc2_w 135, 3) := by decide +kernel
theorem zd_Mo_mark_107 : decode zb_Mo_mark 107 = .ok (.land, 1) := by decide +kernel
theorem zd_Mo_mark_108 : decode zb_Mo_mark 108 = .ok (.l2i, 1) := by decide +kernel
theorem zd_Mo_mark_109 : decode zb_Mo_mark 109 = .ok (.ireturn, 1) := by decide +kernel
theorem zd_Mo_allOf_0 : decode zb_Mo_allOf 0 = .ok (.lconst 0, 1) := by decide +kernel
theorem zd_Mo_allOf_1 : decode zb_Mo_allOf 1 = .ok (.lstore_n 2, 1) := by decide +kernel
theorem zd_Mo_allOf_2 : decode zb_Mo_allOf 2 = .ok (.iconst 0, 1) := by decide +kernel
theorem zd_Mo_allOf_3 : decode zb_Mo_allOf 3 = .ok (.istore 4, 2) := by decide +kernel
theorem zd_Mo_allOf_5 : decode zb_Mo_allOf 5 = .ok (.iload 4, 2) := by decide +kernel
theorem zd_Mo_allOf_7 : decode zb_Mo_allOf 7 = .ok (.aload_n 0, 1) := by decide +kernel
theorem zd_Mo_allOf_8 : decode zb_Mo_allOf 8 = .ok (.getfield 70, 3) := by decide +kernel
theorem zd_Mo_allOf_11 : decode zb_Mo_allOf 11 = .ok (.if_icmp .ge 38, 3) := by decide +kernel
theorem zd_Mo_allOf_14 : decode zb_Mo_allOf 14 = .ok (.lload_n 2, 1) := by decide +kernel
theorem zd_Mo_allOf_15 : decode zb_Mo_allOf 15 = .ok (.aload_n 0, 1) := by decide +kernel
theorem zd_Mo_allOf_16 : decode zb_Mo_allOf 16 = .ok (.iload 4, 2) := by decide +kernel
theorem zd_Mo_allOf_18 : decode zb_Mo_allOf 18 = .ok (.ldc2_w 98, 3) := by decide +kernel
theorem zd_Mo_allOf_21 : decode zb_Mo_allOf 21 = .ok (.invokevirtual 108, 3) := by decide +kernel
theorem zd_Mo_allOf_24 : decode zb_Mo_allOf 24 = .ok (.iload_n 1, 1) := by decide +kernel
theorem zd_Mo_allOf_25 : decode zb_Mo_allOf 25 = .ok (.if_icmp .ne 15, 3) := by decide +kernel
theorem zd_Mo_allOf_28 : decode zb_Mo_allOf 28 = .ok (.aload_n 0, 1) := by decide +kernel
theorem zd_Mo_allOf_29 : decode zb_Mo_allOf 29 = .ok (.iload 4, 2) := by decide +kernel
theorem zd_Mo_allOf_31 : decode zb_Mo_allOf 31 = .ok (.ldc2_w 98, 3) := by decide +kernel
theorem zd_Mo_allOf_34 : decode zb_Mo_allOf 34 = .ok (.invokevirtual 111, 3) := by decide +kernel
theorem zd_Mo_allOf_37 : decode zb_Mo_allOf 37 = .ok (.goto 4, 3) := by decide +kernel
theorem zd_Mo_allOf_40 : decode zb_Mo_allOf 40 = .ok (.lconst 0, 1) := by decide +kernel
theorem zd_Mo_allOf_41 : decode zb_Mo_allOf 41 = .ok (.ladd, 1) := by decide +kernel
theorem zd_Mo_allOf_42 : decode zb_Mo_allOf 42 = .ok (.lstore_n 2, 1) := by decide +kernel
theorem zd_Mo_allOf_43 : decode zb_Mo_allOf 43 = .ok (.iinc 4 1, 3) := by decide +kernel
theorem zd_Mo_allOf_46 : decode zb_Mo_allOf 46 = .ok (.goto (-41), 3) := by decide +kernel
theorem zd_Mo_allOf_49 : decode zb_Mo_allOf 49 = .ok (.lload_n 2, 1) := by decide +kernel
theorem zd_Mo_allOf_50 : decode zb_Mo_allOf 50 = .ok (.lreturn, 1) := by decide +kernel
theorem zd_Mo_most_0 : decode zb_Mo_most 0 = .ok (.iconst 0, 1) := by decide +kernel
theorem zd_Mo_most_1 : decode zb_Mo_most 1 = .ok (.istore_n 2, 1) := by decide +kernel
theorem zd_Mo_most_2 : decode zb_Mo_most 2 = .ok (.iload_n 2, 1) := by decide +kernel
theorem zd_Mo_most_3 : decode zb_Mo_most 3 = .ok (.iconst 5, 1) := by decide +kernel
theorem zd_Mo_most_4 : decode zb_Mo_most 4 = .ok (.if_icmp .ge 85, 3) := by decide +kernel
theorem zd_Mo_most_7 : decode zb_Mo_most 7 = .ok (.aload_n 0, 1) := by decide +kernel
theorem zd_Mo_most_8 : decode zb_Mo_most 8 = .ok (.iload_n 2, 1) := by decide +kernel
theorem zd_Mo_most_9 : decode zb_Mo_most 9 = .ok (.invokevirtual 193, 3) := by decide +kernel
theorem zd_Mo_most_12 : decode zb_Mo_most 12 = .ok (.lstore_n 3, 1) := by decide +kernel
theorem zd_Mo_most_13 : decode zb_Mo_most 13 = .ok (.iconst 0, 1) := by decide +kernel
theorem zd_Mo_most_14 : decode zb_Mo_most 14 = .ok (.istore 5, 2) := by decide +kernel
theorem zd_Mo_most_16 : decode zb_Mo_most 16 = .ok (.iconst 0, 1) := by decide +kernel
theorem zd_Mo_most_17 : decode zb_Mo_most 17 = .ok (.istore 6, 2) := by decide +kernel
theorem zd_Mo_most_19 : decode zb_Mo_most 19 = .ok (.iload 6, 2) := by decide +kernel
theorem zd_Mo_most_21 : decode zb_Mo_most 21 = .ok (.iconst 5, 1) := by decide +kernel
theorem zd_Mo_most_22 : decode zb_Mo_most 22 = .ok (.if_icmp .ge 47, 3) := by decide +kernel
theorem zd_Mo_most_25 : decode zb_Mo_most 25 = .ok (.aload_n 0, 1) := by decide +kernel
theorem zd_Mo_most_26 : decode zb_Mo_most 26 = .ok (.iload 6, 2) := by decide +kernel
theorem zd_Mo_most_28 : decode zb_Mo_most 28 = .ok (.invokevirtual 193, 3) := by decide +kernel
theorem zd_Mo_most_31 : decode zb_Mo_most 31 = .ok (.lstore 7, 2) := by decide +kernel
theorem zd_Mo_most_33 : decode zb_Mo_most 33 = .ok (.iload 5, 2) := by decide +kernel
theorem zd_Mo_most_35 : decode zb_Mo_most 35 = .ok (.lload 7, 2) := by decide +kernel
theorem zd_Mo_most_37 : decode zb_Mo_most 37 = .ok (.lload_n 3, 1) := by decide +kernel
theorem zd_Mo_most_38 : decode zb_Mo_most 38 = .ok (.lcmp, 1) := by decide +kernel
theorem zd_Mo_most_39 : decode zb_Mo_most 39 = .ok (.ifCond .gt 16, 3) := by decide +kernel
theorem zd_Mo_most_42 : decode zb_Mo_most 42 = .ok (.lload 7, 2) := by decide +kernel
theorem zd_Mo_most_44 : decode zb_Mo_most 44 = .ok (.lload_n 3, 1) := by decide +kernel
theorem zd_Mo_most_45 : decode zb_Mo_most 45 = .ok (.lcmp, 1) := by decide +kernel
theorem zd_Mo_most_46 : decode zb_Mo_most 46 = .ok (.ifCond .ne 13, 3) := by decide +kernel
theorem zd_Mo_most_49 : decode zb_Mo_most 49 = .ok (.iload 6, 2) := by decide +kernel
theorem zd_Mo_most_51 : decode zb_Mo_most 51 = .ok (.iload_n 2, 1) := by decide +kernel
theorem zd_Mo_most_52 : decode zb_Mo_most 52 = .ok (.if_icmp .ge 7, 3) := by decide +kernel
theorem zd_Mo_most_55 : decode zb_Mo_most 55 = .ok (.iconst 1, 1) := by decide +kernel
theorem zd_Mo_most_56 : decode zb_Mo_most 56 = .ok (.goto 4, 3) := by decide +kernel
theorem zd_Mo_most_59 : decode zb_Mo_most 59 = .ok (.iconst 0, 1) := by decide +kernel
theorem zd_Mo_most_60 : decode zb_Mo_most 60 = .ok (.iadd, 1) := by decide +kernel
theorem zd_Mo_most_61 : decode zb_Mo_most 61 = .ok (.istore 5, 2) := by decide +kernel
theorem zd_Mo_most_63 : decode zb_Mo_most 63 = .ok (.iinc 6 1, 3) := by decide +kernel
theorem zd_Mo_most_66 : decode zb_Mo_most 66 = .ok (.goto (-47), 3) := by decide +kernel
theorem zd_Mo_most_69 : decode zb_Mo_most 69 = .ok (.lload_n 3, 1) := by decide +kernel
theorem zd_Mo_most_70 : decode zb_Mo_most 70 = .ok (.lconst 0, 1) := by decide +kernel
theorem zd_Mo_most_71 : decode zb_Mo_most 71 = .ok (.lcmp, 1) := by decide +kernel
theorem zd_Mo_most_72 : decode zb_Mo_most 72 = .ok (.ifCond .le 11, 3) := by decide +kernel
theorem zd_Mo_most_75 : decode zb_Mo_most 75 = .ok (.iload 5, 2) := by decide +kernel
theorem zd_Mo_most_77 : decode zb_Mo_most 77 = .ok (.iload_n 1, 1) := by decide +kernel
theorem zd_Mo_most_78 : decode zb_Mo_most 78 = .ok (.if_icmp .ne 5, 3) := by decide +kernel
theorem zd_Mo_most_81 : decode zb_Mo_most 81 = .ok (.iload_n 2, 1) := by decide +kernel
theorem zd_Mo_most_82 : decode zb_Mo_most 82 = .ok (.ireturn, 1) := by decide +kernel
theorem zd_Mo_most_83 : decode zb_Mo_most 83 = .ok (.iinc 2 1, 3) := by decide +kernel
theorem zd_Mo_most_86 : decode zb_Mo_most 86 = .ok (.goto (-84), 3) := by decide +kernel
theorem zd_Mo_most_89 : decode zb_Mo_most 89 = .ok (.iconst (-1), 1) := by decide +kernel
theorem zd_Mo_most_90 : decode zb_Mo_most 90 = .ok (.ireturn, 1) := by decide +kernel
end
section
def zf_MP_good (xgc : Int32) : Option (Int32 × Int32) := (if xgc < (8 : Int32) then some (((xgc + (1 : Int32)) - (1 : Int32)), (xgc + (1 : Int32))) else some ((-1 : Int32), xgc))
def zf_Pa_isFull (xpn : Int32) : Option (Int32) := (if xpn < (24 : Int32) then some (0 : Int32) else some (1 : Int32))
def zf_MP_isGood (u1 : Int32) (xgc : Int32) : Option (Int32) := (if u1 < 0 then some (0 : Int32) else (if xgc ≤ u1 then some (0 : Int32) else some (1 : Int32)))
def zf_MP_isKind (u0 : Int32) : Option (Int32) := (if u0 < 0 then some (0 : Int32) else (if (5 : Int32) ≤ u0 then some (0 : Int32) else some (1 : Int32)))
def zf_MP_isMaterial (u0 : Int32) (u1 : Int64) : Option (Int32) := ((zf_MP_isKind u0).bind (fun y1 => (if y1 = 0 then some (0 : Int32) else (if u1 < (0 : Int64) then some (0 : Int32) else (if (1000000000 : Int64) < u1 then some (0 : Int32) else some (1 : Int32))))))
def zf_MP_isLife (u0 : Int32) : Option (Int32) := (if u0 < 0 then some (0 : Int32) else (if (200 : Int32) < u0 then some (0 : Int32) else some (1 : Int32)))
def zf_Pa_add (u1 : Int32) (u2 : Int32) (u3 : Int64) (u5 : Int32) (xpn : Int32) (xpo : Nat → Int32) (xpk : Nat → Int32) (xpg : Nat → Int64) (xpl : Nat → Int32) (xpi : Nat → Int32) : Option (Int32 × Int32 × (Nat → Int32) × (Nat → Int32) × (Nat → Int64) × (Nat → Int32) × (Nat → Int32)) := ((zf_Pa_isFull xpn).bind (fun y1 => (if y1 = 0 then (if xpn < 0 ∨ 24 ≤ xpn.toNatClampNeg then none else (if xpn < 0 ∨ 24 ≤ xpn.toNatClampNeg then none else (if xpn < 0 ∨ 24 ≤ xpn.toNatClampNeg then none else (if xpn < 0 ∨ 24 ≤ xpn.toNatClampNeg then none else (if xpn < 0 ∨ 24 ≤ xpn.toNatClampNeg then none else some (((xpn + (1 : Int32)) - (1 : Int32)), (xpn + (1 : Int32)), (upd xpo xpn.toNatClampNeg u1), (upd xpk xpn.toNatClampNeg u2), (vp_updL xpg xpn.toNatClampNeg u3), (upd xpl xpn.toNatClampNeg u5), (upd xpi xpn.toNatClampNeg (-1 : Int32)))))))) else some ((-1 : Int32), xpn, xpo, xpk, xpg, xpl, xpi))))
def zf_MP_part (u1 : Int32) (u2 : Int32) (u3 : Int64) (u5 : Int32) (xgc : Int32) (xver : Nat → Int32) (xpn : Int32) (xpo : Nat → Int32) (xpk : Nat → Int32) (xpg : Nat → Int64) (xpl : Nat → Int32) (xpi : Nat → Int32) : Option (Int32 × (Nat → Int32) × Int32 × (Nat → Int32) × (Nat → Int32) × (Nat → Int64) × (Nat → Int32) × (Nat → Int32)) := ((zf_Pa_isFull xpn).bind (fun y1 => (if y1 = 0 then ((zf_MP_isGood u1 xgc).bind (fun y3 => (if y3 = 0 then some ((-1 : Int32), xver, xpn, xpo, xpk, xpg, xpl, xpi) else ((zf_MP_isMaterial u2 u3).bind (fun y5 => (if y5 = 0 then some ((-1 : Int32), xver, xpn, xpo, xpk, xpg, xpl, xpi) else ((zf_MP_isLife u5).bind (fun y7 => (if y7 = 0 then some ((-1 : Int32), xver, xpn, xpo, xpk, xpg, xpl, xpi) else (if u1 < 0 ∨ 8 ≤ u1.toNatClampNeg then none else (if u1 < 0 ∨ 8 ≤ u1.toNatClampNeg then none else ((zf_Pa_add u1 u2 u3 u5 xpn xpo xpk xpg xpl xpi).bind (fun y11 => some (y11.1, (upd xver u1.toNatClampNeg ((xver u1.toNatClampNeg) + (1 : Int32))), y11.2.1, y11.2.2.1, y11.2.2.2.1, y11.2.2.2.2.1, y11.2.2.2.2.2.1, y11.2.2.2.2.2.2)))))))))))))) else some ((-1 : Int32), xver, xpn, xpo, xpk, xpg, xpl, xpi))))
def zf_Pa_has (u1 : Int32) (xpn : Int32) : Option (Int32) := (if u1 < 0 then some (0 : Int32) else (if xpn ≤ u1 then some (0 : Int32) else some (1 : Int32)))
def zf_Ja_fill_L6 (v1 : Int64) (v4 : Int32) (n0 : Nat)  : Nat → Int32 → (Nat → Int64) → Option ((Nat → Int64))
  | 0, _, _ => none
  | n + 1, v3, f0 => (if v4 ≤ v3 then some f0 else (if v3 < 0 ∨ n0 ≤ v3.toNatClampNeg then none else zf_Ja_fill_L6 v1 v4 n0 n (v3 + (1 : Int32)) (vp_updL f0 v3.toNatClampNeg v1)))
def zf_Ja_fill (u1 : Int64) (n0 : Nat) (f0 : Nat → Int64) : Option ((Nat → Int64)) := zf_Ja_fill_L6 u1 (Int32.ofNat n0) n0 2000 (0 : Int32) f0
def zf_Ne_goDeeper_L58 (xnd : Nat → Int64) (xpn : Int32) (xpo : Nat → Int32) (xpi : Nat → Int32)  : Nat → Int32 → (Nat → Int64) → (Nat → Int64) → Option ((Nat → Int64) × (Nat → Int64) × (Nat → Int64))
  | 0, _, _, _ => none
  | n + 1, v2, xnt, xnl => (if (8 : Int32) ≤ v2 then some (xnt, xnl, xnd) else (if v2 < 0 ∨ 8 ≤ v2.toNatClampNeg then none else (if v2 < 0 ∨ 8 ≤ v2.toNatClampNeg then none else (if v2 < 0 ∨ 8 ≤ v2.toNatClampNeg then none else (if v2 < 0 ∨ 8 ≤ v2.toNatClampNeg then none else (if v2 < 0 ∨ 8 ≤ v2.toNatClampNeg then none else zf_Ne_goDeeper_L58 xnd xpn xpo xpi n (v2 + (1 : Int32)) (vp_updL xnt v2.toNatClampNeg ((xnt v2.toNatClampNeg) + (xnd v2.toNatClampNeg))) (vp_updL xnl v2.toNatClampNeg (xnd v2.toNatClampNeg))))))))
def zf_Ne_goDeeper_L10 (xnt : Nat → Int64) (xnl : Nat → Int64) (xpn : Int32) (xpo : Nat → Int32) (xpi : Nat → Int32)  : Nat → Int32 → (Nat → Int64) → Option ((Nat → Int64) × (Nat → Int64) × (Nat → Int64))
  | 0, _, _ => none
  | n + 1, v2, xnd => (if xpn ≤ v2 then zf_Ne_goDeeper_L58 xnd xpn xpo xpi 2000 (0 : Int32) xnt xnl else (if v2 < 0 ∨ 24 ≤ v2.toNatClampNeg then none else (if (xpi v2.toNatClampNeg) = (-1 : Int32) then zf_Ne_goDeeper_L10 xnt xnl xpn xpo xpi n (v2 + (1 : Int32)) xnd else (if (xpi v2.toNatClampNeg) < 0 ∨ 8 ≤ (xpi v2.toNatClampNeg).toNatClampNeg then none else (if v2 < 0 ∨ 24 ≤ v2.toNatClampNeg then none else (if (xpo v2.toNatClampNeg) < 0 ∨ 8 ≤ (xpo v2.toNatClampNeg).toNatClampNeg then none else (if (xpi v2.toNatClampNeg) < 0 ∨ 8 ≤ (xpi v2.toNatClampNeg).toNatClampNeg then none else zf_Ne_goDeeper_L10 xnt xnl xpn xpo xpi n (v2 + (1 : Int32)) (vp_updL xnd (xpi v2.toNatClampNeg).toNatClampNeg ((xnd (xpi v2.toNatClampNeg).toNatClampNeg) + (xnl (xpo v2.toNatClampNeg).toNatClampNeg))))))))))
def zf_Ne_goDeeper (xpn : Int32) (xpo : Nat → Int32) (xpi : Nat → Int32) (xnt : Nat → Int64) (xnl : Nat → Int64) (xnd : Nat → Int64) : Option ((Nat → Int64) × (Nat → Int64) × (Nat → Int64)) := ((zf_Ja_fill (0 : Int64) 8 xnd).bind (fun y1 => zf_Ne_goDeeper_L10 xnt xnl xpn xpo xpi 2000 (0 : Int32) y1))
def zf_Ne_countWithin_L32 (v2 : Int32) (xpn : Int32) (xpo : Nat → Int32) (xpi : Nat → Int32)  : Nat → Int32 → (Nat → Int64) → (Nat → Int64) → (Nat → Int64) → Option ((Nat → Int64) × (Nat → Int64) × (Nat → Int64))
  | 0, _, _, _, _ => none
  | n + 1, v3, xnt, xnl, xnd => (if (8 : Int32) ≤ v3 then some (xnt, xnl, xnd) else ((zf_Ne_goDeeper xpn xpo xpi xnt xnl xnd).bind (fun y6 => zf_Ne_countWithin_L32 v2 xpn xpo xpi n (v3 + (1 : Int32)) y6.1 y6.2.1 y6.2.2)))
def zf_Ne_countWithin (u2 : Int32) (xpn : Int32) (xpo : Nat → Int32) (xpi : Nat → Int32) (xnt : Nat → Int64) (xnl : Nat → Int64) (xnd : Nat → Int64) : Option ((Nat → Int64) × (Nat → Int64) × (Nat → Int64)) := ((zf_Ja_fill (0 : Int64) 8 xnt).bind (fun y1 => ((zf_Ja_fill (0 : Int64) 8 xnl).bind (fun y2 => (if u2 < 0 ∨ 8 ≤ u2.toNatClampNeg then none else (if u2 < 0 ∨ 8 ≤ u2.toNatClampNeg then none else zf_Ne_countWithin_L32 u2 xpn xpo xpi 2000 (1 : Int32) (vp_updL y1 u2.toNatClampNeg (1 : Int64)) (vp_updL y2 u2.toNatClampNeg (1 : Int64)) xnd))))))
def zf_Ne_holds (u2 : Int32) (u3 : Int32) (xpn : Int32) (xpo : Nat → Int32) (xpi : Nat → Int32) (xnt : Nat → Int64) (xnl : Nat → Int64) (xnd : Nat → Int64) : Option (Int32 × (Nat → Int64) × (Nat → Int64) × (Nat → Int64)) := ((zf_Ne_countWithin u2 xpn xpo xpi xnt xnl xnd).bind (fun y1 => (if u3 < 0 ∨ 8 ≤ u3.toNatClampNeg then none else (if (y1.1 u3.toNatClampNeg) ≤ (0 : Int64) then some ((0 : Int32), y1.1, y1.2.1, y1.2.2) else some ((1 : Int32), y1.1, y1.2.1, y1.2.2)))))
def zf_MP_into (u1 : Int32) (u2 : Int32) (xgc : Int32) (xver : Nat → Int32) (xpn : Int32) (xpo : Nat → Int32) (xpi : Nat → Int32) (xnt : Nat → Int64) (xnl : Nat → Int64) (xnd : Nat → Int64) : Option (Int32 × (Nat → Int32) × (Nat → Int32) × (Nat → Int64) × (Nat → Int64) × (Nat → Int64)) := ((zf_Pa_has u1 xpn).bind (fun y1 => (if y1 = 0 then some ((0 : Int32), xver, xpi, xnt, xnl, xnd) else ((zf_MP_isGood u2 xgc).bind (fun y3 => (if y3 = 0 then some ((0 : Int32), xver, xpi, xnt, xnl, xnd) else (if u1 < 0 ∨ 24 ≤ u1.toNatClampNeg then none else (if (xpi u1.toNatClampNeg) = (-1 : Int32) then (if u1 < 0 ∨ 24 ≤ u1.toNatClampNeg then none else ((zf_Ne_holds u2 (xpo u1.toNatClampNeg) xpn xpo xpi xnt xnl xnd).bind (fun y8 => (if y8.1 = 0 then (if u1 < 0 ∨ 24 ≤ u1.toNatClampNeg then none else (if (xpo u1.toNatClampNeg) < 0 ∨ 8 ≤ (xpo u1.toNatClampNeg).toNatClampNeg then none else (if (xpo u1.toNatClampNeg) < 0 ∨ 8 ≤ (xpo u1.toNatClampNeg).toNatClampNeg then none else some ((1 : Int32), (upd xver (xpo u1.toNatClampNeg).toNatClampNeg ((xver (xpo u1.toNatClampNeg).toNatClampNeg) + (1 : Int32))), (upd xpi u1.toNatClampNeg u2), y8.2.1, y8.2.2.1, y8.2.2.2)))) else some ((0 : Int32), xver, xpi, y8.2.1, y8.2.2.1, y8.2.2.2))))) else some ((0 : Int32), xver, xpi, xnt, xnl, xnd)))))))))
def zf_MP_life (u1 : Int32) (u2 : Int32) (xver : Nat → Int32) (xpn : Int32) (xpo : Nat → Int32) (xpl : Nat → Int32) : Option (Int32 × (Nat → Int32) × (Nat → Int32)) := ((zf_Pa_has u1 xpn).bind (fun y1 => (if y1 = 0 then some ((0 : Int32), xver, xpl) else ((zf_MP_isLife u2).bind (fun y3 => (if y3 = 0 then some ((0 : Int32), xver, xpl) else (if u1 < 0 ∨ 24 ≤ u1.toNatClampNeg then none else (if u1 < 0 ∨ 24 ≤ u1.toNatClampNeg then none else (if (xpo u1.toNatClampNeg) < 0 ∨ 8 ≤ (xpo u1.toNatClampNeg).toNatClampNeg then none else (if (xpo u1.toNatClampNeg) < 0 ∨ 8 ≤ (xpo u1.toNatClampNeg).toNatClampNeg then none else some ((1 : Int32), (upd xver (xpo u1.toNatClampNeg).toNatClampNeg ((xver (xpo u1.toNatClampNeg).toNatClampNeg) + (1 : Int32))), (upd xpl u1.toNatClampNeg u2))))))))))))
def zf_Ch_isFull (xcn : Int32) : Option (Int32) := (if xcn < (20 : Int32) then some (0 : Int32) else some (1 : Int32))
def zf_MP_isDay (u0 : Int64) : Option (Int32) := (if u0 < (0 : Int64) then some (0 : Int32) else (if (100000 : Int64) < u0 then some (0 : Int32) else some (1 : Int32)))
def zf_Ch_add (u1 : Int32) (u2 : Int64) (u4 : Int32) (u5 : Int64) (xcn : Int32) (xcp : Nat → Int32) (xcd : Nat → Int64) (xck : Nat → Int32) (xcg : Nat → Int64) : Option (Int32 × (Nat → Int32) × (Nat → Int64) × (Nat → Int32) × (Nat → Int64)) := ((zf_Ch_isFull xcn).bind (fun y1 => (if y1 = 0 then (if xcn < 0 ∨ 20 ≤ xcn.toNatClampNeg then none else (if xcn < 0 ∨ 20 ≤ xcn.toNatClampNeg then none else (if xcn < 0 ∨ 20 ≤ xcn.toNatClampNeg then none else (if xcn < 0 ∨ 20 ≤ xcn.toNatClampNeg then none else some ((xcn + (1 : Int32)), (upd xcp xcn.toNatClampNeg u1), (vp_updL xcd xcn.toNatClampNeg u2), (upd xck xcn.toNatClampNeg u4), (vp_updL xcg xcn.toNatClampNeg u5)))))) else some (xcn, xcp, xcd, xck, xcg))))
def zf_MP_change (u1 : Int32) (u2 : Int64) (u4 : Int32) (u5 : Int64) (xver : Nat → Int32) (xpn : Int32) (xpo : Nat → Int32) (xcn : Int32) (xcp : Nat → Int32) (xcd : Nat → Int64) (xck : Nat → Int32) (xcg : Nat → Int64) : Option (Int32 × (Nat → Int32) × Int32 × (Nat → Int32) × (Nat → Int64) × (Nat → Int32) × (Nat → Int64)) := ((zf_Ch_isFull xcn).bind (fun y1 => (if y1 = 0 then ((zf_Pa_has u1 xpn).bind (fun y3 => (if y3 = 0 then some ((0 : Int32), xver, xcn, xcp, xcd, xck, xcg) else ((zf_MP_isDay u2).bind (fun y5 => (if y5 = 0 then some ((0 : Int32), xver, xcn, xcp, xcd, xck, xcg) else ((zf_MP_isMaterial u4 u5).bind (fun y7 => (if y7 = 0 then some ((0 : Int32), xver, xcn, xcp, xcd, xck, xcg) else ((zf_Ch_add u1 u2 u4 u5 xcn xcp xcd xck xcg).bind (fun y9 => (if u1 < 0 ∨ 24 ≤ u1.toNatClampNeg then none else (if (xpo u1.toNatClampNeg) < 0 ∨ 8 ≤ (xpo u1.toNatClampNeg).toNatClampNeg then none else (if (xpo u1.toNatClampNeg) < 0 ∨ 8 ≤ (xpo u1.toNatClampNeg).toNatClampNeg then none else some ((1 : Int32), (upd xver (xpo u1.toNatClampNeg).toNatClampNeg ((xver (xpo u1.toNatClampNeg).toNatClampNeg) + (1 : Int32))), y9.1, y9.2.1, y9.2.2.1, y9.2.2.2.1, y9.2.2.2.2))))))))))))))) else some ((0 : Int32), xver, xcn, xcp, xcd, xck, xcg))))
def zf_Ch_countingOn_L6 (v1 : Int32) (v2 : Int64) (xcn : Int32) (xcp : Nat → Int32) (xcd : Nat → Int64)  : Nat → Int32 → Int32 → Option (Int32)
  | 0, _, _ => none
  | n + 1, v4, v5 => (if xcn ≤ v5 then some v4 else (if v5 < 0 ∨ 20 ≤ v5.toNatClampNeg then none else (if (xcp v5.toNatClampNeg) = v1 then (if v5 < 0 ∨ 20 ≤ v5.toNatClampNeg then none else (if v2 < (xcd v5.toNatClampNeg) then zf_Ch_countingOn_L6 v1 v2 xcn xcp xcd n v4 (v5 + (1 : Int32)) else (if v4 = (-1 : Int32) then zf_Ch_countingOn_L6 v1 v2 xcn xcp xcd n v5 (v5 + (1 : Int32)) else (if v5 < 0 ∨ 20 ≤ v5.toNatClampNeg then none else (if v4 < 0 ∨ 20 ≤ v4.toNatClampNeg then none else (if (xcd v5.toNatClampNeg) < (xcd v4.toNatClampNeg) then zf_Ch_countingOn_L6 v1 v2 xcn xcp xcd n v4 (v5 + (1 : Int32)) else zf_Ch_countingOn_L6 v1 v2 xcn xcp xcd n v5 (v5 + (1 : Int32)))))))) else zf_Ch_countingOn_L6 v1 v2 xcn xcp xcd n v4 (v5 + (1 : Int32)))))
def zf_Ch_countingOn (u1 : Int32) (u2 : Int64) (xcn : Int32) (xcp : Nat → Int32) (xcd : Nat → Int64) : Option (Int32) := zf_Ch_countingOn_L6 u1 u2 xcn xcp xcd 2000 (-1 : Int32) (0 : Int32)
def zf_Pa_gramsOn (u1 : Int32) (u2 : Int64) (xpg : Nat → Int64) (xcn : Int32) (xcp : Nat → Int32) (xcd : Nat → Int64) (xcg : Nat → Int64) : Option (Int64) := ((zf_Ch_countingOn u1 u2 xcn xcp xcd).bind (fun y1 => (if y1 = (-1 : Int32) then (if u1 < 0 ∨ 24 ≤ u1.toNatClampNeg then none else some (xpg u1.toNatClampNeg)) else (if y1 < 0 ∨ 20 ≤ y1.toNatClampNeg then none else some (xcg y1.toNatClampNeg)))))
def zf_Pa_kindOn (u1 : Int32) (u2 : Int64) (xpk : Nat → Int32) (xcn : Int32) (xcp : Nat → Int32) (xcd : Nat → Int64) (xck : Nat → Int32) : Option (Int32) := ((zf_Ch_countingOn u1 u2 xcn xcp xcd).bind (fun y1 => (if y1 = (-1 : Int32) then (if u1 < 0 ∨ 24 ≤ u1.toNatClampNeg then none else some (xpk u1.toNatClampNeg)) else (if y1 < 0 ∨ 20 ≤ y1.toNatClampNeg then none else some (xck y1.toNatClampNeg)))))
def zf_Ne_sumByTimes_L9 (v2 : Int64) (xpn : Int32) (xpo : Nat → Int32) (xpk : Nat → Int32) (xpg : Nat → Int64) (xcn : Int32) (xcp : Nat → Int32) (xcd : Nat → Int64) (xck : Nat → Int32) (xcg : Nat → Int64) (xnt : Nat → Int64)  : Nat → Int32 → (Nat → Int64) → Option ((Nat → Int64))
  | 0, _, _ => none
  | n + 1, v5, xsm => (if xpn ≤ v5 then some xsm else ((zf_Pa_gramsOn v5 v2 xpg xcn xcp xcd xcg).bind (fun y3 => ((zf_Pa_kindOn v5 v2 xpk xcn xcp xcd xck).bind (fun y4 => (if y4 < 0 ∨ 5 ≤ y4.toNatClampNeg then none else (if v5 < 0 ∨ 24 ≤ v5.toNatClampNeg then none else (if (xpo v5.toNatClampNeg) < 0 ∨ 8 ≤ (xpo v5.toNatClampNeg).toNatClampNeg then none else (if y4 < 0 ∨ 5 ≤ y4.toNatClampNeg then none else zf_Ne_sumByTimes_L9 v2 xpn xpo xpk xpg xcn xcp xcd xck xcg xnt n (v5 + (1 : Int32)) (vp_updL xsm y4.toNatClampNeg ((xsm y4.toNatClampNeg) + ((xnt (xpo v5.toNatClampNeg).toNatClampNeg) * y3))))))))))))
def zf_Ne_sumByTimes (u2 : Int64) (xpn : Int32) (xsm : Nat → Int64) (xpo : Nat → Int32) (xpk : Nat → Int32) (xpg : Nat → Int64) (xcn : Int32) (xcp : Nat → Int32) (xcd : Nat → Int64) (xck : Nat → Int32) (xcg : Nat → Int64) (xnt : Nat → Int64) : Option ((Nat → Int64)) := ((zf_Ja_fill (0 : Int64) 5 xsm).bind (fun y1 => zf_Ne_sumByTimes_L9 u2 xpn xpo xpk xpg xcn xcp xcd xck xcg xnt 2000 (0 : Int32) y1))
def zf_Ne_sumWithin (u2 : Int32) (u3 : Int64) (xpn : Int32) (xsm : Nat → Int64) (xpo : Nat → Int32) (xpk : Nat → Int32) (xpg : Nat → Int64) (xpi : Nat → Int32) (xcn : Int32) (xcp : Nat → Int32) (xcd : Nat → Int64) (xck : Nat → Int32) (xcg : Nat → Int64) (xnt : Nat → Int64) (xnl : Nat → Int64) (xnd : Nat → Int64) : Option ((Nat → Int64) × (Nat → Int64) × (Nat → Int64) × (Nat → Int64)) := ((zf_Ne_countWithin u2 xpn xpo xpi xnt xnl xnd).bind (fun y1 => ((zf_Ne_sumByTimes u3 xpn xsm xpo xpk xpg xcn xcp xcd xck xcg y1.1).bind (fun y2 => some (y2, y1.1, y1.2.1, y1.2.2)))))
def zf_MP_totalOn (u1 : Int32) (u2 : Int32) (u3 : Int64) (xgc : Int32) (xpn : Int32) (xsm : Nat → Int64) (xpo : Nat → Int32) (xpk : Nat → Int32) (xpg : Nat → Int64) (xpi : Nat → Int32) (xcn : Int32) (xcp : Nat → Int32) (xcd : Nat → Int64) (xck : Nat → Int32) (xcg : Nat → Int64) (xnt : Nat → Int64) (xnl : Nat → Int64) (xnd : Nat → Int64) : Option (Int64 × (Nat → Int64) × (Nat → Int64) × (Nat → Int64) × (Nat → Int64)) := ((zf_MP_isGood u1 xgc).bind (fun y1 => (if y1 = 0 then some ((-1 : Int64), xsm, xnt, xnl, xnd) else ((zf_MP_isKind u2).bind (fun y3 => (if y3 = 0 then some ((-1 : Int64), xsm, xnt, xnl, xnd) else ((zf_MP_isDay u3).bind (fun y5 => (if y5 = 0 then some ((-1 : Int64), xsm, xnt, xnl, xnd) else ((zf_Ne_sumWithin u1 u3 xpn xsm xpo xpk xpg xpi xcn xcp xcd xck xcg xnt xnl xnd).bind (fun y7 => (if u2 < 0 ∨ 5 ≤ u2.toNatClampNeg then none else some ((y7.1 u2.toNatClampNeg), y7.1, y7.2.1, y7.2.2.1, y7.2.2.2)))))))))))))
def zf_MP_total (u1 : Int32) (u2 : Int32) (xgc : Int32) (xpn : Int32) (xsm : Nat → Int64) (xpo : Nat → Int32) (xpk : Nat → Int32) (xpg : Nat → Int64) (xpi : Nat → Int32) (xcn : Int32) (xcp : Nat → Int32) (xcd : Nat → Int64) (xck : Nat → Int32) (xcg : Nat → Int64) (xnt : Nat → Int64) (xnl : Nat → Int64) (xnd : Nat → Int64) : Option (Int64 × (Nat → Int64) × (Nat → Int64) × (Nat → Int64) × (Nat → Int64)) := ((zf_MP_totalOn u1 u2 (100000 : Int64) xgc xpn xsm xpo xpk xpg xpi xcn xcp xcd xck xcg xnt xnl xnd).bind (fun y1 => some (y1.1, y1.2.1, y1.2.2.1, y1.2.2.2.1, y1.2.2.2.2)))
def zf_MP_frees_L23 (v1 : Int32) (v2 : Int32) (xpn : Int32) (xpk : Nat → Int32) (xpg : Nat → Int64) (xpl : Nat → Int32) (xcn : Int32) (xcp : Nat → Int32) (xcd : Nat → Int64) (xck : Nat → Int32) (xcg : Nat → Int64)  : Nat → Int64 → Int32 → Option (Int64)
  | 0, _, _ => none
  | n + 1, v3, v5 => (if xpn ≤ v5 then some v3 else (if v5 < 0 ∨ 24 ≤ v5.toNatClampNeg then none else (if (xpl v5.toNatClampNeg) = v2 then ((zf_Pa_kindOn v5 (100000 : Int64) xpk xcn xcp xcd xck).bind (fun y8 => (if y8 = v1 then ((zf_Pa_gramsOn v5 (100000 : Int64) xpg xcn xcp xcd xcg).bind (fun y10 => zf_MP_frees_L23 v1 v2 xpn xpk xpg xpl xcn xcp xcd xck xcg n (v3 + y10) (v5 + (1 : Int32)))) else zf_MP_frees_L23 v1 v2 xpn xpk xpg xpl xcn xcp xcd xck xcg n v3 (v5 + (1 : Int32))))) else zf_MP_frees_L23 v1 v2 xpn xpk xpg xpl xcn xcp xcd xck xcg n v3 (v5 + (1 : Int32)))))
def zf_MP_frees (u1 : Int32) (u2 : Int32) (xpn : Int32) (xpk : Nat → Int32) (xpg : Nat → Int64) (xpl : Nat → Int32) (xcn : Int32) (xcp : Nat → Int32) (xcd : Nat → Int64) (xck : Nat → Int32) (xcg : Nat → Int64) : Option (Int64) := ((zf_MP_isKind u1).bind (fun y1 => (if y1 = 0 then some (-1 : Int64) else ((zf_MP_isLife u2).bind (fun y3 => (if y3 = 0 then some (-1 : Int64) else zf_MP_frees_L23 u1 u2 xpn xpk xpg xpl xcn xcp xcd xck xcg 2000 (0 : Int64) (0 : Int32)))))))
def zf_MP_version (u1 : Int32) (xgc : Int32) (xver : Nat → Int32) : Option (Int32) := ((zf_MP_isGood u1 xgc).bind (fun y1 => (if y1 = 0 then some (-1 : Int32) else (if u1 < 0 ∨ 8 ≤ u1.toNatClampNeg then none else some (xver u1.toNatClampNeg)))))
def zf_MP_isPerson (u0 : Int32) : Option (Int32) := (if u0 < 0 then some (0 : Int32) else (if (8 : Int32) ≤ u0 then some (0 : Int32) else some (1 : Int32)))
def zf_MP_rightIndex (u0 : Int32) (u1 : Int32) : Option (Int32) := some ((u0 * (8 : Int32)) + u1)
def zf_MP_right (u1 : Int32) (u2 : Int32) (u3 : Int32) (xgc : Int32) (xrig : Nat → Int32) : Option (Int32 × (Nat → Int32)) := ((zf_MP_isPerson u1).bind (fun y1 => (if y1 = 0 then some ((0 : Int32), xrig) else ((zf_MP_isGood u2 xgc).bind (fun y3 => (if y3 = 0 then some ((0 : Int32), xrig) else ((zf_MP_rightIndex u1 u2).bind (fun y5 => (if y5 < 0 ∨ 64 ≤ y5.toNatClampNeg then none else some ((1 : Int32), (upd xrig y5.toNatClampNeg (vp_nar .boolean u3))))))))))))
def zf_Pa_ownPart_L5 (v1 : Int32) (v2 : Int32) (xpn : Int32) (xpo : Nat → Int32)  : Nat → Int32 → Int32 → Option (Int32)
  | 0, _, _ => none
  | n + 1, v3, v4 => (if xpn ≤ v4 then some (-1 : Int32) else (if v4 < 0 ∨ 24 ≤ v4.toNatClampNeg then none else (if (xpo v4.toNatClampNeg) = v1 then (if v3 = v2 then some v4 else zf_Pa_ownPart_L5 v1 v2 xpn xpo n (v3 + (1 : Int32)) (v4 + (1 : Int32))) else zf_Pa_ownPart_L5 v1 v2 xpn xpo n v3 (v4 + (1 : Int32)))))
def zf_Pa_ownPart (u1 : Int32) (u2 : Int32) (xpn : Int32) (xpo : Nat → Int32) : Option (Int32) := zf_Pa_ownPart_L5 u1 u2 xpn xpo 2000 (0 : Int32) (0 : Int32)
def zf_Pa_ownGrams_L6 (v1 : Int32) (v2 : Int32) (v3 : Int64) (xpn : Int32) (xpo : Nat → Int32) (xpk : Nat → Int32) (xpg : Nat → Int64) (xcn : Int32) (xcp : Nat → Int32) (xcd : Nat → Int64) (xck : Nat → Int32) (xcg : Nat → Int64)  : Nat → Int64 → Int32 → Option (Int64)
  | 0, _, _ => none
  | n + 1, v5, v7 => (if xpn ≤ v7 then some v5 else (if v7 < 0 ∨ 24 ≤ v7.toNatClampNeg then none else (if (xpo v7.toNatClampNeg) = v1 then ((zf_Pa_kindOn v7 v3 xpk xcn xcp xcd xck).bind (fun y4 => (if y4 = v2 then ((zf_Pa_gramsOn v7 v3 xpg xcn xcp xcd xcg).bind (fun y6 => zf_Pa_ownGrams_L6 v1 v2 v3 xpn xpo xpk xpg xcn xcp xcd xck xcg n (v5 + y6) (v7 + (1 : Int32)))) else zf_Pa_ownGrams_L6 v1 v2 v3 xpn xpo xpk xpg xcn xcp xcd xck xcg n v5 (v7 + (1 : Int32))))) else zf_Pa_ownGrams_L6 v1 v2 v3 xpn xpo xpk xpg xcn xcp xcd xck xcg n v5 (v7 + (1 : Int32)))))
def zf_Pa_ownGrams (u1 : Int32) (u2 : Int32) (u3 : Int64) (xpn : Int32) (xpo : Nat → Int32) (xpk : Nat → Int32) (xpg : Nat → Int64) (xcn : Int32) (xcp : Nat → Int32) (xcd : Nat → Int64) (xck : Nat → Int32) (xcg : Nat → Int64) : Option (Int64) := zf_Pa_ownGrams_L6 u1 u2 u3 xpn xpo xpk xpg xcn xcp xcd xck xcg 2000 (0 : Int64) (0 : Int32)
def zf_MP_seen (u1 : Int32) (u2 : Int32) (u3 : Int32) (u4 : Int32) (xgc : Int32) (xrig : Nat → Int32) (xpn : Int32) (xpo : Nat → Int32) (xpk : Nat → Int32) (xpg : Nat → Int64) (xpl : Nat → Int32) (xcn : Int32) (xcp : Nat → Int32) (xcd : Nat → Int64) (xck : Nat → Int32) (xcg : Nat → Int64) : Option (Int64) := ((zf_MP_isPerson u1).bind (fun y1 => (if y1 = 0 then some (-1 : Int64) else ((zf_MP_isGood u2 xgc).bind (fun y3 => (if y3 = 0 then some (-1 : Int64) else ((zf_Pa_ownPart u2 u3 xpn xpo).bind (fun y5 => (if y5 = (-1 : Int32) then some (-1 : Int64) else ((zf_MP_rightIndex u1 u2).bind (fun y7 => (if y7 < 0 ∨ 64 ≤ y7.toNatClampNeg then none else ((zf_Pa_kindOn y5 (100000 : Int64) xpk xcn xcp xcd xck).bind (fun y9 => (if u4 = (0 : Int32) then some y9.toInt64 else (if u4 = (1 : Int32) then (if (xrig y7.toNatClampNeg) = 0 then ((zf_Pa_ownGrams u2 y9 (100000 : Int64) xpn xpo xpk xpg xcn xcp xcd xck xcg).bind (fun y13 => some y13)) else ((zf_Pa_gramsOn y5 (100000 : Int64) xpg xcn xcp xcd xcg).bind (fun y14 => some y14))) else (if u4 = (2 : Int32) then (if (xrig y7.toNatClampNeg) = 0 then some (-2 : Int64) else (if y5 < 0 ∨ 24 ≤ y5.toNatClampNeg then none else some (xpl y5.toNatClampNeg).toInt64)) else some (-1 : Int64))))))))))))))))))
def zf_Fo_addByte (u1 : Int32) (xtl : Int32) (xft : Nat → Int32) : Option (Int32 × Int32 × (Nat → Int32)) := (if u1 < 0 then some ((0 : Int32), xtl, xft) else (if (255 : Int32) < u1 then some ((0 : Int32), xtl, xft) else (if xtl < (300 : Int32) then (if xtl < 0 ∨ 300 ≤ xtl.toNatClampNeg then none else some ((1 : Int32), (xtl + (1 : Int32)), (upd xft xtl.toNatClampNeg u1))) else some ((0 : Int32), xtl, xft))))
def zf_MP_unit (u1 : Int32) (xtl : Int32) (xft : Nat → Int32) : Option (Int32 × Int32 × (Nat → Int32)) := ((zf_Fo_addByte u1 xtl xft).bind (fun y1 => some (y1.1, y1.2.1, y1.2.2)))
def zf_Fo_isDigit (u0 : Int32) : Option (Int32) := (if u0 < (48 : Int32) then some (0 : Int32) else (if (57 : Int32) < u0 then some (0 : Int32) else some (1 : Int32)))
def zf_Fo_signOf (u0 : Int32) : Option (Int32) := (if u0 = (42 : Int32) then some (-9 : Int32) else (if u0 = (43 : Int32) then some (-7 : Int32) else (if u0 = (45 : Int32) then some (-8 : Int32) else (if u0 = (110 : Int32) then some (-6 : Int32) else some (-12 : Int32)))))
def zf_Fo_shareOf (u0 : Int32) : Option (Int32) := ((zf_MP_isKind (u0 - (48 : Int32))).bind (fun y1 => (if y1 = 0 then some (-12 : Int32) else some ((-1 : Int32) - (u0 - (48 : Int32))))))
def zf_Fo_boundOf (u0 : Int32) (u1 : Int32) : Option (Int32) := (if u0 = (105 : Int32) then (if u1 = (110 : Int32) then some (-10 : Int32) else (if u0 = (97 : Int32) then (if u1 = (120 : Int32) then some (-11 : Int32) else some (-12 : Int32)) else some (-12 : Int32))) else (if u0 = (97 : Int32) then (if u1 = (120 : Int32) then some (-11 : Int32) else some (-12 : Int32)) else some (-12 : Int32)))
def zf_Fo_numberAt_L16 (v1 : Int32) (v2 : Int32) (xft : Nat → Int32)  : Nat → Int32 → Int32 → Option (Int32)
  | 0, _, _ => none
  | n + 1, v3, v4 => (if v2 ≤ v4 then some v3 else (if v4 < 0 ∨ 300 ≤ v4.toNatClampNeg then none else ((zf_Fo_isDigit (xft v4.toNatClampNeg)).bind (fun y4 => (if y4 = 0 then some (-12 : Int32) else (if v4 < 0 ∨ 300 ≤ v4.toNatClampNeg then none else zf_Fo_numberAt_L16 v1 v2 xft n ((v3 * (10 : Int32)) + ((xft v4.toNatClampNeg) - (48 : Int32))) (v4 + (1 : Int32))))))))
def zf_Fo_numberAt (u1 : Int32) (u2 : Int32) (xft : Nat → Int32) : Option (Int32) := (if (u2 - u1) ≤ (6 : Int32) then zf_Fo_numberAt_L16 u1 u2 xft 2000 (0 : Int32) u1 else some (-12 : Int32))
def zf_Fo_wordAt (u1 : Int32) (u2 : Int32) (xft : Nat → Int32) : Option (Int32) := (if u1 < 0 ∨ 300 ≤ u1.toNatClampNeg then none else ((zf_Fo_isDigit (xft u1.toNatClampNeg)).bind (fun y2 => (if y2 = 0 then (if (u2 - u1) = (1 : Int32) then ((zf_Fo_signOf (xft u1.toNatClampNeg)).bind (fun y5 => some y5)) else (if (u2 - u1) = (2 : Int32) then (if (xft u1.toNatClampNeg) = (107 : Int32) then (if (u1 + (1 : Int32)) < 0 ∨ 300 ≤ (u1 + (1 : Int32)).toNatClampNeg then none else ((zf_Fo_shareOf (xft (u1 + (1 : Int32)).toNatClampNeg)).bind (fun y9 => some y9))) else some (-12 : Int32)) else (if (u2 - u1) = (3 : Int32) then (if (xft u1.toNatClampNeg) = (109 : Int32) then (if (u1 + (1 : Int32)) < 0 ∨ 300 ≤ (u1 + (1 : Int32)).toNatClampNeg then none else (if (u1 + (2 : Int32)) < 0 ∨ 300 ≤ (u1 + (2 : Int32)).toNatClampNeg then none else ((zf_Fo_boundOf (xft (u1 + (1 : Int32)).toNatClampNeg) (xft (u1 + (2 : Int32)).toNatClampNeg)).bind (fun y14 => some y14)))) else some (-12 : Int32)) else some (-12 : Int32)))) else ((zf_Fo_numberAt u1 u2 xft).bind (fun y16 => some y16))))))
def zf_Fo_joinsTwo (u0 : Int32) : Option (Int32) := (if (-7 : Int32) < u0 then some (0 : Int32) else (if u0 < (-11 : Int32) then some (0 : Int32) else some (1 : Int32)))
def zf_Fo_takeWord (u1 : Int32) (xrc : Int32) (xrd : Int32) (xfr : Nat → Int32) : Option (Int32 × Int32 × Int32 × (Nat → Int32)) := ((zf_Fo_joinsTwo u1).bind (fun y1 => (if u1 = (-12 : Int32) then some ((0 : Int32), xrc, xrd, xfr) else (if y1 = 0 then (if xrc < (150 : Int32) then (if xrc < 0 ∨ 150 ≤ xrc.toNatClampNeg then none else (if y1 = 0 then some ((1 : Int32), (xrc + (1 : Int32)), (xrd + (1 : Int32)), (upd xfr xrc.toNatClampNeg u1)) else some ((1 : Int32), (xrc + (1 : Int32)), (xrd + (-1 : Int32)), (upd xfr xrc.toNatClampNeg u1)))) else some ((0 : Int32), xrc, xrd, xfr)) else (if xrd < (2 : Int32) then some ((0 : Int32), xrc, xrd, xfr) else (if xrc < (150 : Int32) then (if xrc < 0 ∨ 150 ≤ xrc.toNatClampNeg then none else (if y1 = 0 then some ((1 : Int32), (xrc + (1 : Int32)), (xrd + (1 : Int32)), (upd xfr xrc.toNatClampNeg u1)) else some ((1 : Int32), (xrc + (1 : Int32)), (xrd + (-1 : Int32)), (upd xfr xrc.toNatClampNeg u1)))) else some ((0 : Int32), xrc, xrd, xfr)))))))
def zf_Fo_isGap (u0 : Int32) : Option (Int32) := (if u0 = (32 : Int32) then some (1 : Int32) else (if u0 = (10 : Int32) then some (1 : Int32) else some (0 : Int32)))
def zf_Fo_readText_L24 (v1 : Int32) (xtl : Int32) (xwc : Int32) (xfw : Nat → Int32) (xft : Nat → Int32)  : Nat → Int32 → Int32 → Int32 → Int32 → (Nat → Int32) → Option (Int32 × Int32 × Int32 × Int32 × Int32 × (Nat → Int32) × (Nat → Int32))
  | 0, _, _, _, _, _ => none
  | n + 1, v2, v3, xrc, xrd, xfr => (if v1 < v3 then (if xrd = (1 : Int32) then (if (0 : Int32) < 0 ∨ (0 : Int32) < 0 ∨ xrc < 0 ∨ 150 < (0 : Int32).toNatClampNeg + xrc.toNatClampNeg ∨ 150 < (0 : Int32).toNatClampNeg + xrc.toNatClampNeg then none else some (xrc, xtl, xrc, xrd, xrc, xfr, (va_cpy xfr xfw (0 : Int32).toNatClampNeg (0 : Int32).toNatClampNeg xrc.toNatClampNeg))) else some (((-1 : Int32) - xrc), xtl, xrc, xrd, xwc, xfr, xfw)) else (if v3 = v1 then (if v3 ≤ v2 then zf_Fo_readText_L24 v1 xtl xwc xfw xft n (v3 + (1 : Int32)) (v3 + (1 : Int32)) xrc xrd xfr else ((zf_Fo_wordAt v2 v3 xft).bind (fun y6 => ((zf_Fo_takeWord y6 xrc xrd xfr).bind (fun y7 => (if y7.1 = 0 then some (((-1 : Int32) - y7.2.1), xtl, y7.2.1, y7.2.2.1, xwc, y7.2.2.2, xfw) else zf_Fo_readText_L24 v1 xtl xwc xfw xft n (v3 + (1 : Int32)) (v3 + (1 : Int32)) y7.2.1 y7.2.2.1 y7.2.2.2)))))) else (if v3 < 0 ∨ 300 ≤ v3.toNatClampNeg then none else ((zf_Fo_isGap (xft v3.toNatClampNeg)).bind (fun y10 => (if y10 = 0 then zf_Fo_readText_L24 v1 xtl xwc xfw xft n v2 (v3 + (1 : Int32)) xrc xrd xfr else (if v3 ≤ v2 then zf_Fo_readText_L24 v1 xtl xwc xfw xft n (v3 + (1 : Int32)) (v3 + (1 : Int32)) xrc xrd xfr else ((zf_Fo_wordAt v2 v3 xft).bind (fun y13 => ((zf_Fo_takeWord y13 xrc xrd xfr).bind (fun y14 => (if y14.1 = 0 then some (((-1 : Int32) - y14.2.1), xtl, y14.2.1, y14.2.2.1, xwc, y14.2.2.2, xfw) else zf_Fo_readText_L24 v1 xtl xwc xfw xft n (v3 + (1 : Int32)) (v3 + (1 : Int32)) y14.2.1 y14.2.2.1 y14.2.2.2))))))))))))
def zf_Fo_readText (xtl : Int32) (xrc : Int32) (xrd : Int32) (xwc : Int32) (xft : Nat → Int32) (xfr : Nat → Int32) (xfw : Nat → Int32) : Option (Int32 × Int32 × Int32 × Int32 × Int32 × (Nat → Int32) × (Nat → Int32)) := zf_Fo_readText_L24 xtl (0 : Int32) xwc xfw xft 2000 (0 : Int32) (0 : Int32) (0 : Int32) (0 : Int32) xfr
def zf_MP_score (xtl : Int32) (xrc : Int32) (xrd : Int32) (xwc : Int32) (xft : Nat → Int32) (xfr : Nat → Int32) (xfw : Nat → Int32) : Option (Int32 × Int32 × Int32 × Int32 × Int32 × (Nat → Int32) × (Nat → Int32)) := ((zf_Fo_readText xtl xrc xrd xwc xft xfr xfw).bind (fun y1 => some (y1.1, y1.2.1, y1.2.2.1, y1.2.2.2.1, y1.2.2.2.2.1, y1.2.2.2.2.2.1, y1.2.2.2.2.2.2)))
def zf_Fo_isTold (xwc : Int32) : Option (Int32) := (if xwc ≤ 0 then some (0 : Int32) else some (1 : Int32))
def zf_Pa_ownCount_L4 (v1 : Int32) (xpn : Int32) (xpo : Nat → Int32)  : Nat → Int32 → Int32 → Option (Int32)
  | 0, _, _ => none
  | n + 1, v2, v3 => (if xpn ≤ v3 then some v2 else (if v3 < 0 ∨ 24 ≤ v3.toNatClampNeg then none else (if (xpo v3.toNatClampNeg) = v1 then zf_Pa_ownCount_L4 v1 xpn xpo n (v2 + (1 : Int32)) (v3 + (1 : Int32)) else zf_Pa_ownCount_L4 v1 xpn xpo n v2 (v3 + (1 : Int32)))))
def zf_Pa_ownCount (u1 : Int32) (xpn : Int32) (xpo : Nat → Int32) : Option (Int32) := zf_Pa_ownCount_L4 u1 xpn xpo 2000 (0 : Int32) (0 : Int32)
def zf_Fo_cutProduct (u0 : Int64) (u2 : Int64) : Option (Int64) := (if u0 = (0 : Int64) then some (0 : Int64) else (if (if 0 < u0 then u0 else -u0) = 0 then none else (if ((1000000000000 : Int64) / (if 0 < u0 then u0 else -u0)) < (if 0 < u2 then u2 else -u2) then (if (0 : Int64) ≤ u0 then (if (0 : Int64) ≤ u2 then (if (0 : Int32) = (0 : Int32) then some (1000000000000 : Int64) else some (-1000000000000 : Int64)) else (if (0 : Int32) = (1 : Int32) then some (1000000000000 : Int64) else some (-1000000000000 : Int64))) else (if (0 : Int64) ≤ u2 then (if (1 : Int32) = (0 : Int32) then some (1000000000000 : Int64) else some (-1000000000000 : Int64)) else (if (1 : Int32) = (1 : Int32) then some (1000000000000 : Int64) else some (-1000000000000 : Int64)))) else some (u0 * u2))))
def zf_Fo_cut (u0 : Int64) : Option (Int64) := some (if (if u0 < (1000000000000 : Int64) then u0 else (1000000000000 : Int64)) < (-1000000000000 : Int64) then (-1000000000000 : Int64) else (if u0 < (1000000000000 : Int64) then u0 else (1000000000000 : Int64)))
def zf_Fo_join (u0 : Int32) (u1 : Int64) (u3 : Int64) : Option (Int64) := (if u0 = (-10 : Int32) then some (if u3 < u1 then u3 else u1) else (if u0 = (-9 : Int32) then ((zf_Fo_cutProduct u1 u3).bind (fun y3 => some y3)) else (if u0 = (-8 : Int32) then ((zf_Fo_cut (u1 - u3)).bind (fun y5 => some y5)) else (if u0 = (-7 : Int32) then ((zf_Fo_cut (u1 + u3)).bind (fun y7 => some y7)) else some (if u3 < u1 then u1 else u3)))))
def zf_Fo_share_L5 (v0 : Int32) (xsm : Nat → Int64)  : Nat → Int64 → Int32 → Option (Int64)
  | 0, _, _ => none
  | n + 1, v2, v4 => (if (5 : Int32) ≤ v4 then (if v2 ≤ (0 : Int64) then some (0 : Int64) else ((zf_MP_isKind v0).bind (fun y3 => (if y3 = 0 then some (0 : Int64) else (if v0 < 0 ∨ 5 ≤ v0.toNatClampNeg then none else (if v2 = 0 then none else some (((1000 : Int64) * (xsm v0.toNatClampNeg)) / v2))))))) else (if v4 < 0 ∨ 5 ≤ v4.toNatClampNeg then none else zf_Fo_share_L5 v0 xsm n (v2 + (xsm v4.toNatClampNeg)) (v4 + (1 : Int32))))
def zf_Fo_share (u0 : Int32) (xsm : Nat → Int64) : Option (Int64) := zf_Fo_share_L5 u0 xsm 2000 (0 : Int64) (0 : Int32)
def zf_Fo_valueOf (u0 : Int32) (u2 : Int32) (xsm : Nat → Int64) : Option (Int64) := (if u0 < 0 then (if u0 = (-6 : Int32) then some u2.toInt64 else ((zf_Fo_share ((-1 : Int32) - u0) xsm).bind (fun y3 => some y3))) else some u0.toInt64)
def zf_Fo_value_L5 (v2 : Int32) (xwc : Int32) (xsm : Nat → Int64) (xfw : Nat → Int32)  : Nat → Int32 → Int32 → (Nat → Int64) → Option (Int64 × (Nat → Int64))
  | 0, _, _, _ => none
  | n + 1, v3, v4, xfs => (if xwc ≤ v4 then (if (0 : Int32) < 0 ∨ 150 ≤ (0 : Int32).toNatClampNeg then none else some ((xfs (0 : Int32).toNatClampNeg), xfs)) else (if v4 < 0 ∨ 150 ≤ v4.toNatClampNeg then none else ((zf_Fo_joinsTwo (xfw v4.toNatClampNeg)).bind (fun y4 => (if y4 = 0 then ((zf_Fo_valueOf (xfw v4.toNatClampNeg) v2 xsm).bind (fun y11 => (if v3 < 0 ∨ 150 ≤ v3.toNatClampNeg then none else zf_Fo_value_L5 v2 xwc xsm xfw n (v3 + (1 : Int32)) (v4 + (1 : Int32)) (vp_updL xfs v3.toNatClampNeg y11)))) else (if v3 < (2 : Int32) then zf_Fo_value_L5 v2 xwc xsm xfw n v3 (v4 + (1 : Int32)) xfs else (if ((v3 + (-1 : Int32)) - (1 : Int32)) < 0 ∨ 150 ≤ ((v3 + (-1 : Int32)) - (1 : Int32)).toNatClampNeg then none else (if (v3 + (-1 : Int32)) < 0 ∨ 150 ≤ (v3 + (-1 : Int32)).toNatClampNeg then none else ((zf_Fo_join (xfw v4.toNatClampNeg) (xfs ((v3 + (-1 : Int32)) - (1 : Int32)).toNatClampNeg) (xfs (v3 + (-1 : Int32)).toNatClampNeg)).bind (fun y9 => (if ((v3 + (-1 : Int32)) - (1 : Int32)) < 0 ∨ 150 ≤ ((v3 + (-1 : Int32)) - (1 : Int32)).toNatClampNeg then none else zf_Fo_value_L5 v2 xwc xsm xfw n (v3 + (-1 : Int32)) (v4 + (1 : Int32)) (vp_updL xfs ((v3 + (-1 : Int32)) - (1 : Int32)).toNatClampNeg y9))))))))))))
def zf_Fo_value (u2 : Int32) (xwc : Int32) (xsm : Nat → Int64) (xfw : Nat → Int32) (xfs : Nat → Int64) : Option (Int64 × (Nat → Int64)) := zf_Fo_value_L5 u2 xwc xsm xfw 2000 (0 : Int32) (0 : Int32) xfs
def zf_MP_valueFor (u1 : Int32) (xpn : Int32) (xwc : Int32) (xsm : Nat → Int64) (xpo : Nat → Int32) (xpk : Nat → Int32) (xpg : Nat → Int64) (xpi : Nat → Int32) (xcn : Int32) (xcp : Nat → Int32) (xcd : Nat → Int64) (xck : Nat → Int32) (xcg : Nat → Int64) (xnt : Nat → Int64) (xnl : Nat → Int64) (xnd : Nat → Int64) (xfw : Nat → Int32) (xfs : Nat → Int64) : Option (Int64 × (Nat → Int64) × (Nat → Int64) × (Nat → Int64) × (Nat → Int64) × (Nat → Int64)) := ((zf_Ne_sumWithin u1 (100000 : Int64) xpn xsm xpo xpk xpg xpi xcn xcp xcd xck xcg xnt xnl xnd).bind (fun y1 => ((zf_Pa_ownCount u1 xpn xpo).bind (fun y2 => ((zf_Fo_value y2 xwc y1.1 xfw xfs).bind (fun y3 => some (y3.1, y1.1, y1.2.1, y1.2.2.1, y1.2.2.2, y3.2)))))))
def zf_MP_scored (u1 : Int32) (xgc : Int32) (xpn : Int32) (xwc : Int32) (xsm : Nat → Int64) (xpo : Nat → Int32) (xpk : Nat → Int32) (xpg : Nat → Int64) (xpi : Nat → Int32) (xcn : Int32) (xcp : Nat → Int32) (xcd : Nat → Int64) (xck : Nat → Int32) (xcg : Nat → Int64) (xnt : Nat → Int64) (xnl : Nat → Int64) (xnd : Nat → Int64) (xfw : Nat → Int32) (xfs : Nat → Int64) : Option (Int64 × (Nat → Int64) × (Nat → Int64) × (Nat → Int64) × (Nat → Int64) × (Nat → Int64)) := ((zf_Fo_isTold xwc).bind (fun y1 => (if y1 = 0 then some ((-9223372036854775808 : Int64), xsm, xnt, xnl, xnd, xfs) else ((zf_MP_isGood u1 xgc).bind (fun y3 => (if y3 = 0 then some ((-9223372036854775808 : Int64), xsm, xnt, xnl, xnd, xfs) else ((zf_MP_valueFor u1 xpn xwc xsm xpo xpk xpg xpi xcn xcp xcd xck xcg xnt xnl xnd xfw xfs).bind (fun y5 => some (y5.1, y5.2.1, y5.2.2.1, y5.2.2.2.1, y5.2.2.2.2.1, y5.2.2.2.2.2)))))))))
def zf_Ch_dropLast (xcn : Int32) : Option (Int32) := (if xcn ≤ 0 then some xcn else some (xcn - (1 : Int32)))
def zf_MP_swap (u1 : Int32) (u2 : Int32) (xver : Nat → Int32) (xpn : Int32) (xwc : Int32) (xsm : Nat → Int64) (xpo : Nat → Int32) (xpk : Nat → Int32) (xpg : Nat → Int64) (xpi : Nat → Int32) (xcn : Int32) (xcp : Nat → Int32) (xcd : Nat → Int64) (xck : Nat → Int32) (xcg : Nat → Int64) (xnt : Nat → Int64) (xnl : Nat → Int64) (xnd : Nat → Int64) (xfw : Nat → Int32) (xfs : Nat → Int64) : Option (Int32 × (Nat → Int32) × (Nat → Int64) × Int32 × (Nat → Int32) × (Nat → Int64) × (Nat → Int32) × (Nat → Int64) × (Nat → Int64) × (Nat → Int64) × (Nat → Int64) × (Nat → Int64)) := ((zf_Fo_isTold xwc).bind (fun y1 => (if y1 = 0 then some ((-1 : Int32), xver, xsm, xcn, xcp, xcd, xck, xcg, xnt, xnl, xnd, xfs) else ((zf_Ch_isFull xcn).bind (fun y3 => (if y3 = 0 then ((zf_Pa_has u1 xpn).bind (fun y5 => (if y5 = 0 then some ((-1 : Int32), xver, xsm, xcn, xcp, xcd, xck, xcg, xnt, xnl, xnd, xfs) else ((zf_MP_isKind u2).bind (fun y7 => (if y7 = 0 then some ((-1 : Int32), xver, xsm, xcn, xcp, xcd, xck, xcg, xnt, xnl, xnd, xfs) else (if u1 < 0 ∨ 24 ≤ u1.toNatClampNeg then none else ((zf_MP_valueFor (xpo u1.toNatClampNeg) xpn xwc xsm xpo xpk xpg xpi xcn xcp xcd xck xcg xnt xnl xnd xfw xfs).bind (fun y10 => ((zf_Pa_gramsOn u1 (100000 : Int64) xpg xcn xcp xcd xcg).bind (fun y11 => ((zf_Ch_add u1 (100000 : Int64) u2 y11 xcn xcp xcd xck xcg).bind (fun y12 => ((zf_MP_valueFor (xpo u1.toNatClampNeg) xpn xwc y10.2.1 xpo xpk xpg xpi y12.1 y12.2.1 y12.2.2.1 y12.2.2.2.1 y12.2.2.2.2 y10.2.2.1 y10.2.2.2.1 y10.2.2.2.2.1 xfw y10.2.2.2.2.2).bind (fun y13 => (if y10.1 < y13.1 then (if (xpo u1.toNatClampNeg) < 0 ∨ 8 ≤ (xpo u1.toNatClampNeg).toNatClampNeg then none else (if (xpo u1.toNatClampNeg) < 0 ∨ 8 ≤ (xpo u1.toNatClampNeg).toNatClampNeg then none else some ((1 : Int32), (upd xver (xpo u1.toNatClampNeg).toNatClampNeg ((xver (xpo u1.toNatClampNeg).toNatClampNeg) + (1 : Int32))), y13.2.1, y12.1, y12.2.1, y12.2.2.1, y12.2.2.2.1, y12.2.2.2.2, y13.2.2.1, y13.2.2.2.1, y13.2.2.2.2.1, y13.2.2.2.2.2))) else ((zf_Ch_dropLast y12.1).bind (fun y17 => some ((0 : Int32), xver, y13.2.1, y17, y12.2.1, y12.2.2.1, y12.2.2.2.1, y12.2.2.2.2, y13.2.2.1, y13.2.2.2.1, y13.2.2.2.2.1, y13.2.2.2.2.2))))))))))))))))))) else some ((-1 : Int32), xver, xsm, xcn, xcp, xcd, xck, xcg, xnt, xnl, xnd, xfs)))))))
def zf_MP_mark_L47 (v1 : Int32) (v2 : Int64) (v4 : Int32) (xsm : Nat → Int64) (xnt : Nat → Int64) (xnl : Nat → Int64) (xnd : Nat → Int64) (xgc : Int32) (xver : Nat → Int32) (xpn : Int32) (xpo : Nat → Int32) (xpk : Nat → Int32) (xpg : Nat → Int64) (xpi : Nat → Int32) (xcn : Int32) (xcp : Nat → Int32) (xcd : Nat → Int64) (xck : Nat → Int32) (xcg : Nat → Int64)  : Nat → Int64 → Int32 → Option (Int32 × (Nat → Int64) × (Nat → Int64) × (Nat → Int64) × (Nat → Int64))
  | 0, _, _ => none
  | n + 1, v5, v7 => (if (5 : Int32) ≤ v7 then (if v1 < 0 ∨ 8 ≤ v1.toNatClampNeg then none else some ((((((v5 + (xver v1.toNatClampNeg).toInt64) * (6364136223846793005 : Int64)).toUInt64 >>> (((8 : Int32) * ((7 : Int32) - v4)).toInt64.toUInt64 &&& Int64.toUInt64 63)).toInt64).toInt32 &&& (255 : Int32)), xsm, xnt, xnl, xnd)) else (if v7 < 0 ∨ 5 ≤ v7.toNatClampNeg then none else zf_MP_mark_L47 v1 v2 v4 xsm xnt xnl xnd xgc xver xpn xpo xpk xpg xpi xcn xcp xcd xck xcg n ((((v5 + (xsm v7.toNatClampNeg)) + (1 : Int64)) * (6364136223846793005 : Int64)) ^^^ ((((v5 + (xsm v7.toNatClampNeg)) + (1 : Int64)) * (6364136223846793005 : Int64)).toUInt64 >>> ((32 : Int32).toInt64.toUInt64 &&& Int64.toUInt64 63)).toInt64) (v7 + (1 : Int32))))
def zf_MP_mark (u1 : Int32) (u2 : Int64) (u4 : Int32) (xgc : Int32) (xver : Nat → Int32) (xpn : Int32) (xsm : Nat → Int64) (xpo : Nat → Int32) (xpk : Nat → Int32) (xpg : Nat → Int64) (xpi : Nat → Int32) (xcn : Int32) (xcp : Nat → Int32) (xcd : Nat → Int64) (xck : Nat → Int32) (xcg : Nat → Int64) (xnt : Nat → Int64) (xnl : Nat → Int64) (xnd : Nat → Int64) : Option (Int32 × (Nat → Int64) × (Nat → Int64) × (Nat → Int64) × (Nat → Int64)) := ((zf_MP_isGood u1 xgc).bind (fun y1 => (if y1 = 0 then some ((-1 : Int32), xsm, xnt, xnl, xnd) else (if u4 < 0 then some ((-1 : Int32), xsm, xnt, xnl, xnd) else (if u4 < (8 : Int32) then ((zf_Ne_sumWithin u1 (100000 : Int64) xpn xsm xpo xpk xpg xpi xcn xcp xcd xck xcg xnt xnl xnd).bind (fun y5 => zf_MP_mark_L47 u1 u2 u4 y5.1 y5.2.1 y5.2.2.1 y5.2.2.2 xgc xver xpn xpo xpk xpg xpi xcn xcp xcd xck xcg 2000 u2 (0 : Int32))) else some ((-1 : Int32), xsm, xnt, xnl, xnd))))))
def zf_Ne_sumOfAll (u2 : Int64) (xpn : Int32) (xsm : Nat → Int64) (xpo : Nat → Int32) (xpk : Nat → Int32) (xpg : Nat → Int64) (xcn : Int32) (xcp : Nat → Int32) (xcd : Nat → Int64) (xck : Nat → Int32) (xcg : Nat → Int64) (xnt : Nat → Int64) : Option ((Nat → Int64) × (Nat → Int64)) := ((zf_Ja_fill (1 : Int64) 8 xnt).bind (fun y1 => ((zf_Ne_sumByTimes u2 xpn xsm xpo xpk xpg xcn xcp xcd xck xcg y1).bind (fun y2 => some (y2, y1)))))
def zf_MP_kindsAhead_L4 (v1 : Int32) (xsm : Nat → Int64)  : Nat → Int32 → Int32 → Option (Int32)
  | 0, _, _ => none
  | n + 1, v2, v3 => (if (5 : Int32) ≤ v3 then some v2 else (if v3 < 0 ∨ 5 ≤ v3.toNatClampNeg then none else (if v1 < 0 ∨ 5 ≤ v1.toNatClampNeg then none else (if (xsm v1.toNatClampNeg) < (xsm v3.toNatClampNeg) then zf_MP_kindsAhead_L4 v1 xsm n (v2 + (1 : Int32)) (v3 + (1 : Int32)) else (if v3 < 0 ∨ 5 ≤ v3.toNatClampNeg then none else (if v1 < 0 ∨ 5 ≤ v1.toNatClampNeg then none else (if (xsm v3.toNatClampNeg) = (xsm v1.toNatClampNeg) then (if v1 ≤ v3 then zf_MP_kindsAhead_L4 v1 xsm n v2 (v3 + (1 : Int32)) else zf_MP_kindsAhead_L4 v1 xsm n (v2 + (1 : Int32)) (v3 + (1 : Int32))) else zf_MP_kindsAhead_L4 v1 xsm n v2 (v3 + (1 : Int32)))))))))
def zf_MP_kindsAhead (u1 : Int32) (xsm : Nat → Int64) : Option (Int32) := zf_MP_kindsAhead_L4 u1 xsm 2000 (0 : Int32) (0 : Int32)
def zf_MP_most_L20 (v1 : Int32) (xsm : Nat → Int64) (xnt : Nat → Int64) (xpn : Int32) (xpo : Nat → Int32) (xpk : Nat → Int32) (xpg : Nat → Int64) (xcn : Int32) (xcp : Nat → Int32) (xcd : Nat → Int64) (xck : Nat → Int32) (xcg : Nat → Int64)  : Nat → Int32 → Option (Int32 × (Nat → Int64) × (Nat → Int64))
  | 0, _ => none
  | n + 1, v2 => (if (5 : Int32) ≤ v2 then some ((-1 : Int32), xsm, xnt) else (if v2 < 0 ∨ 5 ≤ v2.toNatClampNeg then none else (if (xsm v2.toNatClampNeg) ≤ (0 : Int64) then zf_MP_most_L20 v1 xsm xnt xpn xpo xpk xpg xcn xcp xcd xck xcg n (v2 + (1 : Int32)) else ((zf_MP_kindsAhead v2 xsm).bind (fun y5 => (if y5 = v1 then some (v2, xsm, xnt) else zf_MP_most_L20 v1 xsm xnt xpn xpo xpk xpg xcn xcp xcd xck xcg n (v2 + (1 : Int32))))))))
def zf_MP_most (u1 : Int32) (xpn : Int32) (xsm : Nat → Int64) (xpo : Nat → Int32) (xpk : Nat → Int32) (xpg : Nat → Int64) (xcn : Int32) (xcp : Nat → Int32) (xcd : Nat → Int64) (xck : Nat → Int32) (xcg : Nat → Int64) (xnt : Nat → Int64) : Option (Int32 × (Nat → Int64) × (Nat → Int64)) := ((zf_Ne_sumOfAll (100000 : Int64) xpn xsm xpo xpk xpg xcn xcp xcd xck xcg xnt).bind (fun y1 => zf_MP_most_L20 u1 y1.1 y1.2 xpn xpo xpk xpg xcn xcp xcd xck xcg 2000 (0 : Int32)))
def zf_Mo_good (mgc : Int32) : Option (Int32 × Int32) := (if mgc = (8 : Int32) then some ((-1 : Int32), mgc) else some (((mgc + (1 : Int32)) - (1 : Int32)), (mgc + (1 : Int32))))
def zf_Mo_isGood (u1 : Int32) (mgc : Int32) : Option (Int32) := (if u1 < 0 then some (0 : Int32) else (if mgc ≤ u1 then some (0 : Int32) else some (1 : Int32)))
def zf_Mo_isKind (u0 : Int32) : Option (Int32) := (if u0 < 0 then some (0 : Int32) else (if (5 : Int32) ≤ u0 then some (0 : Int32) else some (1 : Int32)))
def zf_Mo_isIn (u0 : Int64) (u2 : Int64) (u4 : Int64) : Option (Int32) := (if u0 < u2 then some (0 : Int32) else (if u4 < u0 then some (0 : Int32) else some (1 : Int32)))
def zf_Mo_part (u1 : Int32) (u2 : Int32) (u3 : Int64) (u5 : Int32) (mgc : Int32) (mpn : Int32) (mver : Nat → Int32) (mho : Nat → Int32) (mki : Nat → Int32) (mgr : Nat → Int64) (mli : Nat → Int32) (min_ : Nat → Int32) : Option (Int32 × Int32 × (Nat → Int32) × (Nat → Int32) × (Nat → Int32) × (Nat → Int64) × (Nat → Int32) × (Nat → Int32)) := (if mpn = (24 : Int32) then some ((-1 : Int32), mpn, mver, mho, mki, mgr, mli, min_) else ((zf_Mo_isGood u1 mgc).bind (fun y2 => (if y2 = 0 then some ((-1 : Int32), mpn, mver, mho, mki, mgr, mli, min_) else ((zf_Mo_isKind u2).bind (fun y4 => (if y4 = 0 then some ((-1 : Int32), mpn, mver, mho, mki, mgr, mli, min_) else ((zf_Mo_isIn u3 (0 : Int64) (1000000000 : Int64)).bind (fun y6 => (if y6 = 0 then some ((-1 : Int32), mpn, mver, mho, mki, mgr, mli, min_) else ((zf_Mo_isIn u5.toInt64 (0 : Int64) (200 : Int64)).bind (fun y8 => (if y8 = 0 then some ((-1 : Int32), mpn, mver, mho, mki, mgr, mli, min_) else (if mpn < 0 ∨ 24 ≤ mpn.toNatClampNeg then none else (if mpn < 0 ∨ 24 ≤ mpn.toNatClampNeg then none else (if mpn < 0 ∨ 24 ≤ mpn.toNatClampNeg then none else (if mpn < 0 ∨ 24 ≤ mpn.toNatClampNeg then none else (if mpn < 0 ∨ 24 ≤ mpn.toNatClampNeg then none else (if u1 < 0 ∨ 8 ≤ u1.toNatClampNeg then none else (if u1 < 0 ∨ 8 ≤ u1.toNatClampNeg then none else some (((mpn + (1 : Int32)) - (1 : Int32)), (mpn + (1 : Int32)), (upd mver u1.toNatClampNeg ((mver u1.toNatClampNeg) + (1 : Int32))), (upd mho mpn.toNatClampNeg u1), (upd mki mpn.toNatClampNeg u2), (vp_updL mgr mpn.toNatClampNeg u3), (upd mli mpn.toNatClampNeg u5), (upd min_ mpn.toNatClampNeg (-1 : Int32)))))))))))))))))))))))
def zf_Mo_isPart (u1 : Int32) (mpn : Int32) : Option (Int32) := (if u1 < 0 then some (0 : Int32) else (if mpn ≤ u1 then some (0 : Int32) else some (1 : Int32)))
def zf_Mo_inside_L15 (v1 : Int32) (v3 : Int32) (mpn : Int32) (mho : Nat → Int32) (min_ : Nat → Int32) (K6 : Int32 → Int32 → Option (Int32))  : Nat → Int32 → Int32 → Option (Int32)
  | 0, _, _ => none
  | n + 1, v2, v4 => (if mpn ≤ v4 then K6 v2 (v3 + (1 : Int32)) else (if v4 < 0 ∨ 24 ≤ v4.toNatClampNeg then none else (if ((v2 >>> ((mho v4.toNatClampNeg) &&& 31)) &&& (1 : Int32)) = (1 : Int32) then (if v4 < 0 ∨ 24 ≤ v4.toNatClampNeg then none else (if (min_ v4.toNatClampNeg) < 0 then zf_Mo_inside_L15 v1 v3 mpn mho min_ K6 n (v2 ||| (0 : Int32)) (v4 + (1 : Int32)) else (if v4 < 0 ∨ 24 ≤ v4.toNatClampNeg then none else zf_Mo_inside_L15 v1 v3 mpn mho min_ K6 n (v2 ||| ((1 : Int32) <<< ((min_ v4.toNatClampNeg) &&& 31))) (v4 + (1 : Int32))))) else zf_Mo_inside_L15 v1 v3 mpn mho min_ K6 n (v2 ||| (0 : Int32)) (v4 + (1 : Int32)))))
def zf_Mo_inside_L6 (v1 : Int32) (mpn : Int32) (mho : Nat → Int32) (min_ : Nat → Int32)  : Nat → Int32 → Int32 → Option (Int32)
  | 0, _, _ => none
  | n + 1, v2, v3 => (if (8 : Int32) ≤ v3 then some v2 else zf_Mo_inside_L15 v1 v3 mpn mho min_ (fun uv2 uv3 => zf_Mo_inside_L6 v1 mpn mho min_ n uv2 uv3) 2000 v2 (0 : Int32))
def zf_Mo_inside (u1 : Int32) (mpn : Int32) (mho : Nat → Int32) (min_ : Nat → Int32) : Option (Int32) := zf_Mo_inside_L6 u1 mpn mho min_ 2000 ((1 : Int32) <<< (u1 &&& 31)) (0 : Int32)
def zf_Mo_into (u1 : Int32) (u2 : Int32) (mgc : Int32) (mpn : Int32) (mver : Nat → Int32) (mho : Nat → Int32) (min_ : Nat → Int32) : Option (Int32 × (Nat → Int32) × (Nat → Int32)) := ((zf_Mo_isPart u1 mpn).bind (fun y1 => (if y1 = 0 then some ((0 : Int32), mver, min_) else ((zf_Mo_isGood u2 mgc).bind (fun y3 => (if y3 = 0 then some ((0 : Int32), mver, min_) else (if u1 < 0 ∨ 24 ≤ u1.toNatClampNeg then none else (if 0 ≤ (min_ u1.toNatClampNeg) then some ((0 : Int32), mver, min_) else ((zf_Mo_inside u2 mpn mho min_).bind (fun y7 => (if u1 < 0 ∨ 24 ≤ u1.toNatClampNeg then none else (if ((y7 >>> ((mho u1.toNatClampNeg) &&& 31)) &&& (1 : Int32)) = (1 : Int32) then some ((0 : Int32), mver, min_) else (if u1 < 0 ∨ 24 ≤ u1.toNatClampNeg then none else (if u1 < 0 ∨ 24 ≤ u1.toNatClampNeg then none else (if (mho u1.toNatClampNeg) < 0 ∨ 8 ≤ (mho u1.toNatClampNeg).toNatClampNeg then none else (if (mho u1.toNatClampNeg) < 0 ∨ 8 ≤ (mho u1.toNatClampNeg).toNatClampNeg then none else some ((1 : Int32), (upd mver (mho u1.toNatClampNeg).toNatClampNeg ((mver (mho u1.toNatClampNeg).toNatClampNeg) + (1 : Int32))), (upd min_ u1.toNatClampNeg u2))))))))))))))))))
def zf_Mo_life (u1 : Int32) (u2 : Int32) (mpn : Int32) (mver : Nat → Int32) (mho : Nat → Int32) (mli : Nat → Int32) : Option (Int32 × (Nat → Int32) × (Nat → Int32)) := ((zf_Mo_isPart u1 mpn).bind (fun y1 => (if y1 = 0 then some ((0 : Int32), mver, mli) else ((zf_Mo_isIn u2.toInt64 (0 : Int64) (200 : Int64)).bind (fun y3 => (if y3 = 0 then some ((0 : Int32), mver, mli) else (if u1 < 0 ∨ 24 ≤ u1.toNatClampNeg then none else (if u1 < 0 ∨ 24 ≤ u1.toNatClampNeg then none else (if (mho u1.toNatClampNeg) < 0 ∨ 8 ≤ (mho u1.toNatClampNeg).toNatClampNeg then none else (if (mho u1.toNatClampNeg) < 0 ∨ 8 ≤ (mho u1.toNatClampNeg).toNatClampNeg then none else some ((1 : Int32), (upd mver (mho u1.toNatClampNeg).toNatClampNeg ((mver (mho u1.toNatClampNeg).toNatClampNeg) + (1 : Int32))), (upd mli u1.toNatClampNeg u2))))))))))))
def zf_Mo_add (u1 : Int32) (u2 : Int64) (u4 : Int32) (u5 : Int64) (mcn : Int32) (mcp : Nat → Int32) (mcd : Nat → Int64) (mck : Nat → Int32) (mcg : Nat → Int64) : Option (Int32 × (Nat → Int32) × (Nat → Int64) × (Nat → Int32) × (Nat → Int64)) := (if mcn < 0 ∨ 20 ≤ mcn.toNatClampNeg then none else (if mcn < 0 ∨ 20 ≤ mcn.toNatClampNeg then none else (if mcn < 0 ∨ 20 ≤ mcn.toNatClampNeg then none else (if mcn < 0 ∨ 20 ≤ mcn.toNatClampNeg then none else some ((mcn + (1 : Int32)), (upd mcp mcn.toNatClampNeg u1), (vp_updL mcd mcn.toNatClampNeg u2), (upd mck mcn.toNatClampNeg u4), (vp_updL mcg mcn.toNatClampNeg u5))))))
def zf_Mo_change (u1 : Int32) (u2 : Int64) (u4 : Int32) (u5 : Int64) (mpn : Int32) (mcn : Int32) (mver : Nat → Int32) (mho : Nat → Int32) (mcp : Nat → Int32) (mcd : Nat → Int64) (mck : Nat → Int32) (mcg : Nat → Int64) : Option (Int32 × Int32 × (Nat → Int32) × (Nat → Int32) × (Nat → Int64) × (Nat → Int32) × (Nat → Int64)) := (if mcn = (20 : Int32) then some ((0 : Int32), mcn, mver, mcp, mcd, mck, mcg) else ((zf_Mo_isPart u1 mpn).bind (fun y2 => (if y2 = 0 then some ((0 : Int32), mcn, mver, mcp, mcd, mck, mcg) else ((zf_Mo_isIn u2 (0 : Int64) (100000 : Int64)).bind (fun y4 => (if y4 = 0 then some ((0 : Int32), mcn, mver, mcp, mcd, mck, mcg) else ((zf_Mo_isKind u4).bind (fun y6 => (if y6 = 0 then some ((0 : Int32), mcn, mver, mcp, mcd, mck, mcg) else ((zf_Mo_isIn u5 (0 : Int64) (1000000000 : Int64)).bind (fun y8 => (if y8 = 0 then some ((0 : Int32), mcn, mver, mcp, mcd, mck, mcg) else ((zf_Mo_add u1 u2 u4 u5 mcn mcp mcd mck mcg).bind (fun y10 => (if u1 < 0 ∨ 24 ≤ u1.toNatClampNeg then none else (if (mho u1.toNatClampNeg) < 0 ∨ 8 ≤ (mho u1.toNatClampNeg).toNatClampNeg then none else (if (mho u1.toNatClampNeg) < 0 ∨ 8 ≤ (mho u1.toNatClampNeg).toNatClampNeg then none else some ((1 : Int32), y10.1, (upd mver (mho u1.toNatClampNeg).toNatClampNeg ((mver (mho u1.toNatClampNeg).toNatClampNeg) + (1 : Int32))), y10.2.1, y10.2.2.1, y10.2.2.2.1, y10.2.2.2.2)))))))))))))))))))
def zf_Mo_changeOf_L6 (v1 : Int32) (v2 : Int64) (mcn : Int32) (mcp : Nat → Int32) (mcd : Nat → Int64)  : Nat → Int32 → Int32 → Option (Int32)
  | 0, _, _ => none
  | n + 1, v4, v5 => (if mcn ≤ v5 then some v4 else (if v5 < 0 ∨ 20 ≤ v5.toNatClampNeg then none else (if (mcp v5.toNatClampNeg) = v1 then (if v5 < 0 ∨ 20 ≤ v5.toNatClampNeg then none else (if v2 < (mcd v5.toNatClampNeg) then (if (0 : Int32) = 0 then zf_Mo_changeOf_L6 v1 v2 mcn mcp mcd n v4 (v5 + (1 : Int32)) else (if v4 < 0 then zf_Mo_changeOf_L6 v1 v2 mcn mcp mcd n v5 (v5 + (1 : Int32)) else (if v5 < 0 ∨ 20 ≤ v5.toNatClampNeg then none else (if v4 < 0 ∨ 20 ≤ v4.toNatClampNeg then none else (if (mcd v5.toNatClampNeg) < (mcd v4.toNatClampNeg) then zf_Mo_changeOf_L6 v1 v2 mcn mcp mcd n v4 (v5 + (1 : Int32)) else zf_Mo_changeOf_L6 v1 v2 mcn mcp mcd n v5 (v5 + (1 : Int32))))))) else (if (1 : Int32) = 0 then zf_Mo_changeOf_L6 v1 v2 mcn mcp mcd n v4 (v5 + (1 : Int32)) else (if v4 < 0 then zf_Mo_changeOf_L6 v1 v2 mcn mcp mcd n v5 (v5 + (1 : Int32)) else (if v5 < 0 ∨ 20 ≤ v5.toNatClampNeg then none else (if v4 < 0 ∨ 20 ≤ v4.toNatClampNeg then none else (if (mcd v5.toNatClampNeg) < (mcd v4.toNatClampNeg) then zf_Mo_changeOf_L6 v1 v2 mcn mcp mcd n v4 (v5 + (1 : Int32)) else zf_Mo_changeOf_L6 v1 v2 mcn mcp mcd n v5 (v5 + (1 : Int32))))))))) else (if (0 : Int32) = 0 then zf_Mo_changeOf_L6 v1 v2 mcn mcp mcd n v4 (v5 + (1 : Int32)) else (if v4 < 0 then zf_Mo_changeOf_L6 v1 v2 mcn mcp mcd n v5 (v5 + (1 : Int32)) else (if v5 < 0 ∨ 20 ≤ v5.toNatClampNeg then none else (if v4 < 0 ∨ 20 ≤ v4.toNatClampNeg then none else (if (mcd v5.toNatClampNeg) < (mcd v4.toNatClampNeg) then zf_Mo_changeOf_L6 v1 v2 mcn mcp mcd n v4 (v5 + (1 : Int32)) else zf_Mo_changeOf_L6 v1 v2 mcn mcp mcd n v5 (v5 + (1 : Int32))))))))))
def zf_Mo_changeOf (u1 : Int32) (u2 : Int64) (mcn : Int32) (mcp : Nat → Int32) (mcd : Nat → Int64) : Option (Int32) := zf_Mo_changeOf_L6 u1 u2 mcn mcp mcd 2000 (-1 : Int32) (0 : Int32)
def zf_Mo_kindOn (u1 : Int32) (u2 : Int64) (mcn : Int32) (mki : Nat → Int32) (mcp : Nat → Int32) (mcd : Nat → Int64) (mck : Nat → Int32) : Option (Int32) := ((zf_Mo_changeOf u1 u2 mcn mcp mcd).bind (fun y1 => (if 0 ≤ y1 then (if y1 < 0 ∨ 20 ≤ y1.toNatClampNeg then none else some (mck y1.toNatClampNeg)) else (if u1 < 0 ∨ 24 ≤ u1.toNatClampNeg then none else some (mki u1.toNatClampNeg)))))
def zf_Mo_gramsOn (u1 : Int32) (u2 : Int64) (mcn : Int32) (mgr : Nat → Int64) (mcp : Nat → Int32) (mcd : Nat → Int64) (mcg : Nat → Int64) : Option (Int64) := ((zf_Mo_changeOf u1 u2 mcn mcp mcd).bind (fun y1 => (if 0 ≤ y1 then (if y1 < 0 ∨ 20 ≤ y1.toNatClampNeg then none else some (mcg y1.toNatClampNeg)) else (if u1 < 0 ∨ 24 ≤ u1.toNatClampNeg then none else some (mgr u1.toNatClampNeg)))))
def zf_Mo_sum_L189 (v1 : Int32) (v2 : Int64) (v4 : Int32) (mow : Nat → Int64) (mne : Nat → Int64) (mpn : Int32) (mcn : Int32) (mho : Nat → Int32) (mki : Nat → Int32) (mgr : Nat → Int64) (min_ : Nat → Int32) (mcp : Nat → Int32) (mcd : Nat → Int64) (mck : Nat → Int32) (mcg : Nat → Int64) (K90 : Int32 → (Nat → Int64) → (Nat → Int64) → Option ((Nat → Int64) × (Nat → Int64) × (Nat → Int64)))  : Nat → Int32 → (Nat → Int64) → Option ((Nat → Int64) × (Nat → Int64) × (Nat → Int64))
  | 0, _, _ => none
  | n + 1, v5, msu => (if (8 : Int32) ≤ v5 then K90 (v4 + (1 : Int32)) msu mne else (if v5 < 0 ∨ 8 ≤ v5.toNatClampNeg then none else (if v5 < 0 ∨ 8 ≤ v5.toNatClampNeg then none else zf_Mo_sum_L189 v1 v2 v4 mow mne mpn mcn mho mki mgr min_ mcp mcd mck mcg K90 n (v5 + (1 : Int32)) (vp_updL msu v5.toNatClampNeg (mne v5.toNatClampNeg)))))
def zf_Mo_sum_L130 (v1 : Int32) (v2 : Int64) (v4 : Int32) (mow : Nat → Int64) (msu : Nat → Int64) (mpn : Int32) (mcn : Int32) (mho : Nat → Int32) (mki : Nat → Int32) (mgr : Nat → Int64) (min_ : Nat → Int32) (mcp : Nat → Int32) (mcd : Nat → Int64) (mck : Nat → Int32) (mcg : Nat → Int64) (K90 : Int32 → (Nat → Int64) → (Nat → Int64) → Option ((Nat → Int64) × (Nat → Int64) × (Nat → Int64)))  : Nat → Int32 → (Nat → Int64) → Option ((Nat → Int64) × (Nat → Int64) × (Nat → Int64))
  | 0, _, _ => none
  | n + 1, v5, mne => (if mpn ≤ v5 then zf_Mo_sum_L189 v1 v2 v4 mow mne mpn mcn mho mki mgr min_ mcp mcd mck mcg K90 2000 (0 : Int32) msu else (if v5 < 0 ∨ 24 ≤ v5.toNatClampNeg then none else (if (mho v5.toNatClampNeg) < 0 ∨ 8 ≤ (mho v5.toNatClampNeg).toNatClampNeg then none else (if v5 < 0 ∨ 24 ≤ v5.toNatClampNeg then none else (if 0 ≤ (min_ v5.toNatClampNeg) then (if v5 < 0 ∨ 24 ≤ v5.toNatClampNeg then none else (if (min_ v5.toNatClampNeg) < 0 ∨ 8 ≤ (min_ v5.toNatClampNeg).toNatClampNeg then none else (if (mho v5.toNatClampNeg) < 0 ∨ 8 ≤ (mho v5.toNatClampNeg).toNatClampNeg then none else zf_Mo_sum_L130 v1 v2 v4 mow msu mpn mcn mho mki mgr min_ mcp mcd mck mcg K90 n (v5 + (1 : Int32)) (vp_updL mne (mho v5.toNatClampNeg).toNatClampNeg ((mne (mho v5.toNatClampNeg).toNatClampNeg) + (msu (min_ v5.toNatClampNeg).toNatClampNeg)))))) else (if (mho v5.toNatClampNeg) < 0 ∨ 8 ≤ (mho v5.toNatClampNeg).toNatClampNeg then none else zf_Mo_sum_L130 v1 v2 v4 mow msu mpn mcn mho mki mgr min_ mcp mcd mck mcg K90 n (v5 + (1 : Int32)) (vp_updL mne (mho v5.toNatClampNeg).toNatClampNeg ((mne (mho v5.toNatClampNeg).toNatClampNeg) + (0 : Int64)))))))))
def zf_Mo_sum_L100 (v1 : Int32) (v2 : Int64) (v4 : Int32) (mow : Nat → Int64) (msu : Nat → Int64) (mpn : Int32) (mcn : Int32) (mho : Nat → Int32) (mki : Nat → Int32) (mgr : Nat → Int64) (min_ : Nat → Int32) (mcp : Nat → Int32) (mcd : Nat → Int64) (mck : Nat → Int32) (mcg : Nat → Int64) (K90 : Int32 → (Nat → Int64) → (Nat → Int64) → Option ((Nat → Int64) × (Nat → Int64) × (Nat → Int64)))  : Nat → Int32 → (Nat → Int64) → Option ((Nat → Int64) × (Nat → Int64) × (Nat → Int64))
  | 0, _, _ => none
  | n + 1, v5, mne => (if (8 : Int32) ≤ v5 then zf_Mo_sum_L130 v1 v2 v4 mow msu mpn mcn mho mki mgr min_ mcp mcd mck mcg K90 2000 (0 : Int32) mne else (if v5 < 0 ∨ 8 ≤ v5.toNatClampNeg then none else (if v5 < 0 ∨ 8 ≤ v5.toNatClampNeg then none else zf_Mo_sum_L100 v1 v2 v4 mow msu mpn mcn mho mki mgr min_ mcp mcd mck mcg K90 n (v5 + (1 : Int32)) (vp_updL mne v5.toNatClampNeg (mow v5.toNatClampNeg)))))
def zf_Mo_sum_L90 (v1 : Int32) (v2 : Int64) (mow : Nat → Int64) (mpn : Int32) (mcn : Int32) (mho : Nat → Int32) (mki : Nat → Int32) (mgr : Nat → Int64) (min_ : Nat → Int32) (mcp : Nat → Int32) (mcd : Nat → Int64) (mck : Nat → Int32) (mcg : Nat → Int64)  : Nat → Int32 → (Nat → Int64) → (Nat → Int64) → Option ((Nat → Int64) × (Nat → Int64) × (Nat → Int64))
  | 0, _, _, _ => none
  | n + 1, v4, msu, mne => (if (8 : Int32) ≤ v4 then some (mow, msu, mne) else zf_Mo_sum_L100 v1 v2 v4 mow msu mpn mcn mho mki mgr min_ mcp mcd mck mcg (fun uv4 umsu umne => zf_Mo_sum_L90 v1 v2 mow mpn mcn mho mki mgr min_ mcp mcd mck mcg n uv4 umsu umne) 2000 (0 : Int32) mne)
def zf_Mo_sum_L35 (v1 : Int32) (v2 : Int64) (msu : Nat → Int64) (mne : Nat → Int64) (mpn : Int32) (mcn : Int32) (mho : Nat → Int32) (mki : Nat → Int32) (mgr : Nat → Int64) (min_ : Nat → Int32) (mcp : Nat → Int32) (mcd : Nat → Int64) (mck : Nat → Int32) (mcg : Nat → Int64)  : Nat → Int32 → (Nat → Int64) → Option ((Nat → Int64) × (Nat → Int64) × (Nat → Int64))
  | 0, _, _ => none
  | n + 1, v4, mow => (if mpn ≤ v4 then zf_Mo_sum_L90 v1 v2 mow mpn mcn mho mki mgr min_ mcp mcd mck mcg 2000 (0 : Int32) msu mne else (if v4 < 0 ∨ 24 ≤ v4.toNatClampNeg then none else (if (mho v4.toNatClampNeg) < 0 ∨ 8 ≤ (mho v4.toNatClampNeg).toNatClampNeg then none else ((zf_Mo_kindOn v4 v2 mcn mki mcp mcd mck).bind (fun y21 => (if y21 = v1 then ((zf_Mo_gramsOn v4 v2 mcn mgr mcp mcd mcg).bind (fun y24 => (if (mho v4.toNatClampNeg) < 0 ∨ 8 ≤ (mho v4.toNatClampNeg).toNatClampNeg then none else zf_Mo_sum_L35 v1 v2 msu mne mpn mcn mho mki mgr min_ mcp mcd mck mcg n (v4 + (1 : Int32)) (vp_updL mow (mho v4.toNatClampNeg).toNatClampNeg ((mow (mho v4.toNatClampNeg).toNatClampNeg) + y24))))) else (if (mho v4.toNatClampNeg) < 0 ∨ 8 ≤ (mho v4.toNatClampNeg).toNatClampNeg then none else zf_Mo_sum_L35 v1 v2 msu mne mpn mcn mho mki mgr min_ mcp mcd mck mcg n (v4 + (1 : Int32)) (vp_updL mow (mho v4.toNatClampNeg).toNatClampNeg ((mow (mho v4.toNatClampNeg).toNatClampNeg) + (0 : Int64))))))))))
def zf_Mo_sum_L3 (v1 : Int32) (v2 : Int64) (mne : Nat → Int64) (mpn : Int32) (mcn : Int32) (mho : Nat → Int32) (mki : Nat → Int32) (mgr : Nat → Int64) (min_ : Nat → Int32) (mcp : Nat → Int32) (mcd : Nat → Int64) (mck : Nat → Int32) (mcg : Nat → Int64)  : Nat → Int32 → (Nat → Int64) → (Nat → Int64) → Option ((Nat → Int64) × (Nat → Int64) × (Nat → Int64))
  | 0, _, _, _ => none
  | n + 1, v4, mow, msu => (if (8 : Int32) ≤ v4 then zf_Mo_sum_L35 v1 v2 msu mne mpn mcn mho mki mgr min_ mcp mcd mck mcg 2000 (0 : Int32) mow else (if v4 < 0 ∨ 8 ≤ v4.toNatClampNeg then none else (if v4 < 0 ∨ 8 ≤ v4.toNatClampNeg then none else zf_Mo_sum_L3 v1 v2 mne mpn mcn mho mki mgr min_ mcp mcd mck mcg n (v4 + (1 : Int32)) (vp_updL mow v4.toNatClampNeg (0 : Int64)) (vp_updL msu v4.toNatClampNeg (0 : Int64)))))
def zf_Mo_sum (u1 : Int32) (u2 : Int64) (mpn : Int32) (mcn : Int32) (mho : Nat → Int32) (mki : Nat → Int32) (mgr : Nat → Int64) (min_ : Nat → Int32) (mcp : Nat → Int32) (mcd : Nat → Int64) (mck : Nat → Int32) (mcg : Nat → Int64) (mow : Nat → Int64) (msu : Nat → Int64) (mne : Nat → Int64) : Option ((Nat → Int64) × (Nat → Int64) × (Nat → Int64)) := zf_Mo_sum_L3 u1 u2 mne mpn mcn mho mki mgr min_ mcp mcd mck mcg 2000 (0 : Int32) mow msu
def zf_Mo_totalOn (u1 : Int32) (u2 : Int32) (u3 : Int64) (mgc : Int32) (mpn : Int32) (mcn : Int32) (mho : Nat → Int32) (mki : Nat → Int32) (mgr : Nat → Int64) (min_ : Nat → Int32) (mcp : Nat → Int32) (mcd : Nat → Int64) (mck : Nat → Int32) (mcg : Nat → Int64) (mow : Nat → Int64) (msu : Nat → Int64) (mne : Nat → Int64) : Option (Int64 × (Nat → Int64) × (Nat → Int64) × (Nat → Int64)) := ((zf_Mo_isGood u1 mgc).bind (fun y1 => (if y1 = 0 then some ((-1 : Int64), mow, msu, mne) else ((zf_Mo_isKind u2).bind (fun y3 => (if y3 = 0 then some ((-1 : Int64), mow, msu, mne) else ((zf_Mo_isIn u3 (0 : Int64) (100000 : Int64)).bind (fun y5 => (if y5 = 0 then some ((-1 : Int64), mow, msu, mne) else ((zf_Mo_sum u2 u3 mpn mcn mho mki mgr min_ mcp mcd mck mcg mow msu mne).bind (fun y7 => (if u1 < 0 ∨ 8 ≤ u1.toNatClampNeg then none else some ((y7.2.1 u1.toNatClampNeg), y7.1, y7.2.1, y7.2.2)))))))))))))
def zf_Mo_total (u1 : Int32) (u2 : Int32) (mgc : Int32) (mpn : Int32) (mcn : Int32) (mho : Nat → Int32) (mki : Nat → Int32) (mgr : Nat → Int64) (min_ : Nat → Int32) (mcp : Nat → Int32) (mcd : Nat → Int64) (mck : Nat → Int32) (mcg : Nat → Int64) (mow : Nat → Int64) (msu : Nat → Int64) (mne : Nat → Int64) : Option (Int64 × (Nat → Int64) × (Nat → Int64) × (Nat → Int64)) := ((zf_Mo_totalOn u1 u2 (100000 : Int64) mgc mpn mcn mho mki mgr min_ mcp mcd mck mcg mow msu mne).bind (fun y1 => some (y1.1, y1.2.1, y1.2.2.1, y1.2.2.2)))
def zf_Mo_frees_L28 (v1 : Int32) (v2 : Int32) (mpn : Int32) (mcn : Int32) (mki : Nat → Int32) (mgr : Nat → Int64) (mli : Nat → Int32) (mcp : Nat → Int32) (mcd : Nat → Int64) (mck : Nat → Int32) (mcg : Nat → Int64)  : Nat → Int64 → Int32 → Option (Int64)
  | 0, _, _ => none
  | n + 1, v3, v5 => (if mpn ≤ v5 then some v3 else (if v5 < 0 ∨ 24 ≤ v5.toNatClampNeg then none else (if (mli v5.toNatClampNeg) = v2 then ((zf_Mo_kindOn v5 (100000 : Int64) mcn mki mcp mcd mck).bind (fun y8 => (if y8 = v1 then ((zf_Mo_gramsOn v5 (100000 : Int64) mcn mgr mcp mcd mcg).bind (fun y10 => zf_Mo_frees_L28 v1 v2 mpn mcn mki mgr mli mcp mcd mck mcg n (v3 + y10) (v5 + (1 : Int32)))) else zf_Mo_frees_L28 v1 v2 mpn mcn mki mgr mli mcp mcd mck mcg n (v3 + (0 : Int64)) (v5 + (1 : Int32))))) else zf_Mo_frees_L28 v1 v2 mpn mcn mki mgr mli mcp mcd mck mcg n (v3 + (0 : Int64)) (v5 + (1 : Int32)))))
def zf_Mo_frees (u1 : Int32) (u2 : Int32) (mpn : Int32) (mcn : Int32) (mki : Nat → Int32) (mgr : Nat → Int64) (mli : Nat → Int32) (mcp : Nat → Int32) (mcd : Nat → Int64) (mck : Nat → Int32) (mcg : Nat → Int64) : Option (Int64) := ((zf_Mo_isKind u1).bind (fun y1 => (if y1 = 0 then some (-1 : Int64) else ((zf_Mo_isIn u2.toInt64 (0 : Int64) (200 : Int64)).bind (fun y3 => (if y3 = 0 then some (-1 : Int64) else zf_Mo_frees_L28 u1 u2 mpn mcn mki mgr mli mcp mcd mck mcg 2000 (0 : Int64) (0 : Int32)))))))
def zf_Mo_version (u1 : Int32) (mgc : Int32) (mver : Nat → Int32) : Option (Int32) := ((zf_Mo_isGood u1 mgc).bind (fun y1 => (if y1 = 0 then some (-1 : Int32) else (if u1 < 0 ∨ 8 ≤ u1.toNatClampNeg then none else some (mver u1.toNatClampNeg)))))
def zf_Mo_right (u1 : Int32) (u2 : Int32) (u3 : Int32) (mgc : Int32) (mri : Nat → Int32) : Option (Int32 × (Nat → Int32)) := ((zf_Mo_isIn u1.toInt64 (0 : Int64) (7 : Int64)).bind (fun y1 => (if y1 = 0 then some ((0 : Int32), mri) else ((zf_Mo_isGood u2 mgc).bind (fun y3 => (if y3 = 0 then some ((0 : Int32), mri) else (if (((8 : Int32) * u1) + u2) < 0 ∨ 64 ≤ (((8 : Int32) * u1) + u2).toNatClampNeg then none else some ((1 : Int32), (upd mri (((8 : Int32) * u1) + u2).toNatClampNeg (vp_nar .boolean u3))))))))))
def zf_Mo_partOf_L5 (v1 : Int32) (v2 : Int32) (mpn : Int32) (mho : Nat → Int32)  : Nat → Int32 → Int32 → Option (Int32)
  | 0, _, _ => none
  | n + 1, v3, v4 => (if mpn ≤ v4 then some (-1 : Int32) else (if v4 < 0 ∨ 24 ≤ v4.toNatClampNeg then none else (if (mho v4.toNatClampNeg) = v1 then (if v3 = v2 then some v4 else zf_Mo_partOf_L5 v1 v2 mpn mho n (v3 + (1 : Int32)) (v4 + (1 : Int32))) else zf_Mo_partOf_L5 v1 v2 mpn mho n v3 (v4 + (1 : Int32)))))
def zf_Mo_partOf (u1 : Int32) (u2 : Int32) (mpn : Int32) (mho : Nat → Int32) : Option (Int32) := zf_Mo_partOf_L5 u1 u2 mpn mho 2000 (0 : Int32) (0 : Int32)
def zf_Mo_seen_L130 (v1 : Int32) (v2 : Int32) (v3 : Int32) (v4 : Int32) (v5 : Int32) (v6 : Int32) (mgc : Int32) (mpn : Int32) (mcn : Int32) (mho : Nat → Int32) (mki : Nat → Int32) (mgr : Nat → Int64) (mli : Nat → Int32) (mcp : Nat → Int32) (mcd : Nat → Int64) (mck : Nat → Int32) (mcg : Nat → Int64) (mri : Nat → Int32)  : Nat → Int64 → Int32 → Option (Int64)
  | 0, _, _ => none
  | n + 1, v7, v9 => (if mpn ≤ v9 then some v7 else (if v9 < 0 ∨ 24 ≤ v9.toNatClampNeg then none else (if (mho v9.toNatClampNeg) = v2 then ((zf_Mo_kindOn v9 (100000 : Int64) mcn mki mcp mcd mck).bind (fun y19 => ((zf_Mo_kindOn v5 (100000 : Int64) mcn mki mcp mcd mck).bind (fun y20 => (if y19 = y20 then (if (1 : Int32) = 0 then zf_Mo_seen_L130 v1 v2 v3 v4 v5 v6 mgc mpn mcn mho mki mgr mli mcp mcd mck mcg mri n (v7 + (0 : Int64)) (v9 + (1 : Int32)) else ((zf_Mo_gramsOn v9 (100000 : Int64) mcn mgr mcp mcd mcg).bind (fun y25 => zf_Mo_seen_L130 v1 v2 v3 v4 v5 v6 mgc mpn mcn mho mki mgr mli mcp mcd mck mcg mri n (v7 + y25) (v9 + (1 : Int32))))) else (if (0 : Int32) = 0 then zf_Mo_seen_L130 v1 v2 v3 v4 v5 v6 mgc mpn mcn mho mki mgr mli mcp mcd mck mcg mri n (v7 + (0 : Int64)) (v9 + (1 : Int32)) else ((zf_Mo_gramsOn v9 (100000 : Int64) mcn mgr mcp mcd mcg).bind (fun y23 => zf_Mo_seen_L130 v1 v2 v3 v4 v5 v6 mgc mpn mcn mho mki mgr mli mcp mcd mck mcg mri n (v7 + y23) (v9 + (1 : Int32)))))))))) else (if (0 : Int32) = 0 then zf_Mo_seen_L130 v1 v2 v3 v4 v5 v6 mgc mpn mcn mho mki mgr mli mcp mcd mck mcg mri n (v7 + (0 : Int64)) (v9 + (1 : Int32)) else ((zf_Mo_gramsOn v9 (100000 : Int64) mcn mgr mcp mcd mcg).bind (fun y18 => zf_Mo_seen_L130 v1 v2 v3 v4 v5 v6 mgc mpn mcn mho mki mgr mli mcp mcd mck mcg mri n (v7 + y18) (v9 + (1 : Int32))))))))
def zf_Mo_seen (u1 : Int32) (u2 : Int32) (u3 : Int32) (u4 : Int32) (mgc : Int32) (mpn : Int32) (mcn : Int32) (mho : Nat → Int32) (mki : Nat → Int32) (mgr : Nat → Int64) (mli : Nat → Int32) (mcp : Nat → Int32) (mcd : Nat → Int64) (mck : Nat → Int32) (mcg : Nat → Int64) (mri : Nat → Int32) : Option (Int64) := ((zf_Mo_isIn u1.toInt64 (0 : Int64) (7 : Int64)).bind (fun y1 => (if y1 = 0 then some (-1 : Int64) else ((zf_Mo_isGood u2 mgc).bind (fun y3 => (if y3 = 0 then some (-1 : Int64) else ((zf_Mo_isIn u4.toInt64 (0 : Int64) (2 : Int64)).bind (fun y5 => (if y5 = 0 then some (-1 : Int64) else ((zf_Mo_partOf u2 u3 mpn mho).bind (fun y7 => (if 0 ≤ y7 then ((zf_Mo_partOf u2 u3 mpn mho).bind (fun y9 => (if (((8 : Int32) * u1) + u2) < 0 ∨ 64 ≤ (((8 : Int32) * u1) + u2).toNatClampNeg then none else (if u4 = 0 then ((zf_Mo_kindOn y9 (100000 : Int64) mcn mki mcp mcd mck).bind (fun y29 => some y29.toInt64)) else (if u4 = (2 : Int32) then (if (mri (((8 : Int32) * u1) + u2).toNatClampNeg) = 0 then some (-2 : Int64) else (if y9 < 0 ∨ 24 ≤ y9.toNatClampNeg then none else some (mli y9.toNatClampNeg).toInt64)) else (if (mri (((8 : Int32) * u1) + u2).toNatClampNeg) = 0 then zf_Mo_seen_L130 u1 u2 u3 u4 y9 (mri (((8 : Int32) * u1) + u2).toNatClampNeg) mgc mpn mcn mho mki mgr mli mcp mcd mck mcg mri 2000 (0 : Int64) (0 : Int32) else ((zf_Mo_gramsOn y9 (100000 : Int64) mcn mgr mcp mcd mcg).bind (fun y26 => some y26)))))))) else some (-1 : Int64)))))))))))))
def zf_Mo_unit (u1 : Int32) (msz : Int32) (mtx : Nat → Int32) : Option (Int32 × Int32 × (Nat → Int32)) := ((zf_Mo_isIn u1.toInt64 (0 : Int64) (255 : Int64)).bind (fun y1 => (if y1 = 0 then some ((0 : Int32), msz, mtx) else (if msz = (300 : Int32) then some ((0 : Int32), msz, mtx) else (if msz < 0 ∨ 300 ≤ msz.toNatClampNeg then none else some ((1 : Int32), (msz + (1 : Int32)), (upd mtx msz.toNatClampNeg u1)))))))
def zf_Mo_isBlank (u0 : Int32) : Option (Int32) := (if u0 = (32 : Int32) then some (1 : Int32) else (if u0 = (10 : Int32) then some (1 : Int32) else some (0 : Int32)))
def zf_Mo_is (u1 : Int32) (u2 : Int32) (u3 : Int32) (u4 : Int32) (mtx : Nat → Int32) : Option (Int32) := (if u1 < 0 ∨ 300 ≤ u1.toNatClampNeg then none else (if (mtx u1.toNatClampNeg) = u2 then (if (u1 + (1 : Int32)) < 0 ∨ 300 ≤ (u1 + (1 : Int32)).toNatClampNeg then none else (if (mtx (u1 + (1 : Int32)).toNatClampNeg) = u3 then (if (u1 + (2 : Int32)) < 0 ∨ 300 ≤ (u1 + (2 : Int32)).toNatClampNeg then none else (if (mtx (u1 + (2 : Int32)).toNatClampNeg) = u4 then some (1 : Int32) else some (0 : Int32))) else some (0 : Int32))) else some (0 : Int32)))
def zf_Mo_wordAt_L184 (v1 : Int32) (v2 : Int32) (v3 : Int32) (mtx : Nat → Int32)  : Nat → Int32 → Int32 → Option (Int32)
  | 0, _, _ => none
  | n + 1, v4, v5 => (if (v1 + v2) ≤ v5 then some v4 else (if v4 < 0 then some v4 else (if v5 < 0 ∨ 300 ≤ v5.toNatClampNeg then none else (if (mtx v5.toNatClampNeg) < (48 : Int32) then zf_Mo_wordAt_L184 v1 v2 v3 mtx n (-12 : Int32) (v5 + (1 : Int32)) else (if v5 < 0 ∨ 300 ≤ v5.toNatClampNeg then none else (if (57 : Int32) < (mtx v5.toNatClampNeg) then zf_Mo_wordAt_L184 v1 v2 v3 mtx n (-12 : Int32) (v5 + (1 : Int32)) else (if v5 < 0 ∨ 300 ≤ v5.toNatClampNeg then none else zf_Mo_wordAt_L184 v1 v2 v3 mtx n ((((10 : Int32) * v4) + (mtx v5.toNatClampNeg)) - (48 : Int32)) (v5 + (1 : Int32)))))))))
def zf_Mo_wordAt (u1 : Int32) (u2 : Int32) (mtx : Nat → Int32) : Option (Int32) := (if u1 < 0 ∨ 300 ≤ u1.toNatClampNeg then none else (if u2 = (1 : Int32) then (if (mtx u1.toNatClampNeg) = (110 : Int32) then (if (mtx u1.toNatClampNeg) = (110 : Int32) then some (-6 : Int32) else (if (mtx u1.toNatClampNeg) = (43 : Int32) then some (-7 : Int32) else (if (mtx u1.toNatClampNeg) = (45 : Int32) then some (-8 : Int32) else some (-9 : Int32)))) else (if (mtx u1.toNatClampNeg) = (43 : Int32) then (if (mtx u1.toNatClampNeg) = (110 : Int32) then some (-6 : Int32) else (if (mtx u1.toNatClampNeg) = (43 : Int32) then some (-7 : Int32) else (if (mtx u1.toNatClampNeg) = (45 : Int32) then some (-8 : Int32) else some (-9 : Int32)))) else (if (mtx u1.toNatClampNeg) = (45 : Int32) then (if (mtx u1.toNatClampNeg) = (110 : Int32) then some (-6 : Int32) else (if (mtx u1.toNatClampNeg) = (43 : Int32) then some (-7 : Int32) else (if (mtx u1.toNatClampNeg) = (45 : Int32) then some (-8 : Int32) else some (-9 : Int32)))) else (if (mtx u1.toNatClampNeg) = (42 : Int32) then (if (mtx u1.toNatClampNeg) = (110 : Int32) then some (-6 : Int32) else (if (mtx u1.toNatClampNeg) = (43 : Int32) then some (-7 : Int32) else (if (mtx u1.toNatClampNeg) = (45 : Int32) then some (-8 : Int32) else some (-9 : Int32)))) else (if u2 = (2 : Int32) then (if (mtx u1.toNatClampNeg) = (107 : Int32) then (if (u1 + (1 : Int32)) < 0 ∨ 300 ≤ (u1 + (1 : Int32)).toNatClampNeg then none else (if (mtx (u1 + (1 : Int32)).toNatClampNeg) < (48 : Int32) then (if u2 = (3 : Int32) then ((zf_Mo_is u1 (109 : Int32) (105 : Int32) (110 : Int32) mtx).bind (fun y118 => (if y118 = 0 then (if u2 = (3 : Int32) then ((zf_Mo_is u1 (109 : Int32) (97 : Int32) (120 : Int32) mtx).bind (fun y122 => (if y122 = 0 then (if (6 : Int32) < u2 then zf_Mo_wordAt_L184 u1 u2 (mtx u1.toNatClampNeg) mtx 2000 (-12 : Int32) u1 else zf_Mo_wordAt_L184 u1 u2 (mtx u1.toNatClampNeg) mtx 2000 (0 : Int32) u1) else some (-11 : Int32)))) else (if (6 : Int32) < u2 then zf_Mo_wordAt_L184 u1 u2 (mtx u1.toNatClampNeg) mtx 2000 (-12 : Int32) u1 else zf_Mo_wordAt_L184 u1 u2 (mtx u1.toNatClampNeg) mtx 2000 (0 : Int32) u1)) else some (-10 : Int32)))) else (if u2 = (3 : Int32) then ((zf_Mo_is u1 (109 : Int32) (97 : Int32) (120 : Int32) mtx).bind (fun y115 => (if y115 = 0 then (if (6 : Int32) < u2 then zf_Mo_wordAt_L184 u1 u2 (mtx u1.toNatClampNeg) mtx 2000 (-12 : Int32) u1 else zf_Mo_wordAt_L184 u1 u2 (mtx u1.toNatClampNeg) mtx 2000 (0 : Int32) u1) else some (-11 : Int32)))) else (if (6 : Int32) < u2 then zf_Mo_wordAt_L184 u1 u2 (mtx u1.toNatClampNeg) mtx 2000 (-12 : Int32) u1 else zf_Mo_wordAt_L184 u1 u2 (mtx u1.toNatClampNeg) mtx 2000 (0 : Int32) u1))) else (if (u1 + (1 : Int32)) < 0 ∨ 300 ≤ (u1 + (1 : Int32)).toNatClampNeg then none else (if (52 : Int32) < (mtx (u1 + (1 : Int32)).toNatClampNeg) then (if u2 = (3 : Int32) then ((zf_Mo_is u1 (109 : Int32) (105 : Int32) (110 : Int32) mtx).bind (fun y133 => (if y133 = 0 then (if u2 = (3 : Int32) then ((zf_Mo_is u1 (109 : Int32) (97 : Int32) (120 : Int32) mtx).bind (fun y137 => (if y137 = 0 then (if (6 : Int32) < u2 then zf_Mo_wordAt_L184 u1 u2 (mtx u1.toNatClampNeg) mtx 2000 (-12 : Int32) u1 else zf_Mo_wordAt_L184 u1 u2 (mtx u1.toNatClampNeg) mtx 2000 (0 : Int32) u1) else some (-11 : Int32)))) else (if (6 : Int32) < u2 then zf_Mo_wordAt_L184 u1 u2 (mtx u1.toNatClampNeg) mtx 2000 (-12 : Int32) u1 else zf_Mo_wordAt_L184 u1 u2 (mtx u1.toNatClampNeg) mtx 2000 (0 : Int32) u1)) else some (-10 : Int32)))) else (if u2 = (3 : Int32) then ((zf_Mo_is u1 (109 : Int32) (97 : Int32) (120 : Int32) mtx).bind (fun y130 => (if y130 = 0 then (if (6 : Int32) < u2 then zf_Mo_wordAt_L184 u1 u2 (mtx u1.toNatClampNeg) mtx 2000 (-12 : Int32) u1 else zf_Mo_wordAt_L184 u1 u2 (mtx u1.toNatClampNeg) mtx 2000 (0 : Int32) u1) else some (-11 : Int32)))) else (if (6 : Int32) < u2 then zf_Mo_wordAt_L184 u1 u2 (mtx u1.toNatClampNeg) mtx 2000 (-12 : Int32) u1 else zf_Mo_wordAt_L184 u1 u2 (mtx u1.toNatClampNeg) mtx 2000 (0 : Int32) u1))) else (if (u1 + (1 : Int32)) < 0 ∨ 300 ≤ (u1 + (1 : Int32)).toNatClampNeg then none else some ((-1 : Int32) - ((mtx (u1 + (1 : Int32)).toNatClampNeg) - (48 : Int32)))))))) else (if u2 = (3 : Int32) then ((zf_Mo_is u1 (109 : Int32) (105 : Int32) (110 : Int32) mtx).bind (fun y103 => (if y103 = 0 then (if u2 = (3 : Int32) then ((zf_Mo_is u1 (109 : Int32) (97 : Int32) (120 : Int32) mtx).bind (fun y107 => (if y107 = 0 then (if (6 : Int32) < u2 then zf_Mo_wordAt_L184 u1 u2 (mtx u1.toNatClampNeg) mtx 2000 (-12 : Int32) u1 else zf_Mo_wordAt_L184 u1 u2 (mtx u1.toNatClampNeg) mtx 2000 (0 : Int32) u1) else some (-11 : Int32)))) else (if (6 : Int32) < u2 then zf_Mo_wordAt_L184 u1 u2 (mtx u1.toNatClampNeg) mtx 2000 (-12 : Int32) u1 else zf_Mo_wordAt_L184 u1 u2 (mtx u1.toNatClampNeg) mtx 2000 (0 : Int32) u1)) else some (-10 : Int32)))) else (if u2 = (3 : Int32) then ((zf_Mo_is u1 (109 : Int32) (97 : Int32) (120 : Int32) mtx).bind (fun y100 => (if y100 = 0 then (if (6 : Int32) < u2 then zf_Mo_wordAt_L184 u1 u2 (mtx u1.toNatClampNeg) mtx 2000 (-12 : Int32) u1 else zf_Mo_wordAt_L184 u1 u2 (mtx u1.toNatClampNeg) mtx 2000 (0 : Int32) u1) else some (-11 : Int32)))) else (if (6 : Int32) < u2 then zf_Mo_wordAt_L184 u1 u2 (mtx u1.toNatClampNeg) mtx 2000 (-12 : Int32) u1 else zf_Mo_wordAt_L184 u1 u2 (mtx u1.toNatClampNeg) mtx 2000 (0 : Int32) u1)))) else (if u2 = (3 : Int32) then ((zf_Mo_is u1 (109 : Int32) (105 : Int32) (110 : Int32) mtx).bind (fun y89 => (if y89 = 0 then (if u2 = (3 : Int32) then ((zf_Mo_is u1 (109 : Int32) (97 : Int32) (120 : Int32) mtx).bind (fun y93 => (if y93 = 0 then (if (6 : Int32) < u2 then zf_Mo_wordAt_L184 u1 u2 (mtx u1.toNatClampNeg) mtx 2000 (-12 : Int32) u1 else zf_Mo_wordAt_L184 u1 u2 (mtx u1.toNatClampNeg) mtx 2000 (0 : Int32) u1) else some (-11 : Int32)))) else (if (6 : Int32) < u2 then zf_Mo_wordAt_L184 u1 u2 (mtx u1.toNatClampNeg) mtx 2000 (-12 : Int32) u1 else zf_Mo_wordAt_L184 u1 u2 (mtx u1.toNatClampNeg) mtx 2000 (0 : Int32) u1)) else some (-10 : Int32)))) else (if u2 = (3 : Int32) then ((zf_Mo_is u1 (109 : Int32) (97 : Int32) (120 : Int32) mtx).bind (fun y86 => (if y86 = 0 then (if (6 : Int32) < u2 then zf_Mo_wordAt_L184 u1 u2 (mtx u1.toNatClampNeg) mtx 2000 (-12 : Int32) u1 else zf_Mo_wordAt_L184 u1 u2 (mtx u1.toNatClampNeg) mtx 2000 (0 : Int32) u1) else some (-11 : Int32)))) else (if (6 : Int32) < u2 then zf_Mo_wordAt_L184 u1 u2 (mtx u1.toNatClampNeg) mtx 2000 (-12 : Int32) u1 else zf_Mo_wordAt_L184 u1 u2 (mtx u1.toNatClampNeg) mtx 2000 (0 : Int32) u1)))))))) else (if u2 = (2 : Int32) then (if (mtx u1.toNatClampNeg) = (107 : Int32) then (if (u1 + (1 : Int32)) < 0 ∨ 300 ≤ (u1 + (1 : Int32)).toNatClampNeg then none else (if (mtx (u1 + (1 : Int32)).toNatClampNeg) < (48 : Int32) then (if u2 = (3 : Int32) then ((zf_Mo_is u1 (109 : Int32) (105 : Int32) (110 : Int32) mtx).bind (fun y46 => (if y46 = 0 then (if u2 = (3 : Int32) then ((zf_Mo_is u1 (109 : Int32) (97 : Int32) (120 : Int32) mtx).bind (fun y50 => (if y50 = 0 then (if (6 : Int32) < u2 then zf_Mo_wordAt_L184 u1 u2 (mtx u1.toNatClampNeg) mtx 2000 (-12 : Int32) u1 else zf_Mo_wordAt_L184 u1 u2 (mtx u1.toNatClampNeg) mtx 2000 (0 : Int32) u1) else some (-11 : Int32)))) else (if (6 : Int32) < u2 then zf_Mo_wordAt_L184 u1 u2 (mtx u1.toNatClampNeg) mtx 2000 (-12 : Int32) u1 else zf_Mo_wordAt_L184 u1 u2 (mtx u1.toNatClampNeg) mtx 2000 (0 : Int32) u1)) else some (-10 : Int32)))) else (if u2 = (3 : Int32) then ((zf_Mo_is u1 (109 : Int32) (97 : Int32) (120 : Int32) mtx).bind (fun y43 => (if y43 = 0 then (if (6 : Int32) < u2 then zf_Mo_wordAt_L184 u1 u2 (mtx u1.toNatClampNeg) mtx 2000 (-12 : Int32) u1 else zf_Mo_wordAt_L184 u1 u2 (mtx u1.toNatClampNeg) mtx 2000 (0 : Int32) u1) else some (-11 : Int32)))) else (if (6 : Int32) < u2 then zf_Mo_wordAt_L184 u1 u2 (mtx u1.toNatClampNeg) mtx 2000 (-12 : Int32) u1 else zf_Mo_wordAt_L184 u1 u2 (mtx u1.toNatClampNeg) mtx 2000 (0 : Int32) u1))) else (if (u1 + (1 : Int32)) < 0 ∨ 300 ≤ (u1 + (1 : Int32)).toNatClampNeg then none else (if (52 : Int32) < (mtx (u1 + (1 : Int32)).toNatClampNeg) then (if u2 = (3 : Int32) then ((zf_Mo_is u1 (109 : Int32) (105 : Int32) (110 : Int32) mtx).bind (fun y61 => (if y61 = 0 then (if u2 = (3 : Int32) then ((zf_Mo_is u1 (109 : Int32) (97 : Int32) (120 : Int32) mtx).bind (fun y65 => (if y65 = 0 then (if (6 : Int32) < u2 then zf_Mo_wordAt_L184 u1 u2 (mtx u1.toNatClampNeg) mtx 2000 (-12 : Int32) u1 else zf_Mo_wordAt_L184 u1 u2 (mtx u1.toNatClampNeg) mtx 2000 (0 : Int32) u1) else some (-11 : Int32)))) else (if (6 : Int32) < u2 then zf_Mo_wordAt_L184 u1 u2 (mtx u1.toNatClampNeg) mtx 2000 (-12 : Int32) u1 else zf_Mo_wordAt_L184 u1 u2 (mtx u1.toNatClampNeg) mtx 2000 (0 : Int32) u1)) else some (-10 : Int32)))) else (if u2 = (3 : Int32) then ((zf_Mo_is u1 (109 : Int32) (97 : Int32) (120 : Int32) mtx).bind (fun y58 => (if y58 = 0 then (if (6 : Int32) < u2 then zf_Mo_wordAt_L184 u1 u2 (mtx u1.toNatClampNeg) mtx 2000 (-12 : Int32) u1 else zf_Mo_wordAt_L184 u1 u2 (mtx u1.toNatClampNeg) mtx 2000 (0 : Int32) u1) else some (-11 : Int32)))) else (if (6 : Int32) < u2 then zf_Mo_wordAt_L184 u1 u2 (mtx u1.toNatClampNeg) mtx 2000 (-12 : Int32) u1 else zf_Mo_wordAt_L184 u1 u2 (mtx u1.toNatClampNeg) mtx 2000 (0 : Int32) u1))) else (if (u1 + (1 : Int32)) < 0 ∨ 300 ≤ (u1 + (1 : Int32)).toNatClampNeg then none else some ((-1 : Int32) - ((mtx (u1 + (1 : Int32)).toNatClampNeg) - (48 : Int32)))))))) else (if u2 = (3 : Int32) then ((zf_Mo_is u1 (109 : Int32) (105 : Int32) (110 : Int32) mtx).bind (fun y31 => (if y31 = 0 then (if u2 = (3 : Int32) then ((zf_Mo_is u1 (109 : Int32) (97 : Int32) (120 : Int32) mtx).bind (fun y35 => (if y35 = 0 then (if (6 : Int32) < u2 then zf_Mo_wordAt_L184 u1 u2 (mtx u1.toNatClampNeg) mtx 2000 (-12 : Int32) u1 else zf_Mo_wordAt_L184 u1 u2 (mtx u1.toNatClampNeg) mtx 2000 (0 : Int32) u1) else some (-11 : Int32)))) else (if (6 : Int32) < u2 then zf_Mo_wordAt_L184 u1 u2 (mtx u1.toNatClampNeg) mtx 2000 (-12 : Int32) u1 else zf_Mo_wordAt_L184 u1 u2 (mtx u1.toNatClampNeg) mtx 2000 (0 : Int32) u1)) else some (-10 : Int32)))) else (if u2 = (3 : Int32) then ((zf_Mo_is u1 (109 : Int32) (97 : Int32) (120 : Int32) mtx).bind (fun y28 => (if y28 = 0 then (if (6 : Int32) < u2 then zf_Mo_wordAt_L184 u1 u2 (mtx u1.toNatClampNeg) mtx 2000 (-12 : Int32) u1 else zf_Mo_wordAt_L184 u1 u2 (mtx u1.toNatClampNeg) mtx 2000 (0 : Int32) u1) else some (-11 : Int32)))) else (if (6 : Int32) < u2 then zf_Mo_wordAt_L184 u1 u2 (mtx u1.toNatClampNeg) mtx 2000 (-12 : Int32) u1 else zf_Mo_wordAt_L184 u1 u2 (mtx u1.toNatClampNeg) mtx 2000 (0 : Int32) u1)))) else (if u2 = (3 : Int32) then ((zf_Mo_is u1 (109 : Int32) (105 : Int32) (110 : Int32) mtx).bind (fun y17 => (if y17 = 0 then (if u2 = (3 : Int32) then ((zf_Mo_is u1 (109 : Int32) (97 : Int32) (120 : Int32) mtx).bind (fun y21 => (if y21 = 0 then (if (6 : Int32) < u2 then zf_Mo_wordAt_L184 u1 u2 (mtx u1.toNatClampNeg) mtx 2000 (-12 : Int32) u1 else zf_Mo_wordAt_L184 u1 u2 (mtx u1.toNatClampNeg) mtx 2000 (0 : Int32) u1) else some (-11 : Int32)))) else (if (6 : Int32) < u2 then zf_Mo_wordAt_L184 u1 u2 (mtx u1.toNatClampNeg) mtx 2000 (-12 : Int32) u1 else zf_Mo_wordAt_L184 u1 u2 (mtx u1.toNatClampNeg) mtx 2000 (0 : Int32) u1)) else some (-10 : Int32)))) else (if u2 = (3 : Int32) then ((zf_Mo_is u1 (109 : Int32) (97 : Int32) (120 : Int32) mtx).bind (fun y14 => (if y14 = 0 then (if (6 : Int32) < u2 then zf_Mo_wordAt_L184 u1 u2 (mtx u1.toNatClampNeg) mtx 2000 (-12 : Int32) u1 else zf_Mo_wordAt_L184 u1 u2 (mtx u1.toNatClampNeg) mtx 2000 (0 : Int32) u1) else some (-11 : Int32)))) else (if (6 : Int32) < u2 then zf_Mo_wordAt_L184 u1 u2 (mtx u1.toNatClampNeg) mtx 2000 (-12 : Int32) u1 else zf_Mo_wordAt_L184 u1 u2 (mtx u1.toNatClampNeg) mtx 2000 (0 : Int32) u1))))))
def zf_Mo_isOfTwo (u0 : Int32) : Option (Int32) := (if (-7 : Int32) < u0 then some (0 : Int32) else some (1 : Int32))
def zf_Mo_score_L168 (v1 : Int32) (v2 : Int32) (v3 : Int32) (v4 : Int32) (msz : Int32) (mwc : Int32) (mhf : Int32) (mnw : Nat → Int32) (mtx : Nat → Int32)  : Nat → Int32 → (Nat → Int32) → Option (Int32 × Int32 × Int32 × Int32 × (Nat → Int32) × (Nat → Int32))
  | 0, _, _ => none
  | n + 1, v5, mwo => (if v1 ≤ v5 then some (v1, msz, v1, (1 : Int32), mwo, mnw) else (if v5 < 0 ∨ 150 ≤ v5.toNatClampNeg then none else (if v5 < 0 ∨ 150 ≤ v5.toNatClampNeg then none else zf_Mo_score_L168 v1 v2 v3 v4 msz mwc mhf mnw mtx n (v5 + (1 : Int32)) (upd mwo v5.toNatClampNeg (mnw v5.toNatClampNeg)))))
def zf_Mo_score_L45 (v1 : Int32) (v2 : Int32) (v3 : Int32) (v5 : Int32) (msz : Int32) (mwc : Int32) (mhf : Int32) (mwo : Nat → Int32) (mnw : Nat → Int32) (mtx : Nat → Int32) (K9 : Int32 → Int32 → Int32 → Int32 → (Nat → Int32) → Option (Int32 × Int32 × Int32 × Int32 × (Nat → Int32) × (Nat → Int32)))  : Nat → Int32 → Option (Int32 × Int32 × Int32 × Int32 × (Nat → Int32) × (Nat → Int32))
  | 0, _ => none
  | n + 1, v4 => (if msz ≤ v4 then ((zf_Mo_wordAt v5 (v4 - v5) mtx).bind (fun y20 => (if y20 = (-12 : Int32) then K9 v1 v2 v1 v4 mnw else ((zf_Mo_isOfTwo y20).bind (fun y22 => (if y22 = 0 then (if v1 < 0 ∨ 150 ≤ v1.toNatClampNeg then none else ((zf_Mo_isOfTwo y20).bind (fun y25 => (if y25 = 0 then K9 (v1 + (1 : Int32)) (v2 + (1 : Int32)) v3 v4 (upd mnw v1.toNatClampNeg y20) else K9 (v1 + (1 : Int32)) (v2 + (-1 : Int32)) v3 v4 (upd mnw v1.toNatClampNeg y20))))) else (if (2 : Int32) ≤ v2 then (if v1 < 0 ∨ 150 ≤ v1.toNatClampNeg then none else ((zf_Mo_isOfTwo y20).bind (fun y29 => (if y29 = 0 then K9 (v1 + (1 : Int32)) (v2 + (1 : Int32)) v3 v4 (upd mnw v1.toNatClampNeg y20) else K9 (v1 + (1 : Int32)) (v2 + (-1 : Int32)) v3 v4 (upd mnw v1.toNatClampNeg y20))))) else K9 v1 v2 v1 v4 mnw))))))) else (if v4 < 0 ∨ 300 ≤ v4.toNatClampNeg then none else ((zf_Mo_isBlank (mtx v4.toNatClampNeg)).bind (fun y32 => (if y32 = 0 then zf_Mo_score_L45 v1 v2 v3 v5 msz mwc mhf mwo mnw mtx K9 n (v4 + (1 : Int32)) else ((zf_Mo_wordAt v5 (v4 - v5) mtx).bind (fun y34 => (if y34 = (-12 : Int32) then K9 v1 v2 v1 v4 mnw else ((zf_Mo_isOfTwo y34).bind (fun y36 => (if y36 = 0 then (if v1 < 0 ∨ 150 ≤ v1.toNatClampNeg then none else ((zf_Mo_isOfTwo y34).bind (fun y39 => (if y39 = 0 then K9 (v1 + (1 : Int32)) (v2 + (1 : Int32)) v3 v4 (upd mnw v1.toNatClampNeg y34) else K9 (v1 + (1 : Int32)) (v2 + (-1 : Int32)) v3 v4 (upd mnw v1.toNatClampNeg y34))))) else (if (2 : Int32) ≤ v2 then (if v1 < 0 ∨ 150 ≤ v1.toNatClampNeg then none else ((zf_Mo_isOfTwo y34).bind (fun y43 => (if y43 = 0 then K9 (v1 + (1 : Int32)) (v2 + (1 : Int32)) v3 v4 (upd mnw v1.toNatClampNeg y34) else K9 (v1 + (1 : Int32)) (v2 + (-1 : Int32)) v3 v4 (upd mnw v1.toNatClampNeg y34))))) else K9 v1 v2 v1 v4 mnw))))))))))))
def zf_Mo_score_L9 (msz : Int32) (mwc : Int32) (mhf : Int32) (mwo : Nat → Int32) (mtx : Nat → Int32)  : Nat → Int32 → Int32 → Int32 → Int32 → (Nat → Int32) → Option (Int32 × Int32 × Int32 × Int32 × (Nat → Int32) × (Nat → Int32))
  | 0, _, _, _, _, _ => none
  | n + 1, v1, v2, v3, v4, mnw => (if msz ≤ v4 then (if 0 ≤ v3 then (if v3 < 0 then zf_Mo_score_L168 v1 v2 v3 v4 (0 : Int32) mwc mhf mnw mtx 2000 (0 : Int32) mwo else some (((-1 : Int32) - v3), (0 : Int32), mwc, mhf, mwo, mnw)) else (if v2 = (1 : Int32) then (if v3 < 0 then zf_Mo_score_L168 v1 v2 v3 v4 (0 : Int32) mwc mhf mnw mtx 2000 (0 : Int32) mwo else some (((-1 : Int32) - v3), (0 : Int32), mwc, mhf, mwo, mnw)) else (if v1 < 0 then zf_Mo_score_L168 v1 v2 v1 v4 (0 : Int32) mwc mhf mnw mtx 2000 (0 : Int32) mwo else some (((-1 : Int32) - v1), (0 : Int32), mwc, mhf, mwo, mnw)))) else (if 0 ≤ v3 then (if 0 ≤ v3 then (if v3 < 0 then zf_Mo_score_L168 v1 v2 v3 v4 (0 : Int32) mwc mhf mnw mtx 2000 (0 : Int32) mwo else some (((-1 : Int32) - v3), (0 : Int32), mwc, mhf, mwo, mnw)) else (if v2 = (1 : Int32) then (if v3 < 0 then zf_Mo_score_L168 v1 v2 v3 v4 (0 : Int32) mwc mhf mnw mtx 2000 (0 : Int32) mwo else some (((-1 : Int32) - v3), (0 : Int32), mwc, mhf, mwo, mnw)) else (if v1 < 0 then zf_Mo_score_L168 v1 v2 v1 v4 (0 : Int32) mwc mhf mnw mtx 2000 (0 : Int32) mwo else some (((-1 : Int32) - v1), (0 : Int32), mwc, mhf, mwo, mnw)))) else (if v4 < 0 ∨ 300 ≤ v4.toNatClampNeg then none else ((zf_Mo_isBlank (mtx v4.toNatClampNeg)).bind (fun y17 => (if y17 = 0 then zf_Mo_score_L45 v1 v2 v3 v4 msz mwc mhf mwo mnw mtx (fun uv1 uv2 uv3 uv4 umnw => zf_Mo_score_L9 msz mwc mhf mwo mtx n uv1 uv2 uv3 uv4 umnw) 2000 v4 else zf_Mo_score_L9 msz mwc mhf mwo mtx n v1 v2 v3 (v4 + (1 : Int32)) mnw))))))
def zf_Mo_score (msz : Int32) (mwc : Int32) (mhf : Int32) (mtx : Nat → Int32) (mwo : Nat → Int32) (mnw : Nat → Int32) : Option (Int32 × Int32 × Int32 × Int32 × (Nat → Int32) × (Nat → Int32)) := zf_Mo_score_L9 msz mwc mhf mwo mtx 2000 (0 : Int32) (0 : Int32) (-1 : Int32) (0 : Int32) mnw
def zf_Mo_shareOf_L8 (v1 : Int32) (v2 : Int32) (mpn : Int32) (mcn : Int32) (mho : Nat → Int32) (mki : Nat → Int32) (mgr : Nat → Int64) (min_ : Nat → Int32) (mcp : Nat → Int32) (mcd : Nat → Int64) (mck : Nat → Int32) (mcg : Nat → Int64)  : Nat → Int64 → Int64 → Int32 → (Nat → Int64) → (Nat → Int64) → (Nat → Int64) → Option (Int64 × (Nat → Int64) × (Nat → Int64) × (Nat → Int64))
  | 0, _, _, _, _, _, _ => none
  | n + 1, v3, v5, v7, mow, msu, mne => (if (5 : Int32) ≤ v7 then (if v3 = (0 : Int64) then some ((0 : Int64), mow, msu, mne) else (if v3 = 0 then none else some ((((1000 : Int64) * v5) / v3), mow, msu, mne))) else ((zf_Mo_sum v7 (100000 : Int64) mpn mcn mho mki mgr min_ mcp mcd mck mcg mow msu mne).bind (fun y4 => (if v1 < 0 ∨ 8 ≤ v1.toNatClampNeg then none else (if v7 = v2 then (if v1 < 0 ∨ 8 ≤ v1.toNatClampNeg then none else zf_Mo_shareOf_L8 v1 v2 mpn mcn mho mki mgr min_ mcp mcd mck mcg n (v3 + (y4.2.1 v1.toNatClampNeg)) (y4.2.1 v1.toNatClampNeg) (v7 + (1 : Int32)) y4.1 y4.2.1 y4.2.2) else zf_Mo_shareOf_L8 v1 v2 mpn mcn mho mki mgr min_ mcp mcd mck mcg n (v3 + (y4.2.1 v1.toNatClampNeg)) v5 (v7 + (1 : Int32)) y4.1 y4.2.1 y4.2.2)))))
def zf_Mo_shareOf (u1 : Int32) (u2 : Int32) (mpn : Int32) (mcn : Int32) (mho : Nat → Int32) (mki : Nat → Int32) (mgr : Nat → Int64) (min_ : Nat → Int32) (mcp : Nat → Int32) (mcd : Nat → Int64) (mck : Nat → Int32) (mcg : Nat → Int64) (mow : Nat → Int64) (msu : Nat → Int64) (mne : Nat → Int64) : Option (Int64 × (Nat → Int64) × (Nat → Int64) × (Nat → Int64)) := zf_Mo_shareOf_L8 u1 u2 mpn mcn mho mki mgr min_ mcp mcd mck mcg 2000 (0 : Int64) (0 : Int64) (0 : Int32) mow msu mne
def zf_Mo_countOf_L4 (v1 : Int32) (mpn : Int32) (mho : Nat → Int32)  : Nat → Int32 → Int32 → Option (Int64)
  | 0, _, _ => none
  | n + 1, v2, v3 => (if mpn ≤ v3 then some v2.toInt64 else (if v3 < 0 ∨ 24 ≤ v3.toNatClampNeg then none else (if (mho v3.toNatClampNeg) = v1 then zf_Mo_countOf_L4 v1 mpn mho n (v2 + (1 : Int32)) (v3 + (1 : Int32)) else zf_Mo_countOf_L4 v1 mpn mho n (v2 + (0 : Int32)) (v3 + (1 : Int32)))))
def zf_Mo_countOf (u1 : Int32) (mpn : Int32) (mho : Nat → Int32) : Option (Int64) := zf_Mo_countOf_L4 u1 mpn mho 2000 (0 : Int32) (0 : Int32)
def zf_Mo_product (u0 : Int64) (u2 : Int64) : Option (Int64) := (if u0 = (0 : Int64) then some (0 : Int64) else (if u2 = (0 : Int64) then some (0 : Int64) else (if (0 : Int64) ≤ u0 then (if (0 : Int64) ≤ u2 then (if u0 = 0 then none else (if u2 ≤ ((1000000000000 : Int64) / u0) then (if (0 : Int64) ≤ u0 then (if (0 : Int64) ≤ u2 then (if (0 : Int32) = (0 : Int32) then some (u0 * u2) else some (-(u0 * u2))) else (if (0 : Int32) = (1 : Int32) then some (u0 * u2) else some (-(u0 * u2)))) else (if (0 : Int64) ≤ u2 then (if (1 : Int32) = (0 : Int32) then some (u0 * u2) else some (-(u0 * u2))) else (if (1 : Int32) = (1 : Int32) then some (u0 * u2) else some (-(u0 * u2))))) else (if (0 : Int64) ≤ u0 then (if (0 : Int64) ≤ u2 then (if (0 : Int32) = (0 : Int32) then some (1000000000000 : Int64) else some (-(1000000000000 : Int64))) else (if (0 : Int32) = (1 : Int32) then some (1000000000000 : Int64) else some (-(1000000000000 : Int64)))) else (if (0 : Int64) ≤ u2 then (if (1 : Int32) = (0 : Int32) then some (1000000000000 : Int64) else some (-(1000000000000 : Int64))) else (if (1 : Int32) = (1 : Int32) then some (1000000000000 : Int64) else some (-(1000000000000 : Int64))))))) else (if u0 = 0 then none else (if (-u2) ≤ ((1000000000000 : Int64) / u0) then (if (0 : Int64) ≤ u0 then (if (0 : Int64) ≤ u2 then (if (0 : Int32) = (0 : Int32) then some (u0 * (-u2)) else some (-(u0 * (-u2)))) else (if (0 : Int32) = (1 : Int32) then some (u0 * (-u2)) else some (-(u0 * (-u2))))) else (if (0 : Int64) ≤ u2 then (if (1 : Int32) = (0 : Int32) then some (u0 * (-u2)) else some (-(u0 * (-u2)))) else (if (1 : Int32) = (1 : Int32) then some (u0 * (-u2)) else some (-(u0 * (-u2)))))) else (if (0 : Int64) ≤ u0 then (if (0 : Int64) ≤ u2 then (if (0 : Int32) = (0 : Int32) then some (1000000000000 : Int64) else some (-(1000000000000 : Int64))) else (if (0 : Int32) = (1 : Int32) then some (1000000000000 : Int64) else some (-(1000000000000 : Int64)))) else (if (0 : Int64) ≤ u2 then (if (1 : Int32) = (0 : Int32) then some (1000000000000 : Int64) else some (-(1000000000000 : Int64))) else (if (1 : Int32) = (1 : Int32) then some (1000000000000 : Int64) else some (-(1000000000000 : Int64)))))))) else (if (0 : Int64) ≤ u2 then (if (-u0) = 0 then none else (if u2 ≤ ((1000000000000 : Int64) / (-u0)) then (if (0 : Int64) ≤ u0 then (if (0 : Int64) ≤ u2 then (if (0 : Int32) = (0 : Int32) then some ((-u0) * u2) else some (-((-u0) * u2))) else (if (0 : Int32) = (1 : Int32) then some ((-u0) * u2) else some (-((-u0) * u2)))) else (if (0 : Int64) ≤ u2 then (if (1 : Int32) = (0 : Int32) then some ((-u0) * u2) else some (-((-u0) * u2))) else (if (1 : Int32) = (1 : Int32) then some ((-u0) * u2) else some (-((-u0) * u2))))) else (if (0 : Int64) ≤ u0 then (if (0 : Int64) ≤ u2 then (if (0 : Int32) = (0 : Int32) then some (1000000000000 : Int64) else some (-(1000000000000 : Int64))) else (if (0 : Int32) = (1 : Int32) then some (1000000000000 : Int64) else some (-(1000000000000 : Int64)))) else (if (0 : Int64) ≤ u2 then (if (1 : Int32) = (0 : Int32) then some (1000000000000 : Int64) else some (-(1000000000000 : Int64))) else (if (1 : Int32) = (1 : Int32) then some (1000000000000 : Int64) else some (-(1000000000000 : Int64))))))) else (if (-u0) = 0 then none else (if (-u2) ≤ ((1000000000000 : Int64) / (-u0)) then (if (0 : Int64) ≤ u0 then (if (0 : Int64) ≤ u2 then (if (0 : Int32) = (0 : Int32) then some ((-u0) * (-u2)) else some (-((-u0) * (-u2)))) else (if (0 : Int32) = (1 : Int32) then some ((-u0) * (-u2)) else some (-((-u0) * (-u2))))) else (if (0 : Int64) ≤ u2 then (if (1 : Int32) = (0 : Int32) then some ((-u0) * (-u2)) else some (-((-u0) * (-u2)))) else (if (1 : Int32) = (1 : Int32) then some ((-u0) * (-u2)) else some (-((-u0) * (-u2)))))) else (if (0 : Int64) ≤ u0 then (if (0 : Int64) ≤ u2 then (if (0 : Int32) = (0 : Int32) then some (1000000000000 : Int64) else some (-(1000000000000 : Int64))) else (if (0 : Int32) = (1 : Int32) then some (1000000000000 : Int64) else some (-(1000000000000 : Int64)))) else (if (0 : Int64) ≤ u2 then (if (1 : Int32) = (0 : Int32) then some (1000000000000 : Int64) else some (-(1000000000000 : Int64))) else (if (1 : Int32) = (1 : Int32) then some (1000000000000 : Int64) else some (-(1000000000000 : Int64)))))))))))
def zf_Mo_cut (u0 : Int64) : Option (Int64) := (if u0 ≤ (1000000000000 : Int64) then (if (-1000000000000 : Int64) ≤ u0 then some u0 else some (-1000000000000 : Int64)) else some (1000000000000 : Int64))
def zf_Mo_ofTwo (u0 : Int32) (u1 : Int64) (u3 : Int64) : Option (Int64) := (if u0 = (-10 : Int32) then (if u3 ≤ u1 then some u3 else some u1) else (if u0 = (-9 : Int32) then ((zf_Mo_product u1 u3).bind (fun y4 => some y4)) else (if u0 = (-8 : Int32) then ((zf_Mo_cut (u1 - u3)).bind (fun y6 => some y6)) else (if u0 = (-7 : Int32) then ((zf_Mo_cut (u1 + u3)).bind (fun y8 => some y8)) else (if u1 ≤ u3 then some u3 else some u1)))))
def zf_Mo_valueOf_L4 (v1 : Int32) (mpn : Int32) (mcn : Int32) (mwc : Int32) (mho : Nat → Int32) (mki : Nat → Int32) (mgr : Nat → Int64) (min_ : Nat → Int32) (mcp : Nat → Int32) (mcd : Nat → Int64) (mck : Nat → Int32) (mcg : Nat → Int64) (mwo : Nat → Int32)  : Nat → Int32 → Int32 → (Nat → Int64) → (Nat → Int64) → (Nat → Int64) → (Nat → Int64) → Option (Int64 × (Nat → Int64) × (Nat → Int64) × (Nat → Int64) × (Nat → Int64))
  | 0, _, _, _, _, _, _ => none
  | n + 1, v2, v3, mst, mow, msu, mne => (if mwc ≤ v3 then (if (0 : Int32) < 0 ∨ 150 ≤ (0 : Int32).toNatClampNeg then none else some ((mst (0 : Int32).toNatClampNeg), mst, mow, msu, mne)) else (if v3 < 0 ∨ 150 ≤ v3.toNatClampNeg then none else ((zf_Mo_isOfTwo (mwo v3.toNatClampNeg)).bind (fun y4 => (if y4 = 0 then (if (mwo v3.toNatClampNeg) < 0 then (if (mwo v3.toNatClampNeg) = (-6 : Int32) then ((zf_Mo_countOf v1 mpn mho).bind (fun y10 => (if v2 < 0 ∨ 150 ≤ v2.toNatClampNeg then none else zf_Mo_valueOf_L4 v1 mpn mcn mwc mho mki mgr min_ mcp mcd mck mcg mwo n (v2 + (1 : Int32)) (v3 + (1 : Int32)) (vp_updL mst v2.toNatClampNeg y10) mow msu mne))) else ((zf_Mo_shareOf v1 ((-1 : Int32) - (mwo v3.toNatClampNeg)) mpn mcn mho mki mgr min_ mcp mcd mck mcg mow msu mne).bind (fun y8 => (if v2 < 0 ∨ 150 ≤ v2.toNatClampNeg then none else zf_Mo_valueOf_L4 v1 mpn mcn mwc mho mki mgr min_ mcp mcd mck mcg mwo n (v2 + (1 : Int32)) (v3 + (1 : Int32)) (vp_updL mst v2.toNatClampNeg y8.1) y8.2.1 y8.2.2.1 y8.2.2.2)))) else (if v2 < 0 ∨ 150 ≤ v2.toNatClampNeg then none else zf_Mo_valueOf_L4 v1 mpn mcn mwc mho mki mgr min_ mcp mcd mck mcg mwo n (v2 + (1 : Int32)) (v3 + (1 : Int32)) (vp_updL mst v2.toNatClampNeg ((mwo v3.toNatClampNeg).toInt64)) mow msu mne)) else (if ((v2 + (-1 : Int32)) - (1 : Int32)) < 0 ∨ 150 ≤ ((v2 + (-1 : Int32)) - (1 : Int32)).toNatClampNeg then none else (if (v2 + (-1 : Int32)) < 0 ∨ 150 ≤ (v2 + (-1 : Int32)).toNatClampNeg then none else ((zf_Mo_ofTwo (mwo v3.toNatClampNeg) (mst ((v2 + (-1 : Int32)) - (1 : Int32)).toNatClampNeg) (mst (v2 + (-1 : Int32)).toNatClampNeg)).bind (fun y15 => (if ((v2 + (-1 : Int32)) - (1 : Int32)) < 0 ∨ 150 ≤ ((v2 + (-1 : Int32)) - (1 : Int32)).toNatClampNeg then none else zf_Mo_valueOf_L4 v1 mpn mcn mwc mho mki mgr min_ mcp mcd mck mcg mwo n (v2 + (-1 : Int32)) (v3 + (1 : Int32)) (vp_updL mst ((v2 + (-1 : Int32)) - (1 : Int32)).toNatClampNeg y15) mow msu mne))))))))))
def zf_Mo_valueOf (u1 : Int32) (mpn : Int32) (mcn : Int32) (mwc : Int32) (mho : Nat → Int32) (mki : Nat → Int32) (mgr : Nat → Int64) (min_ : Nat → Int32) (mcp : Nat → Int32) (mcd : Nat → Int64) (mck : Nat → Int32) (mcg : Nat → Int64) (mwo : Nat → Int32) (mst : Nat → Int64) (mow : Nat → Int64) (msu : Nat → Int64) (mne : Nat → Int64) : Option (Int64 × (Nat → Int64) × (Nat → Int64) × (Nat → Int64) × (Nat → Int64)) := zf_Mo_valueOf_L4 u1 mpn mcn mwc mho mki mgr min_ mcp mcd mck mcg mwo 2000 (0 : Int32) (0 : Int32) mst mow msu mne
def zf_Mo_scored (u1 : Int32) (mgc : Int32) (mpn : Int32) (mcn : Int32) (mwc : Int32) (mhf : Int32) (mho : Nat → Int32) (mki : Nat → Int32) (mgr : Nat → Int64) (min_ : Nat → Int32) (mcp : Nat → Int32) (mcd : Nat → Int64) (mck : Nat → Int32) (mcg : Nat → Int64) (mwo : Nat → Int32) (mst : Nat → Int64) (mow : Nat → Int64) (msu : Nat → Int64) (mne : Nat → Int64) : Option (Int64 × (Nat → Int64) × (Nat → Int64) × (Nat → Int64) × (Nat → Int64)) := (if mhf = 0 then some ((-9223372036854775808 : Int64), mst, mow, msu, mne) else ((zf_Mo_isGood u1 mgc).bind (fun y2 => (if y2 = 0 then some ((-9223372036854775808 : Int64), mst, mow, msu, mne) else ((zf_Mo_valueOf u1 mpn mcn mwc mho mki mgr min_ mcp mcd mck mcg mwo mst mow msu mne).bind (fun y4 => some (y4.1, y4.2.1, y4.2.2.1, y4.2.2.2.1, y4.2.2.2.2)))))))
def zf_Mo_swap (u1 : Int32) (u2 : Int32) (mpn : Int32) (mcn : Int32) (mwc : Int32) (mhf : Int32) (mver : Nat → Int32) (mho : Nat → Int32) (mki : Nat → Int32) (mgr : Nat → Int64) (min_ : Nat → Int32) (mcp : Nat → Int32) (mcd : Nat → Int64) (mck : Nat → Int32) (mcg : Nat → Int64) (mwo : Nat → Int32) (mst : Nat → Int64) (mow : Nat → Int64) (msu : Nat → Int64) (mne : Nat → Int64) : Option (Int32 × Int32 × (Nat → Int32) × (Nat → Int32) × (Nat → Int64) × (Nat → Int32) × (Nat → Int64) × (Nat → Int64) × (Nat → Int64) × (Nat → Int64) × (Nat → Int64)) := ((zf_Mo_isPart u1 mpn).bind (fun y1 => (if y1 = 0 then some ((-1 : Int32), mcn, mver, mcp, mcd, mck, mcg, mst, mow, msu, mne) else ((zf_Mo_isKind u2).bind (fun y3 => (if y3 = 0 then some ((-1 : Int32), mcn, mver, mcp, mcd, mck, mcg, mst, mow, msu, mne) else (if mhf = 0 then some ((-1 : Int32), mcn, mver, mcp, mcd, mck, mcg, mst, mow, msu, mne) else (if mcn = (20 : Int32) then some ((-1 : Int32), mcn, mver, mcp, mcd, mck, mcg, mst, mow, msu, mne) else (if u1 < 0 ∨ 24 ≤ u1.toNatClampNeg then none else ((zf_Mo_valueOf (mho u1.toNatClampNeg) mpn mcn mwc mho mki mgr min_ mcp mcd mck mcg mwo mst mow msu mne).bind (fun y8 => ((zf_Mo_gramsOn u1 (100000 : Int64) mcn mgr mcp mcd mcg).bind (fun y9 => ((zf_Mo_add u1 (100000 : Int64) u2 y9 mcn mcp mcd mck mcg).bind (fun y10 => (if u1 < 0 ∨ 24 ≤ u1.toNatClampNeg then none else ((zf_Mo_valueOf (mho u1.toNatClampNeg) mpn y10.1 mwc mho mki mgr min_ y10.2.1 y10.2.2.1 y10.2.2.2.1 y10.2.2.2.2 mwo y8.2.1 y8.2.2.1 y8.2.2.2.1 y8.2.2.2.2).bind (fun y12 => (if y12.1 ≤ y8.1 then some ((0 : Int32), (y10.1 - (1 : Int32)), mver, y10.2.1, y10.2.2.1, y10.2.2.2.1, y10.2.2.2.2, y12.2.1, y12.2.2.1, y12.2.2.2.1, y12.2.2.2.2) else (if u1 < 0 ∨ 24 ≤ u1.toNatClampNeg then none else (if (mho u1.toNatClampNeg) < 0 ∨ 8 ≤ (mho u1.toNatClampNeg).toNatClampNeg then none else (if (mho u1.toNatClampNeg) < 0 ∨ 8 ≤ (mho u1.toNatClampNeg).toNatClampNeg then none else some ((1 : Int32), y10.1, (upd mver (mho u1.toNatClampNeg).toNatClampNeg ((mver (mho u1.toNatClampNeg).toNatClampNeg) + (1 : Int32))), y10.2.1, y10.2.2.1, y10.2.2.2.1, y10.2.2.2.2, y12.2.1, y12.2.2.1, y12.2.2.2.1, y12.2.2.2.2)))))))))))))))))))))))
def zf_Mo_mark_L29 (v1 : Int32) (v2 : Int64) (v4 : Int32) (mgc : Int32) (mpn : Int32) (mcn : Int32) (mver : Nat → Int32) (mho : Nat → Int32) (mki : Nat → Int32) (mgr : Nat → Int64) (min_ : Nat → Int32) (mcp : Nat → Int32) (mcd : Nat → Int64) (mck : Nat → Int32) (mcg : Nat → Int64)  : Nat → Int64 → Int32 → (Nat → Int64) → (Nat → Int64) → (Nat → Int64) → Option (Int32 × (Nat → Int64) × (Nat → Int64) × (Nat → Int64))
  | 0, _, _, _, _, _ => none
  | n + 1, v5, v7, mow, msu, mne => (if (5 : Int32) ≤ v7 then (if v1 < 0 ∨ 8 ≤ v1.toNatClampNeg then none else some (((((v5 + (mver v1.toNatClampNeg).toInt64) * (6364136223846793005 : Int64)).toUInt64 >>> (((56 : Int32) - ((8 : Int32) * v4)).toInt64.toUInt64 &&& Int64.toUInt64 63)).toInt64 &&& (255 : Int64)).toInt32, mow, msu, mne)) else ((zf_Mo_sum v7 (100000 : Int64) mpn mcn mho mki mgr min_ mcp mcd mck mcg mow msu mne).bind (fun y7 => (if v1 < 0 ∨ 8 ≤ v1.toNatClampNeg then none else zf_Mo_mark_L29 v1 v2 v4 mgc mpn mcn mver mho mki mgr min_ mcp mcd mck mcg n ((((v5 + (y7.2.1 v1.toNatClampNeg)) + (1 : Int64)) * (6364136223846793005 : Int64)) ^^^ ((((v5 + (y7.2.1 v1.toNatClampNeg)) + (1 : Int64)) * (6364136223846793005 : Int64)).toUInt64 >>> ((32 : Int32).toInt64.toUInt64 &&& Int64.toUInt64 63)).toInt64) (v7 + (1 : Int32)) y7.1 y7.2.1 y7.2.2))))
def zf_Mo_mark (u1 : Int32) (u2 : Int64) (u4 : Int32) (mgc : Int32) (mpn : Int32) (mcn : Int32) (mver : Nat → Int32) (mho : Nat → Int32) (mki : Nat → Int32) (mgr : Nat → Int64) (min_ : Nat → Int32) (mcp : Nat → Int32) (mcd : Nat → Int64) (mck : Nat → Int32) (mcg : Nat → Int64) (mow : Nat → Int64) (msu : Nat → Int64) (mne : Nat → Int64) : Option (Int32 × (Nat → Int64) × (Nat → Int64) × (Nat → Int64)) := ((zf_Mo_isGood u1 mgc).bind (fun y1 => (if y1 = 0 then some ((-1 : Int32), mow, msu, mne) else ((zf_Mo_isIn u4.toInt64 (0 : Int64) (7 : Int64)).bind (fun y3 => (if y3 = 0 then some ((-1 : Int32), mow, msu, mne) else zf_Mo_mark_L29 u1 u2 u4 mgc mpn mcn mver mho mki mgr min_ mcp mcd mck mcg 2000 u2 (0 : Int32) mow msu mne))))))
def zf_Mo_allOf_L5 (v1 : Int32) (mpn : Int32) (mcn : Int32) (mki : Nat → Int32) (mgr : Nat → Int64) (mcp : Nat → Int32) (mcd : Nat → Int64) (mck : Nat → Int32) (mcg : Nat → Int64)  : Nat → Int64 → Int32 → Option (Int64)
  | 0, _, _ => none
  | n + 1, v2, v4 => (if mpn ≤ v4 then some v2 else ((zf_Mo_kindOn v4 (100000 : Int64) mcn mki mcp mcd mck).bind (fun y2 => (if y2 = v1 then ((zf_Mo_gramsOn v4 (100000 : Int64) mcn mgr mcp mcd mcg).bind (fun y4 => zf_Mo_allOf_L5 v1 mpn mcn mki mgr mcp mcd mck mcg n (v2 + y4) (v4 + (1 : Int32)))) else zf_Mo_allOf_L5 v1 mpn mcn mki mgr mcp mcd mck mcg n (v2 + (0 : Int64)) (v4 + (1 : Int32))))))
def zf_Mo_allOf (u1 : Int32) (mpn : Int32) (mcn : Int32) (mki : Nat → Int32) (mgr : Nat → Int64) (mcp : Nat → Int32) (mcd : Nat → Int64) (mck : Nat → Int32) (mcg : Nat → Int64) : Option (Int64) := zf_Mo_allOf_L5 u1 mpn mcn mki mgr mcp mcd mck mcg 2000 (0 : Int64) (0 : Int32)
def zf_Mo_most_L19 (v1 : Int32) (v2 : Int32) (v3 : Int64) (mpn : Int32) (mcn : Int32) (mki : Nat → Int32) (mgr : Nat → Int64) (mcp : Nat → Int32) (mcd : Nat → Int64) (mck : Nat → Int32) (mcg : Nat → Int64) (K2 : Int32 → Option (Int32))  : Nat → Int32 → Int32 → Option (Int32)
  | 0, _, _ => none
  | n + 1, v5, v6 => (if (5 : Int32) ≤ v6 then (if v3 ≤ (0 : Int64) then K2 (v2 + (1 : Int32)) else (if v5 = v1 then some v2 else K2 (v2 + (1 : Int32)))) else ((zf_Mo_allOf v6 mpn mcn mki mgr mcp mcd mck mcg).bind (fun y6 => (if v3 < y6 then zf_Mo_most_L19 v1 v2 v3 mpn mcn mki mgr mcp mcd mck mcg K2 n (v5 + (1 : Int32)) (v6 + (1 : Int32)) else (if y6 = v3 then (if v2 ≤ v6 then zf_Mo_most_L19 v1 v2 v3 mpn mcn mki mgr mcp mcd mck mcg K2 n (v5 + (0 : Int32)) (v6 + (1 : Int32)) else zf_Mo_most_L19 v1 v2 v3 mpn mcn mki mgr mcp mcd mck mcg K2 n (v5 + (1 : Int32)) (v6 + (1 : Int32))) else zf_Mo_most_L19 v1 v2 v3 mpn mcn mki mgr mcp mcd mck mcg K2 n (v5 + (0 : Int32)) (v6 + (1 : Int32)))))))
def zf_Mo_most_L2 (v1 : Int32) (mpn : Int32) (mcn : Int32) (mki : Nat → Int32) (mgr : Nat → Int64) (mcp : Nat → Int32) (mcd : Nat → Int64) (mck : Nat → Int32) (mcg : Nat → Int64)  : Nat → Int32 → Option (Int32)
  | 0, _ => none
  | n + 1, v2 => (if (5 : Int32) ≤ v2 then some (-1 : Int32) else ((zf_Mo_allOf v2 mpn mcn mki mgr mcp mcd mck mcg).bind (fun y2 => zf_Mo_most_L19 v1 v2 y2 mpn mcn mki mgr mcp mcd mck mcg (fun uv2 => zf_Mo_most_L2 v1 mpn mcn mki mgr mcp mcd mck mcg n uv2) 2000 (0 : Int32) (0 : Int32))))
def zf_Mo_most (u1 : Int32) (mpn : Int32) (mcn : Int32) (mki : Nat → Int32) (mgr : Nat → Int64) (mcp : Nat → Int32) (mcd : Nat → Int64) (mck : Nat → Int32) (mcg : Nat → Int64) : Option (Int32) := zf_Mo_most_L2 u1 mpn mcn mki mgr mcp mcd mck mcg 2000 (0 : Int32)
end
section
def zf_La_law_L18 (L : Nat) (xs : Nat → Int32) : Nat → Int32 → Int32 → (Nat → Int32) → (Nat → Int32) → Int32 → Int32 → Int32 → Int32 → Int32 → (Nat → Int64) → (Nat → Int32) → (Nat → Int32) → (Nat → Int64) → (Nat → Int32) → (Nat → Int32) → Int32 → (Nat → Int32) → (Nat → Int64) → (Nat → Int32) → (Nat → Int64) → (Nat → Int64) → (Nat → Int64) → (Nat → Int64) → (Nat → Int32) → (Nat → Int32) → (Nat → Int32) → (Nat → Int64) → Int32 → Int32 → Int32 → Int32 → Int32 → Int32 → (Nat → Int32) → (Nat → Int32) → (Nat → Int32) → (Nat → Int64) → (Nat → Int32) → (Nat → Int32) → (Nat → Int32) → (Nat → Int64) → (Nat → Int32) → (Nat → Int64) → (Nat → Int32) → (Nat → Int32) → (Nat → Int32) → (Nat → Int32) → (Nat → Int64) → (Nat → Int64) → (Nat → Int64) → (Nat → Int64) → Option Int32
  | 0, _, _, _, _, _, _, _, _, _, _, _, _, _, _, _, _, _, _, _, _, _, _, _, _, _, _, _, _, _, _, _, _, _, _, _, _, _, _, _, _, _, _, _, _, _, _, _, _, _, _, _ => none
  | n + 1, v3, xgc, xver, xrig, xpn, xtl, xrc, xrd, xwc, xsm, xpo, xpk, xpg, xpl, xpi, xcn, xcp, xcd, xck, xcg, xnt, xnl, xnd, xft, xfr, xfw, xfs, mgc, mpn, mcn, msz, mwc, mhf, mver, mho, mki, mgr, mli, min_, mcp, mcd, mck, mcg, mri, mtx, mwo, mnw, mst, mow, msu, mne => (if ((Int32.ofNat L) - (7 : Int32)) < v3 then some (1 : Int32) else (if v3 < 0 ∨ L ≤ v3.toNatClampNeg then none else (if ((xs v3.toNatClampNeg) &&& (31 : Int32)) = (0 : Int32) then ((zf_MP_good xgc).bind (fun y4 => ((zf_Mo_good mgc).bind (fun y5 => (if y4.1 = y5.1 then zf_La_law_L18 L xs n (v3 + (7 : Int32)) y4.2 xver xrig xpn xtl xrc xrd xwc xsm xpo xpk xpg xpl xpi xcn xcp xcd xck xcg xnt xnl xnd xft xfr xfw xfs y5.2 mpn mcn msz mwc mhf mver mho mki mgr mli min_ mcp mcd mck mcg mri mtx mwo mnw mst mow msu mne else some (0 : Int32)))))) else (if ((xs v3.toNatClampNeg) &&& (31 : Int32)) = (1 : Int32) then (if (v3 + (1 : Int32)) < 0 ∨ L ≤ (v3 + (1 : Int32)).toNatClampNeg then none else (if (v3 + (2 : Int32)) < 0 ∨ L ≤ (v3 + (2 : Int32)).toNatClampNeg then none else (if (v3 + (3 : Int32)) < 0 ∨ L ≤ (v3 + (3 : Int32)).toNatClampNeg then none else (if (v3 + (4 : Int32)) < 0 ∨ L ≤ (v3 + (4 : Int32)).toNatClampNeg then none else (if (v3 + (5 : Int32)) < 0 ∨ L ≤ (v3 + (5 : Int32)).toNatClampNeg then none else ((zf_MP_part (xs (v3 + (1 : Int32)).toNatClampNeg) (xs (v3 + (2 : Int32)).toNatClampNeg) (((xs (v3 + (3 : Int32)).toNatClampNeg).toInt64 <<< ((32 : Int32).toInt64 &&& 63)) ||| ((xs (v3 + (4 : Int32)).toNatClampNeg).toInt64 &&& (4294967295 : Int64))) (xs (v3 + (5 : Int32)).toNatClampNeg) xgc xver xpn xpo xpk xpg xpl xpi).bind (fun y13 => (if (v3 + (1 : Int32)) < 0 ∨ L ≤ (v3 + (1 : Int32)).toNatClampNeg then none else (if (v3 + (2 : Int32)) < 0 ∨ L ≤ (v3 + (2 : Int32)).toNatClampNeg then none else (if (v3 + (3 : Int32)) < 0 ∨ L ≤ (v3 + (3 : Int32)).toNatClampNeg then none else (if (v3 + (4 : Int32)) < 0 ∨ L ≤ (v3 + (4 : Int32)).toNatClampNeg then none else (if (v3 + (5 : Int32)) < 0 ∨ L ≤ (v3 + (5 : Int32)).toNatClampNeg then none else ((zf_Mo_part (xs (v3 + (1 : Int32)).toNatClampNeg) (xs (v3 + (2 : Int32)).toNatClampNeg) (((xs (v3 + (3 : Int32)).toNatClampNeg).toInt64 <<< ((32 : Int32).toInt64 &&& 63)) ||| ((xs (v3 + (4 : Int32)).toNatClampNeg).toInt64 &&& (4294967295 : Int64))) (xs (v3 + (5 : Int32)).toNatClampNeg) mgc mpn mver mho mki mgr mli min_).bind (fun y19 => (if y13.1 = y19.1 then zf_La_law_L18 L xs n (v3 + (7 : Int32)) xgc y13.2.1 xrig y13.2.2.1 xtl xrc xrd xwc xsm y13.2.2.2.1 y13.2.2.2.2.1 y13.2.2.2.2.2.1 y13.2.2.2.2.2.2.1 y13.2.2.2.2.2.2.2 xcn xcp xcd xck xcg xnt xnl xnd xft xfr xfw xfs mgc y19.2.1 mcn msz mwc mhf y19.2.2.1 y19.2.2.2.1 y19.2.2.2.2.1 y19.2.2.2.2.2.1 y19.2.2.2.2.2.2.1 y19.2.2.2.2.2.2.2 mcp mcd mck mcg mri mtx mwo mnw mst mow msu mne else some (0 : Int32)))))))))))))))) else (if ((xs v3.toNatClampNeg) &&& (31 : Int32)) = (2 : Int32) then (if (v3 + (1 : Int32)) < 0 ∨ L ≤ (v3 + (1 : Int32)).toNatClampNeg then none else (if (v3 + (2 : Int32)) < 0 ∨ L ≤ (v3 + (2 : Int32)).toNatClampNeg then none else ((zf_MP_into (xs (v3 + (1 : Int32)).toNatClampNeg) (xs (v3 + (2 : Int32)).toNatClampNeg) xgc xver xpn xpo xpi xnt xnl xnd).bind (fun y24 => (if (v3 + (1 : Int32)) < 0 ∨ L ≤ (v3 + (1 : Int32)).toNatClampNeg then none else (if (v3 + (2 : Int32)) < 0 ∨ L ≤ (v3 + (2 : Int32)).toNatClampNeg then none else ((zf_Mo_into (xs (v3 + (1 : Int32)).toNatClampNeg) (xs (v3 + (2 : Int32)).toNatClampNeg) mgc mpn mver mho min_).bind (fun y27 => (if y24.1 = y27.1 then zf_La_law_L18 L xs n (v3 + (7 : Int32)) xgc y24.2.1 xrig xpn xtl xrc xrd xwc xsm xpo xpk xpg xpl y24.2.2.1 xcn xcp xcd xck xcg y24.2.2.2.1 y24.2.2.2.2.1 y24.2.2.2.2.2 xft xfr xfw xfs mgc mpn mcn msz mwc mhf y27.2.1 mho mki mgr mli y27.2.2 mcp mcd mck mcg mri mtx mwo mnw mst mow msu mne else some (0 : Int32)))))))))) else (if ((xs v3.toNatClampNeg) &&& (31 : Int32)) = (3 : Int32) then (if (v3 + (1 : Int32)) < 0 ∨ L ≤ (v3 + (1 : Int32)).toNatClampNeg then none else (if (v3 + (2 : Int32)) < 0 ∨ L ≤ (v3 + (2 : Int32)).toNatClampNeg then none else ((zf_MP_life (xs (v3 + (1 : Int32)).toNatClampNeg) (xs (v3 + (2 : Int32)).toNatClampNeg) xver xpn xpo xpl).bind (fun y32 => (if (v3 + (1 : Int32)) < 0 ∨ L ≤ (v3 + (1 : Int32)).toNatClampNeg then none else (if (v3 + (2 : Int32)) < 0 ∨ L ≤ (v3 + (2 : Int32)).toNatClampNeg then none else ((zf_Mo_life (xs (v3 + (1 : Int32)).toNatClampNeg) (xs (v3 + (2 : Int32)).toNatClampNeg) mpn mver mho mli).bind (fun y35 => (if y32.1 = y35.1 then zf_La_law_L18 L xs n (v3 + (7 : Int32)) xgc y32.2.1 xrig xpn xtl xrc xrd xwc xsm xpo xpk xpg y32.2.2 xpi xcn xcp xcd xck xcg xnt xnl xnd xft xfr xfw xfs mgc mpn mcn msz mwc mhf y35.2.1 mho mki mgr y35.2.2 min_ mcp mcd mck mcg mri mtx mwo mnw mst mow msu mne else some (0 : Int32)))))))))) else (if ((xs v3.toNatClampNeg) &&& (31 : Int32)) = (4 : Int32) then (if (v3 + (1 : Int32)) < 0 ∨ L ≤ (v3 + (1 : Int32)).toNatClampNeg then none else (if (v3 + (2 : Int32)) < 0 ∨ L ≤ (v3 + (2 : Int32)).toNatClampNeg then none else (if (v3 + (3 : Int32)) < 0 ∨ L ≤ (v3 + (3 : Int32)).toNatClampNeg then none else (if (v3 + (4 : Int32)) < 0 ∨ L ≤ (v3 + (4 : Int32)).toNatClampNeg then none else (if (v3 + (5 : Int32)) < 0 ∨ L ≤ (v3 + (5 : Int32)).toNatClampNeg then none else (if (v3 + (6 : Int32)) < 0 ∨ L ≤ (v3 + (6 : Int32)).toNatClampNeg then none else ((zf_MP_change (xs (v3 + (1 : Int32)).toNatClampNeg) (((xs (v3 + (2 : Int32)).toNatClampNeg).toInt64 <<< ((32 : Int32).toInt64 &&& 63)) ||| ((xs (v3 + (3 : Int32)).toNatClampNeg).toInt64 &&& (4294967295 : Int64))) (xs (v3 + (4 : Int32)).toNatClampNeg) (((xs (v3 + (5 : Int32)).toNatClampNeg).toInt64 <<< ((32 : Int32).toInt64 &&& 63)) ||| ((xs (v3 + (6 : Int32)).toNatClampNeg).toInt64 &&& (4294967295 : Int64))) xver xpn xpo xcn xcp xcd xck xcg).bind (fun y44 => (if (v3 + (1 : Int32)) < 0 ∨ L ≤ (v3 + (1 : Int32)).toNatClampNeg then none else (if (v3 + (2 : Int32)) < 0 ∨ L ≤ (v3 + (2 : Int32)).toNatClampNeg then none else (if (v3 + (3 : Int32)) < 0 ∨ L ≤ (v3 + (3 : Int32)).toNatClampNeg then none else (if (v3 + (4 : Int32)) < 0 ∨ L ≤ (v3 + (4 : Int32)).toNatClampNeg then none else (if (v3 + (5 : Int32)) < 0 ∨ L ≤ (v3 + (5 : Int32)).toNatClampNeg then none else (if (v3 + (6 : Int32)) < 0 ∨ L ≤ (v3 + (6 : Int32)).toNatClampNeg then none else ((zf_Mo_change (xs (v3 + (1 : Int32)).toNatClampNeg) (((xs (v3 + (2 : Int32)).toNatClampNeg).toInt64 <<< ((32 : Int32).toInt64 &&& 63)) ||| ((xs (v3 + (3 : Int32)).toNatClampNeg).toInt64 &&& (4294967295 : Int64))) (xs (v3 + (4 : Int32)).toNatClampNeg) (((xs (v3 + (5 : Int32)).toNatClampNeg).toInt64 <<< ((32 : Int32).toInt64 &&& 63)) ||| ((xs (v3 + (6 : Int32)).toNatClampNeg).toInt64 &&& (4294967295 : Int64))) mpn mcn mver mho mcp mcd mck mcg).bind (fun y51 => (if y44.1 = y51.1 then zf_La_law_L18 L xs n (v3 + (7 : Int32)) xgc y44.2.1 xrig xpn xtl xrc xrd xwc xsm xpo xpk xpg xpl xpi y44.2.2.1 y44.2.2.2.1 y44.2.2.2.2.1 y44.2.2.2.2.2.1 y44.2.2.2.2.2.2 xnt xnl xnd xft xfr xfw xfs mgc mpn y51.2.1 msz mwc mhf y51.2.2.1 mho mki mgr mli min_ y51.2.2.2.1 y51.2.2.2.2.1 y51.2.2.2.2.2.1 y51.2.2.2.2.2.2 mri mtx mwo mnw mst mow msu mne else some (0 : Int32)))))))))))))))))) else (if ((xs v3.toNatClampNeg) &&& (31 : Int32)) = (5 : Int32) then (if (v3 + (1 : Int32)) < 0 ∨ L ≤ (v3 + (1 : Int32)).toNatClampNeg then none else (if (v3 + (2 : Int32)) < 0 ∨ L ≤ (v3 + (2 : Int32)).toNatClampNeg then none else ((zf_MP_total (xs (v3 + (1 : Int32)).toNatClampNeg) (xs (v3 + (2 : Int32)).toNatClampNeg) xgc xpn xsm xpo xpk xpg xpi xcn xcp xcd xck xcg xnt xnl xnd).bind (fun y56 => (if (v3 + (1 : Int32)) < 0 ∨ L ≤ (v3 + (1 : Int32)).toNatClampNeg then none else (if (v3 + (2 : Int32)) < 0 ∨ L ≤ (v3 + (2 : Int32)).toNatClampNeg then none else ((zf_Mo_total (xs (v3 + (1 : Int32)).toNatClampNeg) (xs (v3 + (2 : Int32)).toNatClampNeg) mgc mpn mcn mho mki mgr min_ mcp mcd mck mcg mow msu mne).bind (fun y59 => (if y56.1 = y59.1 then zf_La_law_L18 L xs n (v3 + (7 : Int32)) xgc xver xrig xpn xtl xrc xrd xwc y56.2.1 xpo xpk xpg xpl xpi xcn xcp xcd xck xcg y56.2.2.1 y56.2.2.2.1 y56.2.2.2.2 xft xfr xfw xfs mgc mpn mcn msz mwc mhf mver mho mki mgr mli min_ mcp mcd mck mcg mri mtx mwo mnw mst y59.2.1 y59.2.2.1 y59.2.2.2 else some (0 : Int32)))))))))) else (if ((xs v3.toNatClampNeg) &&& (31 : Int32)) = (6 : Int32) then (if (v3 + (1 : Int32)) < 0 ∨ L ≤ (v3 + (1 : Int32)).toNatClampNeg then none else (if (v3 + (2 : Int32)) < 0 ∨ L ≤ (v3 + (2 : Int32)).toNatClampNeg then none else (if (v3 + (3 : Int32)) < 0 ∨ L ≤ (v3 + (3 : Int32)).toNatClampNeg then none else (if (v3 + (4 : Int32)) < 0 ∨ L ≤ (v3 + (4 : Int32)).toNatClampNeg then none else ((zf_MP_totalOn (xs (v3 + (1 : Int32)).toNatClampNeg) (xs (v3 + (2 : Int32)).toNatClampNeg) (((xs (v3 + (3 : Int32)).toNatClampNeg).toInt64 <<< ((32 : Int32).toInt64 &&& 63)) ||| ((xs (v3 + (4 : Int32)).toNatClampNeg).toInt64 &&& (4294967295 : Int64))) xgc xpn xsm xpo xpk xpg xpi xcn xcp xcd xck xcg xnt xnl xnd).bind (fun y66 => (if (v3 + (1 : Int32)) < 0 ∨ L ≤ (v3 + (1 : Int32)).toNatClampNeg then none else (if (v3 + (2 : Int32)) < 0 ∨ L ≤ (v3 + (2 : Int32)).toNatClampNeg then none else (if (v3 + (3 : Int32)) < 0 ∨ L ≤ (v3 + (3 : Int32)).toNatClampNeg then none else (if (v3 + (4 : Int32)) < 0 ∨ L ≤ (v3 + (4 : Int32)).toNatClampNeg then none else ((zf_Mo_totalOn (xs (v3 + (1 : Int32)).toNatClampNeg) (xs (v3 + (2 : Int32)).toNatClampNeg) (((xs (v3 + (3 : Int32)).toNatClampNeg).toInt64 <<< ((32 : Int32).toInt64 &&& 63)) ||| ((xs (v3 + (4 : Int32)).toNatClampNeg).toInt64 &&& (4294967295 : Int64))) mgc mpn mcn mho mki mgr min_ mcp mcd mck mcg mow msu mne).bind (fun y71 => (if y66.1 = y71.1 then zf_La_law_L18 L xs n (v3 + (7 : Int32)) xgc xver xrig xpn xtl xrc xrd xwc y66.2.1 xpo xpk xpg xpl xpi xcn xcp xcd xck xcg y66.2.2.1 y66.2.2.2.1 y66.2.2.2.2 xft xfr xfw xfs mgc mpn mcn msz mwc mhf mver mho mki mgr mli min_ mcp mcd mck mcg mri mtx mwo mnw mst y71.2.1 y71.2.2.1 y71.2.2.2 else some (0 : Int32)))))))))))))) else (if ((xs v3.toNatClampNeg) &&& (31 : Int32)) = (7 : Int32) then (if (v3 + (1 : Int32)) < 0 ∨ L ≤ (v3 + (1 : Int32)).toNatClampNeg then none else (if (v3 + (2 : Int32)) < 0 ∨ L ≤ (v3 + (2 : Int32)).toNatClampNeg then none else ((zf_MP_frees (xs (v3 + (1 : Int32)).toNatClampNeg) (xs (v3 + (2 : Int32)).toNatClampNeg) xpn xpk xpg xpl xcn xcp xcd xck xcg).bind (fun y76 => (if (v3 + (1 : Int32)) < 0 ∨ L ≤ (v3 + (1 : Int32)).toNatClampNeg then none else (if (v3 + (2 : Int32)) < 0 ∨ L ≤ (v3 + (2 : Int32)).toNatClampNeg then none else ((zf_Mo_frees (xs (v3 + (1 : Int32)).toNatClampNeg) (xs (v3 + (2 : Int32)).toNatClampNeg) mpn mcn mki mgr mli mcp mcd mck mcg).bind (fun y79 => (if y76 = y79 then zf_La_law_L18 L xs n (v3 + (7 : Int32)) xgc xver xrig xpn xtl xrc xrd xwc xsm xpo xpk xpg xpl xpi xcn xcp xcd xck xcg xnt xnl xnd xft xfr xfw xfs mgc mpn mcn msz mwc mhf mver mho mki mgr mli min_ mcp mcd mck mcg mri mtx mwo mnw mst mow msu mne else some (0 : Int32)))))))))) else (if ((xs v3.toNatClampNeg) &&& (31 : Int32)) = (8 : Int32) then (if (v3 + (1 : Int32)) < 0 ∨ L ≤ (v3 + (1 : Int32)).toNatClampNeg then none else ((zf_MP_version (xs (v3 + (1 : Int32)).toNatClampNeg) xgc xver).bind (fun y83 => (if (v3 + (1 : Int32)) < 0 ∨ L ≤ (v3 + (1 : Int32)).toNatClampNeg then none else ((zf_Mo_version (xs (v3 + (1 : Int32)).toNatClampNeg) mgc mver).bind (fun y85 => (if y83 = y85 then zf_La_law_L18 L xs n (v3 + (7 : Int32)) xgc xver xrig xpn xtl xrc xrd xwc xsm xpo xpk xpg xpl xpi xcn xcp xcd xck xcg xnt xnl xnd xft xfr xfw xfs mgc mpn mcn msz mwc mhf mver mho mki mgr mli min_ mcp mcd mck mcg mri mtx mwo mnw mst mow msu mne else some (0 : Int32)))))))) else (if ((xs v3.toNatClampNeg) &&& (31 : Int32)) = (9 : Int32) then (if (v3 + (1 : Int32)) < 0 ∨ L ≤ (v3 + (1 : Int32)).toNatClampNeg then none else (if (v3 + (2 : Int32)) < 0 ∨ L ≤ (v3 + (2 : Int32)).toNatClampNeg then none else (if (v3 + (3 : Int32)) < 0 ∨ L ≤ (v3 + (3 : Int32)).toNatClampNeg then none else (if (xs (v3 + (3 : Int32)).toNatClampNeg) = 0 then ((zf_MP_right (xs (v3 + (1 : Int32)).toNatClampNeg) (xs (v3 + (2 : Int32)).toNatClampNeg) (0 : Int32) xgc xrig).bind (fun y92 => (if (v3 + (1 : Int32)) < 0 ∨ L ≤ (v3 + (1 : Int32)).toNatClampNeg then none else (if (v3 + (2 : Int32)) < 0 ∨ L ≤ (v3 + (2 : Int32)).toNatClampNeg then none else (if (v3 + (3 : Int32)) < 0 ∨ L ≤ (v3 + (3 : Int32)).toNatClampNeg then none else (if (xs (v3 + (3 : Int32)).toNatClampNeg) = 0 then ((zf_Mo_right (xs (v3 + (1 : Int32)).toNatClampNeg) (xs (v3 + (2 : Int32)).toNatClampNeg) (0 : Int32) mgc mri).bind (fun y97 => (if y92.1 = y97.1 then zf_La_law_L18 L xs n (v3 + (7 : Int32)) xgc xver y92.2 xpn xtl xrc xrd xwc xsm xpo xpk xpg xpl xpi xcn xcp xcd xck xcg xnt xnl xnd xft xfr xfw xfs mgc mpn mcn msz mwc mhf mver mho mki mgr mli min_ mcp mcd mck mcg y97.2 mtx mwo mnw mst mow msu mne else some (0 : Int32)))) else ((zf_Mo_right (xs (v3 + (1 : Int32)).toNatClampNeg) (xs (v3 + (2 : Int32)).toNatClampNeg) (1 : Int32) mgc mri).bind (fun y99 => (if y92.1 = y99.1 then zf_La_law_L18 L xs n (v3 + (7 : Int32)) xgc xver y92.2 xpn xtl xrc xrd xwc xsm xpo xpk xpg xpl xpi xcn xcp xcd xck xcg xnt xnl xnd xft xfr xfw xfs mgc mpn mcn msz mwc mhf mver mho mki mgr mli min_ mcp mcd mck mcg y99.2 mtx mwo mnw mst mow msu mne else some (0 : Int32)))))))))) else ((zf_MP_right (xs (v3 + (1 : Int32)).toNatClampNeg) (xs (v3 + (2 : Int32)).toNatClampNeg) (1 : Int32) xgc xrig).bind (fun y101 => (if (v3 + (1 : Int32)) < 0 ∨ L ≤ (v3 + (1 : Int32)).toNatClampNeg then none else (if (v3 + (2 : Int32)) < 0 ∨ L ≤ (v3 + (2 : Int32)).toNatClampNeg then none else (if (v3 + (3 : Int32)) < 0 ∨ L ≤ (v3 + (3 : Int32)).toNatClampNeg then none else (if (xs (v3 + (3 : Int32)).toNatClampNeg) = 0 then ((zf_Mo_right (xs (v3 + (1 : Int32)).toNatClampNeg) (xs (v3 + (2 : Int32)).toNatClampNeg) (0 : Int32) mgc mri).bind (fun y106 => (if y101.1 = y106.1 then zf_La_law_L18 L xs n (v3 + (7 : Int32)) xgc xver y101.2 xpn xtl xrc xrd xwc xsm xpo xpk xpg xpl xpi xcn xcp xcd xck xcg xnt xnl xnd xft xfr xfw xfs mgc mpn mcn msz mwc mhf mver mho mki mgr mli min_ mcp mcd mck mcg y106.2 mtx mwo mnw mst mow msu mne else some (0 : Int32)))) else ((zf_Mo_right (xs (v3 + (1 : Int32)).toNatClampNeg) (xs (v3 + (2 : Int32)).toNatClampNeg) (1 : Int32) mgc mri).bind (fun y108 => (if y101.1 = y108.1 then zf_La_law_L18 L xs n (v3 + (7 : Int32)) xgc xver y101.2 xpn xtl xrc xrd xwc xsm xpo xpk xpg xpl xpi xcn xcp xcd xck xcg xnt xnl xnd xft xfr xfw xfs mgc mpn mcn msz mwc mhf mver mho mki mgr mli min_ mcp mcd mck mcg y108.2 mtx mwo mnw mst mow msu mne else some (0 : Int32)))))))))))))) else (if ((xs v3.toNatClampNeg) &&& (31 : Int32)) = (10 : Int32) then (if (v3 + (1 : Int32)) < 0 ∨ L ≤ (v3 + (1 : Int32)).toNatClampNeg then none else (if (v3 + (2 : Int32)) < 0 ∨ L ≤ (v3 + (2 : Int32)).toNatClampNeg then none else (if (v3 + (3 : Int32)) < 0 ∨ L ≤ (v3 + (3 : Int32)).toNatClampNeg then none else (if (v3 + (4 : Int32)) < 0 ∨ L ≤ (v3 + (4 : Int32)).toNatClampNeg then none else ((zf_MP_seen (xs (v3 + (1 : Int32)).toNatClampNeg) (xs (v3 + (2 : Int32)).toNatClampNeg) (xs (v3 + (3 : Int32)).toNatClampNeg) (xs (v3 + (4 : Int32)).toNatClampNeg) xgc xrig xpn xpo xpk xpg xpl xcn xcp xcd xck xcg).bind (fun y115 => (if (v3 + (1 : Int32)) < 0 ∨ L ≤ (v3 + (1 : Int32)).toNatClampNeg then none else (if (v3 + (2 : Int32)) < 0 ∨ L ≤ (v3 + (2 : Int32)).toNatClampNeg then none else (if (v3 + (3 : Int32)) < 0 ∨ L ≤ (v3 + (3 : Int32)).toNatClampNeg then none else (if (v3 + (4 : Int32)) < 0 ∨ L ≤ (v3 + (4 : Int32)).toNatClampNeg then none else ((zf_Mo_seen (xs (v3 + (1 : Int32)).toNatClampNeg) (xs (v3 + (2 : Int32)).toNatClampNeg) (xs (v3 + (3 : Int32)).toNatClampNeg) (xs (v3 + (4 : Int32)).toNatClampNeg) mgc mpn mcn mho mki mgr mli mcp mcd mck mcg mri).bind (fun y120 => (if y115 = y120 then zf_La_law_L18 L xs n (v3 + (7 : Int32)) xgc xver xrig xpn xtl xrc xrd xwc xsm xpo xpk xpg xpl xpi xcn xcp xcd xck xcg xnt xnl xnd xft xfr xfw xfs mgc mpn mcn msz mwc mhf mver mho mki mgr mli min_ mcp mcd mck mcg mri mtx mwo mnw mst mow msu mne else some (0 : Int32)))))))))))))) else (if ((xs v3.toNatClampNeg) &&& (31 : Int32)) = (11 : Int32) then (if (v3 + (1 : Int32)) < 0 ∨ L ≤ (v3 + (1 : Int32)).toNatClampNeg then none else ((zf_MP_unit (xs (v3 + (1 : Int32)).toNatClampNeg) xtl xft).bind (fun y124 => (if (v3 + (1 : Int32)) < 0 ∨ L ≤ (v3 + (1 : Int32)).toNatClampNeg then none else ((zf_Mo_unit (xs (v3 + (1 : Int32)).toNatClampNeg) msz mtx).bind (fun y126 => (if y124.1 = y126.1 then zf_La_law_L18 L xs n (v3 + (7 : Int32)) xgc xver xrig xpn y124.2.1 xrc xrd xwc xsm xpo xpk xpg xpl xpi xcn xcp xcd xck xcg xnt xnl xnd y124.2.2 xfr xfw xfs mgc mpn mcn y126.2.1 mwc mhf mver mho mki mgr mli min_ mcp mcd mck mcg mri y126.2.2 mwo mnw mst mow msu mne else some (0 : Int32)))))))) else (if ((xs v3.toNatClampNeg) &&& (31 : Int32)) = (12 : Int32) then ((zf_MP_score xtl xrc xrd xwc xft xfr xfw).bind (fun y129 => ((zf_Mo_score msz mwc mhf mtx mwo mnw).bind (fun y130 => (if y129.1 = y130.1 then zf_La_law_L18 L xs n (v3 + (7 : Int32)) xgc xver xrig xpn y129.2.1 y129.2.2.1 y129.2.2.2.1 y129.2.2.2.2.1 xsm xpo xpk xpg xpl xpi xcn xcp xcd xck xcg xnt xnl xnd xft y129.2.2.2.2.2.1 y129.2.2.2.2.2.2 xfs mgc mpn mcn y130.2.1 y130.2.2.1 y130.2.2.2.1 mver mho mki mgr mli min_ mcp mcd mck mcg mri mtx y130.2.2.2.2.1 y130.2.2.2.2.2 mst mow msu mne else some (0 : Int32)))))) else (if ((xs v3.toNatClampNeg) &&& (31 : Int32)) = (13 : Int32) then (if (v3 + (1 : Int32)) < 0 ∨ L ≤ (v3 + (1 : Int32)).toNatClampNeg then none else ((zf_MP_scored (xs (v3 + (1 : Int32)).toNatClampNeg) xgc xpn xwc xsm xpo xpk xpg xpi xcn xcp xcd xck xcg xnt xnl xnd xfw xfs).bind (fun y134 => (if (v3 + (1 : Int32)) < 0 ∨ L ≤ (v3 + (1 : Int32)).toNatClampNeg then none else ((zf_Mo_scored (xs (v3 + (1 : Int32)).toNatClampNeg) mgc mpn mcn mwc mhf mho mki mgr min_ mcp mcd mck mcg mwo mst mow msu mne).bind (fun y136 => (if y134.1 = y136.1 then zf_La_law_L18 L xs n (v3 + (7 : Int32)) xgc xver xrig xpn xtl xrc xrd xwc y134.2.1 xpo xpk xpg xpl xpi xcn xcp xcd xck xcg y134.2.2.1 y134.2.2.2.1 y134.2.2.2.2.1 xft xfr xfw y134.2.2.2.2.2 mgc mpn mcn msz mwc mhf mver mho mki mgr mli min_ mcp mcd mck mcg mri mtx mwo mnw y136.2.1 y136.2.2.1 y136.2.2.2.1 y136.2.2.2.2 else some (0 : Int32)))))))) else (if ((xs v3.toNatClampNeg) &&& (31 : Int32)) = (14 : Int32) then (if (v3 + (1 : Int32)) < 0 ∨ L ≤ (v3 + (1 : Int32)).toNatClampNeg then none else (if (v3 + (2 : Int32)) < 0 ∨ L ≤ (v3 + (2 : Int32)).toNatClampNeg then none else ((zf_MP_swap (xs (v3 + (1 : Int32)).toNatClampNeg) (xs (v3 + (2 : Int32)).toNatClampNeg) xver xpn xwc xsm xpo xpk xpg xpi xcn xcp xcd xck xcg xnt xnl xnd xfw xfs).bind (fun y141 => (if (v3 + (1 : Int32)) < 0 ∨ L ≤ (v3 + (1 : Int32)).toNatClampNeg then none else (if (v3 + (2 : Int32)) < 0 ∨ L ≤ (v3 + (2 : Int32)).toNatClampNeg then none else ((zf_Mo_swap (xs (v3 + (1 : Int32)).toNatClampNeg) (xs (v3 + (2 : Int32)).toNatClampNeg) mpn mcn mwc mhf mver mho mki mgr min_ mcp mcd mck mcg mwo mst mow msu mne).bind (fun y144 => (if y141.1 = y144.1 then zf_La_law_L18 L xs n (v3 + (7 : Int32)) xgc y141.2.1 xrig xpn xtl xrc xrd xwc y141.2.2.1 xpo xpk xpg xpl xpi y141.2.2.2.1 y141.2.2.2.2.1 y141.2.2.2.2.2.1 y141.2.2.2.2.2.2.1 y141.2.2.2.2.2.2.2.1 y141.2.2.2.2.2.2.2.2.1 y141.2.2.2.2.2.2.2.2.2.1 y141.2.2.2.2.2.2.2.2.2.2.1 xft xfr xfw y141.2.2.2.2.2.2.2.2.2.2.2 mgc mpn y144.2.1 msz mwc mhf y144.2.2.1 mho mki mgr mli min_ y144.2.2.2.1 y144.2.2.2.2.1 y144.2.2.2.2.2.1 y144.2.2.2.2.2.2.1 mri mtx mwo mnw y144.2.2.2.2.2.2.2.1 y144.2.2.2.2.2.2.2.2.1 y144.2.2.2.2.2.2.2.2.2.1 y144.2.2.2.2.2.2.2.2.2.2 else some (0 : Int32)))))))))) else (if ((xs v3.toNatClampNeg) &&& (31 : Int32)) = (15 : Int32) then (if (v3 + (1 : Int32)) < 0 ∨ L ≤ (v3 + (1 : Int32)).toNatClampNeg then none else (if (v3 + (2 : Int32)) < 0 ∨ L ≤ (v3 + (2 : Int32)).toNatClampNeg then none else (if (v3 + (3 : Int32)) < 0 ∨ L ≤ (v3 + (3 : Int32)).toNatClampNeg then none else (if (v3 + (4 : Int32)) < 0 ∨ L ≤ (v3 + (4 : Int32)).toNatClampNeg then none else ((zf_MP_mark (xs (v3 + (1 : Int32)).toNatClampNeg) (((xs (v3 + (2 : Int32)).toNatClampNeg).toInt64 <<< ((32 : Int32).toInt64 &&& 63)) ||| ((xs (v3 + (3 : Int32)).toNatClampNeg).toInt64 &&& (4294967295 : Int64))) (xs (v3 + (4 : Int32)).toNatClampNeg) xgc xver xpn xsm xpo xpk xpg xpi xcn xcp xcd xck xcg xnt xnl xnd).bind (fun y151 => (if (v3 + (1 : Int32)) < 0 ∨ L ≤ (v3 + (1 : Int32)).toNatClampNeg then none else (if (v3 + (2 : Int32)) < 0 ∨ L ≤ (v3 + (2 : Int32)).toNatClampNeg then none else (if (v3 + (3 : Int32)) < 0 ∨ L ≤ (v3 + (3 : Int32)).toNatClampNeg then none else (if (v3 + (4 : Int32)) < 0 ∨ L ≤ (v3 + (4 : Int32)).toNatClampNeg then none else ((zf_Mo_mark (xs (v3 + (1 : Int32)).toNatClampNeg) (((xs (v3 + (2 : Int32)).toNatClampNeg).toInt64 <<< ((32 : Int32).toInt64 &&& 63)) ||| ((xs (v3 + (3 : Int32)).toNatClampNeg).toInt64 &&& (4294967295 : Int64))) (xs (v3 + (4 : Int32)).toNatClampNeg) mgc mpn mcn mver mho mki mgr min_ mcp mcd mck mcg mow msu mne).bind (fun y156 => (if y151.1 = y156.1 then zf_La_law_L18 L xs n (v3 + (7 : Int32)) xgc xver xrig xpn xtl xrc xrd xwc y151.2.1 xpo xpk xpg xpl xpi xcn xcp xcd xck xcg y151.2.2.1 y151.2.2.2.1 y151.2.2.2.2 xft xfr xfw xfs mgc mpn mcn msz mwc mhf mver mho mki mgr mli min_ mcp mcd mck mcg mri mtx mwo mnw mst y156.2.1 y156.2.2.1 y156.2.2.2 else some (0 : Int32)))))))))))))) else (if ((xs v3.toNatClampNeg) &&& (31 : Int32)) = (16 : Int32) then (if (v3 + (1 : Int32)) < 0 ∨ L ≤ (v3 + (1 : Int32)).toNatClampNeg then none else ((zf_MP_most (xs (v3 + (1 : Int32)).toNatClampNeg) xpn xsm xpo xpk xpg xcn xcp xcd xck xcg xnt).bind (fun y160 => (if (v3 + (1 : Int32)) < 0 ∨ L ≤ (v3 + (1 : Int32)).toNatClampNeg then none else ((zf_Mo_most (xs (v3 + (1 : Int32)).toNatClampNeg) mpn mcn mki mgr mcp mcd mck mcg).bind (fun y162 => (if y160.1 = y162 then zf_La_law_L18 L xs n (v3 + (7 : Int32)) xgc xver xrig xpn xtl xrc xrd xwc y160.2.1 xpo xpk xpg xpl xpi xcn xcp xcd xck xcg y160.2.2 xnl xnd xft xfr xfw xfs mgc mpn mcn msz mwc mhf mver mho mki mgr mli min_ mcp mcd mck mcg mri mtx mwo mnw mst mow msu mne else some (0 : Int32)))))))) else zf_La_law_L18 L xs n (v3 + (7 : Int32)) xgc xver xrig xpn xtl xrc xrd xwc xsm xpo xpk xpg xpl xpi xcn xcp xcd xck xcg xnt xnl xnd xft xfr xfw xfs mgc mpn mcn msz mwc mhf mver mho mki mgr mli min_ mcp mcd mck mcg mri mtx mwo mnw mst mow msu mne)))))))))))))))))))
end
section
/-! PURE: numbers, sums -/
theorem pz_if {α : Type} {k N : Nat} {x : Option α} (h : k < N) (hN : N < 2 ^ 31) : (if nI k < 0 ∨ N ≤ (nI k).toNatClampNeg then none else x) = x := if_neg (nI_in h hN)
theorem pz_le {α : Type} {a b : Nat} {x y : α} (ha : a < 2 ^ 31) (hb : b < 2 ^ 31) : (if nI a ≤ nI b then x else y) = if a ≤ b then x else y := by
  by_cases h : a ≤ b
  · rw [if_pos h, if_pos ((nI_leI ha hb).mpr h)]
  · rw [if_neg h, if_neg (fun q => h ((nI_leI ha hb).mp q))]
theorem pz_lt {α : Type} {a b : Nat} {x y : α} (ha : a < 2 ^ 31) (hb : b < 2 ^ 31) : (if nI a < nI b then x else y) = if a < b then x else y := by
  by_cases h : a < b
  · rw [if_pos h, if_pos ((nI_ltI ha hb).mpr h)]
  · rw [if_neg h, if_neg (fun q => h ((nI_ltI ha hb).mp q))]
theorem pz_eq {α : Type} {a b : Nat} {x y : α} (ha : a < 2 ^ 31) (hb : b < 2 ^ 31) : (if nI a = nI b then x else y) = if a = b then x else y := by
  by_cases h : a = b
  · rw [if_pos h, if_pos (by rw [h])]
  · rw [if_neg h, if_neg (fun q => h ((nI_eq ha hb).mp q))]
theorem pz_neg (k : Nat) (h : k < 2 ^ 31) : ¬ nI k = (-1 : Int32) := by
  intro q
  have a := nI_toInt h
  rw [q] at a
  have b : (-1 : Int32).toInt = -1 := by decide
  omega
theorem pz_upd (f : Nat → Int32) (k : Nat) (x : Int32) (j : Nat) : upd f k x j = if j = k then x else f j := rfl
theorem pz_updL (f : Nat → Int64) (k : Nat) (x : Int64) (j : Nat) : vp_updL f k x j = if j = k then x else f j := rfl
/-- an Int32 that is good: of a number under b -/
theorem pz_in (x : Int32) (b : Nat) (hb : b < 2 ^ 31) : (∃ k, k < b ∧ x = nI k) ∨ (x < 0 ∨ nI b ≤ x) := by
  rcases pk_ix x hb with h | h | h
  · exact Or.inr (Or.inl h)
  · exact Or.inr (Or.inr h)
  · exact Or.inl h
/-- sums -/
def sg (f : Nat → Int64) : Nat → Int64
  | 0 => 0
  | n + 1 => sg f n + f n
theorem sg_congr {f g : Nat → Int64} : ∀ {n : Nat}, (∀ j, j < n → f j = g j) → sg f n = sg g n
  | 0, _ => rfl
  | n + 1, h => by rw [sg, sg, sg_congr (fun j hj => h j (by omega)), h n (by omega)]
theorem sg_add (f g : Nat → Int64) : ∀ n, sg (fun j => f j + g j) n = sg f n + sg g n
  | 0 => by simp [sg]
  | n + 1 => by rw [sg, sg, sg, sg_add f g n]; grind
theorem sg_mul (c : Int64) (f : Nat → Int64) : ∀ n, sg (fun j => c * f j) n = c * sg f n
  | 0 => by simp [sg]
  | n + 1 => by rw [sg, sg, sg_mul c f n]; grind
theorem sg_zero : ∀ n, sg (fun _ => 0) n = 0
  | 0 => rfl
  | n + 1 => by rw [sg, sg_zero n]; rfl
theorem sg_swap (f : Nat → Nat → Int64) (m : Nat) : ∀ n, sg (fun i => sg (fun j => f i j) m) n = sg (fun j => sg (fun i => f i j) n) m
  | 0 => by simp only [sg]; rw [sg_zero]
  | n + 1 => by rw [sg, sg_swap f m n, ← sg_add]; rfl
/-- one term of a sum -/
theorem sg_one (a : Nat) (x : Int64) : ∀ n, sg (fun i => if i = a then x else 0) n = if a < n then x else 0
  | 0 => by simp [sg]
  | n + 1 => by
    rw [sg, sg_one a x n]
    by_cases h : n = a
    · subst h
      simp
    · by_cases h2 : a < n
      · rw [if_pos h2, if_neg h, if_pos (by omega)]; simp
      · rw [if_neg h2, if_neg h, if_neg (by omega)]; simp
theorem pz_i2 {α : Type} {k N : Nat} {x : Option α} (h : k < N) (hN : k < 2 ^ 31) : (if nI k < 0 ∨ N ≤ k then none else x) = x := if_neg (fun q => by
  rcases q with q | q
  · exact nI_pos hN q
  · omega)
theorem pz_bs {α β : Type} (x : α) (k : α → Option β) : (some x).bind k = k x := rfl
theorem pz_n1 {α : Type} {k : Nat} {x y : α} (h : k < 2 ^ 31) : (if nI k = (-1 : Int32) then x else y) = y := if_neg (pz_neg k h)
theorem pz_n0 {α : Type} {k : Nat} {x y : α} (h : k < 2 ^ 31) : (if nI k < 0 then x else y) = y := if_neg (nI_pos h)
theorem pz_p0 {α : Type} {k : Nat} {x y : α} (h : k < 2 ^ 31) : (if 0 ≤ nI k then x else y) = x := if_pos (nI_pos' h)
end
section
/-! PURE: which change counts on a day -/
def lk (cp : Nat → Int32) (cd : Nat → Int64) (p : Int32) (d : Int64) : Nat → Option Nat
  | 0 => none
  | c + 1 => match lk cp cd p d c with
    | none => if cp c = p then (if d < cd c then none else some c) else none
    | some f => if cp c = p then (if d < cd c then some f else (if cd c < cd f then some f else some c)) else some f
def en : Option Nat → Int32
  | none => -1
  | some f => nI f
theorem lk_lt {cp : Nat → Int32} {cd : Nat → Int64} {p : Int32} {d : Int64} : ∀ {c f : Nat}, lk cp cd p d c = some f → f < c
  | 0, f, h => by simp [lk] at h
  | c + 1, f, h => by
    rw [lk] at h
    cases hl : lk cp cd p d c with
    | none =>
      rw [hl] at h
      simp only at h
      split at h
      · split at h
        · cases h
        · cases h; omega
      · cases h
    | some g =>
      have hg := lk_lt hl
      rw [hl] at h
      simp only at h
      split at h
      · split at h
        · cases h; omega
        · split at h
          · cases h; omega
          · cases h; omega
      · cases h; omega
theorem px_cnt (p : Int32) (d : Int64) (cp : Nat → Int32) (cd : Nat → Int64) {nc : Nat} (hc : nc ≤ 20) : ∀ (m k n : Nat), k + m = nc → m < n → zf_Ch_countingOn_L6 p d (nI nc) cp cd n (en (lk cp cd p d k)) (nI k) = some (en (lk cp cd p d nc)) := by
  intro m
  induction m with
  | zero =>
    intro k n hk hn
    obtain ⟨n, rfl⟩ : ∃ q, n = q + 1 := ⟨n - 1, by omega⟩
    have e : k = nc := by omega
    subst e
    rw [zf_Ch_countingOn_L6, if_pos (nI_le (Nat.le_refl _) (by omega))]
  | succ m ih =>
    intro k n hk hn
    obtain ⟨n, rfl⟩ : ∃ q, n = q + 1 := ⟨n - 1, by omega⟩
    have e := ih (k + 1) n (by omega) (by omega)
    rw [zf_Ch_countingOn_L6, if_neg (nI_ge (show k < nc by omega) (by omega))]
    rw [lk] at e
    cases hl : lk cp cd p d k with
    | none =>
      rw [hl] at e
      simp (disch := omega) only [nI_clamp, nI_1, pz_i2, en, if_true] at e ⊢
      by_cases h1 : cp k = p <;> by_cases h2 : d < cd k <;> simp only [h1, h2, if_true, if_false, en] at e ⊢ <;> exact e
    | some f =>
      have hf := lk_lt hl
      rw [hl] at e
      simp (disch := omega) only [nI_clamp, nI_1, pz_i2, en, pz_n1] at e ⊢
      by_cases h1 : cp k = p <;> by_cases h2 : d < cd k <;> by_cases h3 : cd k < cd f <;> simp only [h1, h2, h3, if_true, if_false, en] at e ⊢ <;> exact e
theorem pm_cnt (p : Int32) (d : Int64) (cp : Nat → Int32) (cd : Nat → Int64) {nc : Nat} (hc : nc ≤ 20) : ∀ (m k n : Nat), k + m = nc → m < n → zf_Mo_changeOf_L6 p d (nI nc) cp cd n (en (lk cp cd p d k)) (nI k) = some (en (lk cp cd p d nc)) := by
  intro m
  induction m with
  | zero =>
    intro k n hk hn
    obtain ⟨n, rfl⟩ : ∃ q, n = q + 1 := ⟨n - 1, by omega⟩
    have e : k = nc := by omega
    subst e
    rw [zf_Mo_changeOf_L6, if_pos (nI_le (Nat.le_refl _) (by omega))]
  | succ m ih =>
    intro k n hk hn
    obtain ⟨n, rfl⟩ : ∃ q, n = q + 1 := ⟨n - 1, by omega⟩
    have e := ih (k + 1) n (by omega) (by omega)
    rw [zf_Mo_changeOf_L6, if_neg (nI_ge (show k < nc by omega) (by omega))]
    rw [lk] at e
    have h10 : ¬ (1 : Int32) = 0 := by decide
    have hm1 : (-1 : Int32) < 0 := by decide
    cases hl : lk cp cd p d k with
    | none =>
      rw [hl] at e
      simp (disch := omega) only [nI_clamp, nI_1, pz_i2, en, if_true, h10, if_false, hm1] at e ⊢
      by_cases h1 : cp k = p <;> by_cases h2 : d < cd k <;> simp only [h1, h2, if_true, if_false, en] at e ⊢ <;> exact e
    | some f =>
      have hf := lk_lt hl
      rw [hl] at e
      simp (disch := omega) only [nI_clamp, nI_1, pz_i2, en, pz_n0, h10, if_false, if_true] at e ⊢
      by_cases h1 : cp k = p <;> by_cases h2 : d < cd k <;> by_cases h3 : cd k < cd f <;> simp only [h1, h2, h3, if_true, if_false, en] at e ⊢ <;> exact e
/-- a part's kind and grams on a day -/
def kd (pk : Nat → Int32) (nc : Nat) (cp : Nat → Int32) (cd : Nat → Int64) (ck : Nat → Int32) (d : Int64) (j : Nat) : Int32 := match lk cp cd (nI j) d nc with
  | none => pk j
  | some f => ck f
def gr (pg : Nat → Int64) (nc : Nat) (cp : Nat → Int32) (cd : Nat → Int64) (cg : Nat → Int64) (d : Int64) (j : Nat) : Int64 := match lk cp cd (nI j) d nc with
  | none => pg j
  | some f => cg f
section PCH
variable {pk : Nat → Int32} {pg : Nat → Int64} {nc : Nat} {cp : Nat → Int32} {cd : Nat → Int64} {ck : Nat → Int32} {cg : Nat → Int64} {d : Int64} {j : Nat}
theorem px_kd (hc : nc ≤ 20) (hj : j < 24) : zf_Pa_kindOn (nI j) d pk (nI nc) cp cd ck = some (kd pk nc cp cd ck d j) := by
  have e := px_cnt (nI j) d cp cd hc nc 0 2000 (by omega) (by omega)
  have e : zf_Ch_countingOn (nI j) d (nI nc) cp cd = some (en (lk cp cd (nI j) d nc)) := e
  rw [zf_Pa_kindOn, e, pz_bs, kd]
  cases hl : lk cp cd (nI j) d nc with
  | none => simp (disch := omega) only [en, if_true, nI_clamp, pz_i2]
  | some f =>
    have hf := lk_lt hl
    simp (disch := omega) only [en, pz_n1, nI_clamp, pz_i2]
theorem px_gr (hc : nc ≤ 20) (hj : j < 24) : zf_Pa_gramsOn (nI j) d pg (nI nc) cp cd cg = some (gr pg nc cp cd cg d j) := by
  have e := px_cnt (nI j) d cp cd hc nc 0 2000 (by omega) (by omega)
  have e : zf_Ch_countingOn (nI j) d (nI nc) cp cd = some (en (lk cp cd (nI j) d nc)) := e
  rw [zf_Pa_gramsOn, e, pz_bs, gr]
  cases hl : lk cp cd (nI j) d nc with
  | none => simp (disch := omega) only [en, if_true, nI_clamp, pz_i2]
  | some f =>
    have hf := lk_lt hl
    simp (disch := omega) only [en, pz_n1, nI_clamp, pz_i2]
theorem pm_kd (hc : nc ≤ 20) (hj : j < 24) : zf_Mo_kindOn (nI j) d (nI nc) pk cp cd ck = some (kd pk nc cp cd ck d j) := by
  have e := pm_cnt (nI j) d cp cd hc nc 0 2000 (by omega) (by omega)
  have hm1 : ¬ (0 : Int32) ≤ -1 := by decide
  have e : zf_Mo_changeOf (nI j) d (nI nc) cp cd = some (en (lk cp cd (nI j) d nc)) := e
  rw [zf_Mo_kindOn, e, pz_bs, kd]
  cases hl : lk cp cd (nI j) d nc with
  | none => simp (disch := omega) only [en, hm1, if_false, nI_clamp, pz_i2]
  | some f =>
    have hf := lk_lt hl
    simp (disch := omega) only [en, pz_p0, nI_clamp, pz_i2]
theorem pm_gr (hc : nc ≤ 20) (hj : j < 24) : zf_Mo_gramsOn (nI j) d (nI nc) pg cp cd cg = some (gr pg nc cp cd cg d j) := by
  have e := pm_cnt (nI j) d cp cd hc nc 0 2000 (by omega) (by omega)
  have hm1 : ¬ (0 : Int32) ≤ -1 := by decide
  have e : zf_Mo_changeOf (nI j) d (nI nc) cp cd = some (en (lk cp cd (nI j) d nc)) := e
  rw [zf_Mo_gramsOn, e, pz_bs, gr]
  cases hl : lk cp cd (nI j) d nc with
  | none => simp (disch := omega) only [en, hm1, if_false, nI_clamp, pz_i2]
  | some f =>
    have hf := lk_lt hl
    simp (disch := omega) only [en, pz_p0, nI_clamp, pz_i2]
end PCH
end
section
/-! PURE: totals: the class's way -/
def ow (po : Nat → Int32) (j : Nat) : Nat := (po j).toNatClampNeg
def HO (np : Nat) (po : Nat → Int32) : Prop := ∀ j, j < np → ∃ o, o < 8 ∧ po j = nI o
def HI (np : Nat) (pi : Nat → Int32) : Prop := ∀ j, j < np → pi j = -1 ∨ ∃ i, i < 8 ∧ pi j = nI i
theorem HO.at_ {np : Nat} {po : Nat → Int32} (h : HO np po) {j : Nat} (hj : j < np) : po j = nI (ow po j) ∧ ow po j < 8 := by
  obtain ⟨o, h1, h2⟩ := h j hj
  have e : ow po j = o := by rw [ow, h2, nI_clamp (by omega)]
  rw [e]
  exact ⟨h2, h1⟩
def AT (np : Nat) (po pi : Nat → Int32) (l : Nat → Int64) (i : Nat) : Int64 := sg (fun j => if pi j = nI i then l (ow po j) else 0) np
def LA (np : Nat) (po pi : Nat → Int32) (l : Nat → Int64) : Nat → Nat → Int64
  | 0 => l
  | d + 1 => AT np po pi (LA np po pi l d)
def e1 (g : Nat) : Nat → Int64 := fun i => if i = g then 1 else 0
theorem px_fillL (v : Int64) {n0 : Nat} (h : n0 ≤ 300) : ∀ (m k n : Nat) (f : Nat → Int64), k + m = n0 → m < n → (∀ i, i < k → f i = v) → ∃ f', zf_Ja_fill_L6 v (nI n0) n0 n (nI k) f = some f' ∧ ∀ i, i < n0 → f' i = v := by
  intro m
  induction m with
  | zero =>
    intro k n f hk hn hf
    obtain ⟨n, rfl⟩ : ∃ q, n = q + 1 := ⟨n - 1, by omega⟩
    have e : k = n0 := by omega
    subst e
    exact ⟨f, by rw [zf_Ja_fill_L6, if_pos (nI_le (Nat.le_refl _) (by omega))], hf⟩
  | succ m ih =>
    intro k n f hk hn hf
    obtain ⟨n, rfl⟩ : ∃ q, n = q + 1 := ⟨n - 1, by omega⟩
    obtain ⟨f', e, h'⟩ := ih (k + 1) n (vp_updL f k v) (by omega) (by omega) (fun i hi => by
      rw [pz_updL]
      by_cases q : i = k
      · rw [if_pos q]
      · rw [if_neg q]; exact hf i (by omega))
    refine ⟨f', ?_, h'⟩
    rw [zf_Ja_fill_L6, if_neg (nI_ge (show k < n0 by omega) (by omega))]
    simp (disch := omega) only [nI_clamp, nI_1, pz_i2]
    exact e
theorem px_fill (v : Int64) {n0 : Nat} (h : n0 ≤ 300) (f : Nat → Int64) : ∃ f', zf_Ja_fill v n0 f = some f' ∧ ∀ i, i < n0 → f' i = v :=
  px_fillL v h n0 0 2000 f (by omega) (by omega) (fun i hi => by omega)
section PTX
variable {np : Nat} {po pi : Nat → Int32}
theorem px_go58 (nd nt : Nat → Int64) (xpn : Int32) : ∀ (m k n : Nat) (nt' nl' : Nat → Int64), k + m = 8 → m < n → (∀ i, i < 8 → nt' i = if i < k then nt i + nd i else nt i) → (∀ i, i < k → nl' i = nd i) → ∃ a b, zf_Ne_goDeeper_L58 nd xpn po pi n (nI k) nt' nl' = some (a, b, nd) ∧ ∀ i, i < 8 → a i = nt i + nd i ∧ b i = nd i := by
  intro m
  induction m with
  | zero =>
    intro k n nt' nl' hk hn h1 h2
    obtain ⟨n, rfl⟩ : ∃ q, n = q + 1 := ⟨n - 1, by omega⟩
    have e : k = 8 := by omega
    subst e
    refine ⟨nt', nl', by rw [zf_Ne_goDeeper_L58, if_pos (by decide)], fun i hi => ⟨?_, h2 i hi⟩⟩
    rw [h1 i hi, if_pos hi]
  | succ m ih =>
    intro k n nt' nl' hk hn h1 h2
    obtain ⟨n, rfl⟩ : ∃ q, n = q + 1 := ⟨n - 1, by omega⟩
    obtain ⟨a, b, e, h⟩ := ih (k + 1) n (vp_updL nt' k (nt' k + nd k)) (vp_updL nl' k (nd k)) (by omega) (by omega) (fun i hi => by
      rw [pz_updL]
      by_cases q : i = k
      · subst q
        rw [if_pos rfl, if_pos (by omega), h1 i hi, if_neg (by omega)]
      · rw [if_neg q, h1 i hi]
        by_cases q2 : i < k
        · rw [if_pos q2, if_pos (by omega)]
        · rw [if_neg q2, if_neg (by omega)]) (fun i hi => by
      rw [pz_updL]
      by_cases q : i = k
      · subst q; rw [if_pos rfl]
      · rw [if_neg q]; exact h2 i (by omega))
    refine ⟨a, b, ?_, h⟩
    rw [zf_Ne_goDeeper_L58, show (8 : Int32) = nI 8 from rfl, if_neg (nI_ge (show k < 8 by omega) (by omega))]
    simp (disch := omega) only [nI_clamp, nI_1, pz_i2]
    exact e
theorem px_go10 (hp : np ≤ 24) (ho : HO np po) (hi : HI np pi) (nt nl : Nat → Int64) : ∀ (m k n : Nat) (nd : Nat → Int64), k + m = np → m < n → (∀ i, i < 8 → nd i = sg (fun j => if pi j = nI i then nl (ow po j) else 0) k) → ∃ nd', (∀ i, i < 8 → nd' i = AT np po pi nl i) ∧ zf_Ne_goDeeper_L10 nt nl (nI np) po pi n (nI k) nd = zf_Ne_goDeeper_L58 nd' (nI np) po pi 2000 (nI 0) nt nl := by
  intro m
  induction m with
  | zero =>
    intro k n nd hk hn h
    obtain ⟨n, rfl⟩ : ∃ q, n = q + 1 := ⟨n - 1, by omega⟩
    have e : k = np := by omega
    subst e
    exact ⟨nd, h, by rw [zf_Ne_goDeeper_L10, if_pos (nI_le (Nat.le_refl _) (by omega))]; rfl⟩
  | succ m ih =>
    intro k n nd hk hn h
    obtain ⟨n, rfl⟩ : ∃ q, n = q + 1 := ⟨n - 1, by omega⟩
    have hkn : k < np := by omega
    obtain ⟨q1, q2⟩ := ho.at_ hkn
    rcases hi k hkn with hm | ⟨i0, hi0, hm⟩
    · obtain ⟨nd', h1, h2⟩ := ih (k + 1) n nd (by omega) (by omega) (fun i hi8 => by
        rw [sg, h i hi8, if_neg (by rw [hm]; exact fun q => pz_neg i (by omega) q.symm)]
        simp)
      refine ⟨nd', h1, ?_⟩
      rw [zf_Ne_goDeeper_L10, if_neg (nI_ge hkn (by omega))]
      simp (disch := omega) only [nI_clamp, nI_1, pz_i2, hm, if_true]
      exact h2
    · obtain ⟨nd', h1, h2⟩ := ih (k + 1) n (vp_updL nd i0 (nd i0 + nl (ow po k))) (by omega) (by omega) (fun i hi8 => by
        rw [sg, pz_updL]
        by_cases q : i = i0
        · subst q
          rw [if_pos rfl, if_pos hm, h i hi8]
        · rw [if_neg q, h i hi8, if_neg (by rw [hm]; exact fun z => q ((nI_eq (by omega) (by omega)).mp z).symm)]
          simp)
      refine ⟨nd', h1, ?_⟩
      rw [zf_Ne_goDeeper_L10, if_neg (nI_ge hkn (by omega))]
      simp (disch := omega) only [nI_clamp, nI_1, pz_i2, hm, pz_n1, q1]
      exact h2
theorem px_go (hp : np ≤ 24) (ho : HO np po) (hi : HI np pi) (nt nl nd : Nat → Int64) : ∃ a b c, zf_Ne_goDeeper (nI np) po pi nt nl nd = some (a, b, c) ∧ ∀ i, i < 8 → a i = nt i + AT np po pi nl i ∧ b i = AT np po pi nl i := by
  obtain ⟨f, e1, h1⟩ := px_fill 0 (n0 := 8) (by omega) nd
  obtain ⟨nd', h2, e2⟩ := px_go10 hp ho hi nt nl np 0 2000 f (by omega) (by omega) (fun i hi => by rw [h1 i hi]; rfl)
  obtain ⟨a, b, e3, h3⟩ := px_go58 (po := po) (pi := pi) nd' nt (nI np) 8 0 2000 nt nl (by omega) (by omega) (fun i hi => by rw [if_neg (by omega)]) (fun i hi => by omega)
  refine ⟨a, b, nd', ?_, fun i hi => ?_⟩
  · rw [zf_Ne_goDeeper, e1, pz_bs, show (0 : Int32) = nI 0 from rfl, e2, e3]
  · rw [(h3 i hi).1, (h3 i hi).2, h2 i hi]
    exact ⟨rfl, rfl⟩
theorem AT_congr (ho : HO np po) {l l' : Nat → Int64} (h : ∀ i, i < 8 → l i = l' i) (i : Nat) : AT np po pi l i = AT np po pi l' i := by
  unfold AT
  refine sg_congr (fun j hj => ?_)
  rw [h _ (ho.at_ hj).2]
theorem px_cwL (hp : np ≤ 24) (ho : HO np po) (hi : HI np pi) (g : Nat) (v2 : Int32) : ∀ (m t n : Nat) (nt nl nd : Nat → Int64), t + m = 7 → m < n → (∀ i, i < 8 → nl i = LA np po pi (e1 g) t i) → (∀ i, i < 8 → nt i = sg (fun d => LA np po pi (e1 g) d i) (t + 1)) → ∃ a b c, zf_Ne_countWithin_L32 v2 (nI np) po pi n (nI (t + 1)) nt nl nd = some (a, b, c) ∧ ∀ i, i < 8 → a i = sg (fun d => LA np po pi (e1 g) d i) 8 := by
  intro m
  induction m with
  | zero =>
    intro t n nt nl nd hk hn h1 h2
    obtain ⟨n, rfl⟩ : ∃ q, n = q + 1 := ⟨n - 1, by omega⟩
    have e : t = 7 := by omega
    subst e
    exact ⟨nt, nl, nd, by rw [zf_Ne_countWithin_L32, if_pos (by decide)], h2⟩
  | succ m ih =>
    intro t n nt nl nd hk hn h1 h2
    obtain ⟨n, rfl⟩ : ∃ q, n = q + 1 := ⟨n - 1, by omega⟩
    obtain ⟨a, b, c, e, h⟩ := px_go hp ho hi nt nl nd
    obtain ⟨a', b', c', e', h'⟩ := ih (t + 1) n a b c (by omega) (by omega) (fun i hi8 => by
      rw [(h i hi8).2, LA]
      exact AT_congr ho h1 i) (fun i hi8 => by
      rw [(h i hi8).1, h2 i hi8]
      show _ = sg (fun d => LA np po pi (e1 g) d i) (t + 1) + AT np po pi (LA np po pi (e1 g) t) i
      rw [AT_congr ho h1 i])
    refine ⟨a', b', c', ?_, h'⟩
    rw [zf_Ne_countWithin_L32, show (8 : Int32) = nI 8 from rfl, if_neg (nI_ge (show t + 1 < 8 by omega) (by omega)), e, pz_bs, nI_1]
    exact e'
theorem px_cw (hp : np ≤ 24) (ho : HO np po) (hi : HI np pi) {g : Nat} (hg : g < 8) (nt nl nd : Nat → Int64) : ∃ a b c, zf_Ne_countWithin (nI g) (nI np) po pi nt nl nd = some (a, b, c) ∧ ∀ i, i < 8 → a i = sg (fun d => LA np po pi (e1 g) d i) 8 := by
  obtain ⟨f, ef, hf⟩ := px_fill 0 (n0 := 8) (by omega) nt
  obtain ⟨f', ef', hf'⟩ := px_fill 0 (n0 := 8) (by omega) nl
  obtain ⟨a, b, c, e, h⟩ := px_cwL hp ho hi g (nI g) 7 0 2000 (vp_updL f g 1) (vp_updL f' g 1) nd (by omega) (by omega) (fun i hi => by
    rw [pz_updL, LA, e1]
    by_cases q : i = g
    · rw [if_pos q, if_pos q]
    · rw [if_neg q, if_neg q, hf' i hi]) (fun i hi => by
    rw [pz_updL]
    simp only [sg, LA, e1]
    by_cases q : i = g
    · rw [if_pos q, if_pos q]; rfl
    · rw [if_neg q, if_neg q, hf i hi]; rfl)
  refine ⟨a, b, c, ?_, h⟩
  rw [zf_Ne_countWithin, ef, pz_bs, ef', pz_bs]
  simp (disch := omega) only [nI_clamp, pz_i2]
  exact e
end PTX
section PTS
variable {np : Nat} {po pi pk : Nat → Int32} {pg : Nat → Int64} {nc : Nat} {cp : Nat → Int32} {cd : Nat → Int64} {ck : Nat → Int32} {cg : Nat → Int64} {d : Int64}
def HK (np : Nat) (kf : Nat → Int32) : Prop := ∀ j, j < np → ∃ k, k < 5 ∧ kf j = nI k
theorem px_sbL (hp : np ≤ 24) (hc : nc ≤ 20) (ho : HO np po) (hk : HK np (kd pk nc cp cd ck d)) (nt : Nat → Int64) : ∀ (m j n : Nat) (sm : Nat → Int64), j + m = np → m < n → (∀ k, k < 5 → sm k = sg (fun j => if kd pk nc cp cd ck d j = nI k then nt (ow po j) * gr pg nc cp cd cg d j else 0) j) → ∃ sm', zf_Ne_sumByTimes_L9 d (nI np) po pk pg (nI nc) cp cd ck cg nt n (nI j) sm = some sm' ∧ ∀ k, k < 5 → sm' k = sg (fun j => if kd pk nc cp cd ck d j = nI k then nt (ow po j) * gr pg nc cp cd cg d j else 0) np := by
  intro m
  induction m with
  | zero =>
    intro j n sm hj hn h
    obtain ⟨n, rfl⟩ : ∃ q, n = q + 1 := ⟨n - 1, by omega⟩
    have e : j = np := by omega
    subst e
    exact ⟨sm, by rw [zf_Ne_sumByTimes_L9, if_pos (nI_le (Nat.le_refl _) (by omega))], h⟩
  | succ m ih =>
    intro j n sm hj hn h
    obtain ⟨n, rfl⟩ : ∃ q, n = q + 1 := ⟨n - 1, by omega⟩
    have hjn : j < np := by omega
    obtain ⟨q1, q2⟩ := ho.at_ hjn
    obtain ⟨k0, hk0, ek0⟩ := hk j hjn
    obtain ⟨sm', e, h'⟩ := ih (j + 1) n (vp_updL sm k0 (sm k0 + nt (ow po j) * gr pg nc cp cd cg d j)) (by omega) (by omega) (fun k hk5 => by
      rw [sg, pz_updL]
      by_cases q : k = k0
      · subst q
        rw [if_pos rfl, if_pos ek0, h k hk5]
      · rw [if_neg q, h k hk5, if_neg (by rw [ek0]; exact fun z => q ((nI_eq (by omega) (by omega)).mp z).symm)]
        simp)
    refine ⟨sm', ?_, h'⟩
    rw [zf_Ne_sumByTimes_L9, if_neg (nI_ge hjn (by omega)), px_gr hc (by omega), pz_bs, px_kd hc (by omega), pz_bs, ek0]
    simp (disch := omega) only [nI_clamp, nI_1, pz_i2, q1]
    exact e
theorem px_sb (hp : np ≤ 24) (hc : nc ≤ 20) (ho : HO np po) (hk : HK np (kd pk nc cp cd ck d)) (nt sm : Nat → Int64) : ∃ sm', zf_Ne_sumByTimes d (nI np) sm po pk pg (nI nc) cp cd ck cg nt = some sm' ∧ ∀ k, k < 5 → sm' k = sg (fun j => if kd pk nc cp cd ck d j = nI k then nt (ow po j) * gr pg nc cp cd cg d j else 0) np := by
  obtain ⟨f, ef, hf⟩ := px_fill 0 (n0 := 5) (by omega) sm
  obtain ⟨sm', e, h⟩ := px_sbL (pg := pg) (cg := cg) hp hc ho hk nt np 0 2000 f (by omega) (by omega) (fun k hk => by rw [hf k hk]; rfl)
  exact ⟨sm', by rw [zf_Ne_sumByTimes, ef, pz_bs]; exact e, h⟩
/-- the total of a good and a kind -/
def TX (np : Nat) (po pi pk : Nat → Int32) (pg : Nat → Int64) (nc : Nat) (cp : Nat → Int32) (cd : Nat → Int64) (ck : Nat → Int32) (cg : Nat → Int64) (d : Int64) (g k : Nat) : Int64 := sg (fun j => if kd pk nc cp cd ck d j = nI k then sg (fun t => LA np po pi (e1 g) t (ow po j)) 8 * gr pg nc cp cd cg d j else 0) np
theorem px_sw (hp : np ≤ 24) (hc : nc ≤ 20) (ho : HO np po) (hi : HI np pi) (hk : HK np (kd pk nc cp cd ck d)) {g : Nat} (hg : g < 8) (sm nt nl nd : Nat → Int64) : ∃ s1 a b c, zf_Ne_sumWithin (nI g) d (nI np) sm po pk pg pi (nI nc) cp cd ck cg nt nl nd = some (s1, a, b, c) ∧ ∀ k, k < 5 → s1 k = TX np po pi pk pg nc cp cd ck cg d g k := by
  obtain ⟨a, b, c, e, h⟩ := px_cw hp ho hi hg nt nl nd
  obtain ⟨s1, e2, h2⟩ := px_sb (pg := pg) (cg := cg) hp hc ho hk a sm
  refine ⟨s1, a, b, c, by rw [zf_Ne_sumWithin, e, pz_bs]; simp only; rw [e2, pz_bs], fun k hk5 => ?_⟩
  rw [h2 k hk5, TX]
  refine sg_congr (fun j hj => ?_)
  rw [h _ (ho.at_ hj).2]
end PTS
end
section
/-! PURE: totals: the reference's way, and that both are one -/
def OWN (np : Nat) (po : Nat → Int32) (w : Nat → Int64) (g : Nat) : Int64 := sg (fun j => if ow po j = g then w j else 0) np
def AV (np : Nat) (po pi : Nat → Int32) (v : Nat → Int64) (g : Nat) : Int64 := sg (fun j => if ow po j = g then (if 0 ≤ pi j then v (pi j).toNatClampNeg else 0) else 0) np
def SS (np : Nat) (po pi : Nat → Int32) (w : Nat → Int64) : Nat → Nat → Int64
  | 0 => fun _ => 0
  | t + 1 => fun g => OWN np po w g + AV np po pi (SS np po pi w t) g
theorem AV_congr {np : Nat} {po pi : Nat → Int32} (hi : HI np pi) {v v' : Nat → Int64} (h : ∀ i, i < 8 → v i = v' i) (g : Nat) : AV np po pi v g = AV np po pi v' g := by
  unfold AV
  refine sg_congr (fun j hj => ?_)
  rcases hi j hj with q | ⟨i, h1, h2⟩
  · rw [q]; rfl
  · rw [h2, nI_clamp (by omega), h i h1]
section PSM
variable {np : Nat} {po pi pk : Nat → Int32} {pg : Nat → Int64} {nc : Nat} {cp : Nat → Int32} {cd : Nat → Int64} {ck : Nat → Int32} {cg : Nat → Int64} {d : Int64}
abbrev wk (pk : Nat → Int32) (pg : Nat → Int64) (nc : Nat) (cp : Nat → Int32) (cd : Nat → Int64) (ck : Nat → Int32) (cg : Nat → Int64) (d : Int64) (u : Int32) (j : Nat) : Int64 := if kd pk nc cp cd ck d j = u then gr pg nc cp cd cg d j else 0
theorem pm_189 {xpn xcn : Int32} {v1 : Int32} {mow ne : Nat → Int64} (v4 : Int32) (K : Int32 → (Nat → Int64) → (Nat → Int64) → Option ((Nat → Int64) × (Nat → Int64) × (Nat → Int64))) : ∀ (m k n : Nat) (su : Nat → Int64), k + m = 8 → m < n → (∀ i, i < k → su i = ne i) → ∃ su', (∀ i, i < 8 → su' i = ne i) ∧ zf_Mo_sum_L189 v1 d v4 mow ne xpn xcn po pk pg pi cp cd ck cg K n (nI k) su = K (v4 + 1) su' ne := by
  intro m
  induction m with
  | zero =>
    intro k n su hk hn h
    obtain ⟨n, rfl⟩ : ∃ q, n = q + 1 := ⟨n - 1, by omega⟩
    have e : k = 8 := by omega
    subst e
    exact ⟨su, h, by rw [zf_Mo_sum_L189, if_pos (by decide)]⟩
  | succ m ih =>
    intro k n su hk hn h
    obtain ⟨n, rfl⟩ : ∃ q, n = q + 1 := ⟨n - 1, by omega⟩
    obtain ⟨su', h', e⟩ := ih (k + 1) n (vp_updL su k (ne k)) (by omega) (by omega) (fun i hi => by
      rw [pz_updL]
      by_cases q : i = k
      · subst q; rw [if_pos rfl]
      · rw [if_neg q]; exact h i (by omega))
    refine ⟨su', h', ?_⟩
    rw [zf_Mo_sum_L189, show (8 : Int32) = nI 8 from rfl, if_neg (nI_ge (show k < 8 by omega) (by omega))]
    simp (disch := omega) only [nI_clamp, nI_1, pz_i2]
    exact e
theorem pm_130 (hp : np ≤ 24) (ho : HO np po) (hi : HI np pi) {xcn : Int32} {v1 : Int32} {mow su : Nat → Int64} (v4 : Int32) (K : Int32 → (Nat → Int64) → (Nat → Int64) → Option ((Nat → Int64) × (Nat → Int64) × (Nat → Int64))) : ∀ (m k n : Nat) (ne : Nat → Int64), k + m = np → m < n → (∀ g, g < 8 → ne g = mow g + sg (fun j => if ow po j = g then (if 0 ≤ pi j then su (pi j).toNatClampNeg else 0) else 0) k) → ∃ ne', (∀ g, g < 8 → ne' g = mow g + AV np po pi su g) ∧ zf_Mo_sum_L130 v1 d v4 mow su (nI np) xcn po pk pg pi cp cd ck cg K n (nI k) ne = zf_Mo_sum_L189 v1 d v4 mow ne' (nI np) xcn po pk pg pi cp cd ck cg K 2000 (nI 0) su := by
  intro m
  induction m with
  | zero =>
    intro k n ne hk hn h
    obtain ⟨n, rfl⟩ : ∃ q, n = q + 1 := ⟨n - 1, by omega⟩
    have e : k = np := by omega
    subst e
    exact ⟨ne, h, by rw [zf_Mo_sum_L130, if_pos (nI_le (Nat.le_refl _) (by omega))]; rfl⟩
  | succ m ih =>
    intro k n ne hk hn h
    obtain ⟨n, rfl⟩ : ∃ q, n = q + 1 := ⟨n - 1, by omega⟩
    have hkn : k < np := by omega
    obtain ⟨q1, q2⟩ := ho.at_ hkn
    have key : ∀ x : Int64, (if 0 ≤ pi k then su (pi k).toNatClampNeg else 0) = x → ∀ g, g < 8 → vp_updL ne (ow po k) (ne (ow po k) + x) g = mow g + sg (fun j => if ow po j = g then (if 0 ≤ pi j then su (pi j).toNatClampNeg else 0) else 0) (k + 1) := by
      intro x hx g hg
      rw [sg, pz_updL, hx]
      by_cases q : g = ow po k
      · subst q
        rw [if_pos rfl, if_pos rfl, h _ hg]
        grind
      · rw [if_neg q, if_neg (fun z => q z.symm), h g hg]
        simp
    rcases hi k hkn with hm | ⟨i0, hi0, hm⟩
    · have hm1 : ¬ (0 : Int32) ≤ -1 := by decide
      obtain ⟨ne', h1, h2⟩ := ih (k + 1) n (vp_updL ne (ow po k) (ne (ow po k) + 0)) (by omega) (by omega) (key 0 (by rw [hm]; rfl))
      refine ⟨ne', h1, ?_⟩
      rw [zf_Mo_sum_L130, if_neg (nI_ge hkn (by omega))]
      simp (disch := omega) only [nI_clamp, nI_1, pz_i2, hm, hm1, if_false, q1]
      exact h2
    · obtain ⟨ne', h1, h2⟩ := ih (k + 1) n (vp_updL ne (ow po k) (ne (ow po k) + su i0)) (by omega) (by omega) (key (su i0) (by rw [hm, pz_p0 (by omega), nI_clamp (by omega)]))
      refine ⟨ne', h1, ?_⟩
      rw [zf_Mo_sum_L130, if_neg (nI_ge hkn (by omega))]
      simp (disch := omega) only [nI_clamp, nI_1, pz_i2, hm, pz_p0, q1]
      exact h2
theorem pm_100 {xpn xcn : Int32} {v1 : Int32} {mow su : Nat → Int64} (v4 : Int32) (K : Int32 → (Nat → Int64) → (Nat → Int64) → Option ((Nat → Int64) × (Nat → Int64) × (Nat → Int64))) : ∀ (m k n : Nat) (ne : Nat → Int64), k + m = 8 → m < n → (∀ i, i < k → ne i = mow i) → ∃ ne', (∀ i, i < 8 → ne' i = mow i) ∧ zf_Mo_sum_L100 v1 d v4 mow su xpn xcn po pk pg pi cp cd ck cg K n (nI k) ne = zf_Mo_sum_L130 v1 d v4 mow su xpn xcn po pk pg pi cp cd ck cg K 2000 (nI 0) ne' := by
  intro m
  induction m with
  | zero =>
    intro k n ne hk hn h
    obtain ⟨n, rfl⟩ : ∃ q, n = q + 1 := ⟨n - 1, by omega⟩
    have e : k = 8 := by omega
    subst e
    exact ⟨ne, h, by rw [zf_Mo_sum_L100, if_pos (by decide)]; rfl⟩
  | succ m ih =>
    intro k n ne hk hn h
    obtain ⟨n, rfl⟩ : ∃ q, n = q + 1 := ⟨n - 1, by omega⟩
    obtain ⟨ne', h', e⟩ := ih (k + 1) n (vp_updL ne k (mow k)) (by omega) (by omega) (fun i hi => by
      rw [pz_updL]
      by_cases q : i = k
      · subst q; rw [if_pos rfl]
      · rw [if_neg q]; exact h i (by omega))
    refine ⟨ne', h', ?_⟩
    rw [zf_Mo_sum_L100, show (8 : Int32) = nI 8 from rfl, if_neg (nI_ge (show k < 8 by omega) (by omega))]
    simp (disch := omega) only [nI_clamp, nI_1, pz_i2]
    exact e
theorem pm_90 (hp : np ≤ 24) (ho : HO np po) (hi : HI np pi) {xcn : Int32} {v1 : Int32} {mow : Nat → Int64} (w : Nat → Int64) (hw : ∀ g, g < 8 → mow g = OWN np po w g) : ∀ (m t n : Nat) (su ne : Nat → Int64), t + m = 8 → m < n → (∀ g, g < 8 → su g = SS np po pi w t g) → ∃ su' ne', zf_Mo_sum_L90 v1 d mow (nI np) xcn po pk pg pi cp cd ck cg n (nI t) su ne = some (mow, su', ne') ∧ ∀ g, g < 8 → su' g = SS np po pi w 8 g := by
  intro m
  induction m with
  | zero =>
    intro t n su ne hk hn h
    obtain ⟨n, rfl⟩ : ∃ q, n = q + 1 := ⟨n - 1, by omega⟩
    have e : t = 8 := by omega
    subst e
    exact ⟨su, ne, by rw [zf_Mo_sum_L90, if_pos (by decide)], h⟩
  | succ m ih =>
    intro t n su ne hk hn h
    obtain ⟨n, rfl⟩ : ∃ q, n = q + 1 := ⟨n - 1, by omega⟩
    obtain ⟨ne1, a1, b1⟩ := pm_100 (d := d) (po := po) (pi := pi) (pk := pk) (pg := pg) (cp := cp) (cd := cd) (ck := ck) (cg := cg) (xpn := nI np) (xcn := xcn) (v1 := v1) (mow := mow) (su := su) (nI t) (fun uv4 umsu umne => zf_Mo_sum_L90 v1 d mow (nI np) xcn po pk pg pi cp cd ck cg n uv4 umsu umne) 8 0 2000 ne (by omega) (by omega) (fun i hi => by omega)
    obtain ⟨ne2, a2, b2⟩ := pm_130 (d := d) (pk := pk) (pg := pg) (cp := cp) (cd := cd) (ck := ck) (cg := cg) hp ho hi (xcn := xcn) (v1 := v1) (mow := mow) (su := su) (nI t) (fun uv4 umsu umne => zf_Mo_sum_L90 v1 d mow (nI np) xcn po pk pg pi cp cd ck cg n uv4 umsu umne) np 0 2000 ne1 (by omega) (by omega) (fun g hg => by rw [a1 g hg]; simp [sg])
    obtain ⟨su1, a3, b3⟩ := pm_189 (d := d) (po := po) (pi := pi) (pk := pk) (pg := pg) (cp := cp) (cd := cd) (ck := ck) (cg := cg) (xpn := nI np) (xcn := xcn) (v1 := v1) (mow := mow) (ne := ne2) (nI t) (fun uv4 umsu umne => zf_Mo_sum_L90 v1 d mow (nI np) xcn po pk pg pi cp cd ck cg n uv4 umsu umne) 8 0 2000 su (by omega) (by omega) (fun i hi => by omega)
    obtain ⟨su', ne', e, h'⟩ := ih (t + 1) n su1 ne2 (by omega) (by omega) (fun g hg => by
      rw [a3 g hg, a2 g hg, SS, hw g hg]
      congr 1
      exact AV_congr hi h g)
    refine ⟨su', ne', ?_, h'⟩
    rw [zf_Mo_sum_L90, show (8 : Int32) = nI 8 from rfl, if_neg (nI_ge (show t < 8 by omega) (by omega)), show (0 : Int32) = nI 0 from rfl, b1, b2, b3]
    simp only [nI_1]
    exact e
theorem pm_35 (hp : np ≤ 24) (hc : nc ≤ 20) (ho : HO np po) (v1 : Int32) (su ne : Nat → Int64) : ∀ (m k n : Nat) (mow : Nat → Int64), k + m = np → m < n → (∀ g, g < 8 → mow g = sg (fun j => if ow po j = g then wk pk pg nc cp cd ck cg d v1 j else 0) k) → ∃ mow', (∀ g, g < 8 → mow' g = OWN np po (wk pk pg nc cp cd ck cg d v1) g) ∧ zf_Mo_sum_L35 v1 d su ne (nI np) (nI nc) po pk pg pi cp cd ck cg n (nI k) mow = zf_Mo_sum_L90 v1 d mow' (nI np) (nI nc) po pk pg pi cp cd ck cg 2000 (nI 0) su ne := by
  intro m
  induction m with
  | zero =>
    intro k n mow hk hn h
    obtain ⟨n, rfl⟩ : ∃ q, n = q + 1 := ⟨n - 1, by omega⟩
    have e : k = np := by omega
    subst e
    exact ⟨mow, h, by rw [zf_Mo_sum_L35, if_pos (nI_le (Nat.le_refl _) (by omega))]; rfl⟩
  | succ m ih =>
    intro k n mow hk hn h
    obtain ⟨n, rfl⟩ : ∃ q, n = q + 1 := ⟨n - 1, by omega⟩
    have hkn : k < np := by omega
    obtain ⟨q1, q2⟩ := ho.at_ hkn
    obtain ⟨mow', h1, h2⟩ := ih (k + 1) n (vp_updL mow (ow po k) (mow (ow po k) + wk pk pg nc cp cd ck cg d v1 k)) (by omega) (by omega) (fun g hg => by
      rw [sg, pz_updL]
      by_cases q : g = ow po k
      · subst q
        rw [if_pos rfl, if_pos rfl, h _ hg]
      · rw [if_neg q, if_neg (fun z => q z.symm), h g hg]
        simp)
    refine ⟨mow', h1, ?_⟩
    rw [zf_Mo_sum_L35, if_neg (nI_ge hkn (by omega)), pm_kd hc (by omega), pz_bs, pm_gr hc (by omega), pz_bs, ← h2, wk]
    by_cases hq : kd pk nc cp cd ck d k = v1
    · simp (disch := omega) only [nI_clamp, nI_1, pz_i2, q1, hq, if_true]
    · simp (disch := omega) only [nI_clamp, nI_1, pz_i2, q1, hq, if_false]
theorem pm_3 (v1 : Int32) {xpn xcn : Int32} (ne : Nat → Int64) : ∀ (m k n : Nat) (mow su : Nat → Int64), k + m = 8 → m < n → (∀ i, i < k → mow i = 0 ∧ su i = 0) → ∃ mow' su', (∀ i, i < 8 → mow' i = 0 ∧ su' i = 0) ∧ zf_Mo_sum_L3 v1 d ne xpn xcn po pk pg pi cp cd ck cg n (nI k) mow su = zf_Mo_sum_L35 v1 d su' ne xpn xcn po pk pg pi cp cd ck cg 2000 (nI 0) mow' := by
  intro m
  induction m with
  | zero =>
    intro k n mow su hk hn h
    obtain ⟨n, rfl⟩ : ∃ q, n = q + 1 := ⟨n - 1, by omega⟩
    have e : k = 8 := by omega
    subst e
    exact ⟨mow, su, h, by rw [zf_Mo_sum_L3, if_pos (by decide)]; rfl⟩
  | succ m ih =>
    intro k n mow su hk hn h
    obtain ⟨n, rfl⟩ : ∃ q, n = q + 1 := ⟨n - 1, by omega⟩
    obtain ⟨mow', su', h', e⟩ := ih (k + 1) n (vp_updL mow k 0) (vp_updL su k 0) (by omega) (by omega) (fun i hi => by
      rw [pz_updL, pz_updL]
      by_cases q : i = k
      · rw [if_pos q, if_pos q]; exact ⟨rfl, rfl⟩
      · rw [if_neg q, if_neg q]; exact h i (by omega))
    refine ⟨mow', su', h', ?_⟩
    rw [zf_Mo_sum_L3, show (8 : Int32) = nI 8 from rfl, if_neg (nI_ge (show k < 8 by omega) (by omega))]
    simp (disch := omega) only [nI_clamp, nI_1, pz_i2]
    exact e
theorem pm_sum (hp : np ≤ 24) (hc : nc ≤ 20) (ho : HO np po) (hi : HI np pi) (v1 : Int32) (mow su ne : Nat → Int64) : ∃ a b c, zf_Mo_sum v1 d (nI np) (nI nc) po pk pg pi cp cd ck cg mow su ne = some (a, b, c) ∧ ∀ g, g < 8 → b g = SS np po pi (wk pk pg nc cp cd ck cg d v1) 8 g := by
  obtain ⟨m1, s1, h1, e1⟩ := pm_3 (d := d) (po := po) (pi := pi) (pk := pk) (pg := pg) (cp := cp) (cd := cd) (ck := ck) (cg := cg) (xpn := nI np) (xcn := nI nc) v1 ne 8 0 2000 mow su (by omega) (by omega) (fun i hi => by omega)
  obtain ⟨m2, h2, e2⟩ := pm_35 (d := d) (pi := pi) (pk := pk) (pg := pg) (cp := cp) (cd := cd) (ck := ck) (cg := cg) hp hc ho v1 s1 ne np 0 2000 m1 (by omega) (by omega) (fun g hg => by rw [(h1 g hg).1]; rfl)
  obtain ⟨su', ne', e3, h3⟩ := pm_90 (d := d) (pk := pk) (pg := pg) (cp := cp) (cd := cd) (ck := ck) (cg := cg) hp ho hi (xcn := nI nc) (v1 := v1) (wk pk pg nc cp cd ck cg d v1) h2 8 0 2000 s1 ne (by omega) (by omega) (fun g hg => by rw [(h1 g hg).2]; rfl)
  refine ⟨m2, su', ne', ?_, h3⟩
  rw [zf_Mo_sum, show (0 : Int32) = nI 0 from rfl, e1, e2, e3]
end PSM
/-- the inner product over the goods -/
def ip (l v : Nat → Int64) : Int64 := sg (fun i => l i * v i) 8
theorem ip_pick {f : Nat → Int64} {l : Nat → Int64} (np : Nat) (t : Nat → Nat) (ht : ∀ j, j < np → t j < 8) : ip l (fun i => sg (fun j => if t j = i then f j else 0) np) = sg (fun j => l (t j) * f j) np := by
  unfold ip
  have h1 : ∀ i, l i * sg (fun j => if t j = i then f j else 0) np = sg (fun j => if i = t j then l (t j) * f j else 0) np := fun i => by
    rw [← sg_mul]
    refine sg_congr (fun j _ => ?_)
    by_cases q : t j = i
    · rw [if_pos q, if_pos q.symm, q]
    · rw [if_neg q, if_neg (fun z => q z.symm)]; simp
  rw [sg_congr (fun i _ => h1 i), sg_swap]
  refine sg_congr (fun j hj => ?_)
  rw [sg_one, if_pos (ht j hj)]
theorem ip_comm (l v : Nat → Int64) : ip l v = ip v l := sg_congr (fun i _ => by grind)
section PEQ
variable {np : Nat} {po pi : Nat → Int32}
theorem ip_A (ho : HO np po) (hi : HI np pi) (l v : Nat → Int64) : ip (AT np po pi l) v = ip l (AV np po pi v) := by
  have a : ip l (AV np po pi v) = sg (fun j => l (ow po j) * (if 0 ≤ pi j then v (pi j).toNatClampNeg else 0)) np := ip_pick np (ow po) (fun j hj => (ho.at_ hj).2)
  have b : ip (AT np po pi l) v = sg (fun j => l (ow po j) * (if 0 ≤ pi j then v (pi j).toNatClampNeg else 0)) np := by
    unfold ip AT
    have h1 : ∀ i, i < 8 → sg (fun j => if pi j = nI i then l (ow po j) else 0) np * v i = sg (fun j => if i = (pi j).toNatClampNeg then l (ow po j) * (if 0 ≤ pi j then v (pi j).toNatClampNeg else 0) else 0) np := fun i hi8 => by
      have c : sg (fun j => if pi j = nI i then l (ow po j) else 0) np * v i = v i * sg (fun j => if pi j = nI i then l (ow po j) else 0) np := by grind
      rw [c, ← sg_mul]
      refine sg_congr (fun j hj => ?_)
      rcases hi j hj with q | ⟨i0, q1, q2⟩
      · rw [q, if_neg (fun z => pz_neg i (by omega) z.symm), if_neg (show ¬ (0 : Int32) ≤ -1 by decide)]
        simp
      · rw [q2, nI_clamp (by omega), pz_p0 (by omega)]
        by_cases q : i = i0
        · subst q
          rw [if_pos rfl, if_pos rfl]
          grind
        · rw [if_neg q, if_neg (fun z => q ((nI_eq (by omega) (by omega)).mp z).symm)]
          simp
    rw [sg_congr h1, sg_swap]
    refine sg_congr (fun j hj => ?_)
    rw [sg_one]
    rcases hi j hj with q | ⟨i0, q1, q2⟩
    · rw [q]; simp
    · rw [q2, nI_clamp (by omega), if_pos q1]
  rw [a, b]
theorem LA_shift (l : Nat → Int64) : ∀ t, LA np po pi (AT np po pi l) t = LA np po pi l (t + 1)
  | 0 => rfl
  | t + 1 => by rw [LA, LA_shift l t]; rfl
theorem ip_add (l u v : Nat → Int64) : ip l (fun i => u i + v i) = ip l u + ip l v := by
  unfold ip
  rw [← sg_add]
  exact sg_congr (fun i _ => by grind)
theorem sg_head (f : Nat → Int64) : ∀ n, sg f (n + 1) = f 0 + sg (fun j => f (j + 1)) n
  | 0 => by simp [sg]
  | n + 1 => by
    rw [sg, sg_head f n, sg]
    grind
theorem ip_SS (ho : HO np po) (hi : HI np pi) (w : Nat → Int64) : ∀ (t : Nat) (l : Nat → Int64), ip l (SS np po pi w t) = sg (fun c => ip (LA np po pi l c) (OWN np po w)) t
  | 0, l => by
    rw [sg, SS]
    unfold ip
    rw [sg_congr (g := fun _ => 0) (fun i _ => by simp), sg_zero]
  | t + 1, l => by
    have a : ip l (SS np po pi w (t + 1)) = ip l (OWN np po w) + ip l (AV np po pi (SS np po pi w t)) := ip_add l _ _
    rw [a, ← ip_A ho hi, ip_SS ho hi w t (AT np po pi l), sg_head, show sg (fun c => ip (LA np po pi (AT np po pi l) c) (OWN np po w)) t = sg (fun j => ip (LA np po pi l (j + 1)) (OWN np po w)) t from sg_congr (fun c _ => by rw [LA_shift])]
    rfl
theorem ip_e1 {g : Nat} (hg : g < 8) (v : Nat → Int64) : ip (e1 g) v = v g := by
  unfold ip e1
  rw [sg_congr (g := fun i => if i = g then v g else 0) (fun i _ => by
    by_cases q : i = g
    · rw [if_pos q, if_pos q, q]; simp
    · rw [if_neg q, if_neg q]; simp), sg_one, if_pos hg]
/-- BOTH WAYS ARE ONE -/
theorem p_total {pk : Nat → Int32} {pg : Nat → Int64} {nc : Nat} {cp : Nat → Int32} {cd : Nat → Int64} {ck : Nat → Int32} {cg : Nat → Int64} {d : Int64} (ho : HO np po) (hi : HI np pi) {g : Nat} (hg : g < 8) (k : Nat) : TX np po pi pk pg nc cp cd ck cg d g k = SS np po pi (wk pk pg nc cp cd ck cg d (nI k)) 8 g := by
  have a := ip_SS ho hi (wk pk pg nc cp cd ck cg d (nI k)) 8 (e1 g)
  rw [ip_e1 hg] at a
  rw [a]
  have b : ∀ c, ip (LA np po pi (e1 g) c) (OWN np po (wk pk pg nc cp cd ck cg d (nI k))) = sg (fun j => LA np po pi (e1 g) c (ow po j) * wk pk pg nc cp cd ck cg d (nI k) j) np := fun c => ip_pick np (ow po) (fun j hj => (ho.at_ hj).2)
  rw [sg_congr (fun c _ => b c), sg_swap]
  unfold TX
  refine sg_congr (fun j _ => ?_)
  have c1 : sg (fun i => LA np po pi (e1 g) i (ow po j) * wk pk pg nc cp cd ck cg d (nI k) j) 8 = wk pk pg nc cp cd ck cg d (nI k) j * sg (fun i => LA np po pi (e1 g) i (ow po j)) 8 := by
    rw [← sg_mul]
    exact sg_congr (fun i _ => by grind)
  rw [c1, wk]
  by_cases q : kd pk nc cp cd ck d j = nI k
  · rw [if_pos q, if_pos q]; grind
  · rw [if_neg q, if_neg q]; simp
end PEQ
end
section
/-! PURE: frees, seen, most: sums and searches over the parts -/
section PSL
variable {np : Nat} {po pi pk pl : Nat → Int32} {pg : Nat → Int64} {nc : Nat} {cp : Nat → Int32} {cd : Nat → Int64} {ck : Nat → Int32} {cg : Nat → Int64} {d : Int64}
abbrev fr_t (pk pl : Nat → Int32) (pg : Nat → Int64) (nc : Nat) (cp : Nat → Int32) (cd : Nat → Int64) (ck : Nat → Int32) (cg : Nat → Int64) (v1 v2 : Int32) (j : Nat) : Int64 := if pl j = v2 then (if kd pk nc cp cd ck 100000 j = v1 then gr pg nc cp cd cg 100000 j else 0) else 0
theorem px_frL (hp : np ≤ 24) (hc : nc ≤ 20) (v1 v2 : Int32) : ∀ (m k n : Nat), k + m = np → m < n → zf_MP_frees_L23 v1 v2 (nI np) pk pg pl (nI nc) cp cd ck cg n (sg (fr_t pk pl pg nc cp cd ck cg v1 v2) k) (nI k) = some (sg (fr_t pk pl pg nc cp cd ck cg v1 v2) np) := by
  intro m
  induction m with
  | zero =>
    intro k n hk hn
    obtain ⟨n, rfl⟩ : ∃ q, n = q + 1 := ⟨n - 1, by omega⟩
    have e : k = np := by omega
    subst e
    rw [zf_MP_frees_L23, if_pos (nI_le (Nat.le_refl _) (by omega))]
  | succ m ih =>
    intro k n hk hn
    obtain ⟨n, rfl⟩ : ∃ q, n = q + 1 := ⟨n - 1, by omega⟩
    have e := ih (k + 1) n (by omega) (by omega)
    have hkn : k < np := by omega
    rw [zf_MP_frees_L23, if_neg (nI_ge hkn (by omega)), px_kd hc (by omega), pz_bs, px_gr hc (by omega), pz_bs]
    rw [sg, fr_t] at e
    by_cases h1 : pl k = v2
    · by_cases h2 : kd pk nc cp cd ck 100000 k = v1
      · simp (disch := omega) only [nI_clamp, nI_1, pz_i2, h1, h2, if_true] at e ⊢
        exact e
      · simp (disch := omega) only [nI_clamp, nI_1, pz_i2, h1, h2, if_true, if_false, Int64.add_zero] at e ⊢
        exact e
    · simp (disch := omega) only [nI_clamp, nI_1, pz_i2, h1, if_false, Int64.add_zero] at e ⊢
      exact e
theorem pm_frL (hp : np ≤ 24) (hc : nc ≤ 20) (v1 v2 : Int32) : ∀ (m k n : Nat), k + m = np → m < n → zf_Mo_frees_L28 v1 v2 (nI np) (nI nc) pk pg pl cp cd ck cg n (sg (fr_t pk pl pg nc cp cd ck cg v1 v2) k) (nI k) = some (sg (fr_t pk pl pg nc cp cd ck cg v1 v2) np) := by
  intro m
  induction m with
  | zero =>
    intro k n hk hn
    obtain ⟨n, rfl⟩ : ∃ q, n = q + 1 := ⟨n - 1, by omega⟩
    have e : k = np := by omega
    subst e
    rw [zf_Mo_frees_L28, if_pos (nI_le (Nat.le_refl _) (by omega))]
  | succ m ih =>
    intro k n hk hn
    obtain ⟨n, rfl⟩ : ∃ q, n = q + 1 := ⟨n - 1, by omega⟩
    have e := ih (k + 1) n (by omega) (by omega)
    have hkn : k < np := by omega
    rw [zf_Mo_frees_L28, if_neg (nI_ge hkn (by omega)), pm_kd hc (by omega), pz_bs, pm_gr hc (by omega), pz_bs]
    rw [sg, fr_t] at e
    by_cases h1 : pl k = v2
    · by_cases h2 : kd pk nc cp cd ck 100000 k = v1
      · simp (disch := omega) only [nI_clamp, nI_1, pz_i2, h1, h2, if_true] at e ⊢
        exact e
      · simp (disch := omega) only [nI_clamp, nI_1, pz_i2, h1, h2, if_true, if_false] at e ⊢
        exact e
    · simp (disch := omega) only [nI_clamp, nI_1, pz_i2, h1, if_false] at e ⊢
      exact e
/-- the k-th own part -/
def op (po : Nat → Int32) (g k : Int32) : Nat → Nat → Int32 → Int32
  | 0, _, _ => -1
  | m + 1, j, own => if po j = g then (if own = k then nI j else op po g k m (j + 1) (own + 1)) else op po g k m (j + 1) own
theorem op_in (g k : Int32) : ∀ (m j : Nat) (own : Int32), j + m ≤ 24 → op po g k m j own = -1 ∨ ∃ i, i < j + m ∧ op po g k m j own = nI i := by
  intro m
  induction m with
  | zero => intro j own h; exact Or.inl rfl
  | succ m ih =>
    intro j own h
    rw [op]
    by_cases h1 : po j = g
    · rw [if_pos h1]
      by_cases h2 : own = k
      · rw [if_pos h2]; exact Or.inr ⟨j, by omega, rfl⟩
      · rw [if_neg h2]
        rcases ih (j + 1) (own + 1) (by omega) with q | ⟨i, q1, q2⟩
        · exact Or.inl q
        · exact Or.inr ⟨i, by omega, q2⟩
    · rw [if_neg h1]
      rcases ih (j + 1) own (by omega) with q | ⟨i, q1, q2⟩
      · exact Or.inl q
      · exact Or.inr ⟨i, by omega, q2⟩
theorem px_op (hp : np ≤ 24) (g k : Int32) : ∀ (m j n : Nat) (own : Int32), j + m = np → m < n → zf_Pa_ownPart_L5 g k (nI np) po n own (nI j) = some (op po g k m j own) := by
  intro m
  induction m with
  | zero =>
    intro j n own hj hn
    obtain ⟨n, rfl⟩ : ∃ q, n = q + 1 := ⟨n - 1, by omega⟩
    have e : j = np := by omega
    subst e
    rw [zf_Pa_ownPart_L5, if_pos (nI_le (Nat.le_refl _) (by omega))]; rfl
  | succ m ih =>
    intro j n own hj hn
    obtain ⟨n, rfl⟩ : ∃ q, n = q + 1 := ⟨n - 1, by omega⟩
    rw [zf_Pa_ownPart_L5, if_neg (nI_ge (show j < np by omega) (by omega)), op]
    simp (disch := omega) only [nI_clamp, nI_1, pz_i2, ih]
    by_cases h1 : po j = g
    · by_cases h2 : own = k
      · simp only [h1, h2, if_true]
      · simp only [h1, h2, if_true, if_false]
    · simp only [h1, if_false]
theorem pm_op (hp : np ≤ 24) (g k : Int32) : ∀ (m j n : Nat) (own : Int32), j + m = np → m < n → zf_Mo_partOf_L5 g k (nI np) po n own (nI j) = some (op po g k m j own) := by
  intro m
  induction m with
  | zero =>
    intro j n own hj hn
    obtain ⟨n, rfl⟩ : ∃ q, n = q + 1 := ⟨n - 1, by omega⟩
    have e : j = np := by omega
    subst e
    rw [zf_Mo_partOf_L5, if_pos (nI_le (Nat.le_refl _) (by omega))]; rfl
  | succ m ih =>
    intro j n own hj hn
    obtain ⟨n, rfl⟩ : ∃ q, n = q + 1 := ⟨n - 1, by omega⟩
    rw [zf_Mo_partOf_L5, if_neg (nI_ge (show j < np by omega) (by omega)), op]
    simp (disch := omega) only [nI_clamp, nI_1, pz_i2, ih]
    by_cases h1 : po j = g
    · by_cases h2 : own = k
      · simp only [h1, h2, if_true]
      · simp only [h1, h2, if_true, if_false]
    · simp only [h1, if_false]
abbrev og_t (po pk : Nat → Int32) (pg : Nat → Int64) (nc : Nat) (cp : Nat → Int32) (cd : Nat → Int64) (ck : Nat → Int32) (cg : Nat → Int64) (g u : Int32) (j : Nat) : Int64 := if po j = g then (if kd pk nc cp cd ck 100000 j = u then gr pg nc cp cd cg 100000 j else 0) else 0
theorem px_ogL (hp : np ≤ 24) (hc : nc ≤ 20) (g u : Int32) : ∀ (m k n : Nat), k + m = np → m < n → zf_Pa_ownGrams_L6 g u 100000 (nI np) po pk pg (nI nc) cp cd ck cg n (sg (og_t po pk pg nc cp cd ck cg g u) k) (nI k) = some (sg (og_t po pk pg nc cp cd ck cg g u) np) := by
  intro m
  induction m with
  | zero =>
    intro k n hk hn
    obtain ⟨n, rfl⟩ : ∃ q, n = q + 1 := ⟨n - 1, by omega⟩
    have e : k = np := by omega
    subst e
    rw [zf_Pa_ownGrams_L6, if_pos (nI_le (Nat.le_refl _) (by omega))]
  | succ m ih =>
    intro k n hk hn
    obtain ⟨n, rfl⟩ : ∃ q, n = q + 1 := ⟨n - 1, by omega⟩
    have e := ih (k + 1) n (by omega) (by omega)
    have hkn : k < np := by omega
    rw [zf_Pa_ownGrams_L6, if_neg (nI_ge hkn (by omega)), px_kd hc (by omega), pz_bs, px_gr hc (by omega), pz_bs]
    rw [sg, og_t] at e
    by_cases h1 : po k = g
    · by_cases h2 : kd pk nc cp cd ck 100000 k = u
      · simp (disch := omega) only [nI_clamp, nI_1, pz_i2, h1, h2, if_true] at e ⊢
        exact e
      · simp (disch := omega) only [nI_clamp, nI_1, pz_i2, h1, h2, if_true, if_false, Int64.add_zero] at e ⊢
        exact e
    · simp (disch := omega) only [nI_clamp, nI_1, pz_i2, h1, if_false, Int64.add_zero] at e ⊢
      exact e
theorem pm_seL (hp : np ≤ 24) (hc : nc ≤ 20) (v1 g v3 v4 v6 : Int32) {i : Nat} (hi : i < 24) {mgc : Int32} {mri : Nat → Int32} : ∀ (m k n : Nat), k + m = np → m < n → zf_Mo_seen_L130 v1 g v3 v4 (nI i) v6 mgc (nI np) (nI nc) po pk pg pl cp cd ck cg mri n (sg (og_t po pk pg nc cp cd ck cg g (kd pk nc cp cd ck 100000 i)) k) (nI k) = some (sg (og_t po pk pg nc cp cd ck cg g (kd pk nc cp cd ck 100000 i)) np) := by
  intro m
  induction m with
  | zero =>
    intro k n hk hn
    obtain ⟨n, rfl⟩ : ∃ q, n = q + 1 := ⟨n - 1, by omega⟩
    have e : k = np := by omega
    subst e
    rw [zf_Mo_seen_L130, if_pos (nI_le (Nat.le_refl _) (by omega))]
  | succ m ih =>
    intro k n hk hn
    obtain ⟨n, rfl⟩ : ∃ q, n = q + 1 := ⟨n - 1, by omega⟩
    have e := ih (k + 1) n (by omega) (by omega)
    have hkn : k < np := by omega
    have h10 : ¬ (1 : Int32) = 0 := by decide
    rw [zf_Mo_seen_L130, if_neg (nI_ge hkn (by omega)), pm_kd hc (by omega), pz_bs, pm_kd hc hi, pz_bs, pm_gr hc (by omega), pz_bs]
    rw [sg, og_t] at e
    by_cases h1 : po k = g
    · by_cases h2 : kd pk nc cp cd ck 100000 k = kd pk nc cp cd ck 100000 i
      · simp (disch := omega) only [nI_clamp, nI_1, pz_i2, h1, h2, h10, if_true, if_false] at e ⊢
        exact e
      · simp (disch := omega) only [nI_clamp, nI_1, pz_i2, h1, h2, if_true, if_false] at e ⊢
        exact e
    · simp (disch := omega) only [nI_clamp, nI_1, pz_i2, h1, if_false, if_true] at e ⊢
      exact e
/-- how many parts -/
def oc (po : Nat → Int32) (g : Int32) : Nat → Int32
  | 0 => 0
  | n + 1 => if po n = g then oc po g n + 1 else oc po g n
theorem px_oc (hp : np ≤ 24) (g : Int32) : ∀ (m k n : Nat), k + m = np → m < n → zf_Pa_ownCount_L4 g (nI np) po n (oc po g k) (nI k) = some (oc po g np) := by
  intro m
  induction m with
  | zero =>
    intro k n hk hn
    obtain ⟨n, rfl⟩ : ∃ q, n = q + 1 := ⟨n - 1, by omega⟩
    have e : k = np := by omega
    subst e
    rw [zf_Pa_ownCount_L4, if_pos (nI_le (Nat.le_refl _) (by omega))]
  | succ m ih =>
    intro k n hk hn
    obtain ⟨n, rfl⟩ : ∃ q, n = q + 1 := ⟨n - 1, by omega⟩
    have e := ih (k + 1) n (by omega) (by omega)
    rw [zf_Pa_ownCount_L4, if_neg (nI_ge (show k < np by omega) (by omega))]
    rw [oc] at e
    by_cases h1 : po k = g
    · simp (disch := omega) only [nI_clamp, nI_1, pz_i2, h1, if_true] at e ⊢
      exact e
    · simp (disch := omega) only [nI_clamp, nI_1, pz_i2, h1, if_false] at e ⊢
      exact e
theorem pm_oc (hp : np ≤ 24) (g : Int32) : ∀ (m k n : Nat), k + m = np → m < n → zf_Mo_countOf_L4 g (nI np) po n (oc po g k) (nI k) = some (oc po g np).toInt64 := by
  intro m
  induction m with
  | zero =>
    intro k n hk hn
    obtain ⟨n, rfl⟩ : ∃ q, n = q + 1 := ⟨n - 1, by omega⟩
    have e : k = np := by omega
    subst e
    rw [zf_Mo_countOf_L4, if_pos (nI_le (Nat.le_refl _) (by omega))]
  | succ m ih =>
    intro k n hk hn
    obtain ⟨n, rfl⟩ : ∃ q, n = q + 1 := ⟨n - 1, by omega⟩
    have e := ih (k + 1) n (by omega) (by omega)
    rw [zf_Mo_countOf_L4, if_neg (nI_ge (show k < np by omega) (by omega))]
    rw [oc] at e
    by_cases h1 : po k = g
    · simp (disch := omega) only [nI_clamp, nI_1, pz_i2, h1, if_true] at e ⊢
      exact e
    · simp (disch := omega) only [nI_clamp, nI_1, pz_i2, h1, if_false, Int32.add_zero] at e ⊢
      exact e
abbrev al_t (pk : Nat → Int32) (pg : Nat → Int64) (nc : Nat) (cp : Nat → Int32) (cd : Nat → Int64) (ck : Nat → Int32) (cg : Nat → Int64) (u : Int32) (j : Nat) : Int64 := if kd pk nc cp cd ck 100000 j = u then gr pg nc cp cd cg 100000 j else 0
theorem pm_alL (hp : np ≤ 24) (hc : nc ≤ 20) (u : Int32) : ∀ (m k n : Nat), k + m = np → m < n → zf_Mo_allOf_L5 u (nI np) (nI nc) pk pg cp cd ck cg n (sg (al_t pk pg nc cp cd ck cg u) k) (nI k) = some (sg (al_t pk pg nc cp cd ck cg u) np) := by
  intro m
  induction m with
  | zero =>
    intro k n hk hn
    obtain ⟨n, rfl⟩ : ∃ q, n = q + 1 := ⟨n - 1, by omega⟩
    have e : k = np := by omega
    subst e
    rw [zf_Mo_allOf_L5, if_pos (nI_le (Nat.le_refl _) (by omega))]
  | succ m ih =>
    intro k n hk hn
    obtain ⟨n, rfl⟩ : ∃ q, n = q + 1 := ⟨n - 1, by omega⟩
    have e := ih (k + 1) n (by omega) (by omega)
    have hkn : k < np := by omega
    rw [zf_Mo_allOf_L5, if_neg (nI_ge hkn (by omega)), pm_kd hc (by omega), pz_bs, pm_gr hc (by omega), pz_bs]
    rw [sg, al_t] at e
    by_cases h2 : kd pk nc cp cd ck 100000 k = u
    · simp (disch := omega) only [nI_1, h2, if_true] at e ⊢
      exact e
    · simp (disch := omega) only [nI_1, h2, if_false] at e ⊢
      exact e
end PSL
end
section
/-! PURE: the state, and the calls that change it -/
def HG (n : Nat) (f : Nat → Int64) : Prop := ∀ j, j < n → ∃ w, w ≤ 1000000000 ∧ f j = lN w
theorem pz_rng (u c : Int32) : zf_Mo_isIn u.toInt64 0 c.toInt64 = (if u < 0 then some 0 else (if c < u then some 0 else some 1)) := by
  unfold zf_Mo_isIn
  have h1 : (u.toInt64 < 0) ↔ u < 0 := by rw [Int64.lt_iff_toInt_lt, Int32.lt_iff_toInt_lt, Int32.toInt_toInt64]; rfl
  have h2 : (c.toInt64 < u.toInt64) ↔ c < u := by rw [Int64.lt_iff_toInt_lt, Int32.lt_iff_toInt_lt, Int32.toInt_toInt64, Int32.toInt_toInt64]
  by_cases a : u < 0
  · rw [if_pos a, if_pos (h1.mpr a)]
  · rw [if_neg a, if_neg (fun q => a (h1.mp q))]
    by_cases b : c < u
    · rw [if_pos b, if_pos (h2.mpr b)]
    · rw [if_neg b, if_neg (fun q => b (h2.mp q))]
theorem pz_life (u : Int32) : zf_Mo_isIn u.toInt64 (0 : Int64) (200 : Int64) = zf_MP_isLife u := (pz_rng u 200).trans rfl
theorem pz_lt8 (u : Int32) : (7 : Int32) < u ↔ (8 : Int32) ≤ u := by
  rw [Int32.lt_iff_toInt_lt, Int32.le_iff_toInt_le, show (7 : Int32).toInt = 7 from rfl, show (8 : Int32).toInt = 8 from rfl]
  omega
theorem pz_pers (u : Int32) : zf_Mo_isIn u.toInt64 (0 : Int64) (7 : Int64) = zf_MP_isPerson u := by
  rw [show zf_Mo_isIn u.toInt64 (0 : Int64) (7 : Int64) = _ from pz_rng u 7, zf_MP_isPerson]
  by_cases a : u < 0
  · rw [if_pos a, if_pos a]
  · rw [if_neg a, if_neg a]
    by_cases b : (7 : Int32) < u
    · rw [if_pos b, if_pos ((pz_lt8 u).mp b)]
    · rw [if_neg b, if_neg (fun q => b ((pz_lt8 u).mpr q))]
/-- a good number: it answers 1 and is under the count; else 0 -/
theorem pz_good (u : Int32) {g : Nat} (hg : g < 2 ^ 31) : (∃ k, k < g ∧ u = nI k ∧ zf_MP_isGood u (nI g) = some 1 ∧ zf_Mo_isGood u (nI g) = some 1) ∨ (zf_MP_isGood u (nI g) = some 0 ∧ zf_Mo_isGood u (nI g) = some 0) := by
  rcases pk_ix u hg with h | h | ⟨k, h1, h2⟩
  · exact Or.inr ⟨by rw [zf_MP_isGood, if_pos h], by rw [zf_Mo_isGood, if_pos h]⟩
  · by_cases q : u < 0
    · exact Or.inr ⟨by rw [zf_MP_isGood, if_pos q], by rw [zf_Mo_isGood, if_pos q]⟩
    · exact Or.inr ⟨by rw [zf_MP_isGood, if_neg q, if_pos h], by rw [zf_Mo_isGood, if_neg q, if_pos h]⟩
  · subst h2
    refine Or.inl ⟨k, h1, rfl, ?_, ?_⟩
    · rw [zf_MP_isGood, if_neg (nI_pos (by omega)), if_neg (nI_ge h1 hg)]
    · rw [zf_Mo_isGood, if_neg (nI_pos (by omega)), if_neg (nI_ge h1 hg)]
theorem pz_part (u : Int32) {g : Nat} (hg : g < 2 ^ 31) : (∃ k, k < g ∧ u = nI k ∧ zf_Pa_has u (nI g) = some 1 ∧ zf_Mo_isPart u (nI g) = some 1) ∨ (zf_Pa_has u (nI g) = some 0 ∧ zf_Mo_isPart u (nI g) = some 0) := pz_good u hg
theorem pz_kind (u : Int32) : (∃ k, k < 5 ∧ u = nI k ∧ zf_MP_isKind u = some 1 ∧ zf_Mo_isKind u = some 1) ∨ (zf_MP_isKind u = some 0 ∧ zf_Mo_isKind u = some 0) := pz_good u (g := 5) (by omega)
theorem pz_b1 : ¬ (1 : Int32) = 0 := by decide
theorem pp_good {g : Nat} (hg : g ≤ 8) : ∃ a g', g' ≤ 8 ∧ zf_MP_good (nI g) = some (a, nI g') ∧ zf_Mo_good (nI g) = some (a, nI g') := by
  by_cases h : g = 8
  · subst h
    exact ⟨-1, 8, by omega, rfl, rfl⟩
  · refine ⟨nI g + 1 - 1, g + 1, by omega, ?_, ?_⟩
    · rw [zf_MP_good, if_pos (show nI g < (8 : Int32) from nI_lt (b := 8) (by omega) (by omega)), nI_1]
    · rw [zf_Mo_good, if_neg (show ¬ nI g = (8 : Int32) from fun q => h ((nI_eq (b := 8) (by omega) (by omega)).mp q)), nI_1]
/-- what holds of parts, changes, formula -/
def IP (np : Nat) (po pk pi : Nat → Int32) (pg : Nat → Int64) : Prop := np ≤ 24 ∧ HO np po ∧ HI np pi ∧ HK np pk ∧ HG np pg ∧ ∃ rk : Nat → Nat, ∀ j, j < np → ∀ i, i < 8 → pi j = nI i → rk i < rk (ow po j)
def IC (nc : Nat) (ck : Nat → Int32) (cg : Nat → Int64) : Prop := nc ≤ 20 ∧ HK nc ck ∧ HG nc cg
theorem HG.push {n : Nat} {f : Nat → Int64} (h : HG n f) {x : Int64} {w : Nat} (hw : w ≤ 1000000000) (hx : x = lN w) : HG (n + 1) (vp_updL f n x) := fun j hj => by
  rw [pz_updL]
  by_cases q : j = n
  · rw [if_pos q]; exact ⟨w, hw, hx⟩
  · rw [if_neg q]; exact h j (by omega)
theorem HK.push {n : Nat} {f : Nat → Int32} (h : HK n f) {x : Int32} {k : Nat} (hk : k < 5) (hx : x = nI k) : HK (n + 1) (upd f n x) := fun j hj => by
  rw [pz_upd]
  by_cases q : j = n
  · rw [if_pos q]; exact ⟨k, hk, hx⟩
  · rw [if_neg q]; exact h j (by omega)
theorem HO.push {n : Nat} {f : Nat → Int32} (h : HO n f) {x : Int32} {k : Nat} (hk : k < 8) (hx : x = nI k) : HO (n + 1) (upd f n x) := fun j hj => by
  rw [pz_upd]
  by_cases q : j = n
  · rw [if_pos q]; exact ⟨k, hk, hx⟩
  · rw [if_neg q]; exact h j (by omega)
theorem HI.push {n : Nat} {f : Nat → Int32} (h : HI n f) : HI (n + 1) (upd f n (-1)) := fun j hj => by
  rw [pz_upd]
  by_cases q : j = n
  · rw [if_pos q]; exact Or.inl rfl
  · rw [if_neg q]; exact h j (by omega)
theorem pz_gram {x : Int64} (h1 : ¬ x < 0) (h2 : ¬ (1000000000 : Int64) < x) : ∃ w, w ≤ 1000000000 ∧ x = lN w := by
  obtain ⟨k, hk, e⟩ := pk_lOf h1
  refine ⟨k, ?_, e⟩
  subst e
  rw [show (1000000000 : Int64) = lN 1000000000 from rfl, pk_lLT (by omega) hk] at h2
  omega
/-- kind and grams, both ways -/
theorem pz_mat (u : Int32) (x : Int64) : (∃ k w, k < 5 ∧ u = nI k ∧ w ≤ 1000000000 ∧ x = lN w ∧ zf_MP_isMaterial u x = some 1 ∧ zf_Mo_isKind u = some 1 ∧ zf_Mo_isIn x 0 1000000000 = some 1) ∨ (zf_MP_isMaterial u x = some 0 ∧ (zf_Mo_isKind u = some 0 ∨ (zf_Mo_isKind u = some 1 ∧ zf_Mo_isIn x 0 1000000000 = some 0))) := by
  rcases pz_kind u with ⟨k, hk, e, a, b⟩ | ⟨a, b⟩
  · by_cases h1 : x < 0
    · exact Or.inr ⟨by rw [zf_MP_isMaterial, a, pz_bs, if_neg pz_b1, if_pos h1], Or.inr ⟨b, by rw [zf_Mo_isIn, if_pos h1]⟩⟩
    · by_cases h2 : (1000000000 : Int64) < x
      · exact Or.inr ⟨by rw [zf_MP_isMaterial, a, pz_bs, if_neg pz_b1, if_neg h1, if_pos h2], Or.inr ⟨b, by rw [zf_Mo_isIn, if_neg h1, if_pos h2]⟩⟩
      · obtain ⟨w, hw, ew⟩ := pz_gram h1 h2
        exact Or.inl ⟨k, w, hk, e, hw, ew, by rw [zf_MP_isMaterial, a, pz_bs, if_neg pz_b1, if_neg h1, if_neg h2], b, by rw [zf_Mo_isIn, if_neg h1, if_neg h2]⟩
  · exact Or.inr ⟨by rw [zf_MP_isMaterial, a, pz_bs, if_pos rfl], Or.inl b⟩
theorem pz_isLife (u : Int32) : zf_MP_isLife u = some 1 ∨ zf_MP_isLife u = some 0 := by
  unfold zf_MP_isLife
  by_cases a : u < 0
  · rw [if_pos a]; exact Or.inr rfl
  · rw [if_neg a]
    by_cases b : (200 : Int32) < u
    · rw [if_pos b]; exact Or.inr rfl
    · rw [if_neg b]; exact Or.inl rfl
section PCA
variable {g np nc : Nat} {po pi pk pl ver : Nat → Int32} {pg : Nat → Int64} {cp : Nat → Int32} {cd : Nat → Int64} {ck : Nat → Int32} {cg : Nat → Int64}
theorem IP.push (h : IP np po pk pi pg) (hn : np < 24) {o k w : Nat} (ho : o < 8) (hk : k < 5) (hw : w ≤ 1000000000) : IP (np + 1) (upd po np (nI o)) (upd pk np (nI k)) (upd pi np (-1)) (vp_updL pg np (lN w)) := by
  obtain ⟨h1, h2, h3, h4, h5, rk, h6⟩ := h
  refine ⟨by omega, h2.push ho rfl, h3.push, h4.push hk rfl, h5.push hw rfl, rk, fun j hj i hi e => ?_⟩
  rw [pz_upd] at e
  by_cases q : j = np
  · rw [if_pos q] at e
    exact absurd e.symm (pz_neg i (by omega))
  · rw [if_neg q] at e
    have z : ow (upd po np (nI o)) j = ow po j := by rw [ow, ow, pz_upd, if_neg q]
    rw [z]
    exact h6 j (by omega) i hi e
theorem pp_part (hg : g ≤ 8) (hI : IP np po pk pi pg) (u1 u2 : Int32) (u3 : Int64) (u5 : Int32) : ∃ a ver' np' po' pk' pg' pl' pi', IP np' po' pk' pi' pg' ∧ zf_MP_part u1 u2 u3 u5 (nI g) ver (nI np) po pk pg pl pi = some (a, ver', nI np', po', pk', pg', pl', pi') ∧ zf_Mo_part u1 u2 u3 u5 (nI g) (nI np) ver po pk pg pl pi = some (a, nI np', ver', po', pk', pg', pl', pi') := by
  have hp := hI.1
  have same : ∀ {P : Prop}, (zf_MP_part u1 u2 u3 u5 (nI g) ver (nI np) po pk pg pl pi = some (-1, ver, nI np, po, pk, pg, pl, pi)) → (zf_Mo_part u1 u2 u3 u5 (nI g) (nI np) ver po pk pg pl pi = some (-1, nI np, ver, po, pk, pg, pl, pi)) → ∃ a ver' np' po' pk' pg' pl' pi', IP np' po' pk' pi' pg' ∧ zf_MP_part u1 u2 u3 u5 (nI g) ver (nI np) po pk pg pl pi = some (a, ver', nI np', po', pk', pg', pl', pi') ∧ zf_Mo_part u1 u2 u3 u5 (nI g) (nI np) ver po pk pg pl pi = some (a, nI np', ver', po', pk', pg', pl', pi') := fun a b => ⟨-1, ver, np, po, pk, pg, pl, pi, hI, a, b⟩
  by_cases hn : np = 24
  · subst hn
    refine same (P := True) ?_ ?_
    · rw [zf_MP_part, zf_Pa_isFull, if_neg (by decide), pz_bs, if_neg pz_b1]
    · rw [zf_Mo_part, if_pos (by decide)]
  · have hlt : np < 24 := by omega
    have f1 : zf_Pa_isFull (nI np) = some 0 := by rw [zf_Pa_isFull, if_pos (show nI np < (24 : Int32) from nI_lt (b := 24) hlt (by omega))]
    have f2 : ¬ nI np = (24 : Int32) := show ¬ nI np = nI 24 from fun q => hn ((nI_eq (by omega) (by omega)).mp q)
    rcases pz_good u1 (g := g) (by omega) with ⟨o, ho, eo, a1, b1⟩ | ⟨a1, b1⟩
    · rcases pz_mat u2 u3 with ⟨k, w, hk, ek, hw, ew, a2, b2, c2⟩ | ⟨a2, b2⟩
      · rcases pz_isLife u5 with a3 | a3
        · subst eo; subst ek; subst ew
          refine ⟨nI np + 1 - 1, upd ver o (ver o + 1), np + 1, upd po np (nI o), upd pk np (nI k), vp_updL pg np (lN w), upd pl np u5, upd pi np (-1), hI.push hlt (by omega) hk hw, ?_, ?_⟩
          · rw [zf_MP_part, f1, pz_bs, if_pos rfl, a1, pz_bs, if_neg pz_b1, a2, pz_bs, if_neg pz_b1, a3, pz_bs, if_neg pz_b1, zf_Pa_add, f1, pz_bs, if_pos rfl]
            simp (disch := omega) only [nI_clamp, pz_i2, pz_bs, nI_1]
          · rw [zf_Mo_part, if_neg f2, b1, pz_bs, if_neg pz_b1, b2, pz_bs, if_neg pz_b1, c2, pz_bs, if_neg pz_b1, pz_life, a3, pz_bs, if_neg pz_b1]
            simp (disch := omega) only [nI_clamp, pz_i2, nI_1]
        · refine same (P := True) ?_ ?_
          · rw [zf_MP_part, f1, pz_bs, if_pos rfl, a1, pz_bs, if_neg pz_b1, a2, pz_bs, if_neg pz_b1, a3, pz_bs, if_pos rfl]
          · rw [zf_Mo_part, if_neg f2, b1, pz_bs, if_neg pz_b1, b2, pz_bs, if_neg pz_b1, c2, pz_bs, if_neg pz_b1, pz_life, a3, pz_bs, if_pos rfl]
      · refine same (P := True) ?_ ?_
        · rw [zf_MP_part, f1, pz_bs, if_pos rfl, a1, pz_bs, if_neg pz_b1, a2, pz_bs, if_pos rfl]
        · rcases b2 with b2 | ⟨b2, c2⟩
          · rw [zf_Mo_part, if_neg f2, b1, pz_bs, if_neg pz_b1, b2, pz_bs, if_pos rfl]
          · rw [zf_Mo_part, if_neg f2, b1, pz_bs, if_neg pz_b1, b2, pz_bs, if_neg pz_b1, c2, pz_bs, if_pos rfl]
    · refine same (P := True) ?_ ?_
      · rw [zf_MP_part, f1, pz_bs, if_pos rfl, a1, pz_bs, if_pos rfl]
      · rw [zf_Mo_part, if_neg f2, b1, pz_bs, if_pos rfl]
theorem pp_life (hp : np ≤ 24) (ho : HO np po) (u1 u2 : Int32) : ∃ a ver' pl', zf_MP_life u1 u2 ver (nI np) po pl = some (a, ver', pl') ∧ zf_Mo_life u1 u2 (nI np) ver po pl = some (a, ver', pl') := by
  rcases pz_part u1 (g := np) (by omega) with ⟨j, hj, ej, a1, b1⟩ | ⟨a1, b1⟩
  · obtain ⟨q1, q2⟩ := ho.at_ hj
    rcases pz_isLife u2 with a3 | a3
    · subst ej
      refine ⟨1, upd ver (ow po j) (ver (ow po j) + 1), upd pl j u2, ?_, ?_⟩
      · rw [zf_MP_life, a1, pz_bs, if_neg pz_b1, a3, pz_bs, if_neg pz_b1]
        simp (disch := omega) only [nI_clamp, pz_i2, q1]
      · rw [zf_Mo_life, b1, pz_bs, if_neg pz_b1, pz_life, a3, pz_bs, if_neg pz_b1]
        simp (disch := omega) only [nI_clamp, pz_i2, q1]
    · exact ⟨0, ver, pl, by rw [zf_MP_life, a1, pz_bs, if_neg pz_b1, a3, pz_bs, if_pos rfl], by rw [zf_Mo_life, b1, pz_bs, if_neg pz_b1, pz_life, a3, pz_bs, if_pos rfl]⟩
  · exact ⟨0, ver, pl, by rw [zf_MP_life, a1, pz_bs, if_pos rfl], by rw [zf_Mo_life, b1, pz_bs, if_pos rfl]⟩
theorem IC.push (h : IC nc ck cg) (hn : nc < 20) {k w : Nat} (hk : k < 5) (hw : w ≤ 1000000000) : IC (nc + 1) (upd ck nc (nI k)) (vp_updL cg nc (lN w)) := ⟨by omega, h.2.1.push hk rfl, h.2.2.push hw rfl⟩
theorem px_add (hn : nc < 20) (u1 : Int32) (u2 : Int64) (u4 : Int32) (u5 : Int64) : zf_Ch_add u1 u2 u4 u5 (nI nc) cp cd ck cg = some (nI (nc + 1), upd cp nc u1, vp_updL cd nc u2, upd ck nc u4, vp_updL cg nc u5) := by
  rw [zf_Ch_add, zf_Ch_isFull, if_pos (show nI nc < (20 : Int32) from nI_lt (b := 20) hn (by omega)), pz_bs, if_pos rfl]
  simp (disch := omega) only [nI_clamp, pz_i2, nI_1]
theorem pm_add (hn : nc < 20) (u1 : Int32) (u2 : Int64) (u4 : Int32) (u5 : Int64) : zf_Mo_add u1 u2 u4 u5 (nI nc) cp cd ck cg = some (nI (nc + 1), upd cp nc u1, vp_updL cd nc u2, upd ck nc u4, vp_updL cg nc u5) := by
  rw [zf_Mo_add]
  simp (disch := omega) only [nI_clamp, pz_i2, nI_1]
theorem pz_day (x : Int64) : (zf_MP_isDay x = some 1 ∧ zf_Mo_isIn x 0 100000 = some 1) ∨ (zf_MP_isDay x = some 0 ∧ zf_Mo_isIn x 0 100000 = some 0) := by
  unfold zf_MP_isDay zf_Mo_isIn
  by_cases a : x < 0
  · rw [if_pos a]; exact Or.inr ⟨rfl, rfl⟩
  · rw [if_neg a]
    by_cases b : (100000 : Int64) < x
    · rw [if_pos b]; exact Or.inr ⟨rfl, rfl⟩
    · rw [if_neg b]; exact Or.inl ⟨rfl, rfl⟩
theorem pp_change (hp : np ≤ 24) (ho : HO np po) (hI : IC nc ck cg) (u1 : Int32) (u2 : Int64) (u4 : Int32) (u5 : Int64) : ∃ a ver' nc' cp' cd' ck' cg', IC nc' ck' cg' ∧ zf_MP_change u1 u2 u4 u5 ver (nI np) po (nI nc) cp cd ck cg = some (a, ver', nI nc', cp', cd', ck', cg') ∧ zf_Mo_change u1 u2 u4 u5 (nI np) (nI nc) ver po cp cd ck cg = some (a, nI nc', ver', cp', cd', ck', cg') := by
  have hc := hI.1
  have same : ∀ {P : Prop}, (zf_MP_change u1 u2 u4 u5 ver (nI np) po (nI nc) cp cd ck cg = some (0, ver, nI nc, cp, cd, ck, cg)) → (zf_Mo_change u1 u2 u4 u5 (nI np) (nI nc) ver po cp cd ck cg = some (0, nI nc, ver, cp, cd, ck, cg)) → ∃ a ver' nc' cp' cd' ck' cg', IC nc' ck' cg' ∧ zf_MP_change u1 u2 u4 u5 ver (nI np) po (nI nc) cp cd ck cg = some (a, ver', nI nc', cp', cd', ck', cg') ∧ zf_Mo_change u1 u2 u4 u5 (nI np) (nI nc) ver po cp cd ck cg = some (a, nI nc', ver', cp', cd', ck', cg') := fun a b => ⟨0, ver, nc, cp, cd, ck, cg, hI, a, b⟩
  by_cases hn : nc = 20
  · subst hn
    refine same (P := True) ?_ ?_
    · rw [zf_MP_change, zf_Ch_isFull, if_neg (by decide), pz_bs, if_neg pz_b1]
    · rw [zf_Mo_change, if_pos (by decide)]
  · have hlt : nc < 20 := by omega
    have f1 : zf_Ch_isFull (nI nc) = some 0 := by rw [zf_Ch_isFull, if_pos (show nI nc < (20 : Int32) from nI_lt (b := 20) hlt (by omega))]
    have f2 : ¬ nI nc = (20 : Int32) := show ¬ nI nc = nI 20 from fun q => hn ((nI_eq (by omega) (by omega)).mp q)
    rcases pz_part u1 (g := np) (by omega) with ⟨j, hj, ej, a1, b1⟩ | ⟨a1, b1⟩
    · obtain ⟨q1, q2⟩ := ho.at_ hj
      rcases pz_day u2 with ⟨a2, b2⟩ | ⟨a2, b2⟩
      · rcases pz_mat u4 u5 with ⟨k, w, hk, ek, hw, ew, a3, b3, c3⟩ | ⟨a3, b3⟩
        · subst ej; subst ek; subst ew
          refine ⟨1, upd ver (ow po j) (ver (ow po j) + 1), nc + 1, upd cp nc (nI j), vp_updL cd nc u2, upd ck nc (nI k), vp_updL cg nc (lN w), hI.push hlt hk hw, ?_, ?_⟩
          · rw [zf_MP_change, f1, pz_bs, if_pos rfl, a1, pz_bs, if_neg pz_b1, a2, pz_bs, if_neg pz_b1, a3, pz_bs, if_neg pz_b1, px_add hlt, pz_bs]
            simp (disch := omega) only [nI_clamp, pz_i2, q1]
          · rw [zf_Mo_change, if_neg f2, b1, pz_bs, if_neg pz_b1, b2, pz_bs, if_neg pz_b1, b3, pz_bs, if_neg pz_b1, c3, pz_bs, if_neg pz_b1, pm_add hlt, pz_bs]
            simp (disch := omega) only [nI_clamp, pz_i2, q1]
        · refine same (P := True) ?_ ?_
          · rw [zf_MP_change, f1, pz_bs, if_pos rfl, a1, pz_bs, if_neg pz_b1, a2, pz_bs, if_neg pz_b1, a3, pz_bs, if_pos rfl]
          · rcases b3 with b3 | ⟨b3, c3⟩
            · rw [zf_Mo_change, if_neg f2, b1, pz_bs, if_neg pz_b1, b2, pz_bs, if_neg pz_b1, b3, pz_bs, if_pos rfl]
            · rw [zf_Mo_change, if_neg f2, b1, pz_bs, if_neg pz_b1, b2, pz_bs, if_neg pz_b1, b3, pz_bs, if_neg pz_b1, c3, pz_bs, if_pos rfl]
      · refine same (P := True) ?_ ?_
        · rw [zf_MP_change, f1, pz_bs, if_pos rfl, a1, pz_bs, if_neg pz_b1, a2, pz_bs, if_pos rfl]
        · rw [zf_Mo_change, if_neg f2, b1, pz_bs, if_neg pz_b1, b2, pz_bs, if_pos rfl]
    · refine same (P := True) ?_ ?_
      · rw [zf_MP_change, f1, pz_bs, if_pos rfl, a1, pz_bs, if_pos rfl]
      · rw [zf_Mo_change, if_neg f2, b1, pz_bs, if_pos rfl]
theorem pp_version (hg : g ≤ 8) (u1 : Int32) : ∃ a, zf_MP_version u1 (nI g) ver = some a ∧ zf_Mo_version u1 (nI g) ver = some a := by
  rcases pz_good u1 (g := g) (by omega) with ⟨k, hk, ek, a1, b1⟩ | ⟨a1, b1⟩
  · subst ek
    refine ⟨ver k, ?_, ?_⟩
    · rw [zf_MP_version, a1, pz_bs, if_neg pz_b1]
      simp (disch := omega) only [nI_clamp, pz_i2]
    · rw [zf_Mo_version, b1, pz_bs, if_neg pz_b1]
      simp (disch := omega) only [nI_clamp, pz_i2]
  · exact ⟨-1, by rw [zf_MP_version, a1, pz_bs, if_pos rfl], by rw [zf_Mo_version, b1, pz_bs, if_pos rfl]⟩
theorem pz_person (u : Int32) : (∃ k, k < 8 ∧ u = nI k ∧ zf_MP_isPerson u = some 1) ∨ zf_MP_isPerson u = some 0 := by
  rcases pz_good u (g := 8) (by omega) with ⟨k, hk, ek, a1, -⟩ | ⟨a1, -⟩
  · exact Or.inl ⟨k, hk, ek, a1⟩
  · exact Or.inr a1
theorem pz_ri (p k : Nat) : nI p * (8 : Int32) + nI k = nI (8 * p + k) := by
  rw [show (8 : Int32) = nI 8 from rfl, pk_mul, nI_add, Nat.mul_comm]
theorem pz_ri2 (p k : Nat) : (8 : Int32) * nI p + nI k = nI (8 * p + k) := by
  rw [show (8 : Int32) = nI 8 from rfl, pk_mul, nI_add]
theorem pp_right {rig : Nat → Int32} (hg : g ≤ 8) (u1 u2 u3 : Int32) : ∃ a rig', zf_MP_right u1 u2 u3 (nI g) rig = some (a, rig') ∧ zf_Mo_right u1 u2 u3 (nI g) rig = some (a, rig') := by
  rcases pz_person u1 with ⟨p, hp, ep, a0⟩ | a0
  · rcases pz_good u2 (g := g) (by omega) with ⟨k, hk, ek, a1, b1⟩ | ⟨a1, b1⟩
    · subst ep; subst ek
      refine ⟨1, upd rig (8 * p + k) (vp_nar .boolean u3), ?_, ?_⟩
      · rw [zf_MP_right, a0, pz_bs, if_neg pz_b1, a1, pz_bs, if_neg pz_b1, zf_MP_rightIndex, pz_bs, pz_ri]
        simp (disch := omega) only [nI_clamp, pz_i2]
      · rw [zf_Mo_right, pz_pers, a0, pz_bs, if_neg pz_b1, b1, pz_bs, if_neg pz_b1, pz_ri2]
        simp (disch := omega) only [nI_clamp, pz_i2]
    · exact ⟨0, rig, by rw [zf_MP_right, a0, pz_bs, if_neg pz_b1, a1, pz_bs, if_pos rfl], by rw [zf_Mo_right, pz_pers, a0, pz_bs, if_neg pz_b1, b1, pz_bs, if_pos rfl]⟩
  · exact ⟨0, rig, by rw [zf_MP_right, a0, pz_bs, if_pos rfl], by rw [zf_Mo_right, pz_pers, a0, pz_bs, if_pos rfl]⟩
theorem pp_unit {tn : Nat} {ft : Nat → Int32} (ht : tn ≤ 300) (u1 : Int32) : ∃ a tn' ft', tn' ≤ 300 ∧ zf_MP_unit u1 (nI tn) ft = some (a, nI tn', ft') ∧ zf_Mo_unit u1 (nI tn) ft = some (a, nI tn', ft') := by
  have e := pz_rng u1 255
  have e : zf_Mo_isIn u1.toInt64 0 255 = _ := e
  by_cases h1 : u1 < 0
  · exact ⟨0, tn, ft, ht, by rw [zf_MP_unit, zf_Fo_addByte, if_pos h1, pz_bs], by rw [zf_Mo_unit, e, if_pos h1, pz_bs, if_pos rfl]⟩
  · by_cases h2 : (255 : Int32) < u1
    · exact ⟨0, tn, ft, ht, by rw [zf_MP_unit, zf_Fo_addByte, if_neg h1, if_pos h2, pz_bs], by rw [zf_Mo_unit, e, if_neg h1, if_pos h2, pz_bs, if_pos rfl]⟩
    · by_cases h3 : tn = 300
      · subst h3
        exact ⟨0, 300, ft, ht, by rw [zf_MP_unit, zf_Fo_addByte, if_neg h1, if_neg h2, if_neg (by decide), pz_bs], by rw [zf_Mo_unit, e, if_neg h1, if_neg h2, pz_bs, if_neg pz_b1, if_pos (by decide)]⟩
      · refine ⟨1, tn + 1, upd ft tn u1, by omega, ?_, ?_⟩
        · rw [zf_MP_unit, zf_Fo_addByte, if_neg h1, if_neg h2, if_pos (show nI tn < (300 : Int32) from nI_lt (b := 300) (by omega) (by omega))]
          simp (disch := omega) only [nI_clamp, pz_i2, nI_1, pz_bs]
        · rw [zf_Mo_unit, e, if_neg h1, if_neg h2, pz_bs, if_neg pz_b1, if_neg (show ¬ nI tn = (300 : Int32) from fun q => h3 ((nI_eq (b := 300) (by omega) (by omega)).mp q))]
          simp (disch := omega) only [nI_clamp, pz_i2, nI_1]
end PCA
end
section
/-! PURE: the calls that ask: total, frees, seen, mark, most -/
section PAS
variable {g np nc : Nat} {po pi pk pl ver rig : Nat → Int32} {pg : Nat → Int64} {cp : Nat → Int32} {cd : Nat → Int64} {ck : Nat → Int32} {cg : Nat → Int64} {d : Int64}
theorem hk_kd (h1 : HK np pk) (h2 : HK nc ck) : HK np (kd pk nc cp cd ck d) := fun j hj => by
  unfold kd
  cases hl : lk cp cd (nI j) d nc with
  | none => exact h1 j hj
  | some f => exact h2 f (lk_lt hl)
theorem pp_totalOn (hg : g ≤ 8) (hI : IP np po pk pi pg) (hC : IC nc ck cg) (u1 u2 : Int32) (u3 : Int64) (sm nt nl nd mow msu mne : Nat → Int64) : ∃ a s1 t1 t2 t3 m1 m2 m3, zf_MP_totalOn u1 u2 u3 (nI g) (nI np) sm po pk pg pi (nI nc) cp cd ck cg nt nl nd = some (a, s1, t1, t2, t3) ∧ zf_Mo_totalOn u1 u2 u3 (nI g) (nI np) (nI nc) po pk pg pi cp cd ck cg mow msu mne = some (a, m1, m2, m3) := by
  obtain ⟨hp, ho, hi, hk, -, -⟩ := hI
  obtain ⟨hc, hck, -⟩ := hC
  rcases pz_good u1 (g := g) (by omega) with ⟨q, hq, eq, a1, b1⟩ | ⟨a1, b1⟩
  · rcases pz_kind u2 with ⟨k, hk5, ek, a2, b2⟩ | ⟨a2, b2⟩
    · rcases pz_day u3 with ⟨a3, b3⟩ | ⟨a3, b3⟩
      · subst eq; subst ek
        obtain ⟨s1, t1, t2, t3, e1, h1⟩ := px_sw (pg := pg) (cg := cg) (d := u3) hp hc ho hi (hk_kd hk hck) (show q < 8 by omega) sm nt nl nd
        obtain ⟨m1, m2, m3, e2, h2⟩ := pm_sum (pk := pk) (pg := pg) (cp := cp) (cd := cd) (ck := ck) (cg := cg) (d := u3) hp hc ho hi (nI k) mow msu mne
        refine ⟨s1 k, s1, t1, t2, t3, m1, m2, m3, ?_, ?_⟩
        · rw [zf_MP_totalOn, a1, pz_bs, if_neg pz_b1, a2, pz_bs, if_neg pz_b1, a3, pz_bs, if_neg pz_b1, e1, pz_bs]
          simp (disch := omega) only [nI_clamp, pz_i2]
        · rw [zf_Mo_totalOn, b1, pz_bs, if_neg pz_b1, b2, pz_bs, if_neg pz_b1, b3, pz_bs, if_neg pz_b1, e2, pz_bs]
          simp (disch := omega) only [nI_clamp, pz_i2]
          rw [h2 q (by omega), h1 k hk5, p_total ho hi (by omega)]
      · exact ⟨-1, sm, nt, nl, nd, mow, msu, mne, by rw [zf_MP_totalOn, a1, pz_bs, if_neg pz_b1, a2, pz_bs, if_neg pz_b1, a3, pz_bs, if_pos rfl], by rw [zf_Mo_totalOn, b1, pz_bs, if_neg pz_b1, b2, pz_bs, if_neg pz_b1, b3, pz_bs, if_pos rfl]⟩
    · exact ⟨-1, sm, nt, nl, nd, mow, msu, mne, by rw [zf_MP_totalOn, a1, pz_bs, if_neg pz_b1, a2, pz_bs, if_pos rfl], by rw [zf_Mo_totalOn, b1, pz_bs, if_neg pz_b1, b2, pz_bs, if_pos rfl]⟩
  · exact ⟨-1, sm, nt, nl, nd, mow, msu, mne, by rw [zf_MP_totalOn, a1, pz_bs, if_pos rfl], by rw [zf_Mo_totalOn, b1, pz_bs, if_pos rfl]⟩
theorem pp_total (hg : g ≤ 8) (hI : IP np po pk pi pg) (hC : IC nc ck cg) (u1 u2 : Int32) (sm nt nl nd mow msu mne : Nat → Int64) : ∃ a s1 t1 t2 t3 m1 m2 m3, zf_MP_total u1 u2 (nI g) (nI np) sm po pk pg pi (nI nc) cp cd ck cg nt nl nd = some (a, s1, t1, t2, t3) ∧ zf_Mo_total u1 u2 (nI g) (nI np) (nI nc) po pk pg pi cp cd ck cg mow msu mne = some (a, m1, m2, m3) := by
  obtain ⟨a, s1, t1, t2, t3, m1, m2, m3, h1, h2⟩ := pp_totalOn (cp := cp) (cd := cd) hg hI hC u1 u2 100000 sm nt nl nd mow msu mne
  exact ⟨a, s1, t1, t2, t3, m1, m2, m3, by rw [zf_MP_total, h1, pz_bs], by rw [zf_Mo_total, h2, pz_bs]⟩
theorem pp_frees (hp : np ≤ 24) (hc : nc ≤ 20) (u1 u2 : Int32) : ∃ a, zf_MP_frees u1 u2 (nI np) pk pg pl (nI nc) cp cd ck cg = some a ∧ zf_Mo_frees u1 u2 (nI np) (nI nc) pk pg pl cp cd ck cg = some a := by
  rcases pz_kind u1 with ⟨k, hk5, ek, a2, b2⟩ | ⟨a2, b2⟩
  · rcases pz_isLife u2 with a3 | a3
    · refine ⟨sg (fr_t pk pl pg nc cp cd ck cg u1 u2) np, ?_, ?_⟩
      · rw [zf_MP_frees, a2, pz_bs, if_neg pz_b1, a3, pz_bs, if_neg pz_b1]
        exact px_frL hp hc u1 u2 np 0 2000 (by omega) (by omega)
      · rw [zf_Mo_frees, b2, pz_bs, if_neg pz_b1, pz_life, a3, pz_bs, if_neg pz_b1]
        exact pm_frL hp hc u1 u2 np 0 2000 (by omega) (by omega)
    · exact ⟨-1, by rw [zf_MP_frees, a2, pz_bs, if_neg pz_b1, a3, pz_bs, if_pos rfl], by rw [zf_Mo_frees, b2, pz_bs, if_neg pz_b1, pz_life, a3, pz_bs, if_pos rfl]⟩
  · exact ⟨-1, by rw [zf_MP_frees, a2, pz_bs, if_pos rfl], by rw [zf_Mo_frees, b2, pz_bs, if_pos rfl]⟩
theorem pz_what (u : Int32) : (u = 0 ∨ u = 1 ∨ u = 2) ∧ zf_Mo_isIn u.toInt64 0 2 = some 1 ∨ (¬ u = 0 ∧ ¬ u = 1 ∧ ¬ u = 2) ∧ zf_Mo_isIn u.toInt64 0 2 = some 0 := by
  have e : zf_Mo_isIn u.toInt64 0 2 = _ := pz_rng u 2
  rcases pk_ix u (n := 3) (by omega) with h | h | ⟨k, h1, h2⟩
  · refine Or.inr ⟨⟨?_, ?_, ?_⟩, by rw [e, if_pos h]⟩ <;> (rintro rfl; exact absurd h (by decide))
  · have h0 : ¬ u < 0 := by
      rw [Int32.lt_iff_toInt_lt]
      rw [Int32.le_iff_toInt_le, nI_toInt (by omega)] at h
      rw [Int32.toInt_zero]
      omega
    have h2 : (2 : Int32) < u := by
      rw [Int32.lt_iff_toInt_lt, show (2 : Int32).toInt = 2 from rfl]
      rw [Int32.le_iff_toInt_le, nI_toInt (by omega)] at h
      omega
    refine Or.inr ⟨⟨?_, ?_, ?_⟩, by rw [e, if_neg h0, if_pos h2]⟩ <;> (rintro rfl; exact absurd h2 (by decide))
  · rcases (show k = 0 ∨ k = 1 ∨ k = 2 by omega) with rfl | rfl | rfl
    · subst h2; exact Or.inl ⟨Or.inl rfl, by rw [e]; rfl⟩
    · subst h2; exact Or.inl ⟨Or.inr (Or.inl rfl), by rw [e]; rfl⟩
    · subst h2; exact Or.inl ⟨Or.inr (Or.inr rfl), by rw [e]; rfl⟩
theorem pp_seen (hg : g ≤ 8) (hp : np ≤ 24) (hc : nc ≤ 20) (u1 u2 u3 u4 : Int32) : ∃ a, zf_MP_seen u1 u2 u3 u4 (nI g) rig (nI np) po pk pg pl (nI nc) cp cd ck cg = some a ∧ zf_Mo_seen u1 u2 u3 u4 (nI g) (nI np) (nI nc) po pk pg pl cp cd ck cg rig = some a := by
  rcases pz_person u1 with ⟨p, hp8, ep, a0⟩ | a0
  · rcases pz_good u2 (g := g) (by omega) with ⟨q, hq, eq, a1, b1⟩ | ⟨a1, b1⟩
    · have x1 : zf_Pa_ownPart u2 u3 (nI np) po = some (op po u2 u3 np 0 0) := px_op hp u2 u3 np 0 2000 0 (by omega) (by omega)
      have y1 : zf_Mo_partOf u2 u3 (nI np) po = some (op po u2 u3 np 0 0) := pm_op hp u2 u3 np 0 2000 0 (by omega) (by omega)
      have hm1 : ¬ (0 : Int32) ≤ -1 := by decide
      subst ep; subst eq
      rcases op_in (po := po) (nI q) u3 np 0 0 (by omega) with h | ⟨i, hi, h⟩
      · refine ⟨-1, ?_, ?_⟩
        · rw [zf_MP_seen, a0, pz_bs, if_neg pz_b1, a1, pz_bs, if_neg pz_b1, x1, pz_bs, h, if_pos rfl]
        · rw [zf_Mo_seen, pz_pers, a0, pz_bs, if_neg pz_b1, b1, pz_bs, if_neg pz_b1]
          rcases pz_what u4 with ⟨-, w⟩ | ⟨-, w⟩
          · rw [w, pz_bs, if_neg pz_b1, y1, pz_bs, h, if_neg hm1]
          · rw [w, pz_bs, if_pos rfl]
      · rw [h] at x1 y1
        have eX : zf_MP_seen (nI p) (nI q) u3 u4 (nI g) rig (nI np) po pk pg pl (nI nc) cp cd ck cg = (if u4 = 0 then some (kd pk nc cp cd ck 100000 i).toInt64 else (if u4 = 1 then (if rig (8 * p + q) = 0 then some (sg (og_t po pk pg nc cp cd ck cg (nI q) (kd pk nc cp cd ck 100000 i)) np) else some (gr pg nc cp cd cg 100000 i)) else (if u4 = 2 then (if rig (8 * p + q) = 0 then some (-2) else some (pl i).toInt64) else some (-1)))) := by
          have og : zf_Pa_ownGrams (nI q) (kd pk nc cp cd ck 100000 i) 100000 (nI np) po pk pg (nI nc) cp cd ck cg = some (sg (og_t po pk pg nc cp cd ck cg (nI q) (kd pk nc cp cd ck 100000 i)) np) := px_ogL hp hc (nI q) _ np 0 2000 (by omega) (by omega)
          rw [zf_MP_seen, a0, pz_bs, if_neg pz_b1, a1, pz_bs, if_neg pz_b1, x1, pz_bs, if_neg (pz_neg i (by omega)), zf_MP_rightIndex, pz_bs, pz_ri, px_kd hc (by omega), pz_bs, px_gr hc (by omega), og]
          simp (disch := omega) only [nI_clamp, pz_i2, pz_bs]
        have eM : zf_Mo_isIn u4.toInt64 0 2 = some 1 → zf_Mo_seen (nI p) (nI q) u3 u4 (nI g) (nI np) (nI nc) po pk pg pl cp cd ck cg rig = (if u4 = 0 then some (kd pk nc cp cd ck 100000 i).toInt64 else (if u4 = 2 then (if rig (8 * p + q) = 0 then some (-2) else some (pl i).toInt64) else (if rig (8 * p + q) = 0 then some (sg (og_t po pk pg nc cp cd ck cg (nI q) (kd pk nc cp cd ck 100000 i)) np) else some (gr pg nc cp cd cg 100000 i)))) := fun w => by
          have og : ∀ x mgc, zf_Mo_seen_L130 (nI p) (nI q) u3 u4 (nI i) x mgc (nI np) (nI nc) po pk pg pl cp cd ck cg rig 2000 0 0 = some (sg (og_t po pk pg nc cp cd ck cg (nI q) (kd pk nc cp cd ck 100000 i)) np) := fun x mgc => pm_seL hp hc (nI p) (nI q) u3 u4 x (by omega) np 0 2000 (by omega) (by omega)
          rw [zf_Mo_seen, pz_pers, a0, pz_bs, if_neg pz_b1, b1, pz_bs, if_neg pz_b1, w, pz_bs, if_neg pz_b1, y1, pz_bs, pz_p0 (by omega), pz_bs, pz_ri2, pm_kd hc (by omega), pz_bs, pm_gr hc (by omega), pz_bs, og]
          simp (disch := omega) only [nI_clamp, pz_i2]
        rcases pz_what u4 with ⟨w1, w⟩ | ⟨⟨w1, w2, w3⟩, w⟩
        · rw [eX, eM w]
          have h10 : ¬ (1 : Int32) = 0 := by decide
          have h20 : ¬ (2 : Int32) = 0 := by decide
          have h21 : ¬ (2 : Int32) = 1 := by decide
          have h12 : ¬ (1 : Int32) = 2 := by decide
          rcases w1 with rfl | rfl | rfl
          · rw [if_pos rfl, if_pos rfl]; exact ⟨_, rfl, rfl⟩
          · rw [if_neg h10, if_pos rfl, if_neg h10, if_neg h12]
            by_cases z : rig (8 * p + q) = 0
            · rw [if_pos z]; exact ⟨_, rfl, rfl⟩
            · rw [if_neg z]; exact ⟨_, rfl, rfl⟩
          · rw [if_neg h20, if_neg h21, if_pos rfl, if_neg h20, if_pos rfl]
            by_cases z : rig (8 * p + q) = 0
            · rw [if_pos z]; exact ⟨_, rfl, rfl⟩
            · rw [if_neg z]; exact ⟨_, rfl, rfl⟩
        · rw [eX, if_neg w1, if_neg w2, if_neg w3]
          refine ⟨-1, rfl, ?_⟩
          rw [zf_Mo_seen, pz_pers, a0, pz_bs, if_neg pz_b1, b1, pz_bs, if_neg pz_b1, w, pz_bs, if_pos rfl]
    · exact ⟨-1, by rw [zf_MP_seen, a0, pz_bs, if_neg pz_b1, a1, pz_bs, if_pos rfl], by rw [zf_Mo_seen, pz_pers, a0, pz_bs, if_neg pz_b1, b1, pz_bs, if_pos rfl]⟩
  · exact ⟨-1, by rw [zf_MP_seen, a0, pz_bs, if_pos rfl], by rw [zf_Mo_seen, pz_pers, a0, pz_bs, if_pos rfl]⟩
/-- the mark -/
def mxs (x t : Int64) : Int64 := (((x + t) + (1 : Int64)) * (6364136223846793005 : Int64)) ^^^ ((((x + t) + (1 : Int64)) * (6364136223846793005 : Int64)).toUInt64 >>> ((32 : Int32).toInt64.toUInt64 &&& Int64.toUInt64 63)).toInt64
def mkx (M : Int64 → Int64 → Int64) (T : Nat → Int64) : Nat → Nat → Int64 → Int64
  | 0, _, x => x
  | m + 1, k, x => mkx M T m (k + 1) (M x (T k))
def mkf (x : Int64) (v u4 : Int32) : Int32 := ((((x + v.toInt64) * (6364136223846793005 : Int64)).toUInt64 >>> (((8 : Int32) * ((7 : Int32) - u4)).toInt64.toUInt64 &&& Int64.toUInt64 63)).toInt64).toInt32 &&& (255 : Int32)
theorem px_mk {q : Nat} (hq : q < 8) (v2 : Int64) (v4 : Int32) (xgc xpn xcn : Int32) (sm nt nl nd : Nat → Int64) (T : Nat → Int64) (hT : ∀ k, k < 5 → sm k = T k) : ∀ (m k n : Nat) (x : Int64), k + m = 5 → m < n → zf_MP_mark_L47 (nI q) v2 v4 sm nt nl nd xgc ver xpn po pk pg pi xcn cp cd ck cg n x (nI k) = some (mkf (mkx mxs T m k x) (ver q) v4, sm, nt, nl, nd) := by
  intro m
  induction m with
  | zero =>
    intro k n x hk hn
    obtain ⟨n, rfl⟩ : ∃ q, n = q + 1 := ⟨n - 1, by omega⟩
    have e : k = 5 := by omega
    subst e
    rw [zf_MP_mark_L47, if_pos (by decide), mkx, mkf]
    simp (disch := omega) only [nI_clamp, pz_i2]
  | succ m ih =>
    intro k n x hk hn
    obtain ⟨n, rfl⟩ : ∃ q, n = q + 1 := ⟨n - 1, by omega⟩
    rw [zf_MP_mark_L47, if_neg (show ¬ (5 : Int32) ≤ nI k from nI_ge (b := 5) (by omega) (by omega))]
    simp (disch := omega) only [nI_clamp, pz_i2, nI_1, hT]
    rw [← mxs, ih (k + 1) n _ (by omega) (by omega), mkx]
theorem pz_mkf (x : Int64) (v u4 : Int32) : ((((x + v.toInt64) * (6364136223846793005 : Int64)).toUInt64 >>> (((56 : Int32) - ((8 : Int32) * u4)).toInt64.toUInt64 &&& Int64.toUInt64 63)).toInt64 &&& (255 : Int64)).toInt32 = mkf x v u4 := by
  rw [show (56 : Int32) - (8 : Int32) * u4 = (8 : Int32) * ((7 : Int32) - u4) by grind]
  rw [mkf, Int64.toInt32_and]
  rfl
theorem pm_mk (hp : np ≤ 24) (hc : nc ≤ 20) (ho : HO np po) (hi : HI np pi) {q : Nat} (hq : q < 8) (v2 : Int64) (v4 : Int32) (mgc : Int32) (T : Nat → Int64) (hT : ∀ k, k < 5 → T k = TX np po pi pk pg nc cp cd ck cg 100000 q k) : ∀ (m k n : Nat) (x : Int64) (mow msu mne : Nat → Int64), k + m = 5 → m < n → ∃ m1 m2 m3, zf_Mo_mark_L29 (nI q) v2 v4 mgc (nI np) (nI nc) ver po pk pg pi cp cd ck cg n x (nI k) mow msu mne = some (mkf (mkx mxs T m k x) (ver q) v4, m1, m2, m3) := by
  intro m
  induction m with
  | zero =>
    intro k n x mow msu mne hk hn
    obtain ⟨n, rfl⟩ : ∃ q, n = q + 1 := ⟨n - 1, by omega⟩
    have e : k = 5 := by omega
    subst e
    refine ⟨mow, msu, mne, ?_⟩
    rw [zf_Mo_mark_L29, if_pos (by decide), mkx]
    simp (disch := omega) only [nI_clamp, pz_i2]
    rw [pz_mkf]
  | succ m ih =>
    intro k n x mow msu mne hk hn
    obtain ⟨n, rfl⟩ : ∃ q, n = q + 1 := ⟨n - 1, by omega⟩
    obtain ⟨a, b, c, e2, h2⟩ := pm_sum (pk := pk) (pg := pg) (cp := cp) (cd := cd) (ck := ck) (cg := cg) (d := 100000) hp hc ho hi (nI k) mow msu mne
    have hb : b q = T k := by rw [h2 q hq, hT k (by omega), p_total ho hi hq]
    obtain ⟨m1, m2, m3, e⟩ := ih (k + 1) n (mxs x (T k)) a b c (by omega) (by omega)
    refine ⟨m1, m2, m3, ?_⟩
    rw [zf_Mo_mark_L29, if_neg (show ¬ (5 : Int32) ≤ nI k from nI_ge (b := 5) (by omega) (by omega)), e2, pz_bs]
    simp (disch := omega) only [nI_clamp, pz_i2, nI_1, hb]
    rw [← mxs, e, mkx]
theorem pp_mark (hg : g ≤ 8) (hI : IP np po pk pi pg) (hC : IC nc ck cg) (u1 : Int32) (u2 : Int64) (u4 : Int32) (sm nt nl nd mow msu mne : Nat → Int64) : ∃ a s1 t1 t2 t3 m1 m2 m3, zf_MP_mark u1 u2 u4 (nI g) ver (nI np) sm po pk pg pi (nI nc) cp cd ck cg nt nl nd = some (a, s1, t1, t2, t3) ∧ zf_Mo_mark u1 u2 u4 (nI g) (nI np) (nI nc) ver po pk pg pi cp cd ck cg mow msu mne = some (a, m1, m2, m3) := by
  obtain ⟨hp, ho, hi, hk, -, -⟩ := hI
  obtain ⟨hc, hck, -⟩ := hC
  rcases pz_good u1 (g := g) (by omega) with ⟨q, hq, eq, a1, b1⟩ | ⟨a1, b1⟩
  · rcases pz_person u4 with ⟨i, hi8, ei, a3⟩ | a3
    · subst eq; subst ei
      obtain ⟨s1, t1, t2, t3, e1, h1⟩ := px_sw (pg := pg) (cg := cg) (d := 100000) hp hc ho hi (hk_kd hk hck) (show q < 8 by omega) sm nt nl nd
      have xm := px_mk (ver := ver) (po := po) (pi := pi) (pk := pk) (pg := pg) (cp := cp) (cd := cd) (ck := ck) (cg := cg) (show q < 8 by omega) u2 (nI i) (nI g) (nI np) (nI nc) s1 t1 t2 t3 s1 (fun _ _ => rfl) 5 0 2000 u2 (by omega) (by omega)
      obtain ⟨m1, m2, m3, e2⟩ := pm_mk (ver := ver) (pk := pk) (pg := pg) (cp := cp) (cd := cd) (ck := ck) (cg := cg) hp hc ho hi (show q < 8 by omega) u2 (nI i) (nI g) s1 h1 5 0 2000 u2 mow msu mne (by omega) (by omega)
      refine ⟨mkf (mkx mxs s1 5 0 u2) (ver q) (nI i), s1, t1, t2, t3, m1, m2, m3, ?_, ?_⟩
      · rw [zf_MP_mark, a1, pz_bs, if_neg pz_b1, if_neg (nI_pos (by omega)), if_pos (show nI i < (8 : Int32) from nI_lt (b := 8) hi8 (by omega)), e1, pz_bs]
        exact xm
      · rw [zf_Mo_mark, b1, pz_bs, if_neg pz_b1, pz_pers, a3, pz_bs, if_neg pz_b1]
        exact e2
    · refine ⟨-1, sm, nt, nl, nd, mow, msu, mne, ?_, ?_⟩
      · rw [zf_MP_mark, a1, pz_bs, if_neg pz_b1]
        rw [zf_MP_isPerson] at a3
        by_cases z : u4 < 0
        · rw [if_pos z]
        · rw [if_neg z] at a3 ⊢
          rw [if_neg]
          intro w
          rw [if_neg (fun y => by
            rw [Int32.le_iff_toInt_le] at y
            rw [Int32.lt_iff_toInt_lt] at w
            omega)] at a3
          cases a3
      · rw [zf_Mo_mark, b1, pz_bs, if_neg pz_b1, pz_pers, a3, pz_bs, if_pos rfl]
  · exact ⟨-1, sm, nt, nl, nd, mow, msu, mne, by rw [zf_MP_mark, a1, pz_bs, if_pos rfl], by rw [zf_Mo_mark, b1, pz_bs, if_pos rfl]⟩
/-- the order of the kinds -/
def ah (T : Nat → Int64) (k : Nat) : Nat → Nat → Int32 → Int32
  | 0, _, a => a
  | m + 1, o, a => if T k < T o then ah T k m (o + 1) (a + 1) else (if T o = T k then (if k ≤ o then ah T k m (o + 1) a else ah T k m (o + 1) (a + 1)) else ah T k m (o + 1) a)
theorem px_ah (sm : Nat → Int64) {k : Nat} (hk : k < 5) : ∀ (m o n : Nat) (a : Int32), o + m = 5 → m < n → zf_MP_kindsAhead_L4 (nI k) sm n a (nI o) = some (ah sm k m o a) := by
  intro m
  induction m with
  | zero =>
    intro o n a ho hn
    obtain ⟨n, rfl⟩ : ∃ q, n = q + 1 := ⟨n - 1, by omega⟩
    have e : o = 5 := by omega
    subst e
    rw [zf_MP_kindsAhead_L4, if_pos (by decide)]; rfl
  | succ m ih =>
    intro o n a ho hn
    obtain ⟨n, rfl⟩ : ∃ q, n = q + 1 := ⟨n - 1, by omega⟩
    rw [zf_MP_kindsAhead_L4, if_neg (show ¬ (5 : Int32) ≤ nI o from nI_ge (b := 5) (by omega) (by omega)), ah]
    simp (disch := omega) only [nI_clamp, pz_i2, nI_1, ih, pz_le]
    by_cases h1 : sm k < sm o
    · simp only [if_pos h1]
    · by_cases h2 : sm o = sm k
      · by_cases h3 : k ≤ o
        · simp only [if_neg h1, if_pos h2, if_pos h3]
        · simp only [if_neg h1, if_pos h2, if_neg h3]
      · simp only [if_neg h1, if_neg h2]
theorem pm_ah (hp : np ≤ 24) (hc : nc ≤ 20) (T : Nat → Int64) (hT : ∀ k, k < 5 → T k = sg (al_t pk pg nc cp cd ck cg (nI k)) np) (v1 : Int32) {k : Nat} (hk : k < 5) (K : Int32 → Option Int32) : ∀ (m o n : Nat) (a : Int32), o + m = 5 → m < n → zf_Mo_most_L19 v1 (nI k) (T k) (nI np) (nI nc) pk pg cp cd ck cg K n a (nI o) = (if T k ≤ 0 then K (nI (k + 1)) else (if ah T k m o a = v1 then some (nI k) else K (nI (k + 1)))) := by
  intro m
  induction m with
  | zero =>
    intro o n a ho hn
    obtain ⟨n, rfl⟩ : ∃ q, n = q + 1 := ⟨n - 1, by omega⟩
    have e : o = 5 := by omega
    subst e
    rw [zf_Mo_most_L19, if_pos (by decide), nI_1, ah]
  | succ m ih =>
    intro o n a ho hn
    obtain ⟨n, rfl⟩ : ∃ q, n = q + 1 := ⟨n - 1, by omega⟩
    have e : zf_Mo_allOf (nI o) (nI np) (nI nc) pk pg cp cd ck cg = some (T o) := by
      rw [hT o (by omega)]
      exact pm_alL hp hc (nI o) np 0 2000 (by omega) (by omega)
    rw [zf_Mo_most_L19, if_neg (show ¬ (5 : Int32) ≤ nI o from nI_ge (b := 5) (by omega) (by omega)), ah, e, pz_bs]
    simp (disch := omega) only [nI_1, ih, pz_le, Int32.add_zero]
    by_cases h1 : T k < T o
    · simp only [if_pos h1]
    · by_cases h2 : T o = T k
      · by_cases h3 : k ≤ o
        · simp only [if_neg h1, if_pos h2, if_pos h3]
        · simp only [if_neg h1, if_pos h2, if_neg h3]
      · simp only [if_neg h1, if_neg h2]
def mo (T : Nat → Int64) (u : Int32) : Nat → Nat → Int32
  | 0, _ => -1
  | m + 1, k => if T k ≤ 0 then mo T u m (k + 1) else (if ah T k 5 0 0 = u then nI k else mo T u m (k + 1))
theorem px_mo (sm nt : Nat → Int64) (u xpn xcn : Int32) : ∀ (m k n : Nat), k + m = 5 → m < n → zf_MP_most_L20 u sm nt xpn po pk pg xcn cp cd ck cg n (nI k) = some (mo sm u m k, sm, nt) := by
  intro m
  induction m with
  | zero =>
    intro k n hk hn
    obtain ⟨n, rfl⟩ : ∃ q, n = q + 1 := ⟨n - 1, by omega⟩
    have e : k = 5 := by omega
    subst e
    rw [zf_MP_most_L20, if_pos (by decide)]; rfl
  | succ m ih =>
    intro k n hk hn
    obtain ⟨n, rfl⟩ : ∃ q, n = q + 1 := ⟨n - 1, by omega⟩
    have e : zf_MP_kindsAhead (nI k) sm = some (ah sm k 5 0 0) := px_ah sm (by omega) 5 0 2000 0 (by omega) (by omega)
    rw [zf_MP_most_L20, if_neg (show ¬ (5 : Int32) ≤ nI k from nI_ge (b := 5) (by omega) (by omega)), mo, e, pz_bs]
    simp (disch := omega) only [nI_clamp, pz_i2, nI_1, ih]
    by_cases h1 : sm k ≤ 0
    · simp only [h1, if_true]
    · by_cases h2 : ah sm k 5 0 0 = u
      · simp only [h1, h2, if_true, if_false]
      · simp only [h1, h2, if_false]
theorem pm_mo (hp : np ≤ 24) (hc : nc ≤ 20) (T : Nat → Int64) (hT : ∀ k, k < 5 → T k = sg (al_t pk pg nc cp cd ck cg (nI k)) np) (u : Int32) : ∀ (m k n : Nat), k + m = 5 → m < n → zf_Mo_most_L2 u (nI np) (nI nc) pk pg cp cd ck cg n (nI k) = some (mo T u m k) := by
  intro m
  induction m with
  | zero =>
    intro k n hk hn
    obtain ⟨n, rfl⟩ : ∃ q, n = q + 1 := ⟨n - 1, by omega⟩
    have e : k = 5 := by omega
    subst e
    rw [zf_Mo_most_L2, if_pos (by decide)]; rfl
  | succ m ih =>
    intro k n hk hn
    obtain ⟨n, rfl⟩ : ∃ q, n = q + 1 := ⟨n - 1, by omega⟩
    have e : zf_Mo_allOf (nI k) (nI np) (nI nc) pk pg cp cd ck cg = some (T k) := by
      rw [hT k (by omega)]
      exact pm_alL hp hc (nI k) np 0 2000 (by omega) (by omega)
    have e2 := pm_ah hp hc T hT u (show k < 5 by omega) (fun uv2 => zf_Mo_most_L2 u (nI np) (nI nc) pk pg cp cd ck cg n uv2) 5 0 2000 0 (by omega) (by omega)
    rw [zf_Mo_most_L2, if_neg (show ¬ (5 : Int32) ≤ nI k from nI_ge (b := 5) (by omega) (by omega)), mo, e, pz_bs]
    refine e2.trans ?_
    rw [ih (k + 1) n (by omega) (by omega)]
    by_cases h1 : T k ≤ 0
    · simp only [h1, if_true]
    · by_cases h2 : ah T k 5 0 0 = u
      · simp only [h1, h2, if_true, if_false]
      · simp only [h1, h2, if_false]
theorem mo_congr {T S : Nat → Int64} (h : ∀ k, k < 5 → T k = S k) (u : Int32) : ∀ m k, k + m = 5 → mo T u m k = mo S u m k := by
  have ha : ∀ k, k < 5 → ∀ m o a, o + m = 5 → ah T k m o a = ah S k m o a := by
    intro k hk m
    induction m with
    | zero => intro o a _; rfl
    | succ m ih =>
      intro o a ho
      rw [ah, ah, h k hk, h o (by omega), ih (o + 1) (a + 1) (by omega), ih (o + 1) a (by omega)]
  intro m
  induction m with
  | zero => intro k _; rfl
  | succ m ih =>
    intro k hk
    rw [mo, mo, h k (by omega), ih (k + 1) (by omega), ha k (by omega) 5 0 0 (by omega)]
theorem pp_most (hI : IP np po pk pi pg) (hC : IC nc ck cg) (u1 : Int32) (sm nt : Nat → Int64) : ∃ a s1 t1, zf_MP_most u1 (nI np) sm po pk pg (nI nc) cp cd ck cg nt = some (a, s1, t1) ∧ zf_Mo_most u1 (nI np) (nI nc) pk pg cp cd ck cg = some a := by
  obtain ⟨hp, ho, hi, hk, -, -⟩ := hI
  obtain ⟨hc, hck, -⟩ := hC
  obtain ⟨f, ef, hf⟩ := px_fill 1 (n0 := 8) (by omega) nt
  obtain ⟨s1, e1, h1⟩ := px_sb (pg := pg) (cg := cg) (d := 100000) (cp := cp) (cd := cd) hp hc ho (hk_kd hk hck) f sm
  have hT : ∀ k, k < 5 → s1 k = sg (al_t pk pg nc cp cd ck cg (nI k)) np := fun k hk5 => by
    rw [h1 k hk5]
    refine sg_congr (fun j hj => ?_)
    rw [hf _ (ho.at_ hj).2, al_t]
    by_cases q : kd pk nc cp cd ck 100000 j = nI k
    · rw [if_pos q, if_pos q]; simp
    · rw [if_neg q, if_neg q]
  refine ⟨mo s1 u1 5 0, s1, f, ?_, ?_⟩
  · rw [zf_MP_most, zf_Ne_sumOfAll, ef, pz_bs, e1, pz_bs, pz_bs]
    exact px_mo s1 f u1 (nI np) (nI nc) 5 0 2000 (by omega) (by omega)
  · exact pm_mo hp hc s1 hT u1 5 0 2000 (by omega) (by omega)
end PAS
end
section
/-! PURE: totals don't pass the longs; the formula's value -/
def sN (f : Nat → Nat) : Nat → Nat
  | 0 => 0
  | n + 1 => sN f n + f n
theorem sN_le {f g : Nat → Nat} : ∀ {n : Nat}, (∀ j, j < n → f j ≤ g j) → sN f n ≤ sN g n
  | 0, _ => Nat.le_refl _
  | n + 1, h => by
    rw [sN, sN]
    have a := sN_le (fun j hj => h j (Nat.lt_succ_of_lt hj))
    have b := h n (Nat.lt_succ_self n)
    omega
theorem sN_add (f g : Nat → Nat) : ∀ n, sN (fun j => f j + g j) n = sN f n + sN g n
  | 0 => rfl
  | n + 1 => by rw [sN, sN, sN, sN_add f g n]; omega
theorem sN_mul (c : Nat) (f : Nat → Nat) : ∀ n, sN (fun j => c * f j) n = c * sN f n
  | 0 => by rw [sN, sN, Nat.mul_zero]
  | n + 1 => by rw [sN, sN, sN_mul c f n, Nat.mul_add]
theorem sN_bd {f : Nat → Nat} {M : Nat} : ∀ {n : Nat}, (∀ j, j < n → f j ≤ M) → sN f n ≤ n * M
  | 0, _ => by rw [sN]; omega
  | n + 1, h => by
    rw [sN, Nat.add_mul, Nat.one_mul]
    have a := sN_bd (fun j hj => h j (Nat.lt_succ_of_lt hj))
    have b := h n (Nat.lt_succ_self n)
    omega
theorem sg_lN {f : Nat → Int64} {h : Nat → Nat} : ∀ {n : Nat}, (∀ j, j < n → f j = lN (h j)) → sg f n = lN (sN h n)
  | 0, _ => rfl
  | n + 1, q => by rw [sg, sN, sg_lN (fun j hj => q j (Nat.lt_succ_of_lt hj)), q n (Nat.lt_succ_self n), lN_add]
theorem two_pow_ge (d : Nat) : d + 1 ≤ 2 ^ d := by
  induction d with
  | zero => decide
  | succ d ih => rw [Nat.pow_succ]; omega
section PBD
variable {np : Nat} {po pi : Nat → Int32}
/-- totals as numbers -/
def TN (np : Nat) (po pi : Nat → Int32) (w : Nat → Nat) : Nat → Nat → Nat
  | 0 => fun _ => 0
  | t + 1 => fun g => sN (fun j => if ow po j = g then w j else 0) np + sN (fun j => if ow po j = g ∧ 0 ≤ pi j then TN np po pi w t (pi j).toNatClampNeg else 0) np
theorem SS_TN (hi : HI np pi) {w : Nat → Int64} {wn : Nat → Nat} (hw : ∀ j, j < np → w j = lN (wn j)) : ∀ (t g : Nat), SS np po pi w t g = lN (TN np po pi wn t g)
  | 0, g => rfl
  | t + 1, g => by
    have e1 : OWN np po w g = lN (sN (fun j => if ow po j = g then wn j else 0) np) := sg_lN (fun j hj => by
      by_cases q : ow po j = g
      · rw [if_pos q, if_pos q, hw j hj]
      · rw [if_neg q, if_neg q]; rfl)
    have e2 : AV np po pi (SS np po pi w t) g = lN (sN (fun j => if ow po j = g ∧ 0 ≤ pi j then TN np po pi wn t (pi j).toNatClampNeg else 0) np) := sg_lN (fun j hj => by
      by_cases q : ow po j = g
      · by_cases q2 : 0 ≤ pi j
        · have q3 : ow po j = g ∧ 0 ≤ pi j := ⟨q, q2⟩
          rw [if_pos q, if_pos q2, if_pos q3, SS_TN hi hw t]
        · have q3 : ¬ (ow po j = g ∧ 0 ≤ pi j) := fun z => q2 z.2
          rw [if_pos q, if_neg q2, if_neg q3]; rfl
      · have q3 : ¬ (ow po j = g ∧ 0 ≤ pi j) := fun z => q z.1
        rw [if_neg q, if_neg q3]; rfl)
    show OWN np po w g + AV np po pi (SS np po pi w t) g = lN (sN (fun j => if ow po j = g then wn j else 0) np + sN (fun j => if ow po j = g ∧ 0 ≤ pi j then TN np po pi wn t (pi j).toNatClampNeg else 0) np)
    rw [e1, e2, lN_add]
theorem TN_bd (hp : np ≤ 24) (ho : HO np po) (hi : HI np pi) {rk : Nat → Nat} (hr : ∀ j, j < np → ∀ i, i < 8 → pi j = nI i → rk i < rk (ow po j)) {w : Nat → Nat} (hw : ∀ j, j < np → w j ≤ 1000000000) : ∀ (t v : Nat), TN np po pi w t v ≤ 24000000000 * 2 ^ (sN (fun j => if 0 ≤ pi j ∧ rk (ow po j) ≤ rk v then 1 else 0) np)
  | 0, v => Nat.zero_le _
  | t + 1, v => by
    have a1 : sN (fun j => if ow po j = v then w j else 0) np ≤ 24000000000 := by
      refine Nat.le_trans (sN_bd (M := 1000000000) (fun j hj => ?_)) (by omega)
      by_cases q : ow po j = v
      · rw [if_pos q]; exact hw j hj
      · rw [if_neg q]; omega
    generalize hE : sN (fun j => if 0 ≤ pi j ∧ rk (ow po j) ≤ rk v then 1 else 0) np = E
    generalize hDv : sN (fun j => if ow po j = v ∧ 0 ≤ pi j then 1 else 0) np = Dv
    have key : ∀ j, j < np → (ow po j = v ∧ 0 ≤ pi j) → sN (fun i => if 0 ≤ pi i ∧ rk (ow po i) ≤ rk (pi j).toNatClampNeg then 1 else 0) np + Dv ≤ E := by
      intro j hj ⟨q1, q2⟩
      have hrk : rk (pi j).toNatClampNeg < rk v := by
        rcases hi j hj with z | ⟨i, z1, z2⟩
        · rw [z] at q2; exact absurd q2 (by decide)
        · rw [z2, nI_clamp (by omega), ← q1]
          exact hr j hj i z1 z2
      rw [← hDv, ← hE, ← sN_add]
      refine sN_le (fun i hi2 => ?_)
      by_cases c0 : 0 ≤ pi i
      · by_cases c1 : ow po i = v
        · have n1 : ¬ (0 ≤ pi i ∧ rk (ow po i) ≤ rk (pi j).toNatClampNeg) := fun z => by rw [c1] at z; omega
          have n2 : ow po i = v ∧ 0 ≤ pi i := ⟨c1, c0⟩
          have n3 : 0 ≤ pi i ∧ rk (ow po i) ≤ rk v := ⟨c0, by rw [c1]; omega⟩
          rw [if_neg n1, if_pos n2, if_pos n3]
          omega
        · have n2 : ¬ (ow po i = v ∧ 0 ≤ pi i) := fun z => c1 z.1
          rw [if_neg n2]
          by_cases c2 : rk (ow po i) ≤ rk (pi j).toNatClampNeg
          · have n1 : 0 ≤ pi i ∧ rk (ow po i) ≤ rk (pi j).toNatClampNeg := ⟨c0, c2⟩
            have n3 : 0 ≤ pi i ∧ rk (ow po i) ≤ rk v := ⟨c0, by omega⟩
            rw [if_pos n1, if_pos n3]
            omega
          · have n1 : ¬ (0 ≤ pi i ∧ rk (ow po i) ≤ rk (pi j).toNatClampNeg) := fun z => c2 z.2
            rw [if_neg n1]
            omega
      · have n1 : ¬ (0 ≤ pi i ∧ rk (ow po i) ≤ rk (pi j).toNatClampNeg) := fun z => c0 z.1
        have n2 : ¬ (ow po i = v ∧ 0 ≤ pi i) := fun z => c0 z.2
        rw [if_neg n1, if_neg n2]
        omega
    have a2 : sN (fun j => if ow po j = v ∧ 0 ≤ pi j then TN np po pi w t (pi j).toNatClampNeg else 0) np ≤ 24000000000 * 2 ^ (E - Dv) * Dv := by
      rw [← hDv, ← sN_mul]
      refine sN_le (fun j hj => ?_)
      by_cases q : ow po j = v ∧ 0 ≤ pi j
      · rw [if_pos q, if_pos q, Nat.mul_one]
        refine Nat.le_trans (TN_bd hp ho hi hr hw t _) (Nat.mul_le_mul_left _ (Nat.pow_le_pow_right (by omega) ?_))
        have := key j hj q
        rw [hDv]
        omega
      · rw [if_neg q, if_neg q]; omega
    have a3 : Dv ≤ E := by
      by_cases z : ∃ j, j < np ∧ (ow po j = v ∧ 0 ≤ pi j)
      · obtain ⟨j, z1, z2⟩ := z
        have := key j z1 z2
        omega
      · have : Dv ≤ np * 0 := by
          rw [← hDv]
          refine sN_bd (fun j hj => ?_)
          rw [if_neg (fun q => z ⟨j, hj, q⟩)]
          omega
        omega
    have a4 : 2 ^ E = 2 ^ (E - Dv) * 2 ^ Dv := by rw [← Nat.pow_add]; congr 1; omega
    have a5 := two_pow_ge Dv
    have a6 : 1 ≤ 2 ^ (E - Dv) := Nat.one_le_two_pow
    show sN (fun j => if ow po j = v then w j else 0) np + sN (fun j => if ow po j = v ∧ 0 ≤ pi j then TN np po pi w t (pi j).toNatClampNeg else 0) np ≤ _
    rw [a4]
    have a7 : 2 ^ (E - Dv) * (Dv + 1) ≤ 2 ^ (E - Dv) * 2 ^ Dv := Nat.mul_le_mul_left _ a5
    rw [Nat.mul_add, Nat.mul_one] at a7
    have a8 : 24000000000 * 2 ^ (E - Dv) * Dv = 24000000000 * (2 ^ (E - Dv) * Dv) := Nat.mul_assoc _ _ _
    omega
end PBD
section PNN
variable {np nc : Nat} {po pi pk : Nat → Int32} {pg : Nat → Int64} {cp : Nat → Int32} {cd : Nat → Int64} {ck : Nat → Int32} {cg : Nat → Int64} {d : Int64}
theorem hg_gr (h1 : HG np pg) (h2 : HG nc cg) {j : Nat} (hj : j < np) : ∃ w, w ≤ 1000000000 ∧ gr pg nc cp cd cg d j = lN w := by
  unfold gr
  cases hl : lk cp cd (nI j) d nc with
  | none => exact h1 j hj
  | some f => exact h2 f (lk_lt hl)
theorem TX_nat (hI : IP np po pk pi pg) (hC : IC nc ck cg) {g : Nat} (hg : g < 8) (k : Nat) : ∃ T, T ≤ 402653184000000000 ∧ TX np po pi pk pg nc cp cd ck cg d g k = lN T := by
  obtain ⟨hp, ho, hi, -, h5, rk, h6⟩ := hI
  obtain ⟨hc, -, h8⟩ := hC
  have hx : ∀ j, ∃ w, w ≤ 1000000000 ∧ (j < np → wk pk pg nc cp cd ck cg d (nI k) j = lN w) := fun j => by
    by_cases hj : j < np
    · by_cases q : kd pk nc cp cd ck d j = nI k
      · obtain ⟨w, a, b⟩ := hg_gr (cp := cp) (cd := cd) (d := d) h5 h8 hj
        exact ⟨w, a, fun _ => by rw [wk, if_pos q, b]⟩
      · exact ⟨0, by omega, fun _ => by rw [wk, if_neg q]; rfl⟩
    · exact ⟨0, by omega, fun z => absurd z hj⟩
  have hw : ∀ j, (fun j => Classical.choose (hx j)) j ≤ 1000000000 ∧ (j < np → wk pk pg nc cp cd ck cg d (nI k) j = lN ((fun j => Classical.choose (hx j)) j)) := fun j => Classical.choose_spec (hx j)
  generalize (fun j => Classical.choose (hx j)) = w at hw
  refine ⟨TN np po pi w 8 g, ?_, ?_⟩
  · refine Nat.le_trans (TN_bd hp ho hi h6 (fun j _ => (hw j).1) 8 g) ?_
    refine Nat.le_trans (Nat.mul_le_mul_left _ (Nat.pow_le_pow_right (n := 2) (by omega) (j := 24) ?_)) (by decide)
    refine Nat.le_trans (sN_bd (M := 1) (fun j hj => ?_)) (by omega)
    by_cases q : 0 ≤ pi j ∧ rk (ow po j) ≤ rk g
    · rw [if_pos q]; omega
    · rw [if_neg q]; omega
  · rw [p_total ho hi hg, SS_TN hi (fun j hj => (hw j).2 hj)]
theorem TX_sum (hI : IP np po pk pi pg) (hC : IC nc ck cg) {g : Nat} (hg : g < 8) (T : Nat → Int64) (hT : ∀ k, k < 5 → T k = TX np po pi pk pg nc cp cd ck cg d g k) : sg T 5 ≤ 0 ↔ sg T 5 = 0 := by
  have hx : ∀ k, ∃ t, t ≤ 402653184000000000 ∧ (k < 5 → T k = lN t) := fun k => by
    obtain ⟨t, a, b⟩ := TX_nat (cp := cp) (cd := cd) (d := d) hI hC hg k
    exact ⟨t, a, fun h => by rw [hT k h, b]⟩
  have hw : ∀ k, (fun k => Classical.choose (hx k)) k ≤ 402653184000000000 ∧ (k < 5 → T k = lN ((fun k => Classical.choose (hx k)) k)) := fun k => Classical.choose_spec (hx k)
  generalize (fun k => Classical.choose (hx k)) = w at hw
  have e : sg T 5 = lN (sN w 5) := sg_lN (fun j hj => (hw j).2 hj)
  have b : sN w 5 ≤ 5 * 402653184000000000 := sN_bd (fun j _ => (hw j).1)
  rw [e]
  constructor
  · intro h
    rw [show (0 : Int64) = lN 0 from rfl, pk_lLE (by omega) (by omega)] at h
    rw [show sN w 5 = 0 by omega]
    rfl
  · intro h
    rw [h]
    exact Int64.le_refl 0
end PNN
/-- a kind's share -/
def shr (T : Nat → Int64) (k : Nat) : Int64 := if sg T 5 = 0 then 0 else ((1000 : Int64) * T k) / sg T 5
theorem px_shL (sm : Nat → Int64) {k : Nat} (hk : k < 5) (hS : sg sm 5 ≤ 0 ↔ sg sm 5 = 0) : ∀ (m o n : Nat), o + m = 5 → m < n → zf_Fo_share_L5 (nI k) sm n (sg sm o) (nI o) = some (shr sm k) := by
  intro m
  induction m with
  | zero =>
    intro o n ho hn
    obtain ⟨n, rfl⟩ : ∃ q, n = q + 1 := ⟨n - 1, by omega⟩
    have e : o = 5 := by omega
    subst e
    have e1 : zf_MP_isKind (nI k) = some 1 := by
      rcases pz_kind (nI k) with ⟨k', -, -, a, -⟩ | ⟨a, -⟩
      · exact a
      · rw [zf_MP_isKind, if_neg (nI_pos (by omega)), if_neg (show ¬ (5 : Int32) ≤ nI k from nI_ge (b := 5) hk (by omega))]
    rw [zf_Fo_share_L5, if_pos (by decide), e1, pz_bs, if_neg pz_b1, shr]
    simp (disch := omega) only [nI_clamp, pz_i2]
    by_cases q : sg sm 5 = 0
    · rw [if_pos (hS.mpr q), if_pos q]
    · rw [if_neg (fun z => q (hS.mp z)), if_neg q, if_neg q]
  | succ m ih =>
    intro o n ho hn
    obtain ⟨n, rfl⟩ : ∃ q, n = q + 1 := ⟨n - 1, by omega⟩
    have e := ih (o + 1) n (by omega) (by omega)
    rw [zf_Fo_share_L5, if_neg (show ¬ (5 : Int32) ≤ nI o from nI_ge (b := 5) (by omega) (by omega))]
    simp (disch := omega) only [nI_clamp, pz_i2, nI_1]
    exact e
section PSH
variable {np nc : Nat} {po pi pk : Nat → Int32} {pg : Nat → Int64} {cp : Nat → Int32} {cd : Nat → Int64} {ck : Nat → Int32} {cg : Nat → Int64}
theorem pm_shL (hp : np ≤ 24) (hc : nc ≤ 20) (ho : HO np po) (hi : HI np pi) {q : Nat} (hq : q < 8) (T : Nat → Int64) (hT : ∀ k, k < 5 → T k = TX np po pi pk pg nc cp cd ck cg 100000 q k) {k : Nat} (hk : k < 5) : ∀ (m o n : Nat) (mow msu mne : Nat → Int64), o + m = 5 → m < n → ∃ m1 m2 m3, zf_Mo_shareOf_L8 (nI q) (nI k) (nI np) (nI nc) po pk pg pi cp cd ck cg n (sg T o) (if k < o then T k else 0) (nI o) mow msu mne = some (shr T k, m1, m2, m3) := by
  intro m
  induction m with
  | zero =>
    intro o n mow msu mne ho5 hn
    obtain ⟨n, rfl⟩ : ∃ q, n = q + 1 := ⟨n - 1, by omega⟩
    have e : o = 5 := by omega
    subst e
    refine ⟨mow, msu, mne, ?_⟩
    rw [zf_Mo_shareOf_L8, if_pos (by decide), shr, if_pos hk]
    by_cases z : sg T 5 = 0
    · rw [if_pos z, if_pos z]
    · rw [if_neg z, if_neg z, if_neg z]
  | succ m ih =>
    intro o n mow msu mne ho5 hn
    obtain ⟨n, rfl⟩ : ∃ q, n = q + 1 := ⟨n - 1, by omega⟩
    obtain ⟨a, b, c, e2, h2⟩ := pm_sum (pk := pk) (pg := pg) (cp := cp) (cd := cd) (ck := ck) (cg := cg) (d := 100000) hp hc ho hi (nI o) mow msu mne
    have hb : b q = T o := by rw [h2 q hq, hT o (by omega), p_total ho hi hq]
    obtain ⟨m1, m2, m3, e⟩ := ih (o + 1) n a b c (by omega) (by omega)
    refine ⟨m1, m2, m3, ?_⟩
    rw [zf_Mo_shareOf_L8, if_neg (show ¬ (5 : Int32) ≤ nI o from nI_ge (b := 5) (by omega) (by omega)), e2, pz_bs]
    simp (disch := omega) only [nI_clamp, pz_i2, nI_1, hb, pz_eq]
    rw [sg] at e
    by_cases z : o = k
    · subst z
      rw [if_pos (by omega)] at e
      rw [if_pos rfl]
      exact e
    · rw [if_neg z]
      by_cases z2 : k < o
      · rw [if_pos (by omega)] at e
        rw [if_pos z2]
        exact e
      · rw [if_neg (by omega)] at e
        rw [if_neg z2]
        exact e
end PSH
/-- two joined by a sign -/
def cut (x : Int64) : Int64 := if x ≤ 1000000000000 then (if (-1000000000000) ≤ x then x else -1000000000000) else 1000000000000
def ab (x : Int64) : Int64 := if 0 < x then x else -x
def prd (a b : Int64) : Int64 := if a = 0 then 0 else (if ((1000000000000 : Int64) / ab a) < ab b then (if 0 ≤ a then (if 0 ≤ b then 1000000000000 else -1000000000000) else (if 0 ≤ b then -1000000000000 else 1000000000000)) else a * b)
def jn (w : Int32) (a b : Int64) : Int64 := if w = (-10 : Int32) then (if b < a then b else a) else (if w = (-9 : Int32) then prd a b else (if w = (-8 : Int32) then cut (a - b) else (if w = (-7 : Int32) then cut (a + b) else (if b < a then a else b))))
theorem px_cut (x : Int64) : zf_Fo_cut x = some (cut x) := by
  rw [zf_Fo_cut, cut]
  congr 1
  have e1 : (1000000000000 : Int64).toInt = 1000000000000 := by decide
  have e2 : (-1000000000000 : Int64).toInt = -1000000000000 := by decide
  by_cases h1 : x ≤ 1000000000000
  · rw [if_pos h1]
    by_cases h2 : x < 1000000000000
    · rw [if_pos h2]
      by_cases h3 : (-1000000000000) ≤ x
      · rw [if_pos h3, if_neg (fun q => by rw [Int64.le_iff_toInt_le] at h3; rw [Int64.lt_iff_toInt_lt] at q; omega)]
      · rw [if_neg h3, if_pos (by rw [Int64.le_iff_toInt_le] at h3; rw [Int64.lt_iff_toInt_lt]; omega)]
    · have h3 : x = 1000000000000 := by
        rw [← Int64.toInt_inj]
        rw [Int64.le_iff_toInt_le] at h1
        rw [Int64.lt_iff_toInt_lt] at h2
        omega
      subst h3
      decide
  · have h2 : ¬ x < 1000000000000 := fun q => h1 (by rw [Int64.lt_iff_toInt_lt] at q; rw [Int64.le_iff_toInt_le]; omega)
    rw [if_neg h1, if_neg h2]
    decide
theorem pm_cut (x : Int64) : zf_Mo_cut x = some (cut x) := by
  rw [zf_Mo_cut, cut]
  by_cases h1 : x ≤ 1000000000000
  · rw [if_pos h1, if_pos h1]
    by_cases h2 : (-1000000000000) ≤ x
    · rw [if_pos h2, if_pos h2]
    · rw [if_neg h2, if_neg h2]
  · rw [if_neg h1, if_neg h1]
theorem ab_ne {a : Int64} (h : ¬ a = 0) : ¬ ab a = 0 := by
  unfold ab
  by_cases q : 0 < a
  · rw [if_pos q]; exact h
  · rw [if_neg q]
    intro z
    exact h (by grind)
theorem px_prd (a b : Int64) : zf_Fo_cutProduct a b = some (prd a b) := by
  have h01 : ¬ (0 : Int32) = 1 := by decide
  rw [zf_Fo_cutProduct, prd]
  by_cases h0 : a = 0
  · rw [if_pos h0, if_pos h0]
  · rw [if_neg h0, if_neg h0, if_neg (show ¬ (if 0 < a then a else -a) = 0 from ab_ne h0)]
    show (if ((1000000000000 : Int64) / ab a) < ab b then _ else _) = _
    by_cases h1 : ((1000000000000 : Int64) / ab a) < ab b
    · rw [if_pos h1, if_pos h1]
      by_cases h2 : 0 ≤ a <;> by_cases h3 : 0 ≤ b <;> simp only [h2, h3, if_true, if_false, pz_b1, h01]
    · rw [if_neg h1, if_neg h1]
theorem dv_pos {x : Int64} (h : 0 < x ∨ x = -9223372036854775808) : ¬ ((1000000000000 : Int64) / x) < 0 := by
  rcases h with h | rfl
  · rw [Int64.lt_iff_toInt_lt] at h ⊢
    have e0 : (0 : Int64).toInt = 0 := rfl
    rw [e0] at h ⊢
    obtain ⟨k, hk, e⟩ := pk_lOf (x := x) (fun q => by rw [Int64.lt_iff_toInt_lt, e0] at q; omega)
    subst e
    rw [pk_lT hk] at h
    rw [show (1000000000000 : Int64) = lN 1000000000000 from rfl, pk_lDiv (by omega) (by omega) hk, pk_lT (Nat.lt_of_le_of_lt (Nat.div_le_self _ _) (by omega))]
    exact Int.not_lt.mpr (Int.natCast_nonneg _)
  · decide
theorem ab_pos {a : Int64} (h : ¬ a = 0) : 0 < ab a ∨ ab a = -9223372036854775808 := by
  unfold ab
  by_cases q : 0 < a
  · rw [if_pos q]; exact Or.inl q
  · rw [if_neg q]
    by_cases z : a = -9223372036854775808
    · subst z; exact Or.inr (by decide)
    · refine Or.inl ?_
      have e0 : (0 : Int64).toInt = 0 := rfl
      have em : (-9223372036854775808 : Int64).toInt = -9223372036854775808 := by decide
      rw [← Int64.toInt_inj, e0] at h
      rw [← Int64.toInt_inj, em] at z
      rw [Int64.lt_iff_toInt_lt, e0] at q ⊢
      have b1 := Int64.le_toInt a
      have b2 := Int64.toInt_lt a
      rw [Int64.toInt_neg]
      rw [Int.bmod_eq_of_le (by omega) (by omega)]
      omega
theorem ab_nn {a : Int64} : ab a = if 0 ≤ a then a else -a := by
  unfold ab
  by_cases q : 0 < a
  · rw [if_pos q, if_pos (Int64.le_of_lt q)]
  · rw [if_neg q]
    by_cases z : 0 ≤ a
    · rw [if_pos z]
      have e0 : (0 : Int64).toInt = 0 := rfl
      have : a = 0 := by
        rw [← Int64.toInt_inj]
        rw [Int64.lt_iff_toInt_lt] at q
        rw [Int64.le_iff_toInt_le] at z
        omega
      subst this
      decide
    · rw [if_neg z]
end
section
/-! PURE: the formula's value, both ways; scored, swap -/
theorem pm_prd (a b : Int64) : zf_Mo_product a b = some (prd a b) := by
  have h01 : ¬ (0 : Int32) = 1 := by decide
  rw [zf_Mo_product, prd]
  by_cases h0 : a = 0
  · rw [if_pos h0, if_pos h0]
  · rw [if_neg h0, if_neg h0]
    by_cases hb : b = 0
    · subst hb
      rw [if_pos rfl, show ab 0 = 0 from by decide, if_neg (dv_pos (ab_pos h0))]
      congr 1
      grind
    · have hna : ¬ -a = 0 := fun z => h0 (by grind)
      rw [if_neg hb, ab_nn, ab_nn]
      by_cases ha : 0 ≤ a
      · by_cases hb2 : 0 ≤ b
        · simp only [ha, hb2, if_true, if_false, h0, pz_b1, h01]
          by_cases hc : b ≤ 1000000000000 / a
          · rw [if_pos hc, if_neg (Int64.not_lt.mpr hc)]
          · rw [if_neg hc, if_pos (Int64.not_le.mp hc)]
        · simp only [ha, hb2, if_true, if_false, h0, pz_b1, h01]
          by_cases hc : -b ≤ 1000000000000 / a
          · rw [if_pos hc, if_neg (Int64.not_lt.mpr hc)]
            congr 1
            grind
          · rw [if_neg hc, if_pos (Int64.not_le.mp hc)]
      · by_cases hb2 : 0 ≤ b
        · simp only [ha, hb2, if_true, if_false, hna, h0, pz_b1, h01]
          by_cases hc : b ≤ 1000000000000 / -a
          · rw [if_pos hc, if_neg (Int64.not_lt.mpr hc)]
            congr 1
            grind
          · rw [if_neg hc, if_pos (Int64.not_le.mp hc)]
        · simp only [ha, hb2, if_true, if_false, hna, h0, pz_b1, h01]
          by_cases hc : -b ≤ 1000000000000 / -a
          · rw [if_pos hc, if_neg (Int64.not_lt.mpr hc)]
            congr 1
            grind
          · rw [if_neg hc, if_pos (Int64.not_le.mp hc)]
theorem px_jn (w : Int32) (a b : Int64) : zf_Fo_join w a b = some (jn w a b) := by
  rw [zf_Fo_join, jn, px_prd, px_cut, px_cut, pz_bs, pz_bs, pz_bs]
  by_cases h1 : w = -10
  · simp only [if_pos h1]
  · by_cases h2 : w = -9
    · simp only [if_neg h1, if_pos h2]
    · by_cases h3 : w = -8
      · simp only [if_neg h1, if_neg h2, if_pos h3]
      · by_cases h4 : w = -7
        · simp only [if_neg h1, if_neg h2, if_neg h3, if_pos h4]
        · simp only [if_neg h1, if_neg h2, if_neg h3, if_neg h4]
theorem pz_ltle {x y : Int64} (h : y ≤ x) (h2 : ¬ y < x) : x = y := by
  rw [← Int64.toInt_inj]
  rw [Int64.le_iff_toInt_le] at h
  rw [Int64.lt_iff_toInt_lt] at h2
  omega
theorem pm_jn (w : Int32) (a b : Int64) : zf_Mo_ofTwo w a b = some (jn w a b) := by
  rw [zf_Mo_ofTwo, jn, pm_prd, pm_cut, pm_cut, pz_bs, pz_bs, pz_bs]
  by_cases h1 : w = -10
  · simp only [if_pos h1]
    by_cases q : b < a
    · rw [if_pos q, if_pos (Int64.le_of_lt q)]
    · rw [if_neg q]
      by_cases z : b ≤ a
      · rw [if_pos z, pz_ltle z q]
      · rw [if_neg z]
  · by_cases h2 : w = -9
    · simp only [if_neg h1, if_pos h2]
    · by_cases h3 : w = -8
      · simp only [if_neg h1, if_neg h2, if_pos h3]
      · by_cases h4 : w = -7
        · simp only [if_neg h1, if_neg h2, if_neg h3, if_pos h4]
        · simp only [if_neg h1, if_neg h2, if_neg h3, if_neg h4]
          by_cases q : b < a
          · rw [if_pos q, if_neg (Int64.not_le.mpr q)]
          · rw [if_neg q, if_pos (Int64.not_lt.mp q)]
/-- how many are on the stack -/
def dp (fw : Nat → Int32) : Nat → Nat
  | 0 => 0
  | k + 1 => if (-7 : Int32) < fw k then dp fw k + 1 else dp fw k - 1
theorem dp_le (fw : Nat → Int32) : ∀ k, dp fw k ≤ k
  | 0 => Nat.le_refl _
  | k + 1 => by
    have := dp_le fw k
    rw [dp]
    by_cases h : (-7 : Int32) < fw k
    · rw [if_pos h]; omega
    · rw [if_neg h]; omega
def WF (wn : Nat) (fw : Nat → Int32) : Prop := (∀ j, j < wn → ¬ fw j < (-11 : Int32)) ∧ (∀ j, j < wn → ¬ (-7 : Int32) < fw j → 2 ≤ dp fw j) ∧ dp fw wn = 1
theorem pz_sw {w : Int32} (h1 : w < 0) (h2 : (-7 : Int32) < w) (h3 : ¬ w = -6) : ∃ k, k < 5 ∧ (-1 : Int32) - w = nI k := by
  have a : w.toInt < 0 := by rw [Int32.lt_iff_toInt_lt] at h1; exact h1
  have b : -7 < w.toInt := by rw [Int32.lt_iff_toInt_lt] at h2; exact h2
  have c : w.toInt ≠ -6 := fun q => h3 (Int32.toInt_inj.mp q)
  rcases (show w.toInt = -1 ∨ w.toInt = -2 ∨ w.toInt = -3 ∨ w.toInt = -4 ∨ w.toInt = -5 by omega) with q | q | q | q | q
  · exact ⟨0, by omega, by rw [show w = -1 from Int32.toInt_inj.mp q]; rfl⟩
  · exact ⟨1, by omega, by rw [show w = -2 from Int32.toInt_inj.mp q]; rfl⟩
  · exact ⟨2, by omega, by rw [show w = -3 from Int32.toInt_inj.mp q]; rfl⟩
  · exact ⟨3, by omega, by rw [show w = -4 from Int32.toInt_inj.mp q]; rfl⟩
  · exact ⟨4, by omega, by rw [show w = -5 from Int32.toInt_inj.mp q]; rfl⟩
section PVA
variable {np nc : Nat} {po pi pk : Nat → Int32} {pg : Nat → Int64} {cp : Nat → Int32} {cd : Nat → Int64} {ck : Nat → Int32} {cg : Nat → Int64}
theorem p_value (hI : IP np po pk pi pg) (hC : IC nc ck cg) {q : Nat} (hq : q < 8) (sm : Nat → Int64) (hT : ∀ k, k < 5 → sm k = TX np po pi pk pg nc cp cd ck cg 100000 q k) {wn : Nat} {fw : Nat → Int32} (hw : wn ≤ 150) (hF : WF wn fw) : ∀ (m k n n' : Nat) (xfs mst mow msu mne : Nat → Int64), k + m = wn → m < n → m < n' → (∀ i, i < dp fw k → xfs i = mst i) → ∃ r s1 m1 m2 m3 m4, zf_Fo_value_L5 (oc po (nI q) np) (nI wn) sm fw n (nI (dp fw k)) (nI k) xfs = some (r, s1) ∧ zf_Mo_valueOf_L4 (nI q) (nI np) (nI nc) (nI wn) po pk pg pi cp cd ck cg fw n' (nI (dp fw k)) (nI k) mst mow msu mne = some (r, m1, m2, m3, m4) := by
  obtain ⟨hp, ho, hi, hk5, hG, hR⟩ := id hI
  obtain ⟨hc, hck, hcg⟩ := id hC
  have hS := TX_sum (cp := cp) (cd := cd) (d := 100000) hI hC hq sm hT
  intro m
  induction m with
  | zero =>
    intro k n n' xfs mst mow msu mne hk hn hn' hst
    obtain ⟨n, rfl⟩ : ∃ q, n = q + 1 := ⟨n - 1, by omega⟩
    obtain ⟨n', rfl⟩ : ∃ q, n' = q + 1 := ⟨n' - 1, by omega⟩
    have e : k = wn := by omega
    subst e
    refine ⟨xfs 0, xfs, mst, mow, msu, mne, ?_, ?_⟩
    · rw [zf_Fo_value_L5, if_pos (nI_le (Nat.le_refl _) (by omega)), show (0 : Int32).toNatClampNeg = 0 from rfl, if_neg (by decide)]
    · rw [zf_Mo_valueOf_L4, if_pos (nI_le (Nat.le_refl _) (by omega)), show (0 : Int32).toNatClampNeg = 0 from rfl, if_neg (by decide), hst 0 (by rw [hF.2.2]; omega)]
  | succ m ih =>
    intro k n n' xfs mst mow msu mne hk hn hn' hst
    obtain ⟨n, rfl⟩ : ∃ q, n = q + 1 := ⟨n - 1, by omega⟩
    obtain ⟨n', rfl⟩ : ∃ q, n' = q + 1 := ⟨n' - 1, by omega⟩
    have hkw : k < wn := by omega
    have hd := dp_le fw k
    have f11 := hF.1 k hkw
    by_cases hop : (-7 : Int32) < fw k
    · have hd1 : dp fw (k + 1) = dp fw k + 1 := by rw [dp, if_pos hop]
      have e1 : zf_Fo_joinsTwo (fw k) = some 0 := by rw [zf_Fo_joinsTwo, if_pos hop]
      have e2 : zf_Mo_isOfTwo (fw k) = some 0 := by rw [zf_Mo_isOfTwo, if_pos hop]
      have push : ∀ (x : Int64) (i : Nat), i < dp fw (k + 1) → vp_updL xfs (dp fw k) x i = vp_updL mst (dp fw k) x i := fun x i hi => by
        rw [pz_updL, pz_updL]
        by_cases z : i = dp fw k
        · rw [if_pos z, if_pos z]
        · rw [if_neg z, if_neg z]; exact hst i (by omega)
      by_cases hneg : fw k < 0
      · by_cases h6 : fw k = -6
        · obtain ⟨r, s1, m1, m2, m3, m4, a, b⟩ := ih (k + 1) n n' (vp_updL xfs (dp fw k) (oc po (nI q) np).toInt64) (vp_updL mst (dp fw k) (oc po (nI q) np).toInt64) mow msu mne (by omega) (by omega) (by omega) (push _)
          rw [hd1] at a b
          refine ⟨r, s1, m1, m2, m3, m4, ?_, ?_⟩
          · rw [zf_Fo_value_L5, if_neg (nI_ge hkw (by omega))]
            simp (disch := omega) only [nI_clamp, pz_i2, nI_1]
            rw [e1, pz_bs, if_pos rfl, zf_Fo_valueOf, if_pos hneg, if_pos h6, pz_bs]
            exact a
          · have ec : zf_Mo_countOf (nI q) (nI np) po = some (oc po (nI q) np).toInt64 := pm_oc hp (nI q) np 0 2000 (by omega) (by omega)
            rw [zf_Mo_valueOf_L4, if_neg (nI_ge hkw (by omega))]
            simp (disch := omega) only [nI_clamp, pz_i2, nI_1]
            rw [e2, pz_bs, if_pos rfl, if_pos hneg, if_pos h6, ec, pz_bs]
            exact b
        · obtain ⟨c, hc5, ec⟩ := pz_sw hneg hop h6
          have es : zf_Fo_share (nI c) sm = some (shr sm c) := px_shL sm hc5 hS 5 0 2000 (by omega) (by omega)
          obtain ⟨a1, a2, a3, em⟩ := pm_shL (pk := pk) (pg := pg) (cp := cp) (cd := cd) (ck := ck) (cg := cg) hp hc ho hi hq sm hT hc5 5 0 2000 mow msu mne (by omega) (by omega)
          have em : zf_Mo_shareOf (nI q) (nI c) (nI np) (nI nc) po pk pg pi cp cd ck cg mow msu mne = some (shr sm c, a1, a2, a3) := by rw [if_neg (by omega)] at em; exact em
          obtain ⟨r, s1, m1, m2, m3, m4, a, b⟩ := ih (k + 1) n n' (vp_updL xfs (dp fw k) (shr sm c)) (vp_updL mst (dp fw k) (shr sm c)) a1 a2 a3 (by omega) (by omega) (by omega) (push _)
          rw [hd1] at a b
          refine ⟨r, s1, m1, m2, m3, m4, ?_, ?_⟩
          · rw [zf_Fo_value_L5, if_neg (nI_ge hkw (by omega))]
            simp (disch := omega) only [nI_clamp, pz_i2, nI_1]
            rw [e1, pz_bs, if_pos rfl, zf_Fo_valueOf, if_pos hneg, if_neg h6, ec, es, pz_bs, pz_bs]
            exact a
          · rw [zf_Mo_valueOf_L4, if_neg (nI_ge hkw (by omega))]
            simp (disch := omega) only [nI_clamp, pz_i2, nI_1]
            rw [e2, pz_bs, if_pos rfl, if_pos hneg, if_neg h6, ec, em, pz_bs]
            exact b
      · obtain ⟨r, s1, m1, m2, m3, m4, a, b⟩ := ih (k + 1) n n' (vp_updL xfs (dp fw k) (fw k).toInt64) (vp_updL mst (dp fw k) (fw k).toInt64) mow msu mne (by omega) (by omega) (by omega) (push _)
        rw [hd1] at a b
        refine ⟨r, s1, m1, m2, m3, m4, ?_, ?_⟩
        · rw [zf_Fo_value_L5, if_neg (nI_ge hkw (by omega))]
          simp (disch := omega) only [nI_clamp, pz_i2, nI_1]
          rw [e1, pz_bs, if_pos rfl, zf_Fo_valueOf, if_neg hneg, pz_bs]
          exact a
        · rw [zf_Mo_valueOf_L4, if_neg (nI_ge hkw (by omega))]
          simp (disch := omega) only [nI_clamp, pz_i2, nI_1]
          rw [e2, pz_bs, if_pos rfl, if_neg hneg]
          exact b
    · have h2 := hF.2.1 k hkw hop
      have hd1 : dp fw (k + 1) = dp fw k - 1 := by rw [dp, if_neg hop]
      have e1 : zf_Fo_joinsTwo (fw k) = some 1 := by rw [zf_Fo_joinsTwo, if_neg hop, if_neg f11]
      have e2 : zf_Mo_isOfTwo (fw k) = some 1 := by rw [zf_Mo_isOfTwo, if_neg hop]
      have g1 : nI (dp fw k) + (-1 : Int32) = nI (dp fw k - 1) := by
        obtain ⟨z, hz⟩ : ∃ z, dp fw k = z + 1 := ⟨dp fw k - 1, by omega⟩
        rw [hz, pk_m1]; rfl
      have g2 : nI (dp fw k - 1) - (1 : Int32) = nI (dp fw k - 2) := by
        obtain ⟨z, hz⟩ : ∃ z, dp fw k - 1 = z + 1 := ⟨dp fw k - 2, by omega⟩
        rw [hz, nI_pred]; congr 1; omega
      have v1 : xfs (dp fw k - 2) = mst (dp fw k - 2) := hst _ (by omega)
      have v2 : xfs (dp fw k - 1) = mst (dp fw k - 1) := hst _ (by omega)
      obtain ⟨r, s1, m1, m2, m3, m4, a, b⟩ := ih (k + 1) n n' (vp_updL xfs (dp fw k - 2) (jn (fw k) (mst (dp fw k - 2)) (mst (dp fw k - 1)))) (vp_updL mst (dp fw k - 2) (jn (fw k) (mst (dp fw k - 2)) (mst (dp fw k - 1)))) mow msu mne (by omega) (by omega) (by omega) (fun i hi => by
        rw [pz_updL, pz_updL]
        by_cases z : i = dp fw k - 2
        · rw [if_pos z, if_pos z]
        · rw [if_neg z, if_neg z]; exact hst i (by omega))
      rw [hd1] at a b
      have l2 : ¬ nI (dp fw k) < (2 : Int32) := nI_nlt (b := 2) h2 (by omega)
      refine ⟨r, s1, m1, m2, m3, m4, ?_, ?_⟩
      · rw [zf_Fo_value_L5, if_neg (nI_ge hkw (by omega))]
        simp (disch := omega) only [nI_clamp, pz_i2, nI_1, g1, g2]
        rw [e1, pz_bs, if_neg pz_b1, if_neg l2, px_jn, pz_bs, v1, v2]
        exact a
      · rw [zf_Mo_valueOf_L4, if_neg (nI_ge hkw (by omega))]
        simp (disch := omega) only [nI_clamp, pz_i2, nI_1, g1, g2]
        rw [e2, pz_bs, if_neg pz_b1, pm_jn, pz_bs]
        exact b
theorem p_valueFor (hI : IP np po pk pi pg) (hC : IC nc ck cg) {q : Nat} (hq : q < 8) {wn : Nat} {fw : Nat → Int32} (hw : wn ≤ 150) (hF : WF wn fw) (sm nt nl nd xfs mst mow msu mne : Nat → Int64) : ∃ r s1 t1 t2 t3 s2 m1 m2 m3 m4, zf_MP_valueFor (nI q) (nI np) (nI wn) sm po pk pg pi (nI nc) cp cd ck cg nt nl nd fw xfs = some (r, s1, t1, t2, t3, s2) ∧ zf_Mo_valueOf (nI q) (nI np) (nI nc) (nI wn) po pk pg pi cp cd ck cg fw mst mow msu mne = some (r, m1, m2, m3, m4) := by
  obtain ⟨hp, ho, hi, hk5, hG, hR⟩ := id hI
  obtain ⟨hc, hck, hcg⟩ := id hC
  obtain ⟨s1, t1, t2, t3, e1, h1⟩ := px_sw (pg := pg) (cg := cg) (d := 100000) (cp := cp) (cd := cd) hp hc ho hi (hk_kd hk5 hck) hq sm nt nl nd
  obtain ⟨r, s2, m1, m2, m3, m4, a, b⟩ := p_value hI hC hq s1 h1 hw hF wn 0 2000 2000 xfs mst mow msu mne (by omega) (by omega) (by omega) (fun i hi => absurd hi (Nat.not_lt_zero i))
  refine ⟨r, s1, t1, t2, t3, s2, m1, m2, m3, m4, ?_, b⟩
  have e2 : zf_Pa_ownCount (nI q) (nI np) po = some (oc po (nI q) np) := px_oc hp (nI q) np 0 2000 (by omega) (by omega)
  have a : zf_Fo_value (oc po (nI q) np) (nI wn) s1 fw xfs = some (r, s2) := a
  rw [zf_MP_valueFor, e1, pz_bs, e2, pz_bs, a, pz_bs]
/-- the formula: told or not -/
def IF (wn : Nat) (fw : Nat → Int32) (hf : Int32) : Prop := wn ≤ 150 ∧ ((wn = 0 ∧ hf = 0) ∨ (0 < wn ∧ hf = 1 ∧ WF wn fw))
theorem pp_scored {g : Nat} (hg : g ≤ 8) (hI : IP np po pk pi pg) (hC : IC nc ck cg) {wn : Nat} {fw : Nat → Int32} {hf : Int32} (hF : IF wn fw hf) (u1 : Int32) (sm nt nl nd xfs mst mow msu mne : Nat → Int64) : ∃ r s1 t1 t2 t3 s2 m1 m2 m3 m4, zf_MP_scored u1 (nI g) (nI np) (nI wn) sm po pk pg pi (nI nc) cp cd ck cg nt nl nd fw xfs = some (r, s1, t1, t2, t3, s2) ∧ zf_Mo_scored u1 (nI g) (nI np) (nI nc) (nI wn) hf po pk pg pi cp cd ck cg fw mst mow msu mne = some (r, m1, m2, m3, m4) := by
  obtain ⟨hw, ⟨rfl, rfl⟩ | ⟨hw0, rfl, hF⟩⟩ := hF
  · exact ⟨_, sm, nt, nl, nd, xfs, mst, mow, msu, mne, by rw [zf_MP_scored, zf_Fo_isTold, if_pos (by decide), pz_bs, if_pos rfl], by rw [zf_Mo_scored, if_pos rfl]⟩
  · have e0 : zf_Fo_isTold (nI wn) = some 1 := by rw [zf_Fo_isTold, if_neg (nI_nle hw0 (by omega))]
    rcases pz_good u1 (g := g) (by omega) with ⟨q, hq, eq, a1, b1⟩ | ⟨a1, b1⟩
    · subst eq
      obtain ⟨r, s1, t1, t2, t3, s2, m1, m2, m3, m4, a, b⟩ := p_valueFor (cp := cp) (cd := cd) hI hC (show q < 8 by omega) hw hF sm nt nl nd xfs mst mow msu mne
      refine ⟨r, s1, t1, t2, t3, s2, m1, m2, m3, m4, ?_, ?_⟩
      · rw [zf_MP_scored, e0, pz_bs, if_neg pz_b1, a1, pz_bs, if_neg pz_b1, a, pz_bs]
      · rw [zf_Mo_scored, if_neg pz_b1, b1, pz_bs, if_neg pz_b1, b, pz_bs]
    · exact ⟨_, sm, nt, nl, nd, xfs, mst, mow, msu, mne, by rw [zf_MP_scored, e0, pz_bs, if_neg pz_b1, a1, pz_bs, if_pos rfl], by rw [zf_Mo_scored, if_neg pz_b1, b1, pz_bs, if_pos rfl]⟩
theorem pp_swap {ver : Nat → Int32} (hI : IP np po pk pi pg) (hC : IC nc ck cg) {wn : Nat} {fw : Nat → Int32} {hf : Int32} (hF : IF wn fw hf) (u1 u2 : Int32) (sm nt nl nd xfs mst mow msu mne : Nat → Int64) : ∃ a ver' nc' cp' cd' ck' cg' s1 t1 t2 t3 s2 m1 m2 m3 m4, IC nc' ck' cg' ∧ zf_MP_swap u1 u2 ver (nI np) (nI wn) sm po pk pg pi (nI nc) cp cd ck cg nt nl nd fw xfs = some (a, ver', s1, nI nc', cp', cd', ck', cg', t1, t2, t3, s2) ∧ zf_Mo_swap u1 u2 (nI np) (nI nc) (nI wn) hf ver po pk pg pi cp cd ck cg fw mst mow msu mne = some (a, nI nc', ver', cp', cd', ck', cg', m1, m2, m3, m4) := by
  obtain ⟨hp, ho, hi, hk5, hG, hR⟩ := id hI
  obtain ⟨hc, hck, hcg⟩ := id hC
  have same : ∀ {P : Prop}, zf_MP_swap u1 u2 ver (nI np) (nI wn) sm po pk pg pi (nI nc) cp cd ck cg nt nl nd fw xfs = some (-1, ver, sm, nI nc, cp, cd, ck, cg, nt, nl, nd, xfs) → zf_Mo_swap u1 u2 (nI np) (nI nc) (nI wn) hf ver po pk pg pi cp cd ck cg fw mst mow msu mne = some (-1, nI nc, ver, cp, cd, ck, cg, mst, mow, msu, mne) → ∃ a ver' nc' cp' cd' ck' cg' s1 t1 t2 t3 s2 m1 m2 m3 m4, IC nc' ck' cg' ∧ zf_MP_swap u1 u2 ver (nI np) (nI wn) sm po pk pg pi (nI nc) cp cd ck cg nt nl nd fw xfs = some (a, ver', s1, nI nc', cp', cd', ck', cg', t1, t2, t3, s2) ∧ zf_Mo_swap u1 u2 (nI np) (nI nc) (nI wn) hf ver po pk pg pi cp cd ck cg fw mst mow msu mne = some (a, nI nc', ver', cp', cd', ck', cg', m1, m2, m3, m4) := fun a b => ⟨-1, ver, nc, cp, cd, ck, cg, sm, nt, nl, nd, xfs, mst, mow, msu, mne, hC, a, b⟩
  have mNo : ∀ {P : Prop}, (zf_Mo_isPart u1 (nI np) = some 0 ∨ (zf_Mo_isPart u1 (nI np) = some 1 ∧ (zf_Mo_isKind u2 = some 0 ∨ (zf_Mo_isKind u2 = some 1 ∧ (hf = 0 ∨ (hf = 1 ∧ nI nc = 20)))))) → zf_Mo_swap u1 u2 (nI np) (nI nc) (nI wn) hf ver po pk pg pi cp cd ck cg fw mst mow msu mne = some (-1, nI nc, ver, cp, cd, ck, cg, mst, mow, msu, mne) := fun h => by
    rcases h with h | ⟨h, h2 | ⟨h2, h3 | ⟨h3, h4⟩⟩⟩
    · rw [zf_Mo_swap, h, pz_bs, if_pos rfl]
    · rw [zf_Mo_swap, h, pz_bs, if_neg pz_b1, h2, pz_bs, if_pos rfl]
    · rw [zf_Mo_swap, h, pz_bs, if_neg pz_b1, h2, pz_bs, if_neg pz_b1, if_pos h3]
    · rw [zf_Mo_swap, h, pz_bs, if_neg pz_b1, h2, pz_bs, if_neg pz_b1, h3, if_neg pz_b1, if_pos h4]
  have pt : zf_Mo_isPart u1 (nI np) = some 0 ∨ zf_Mo_isPart u1 (nI np) = some 1 := by
    rcases pz_part u1 (g := np) (by omega) with ⟨j, hj, ej, a1, b1⟩ | ⟨a1, b1⟩
    · exact Or.inr b1
    · exact Or.inl b1
  have kt : zf_Mo_isKind u2 = some 0 ∨ zf_Mo_isKind u2 = some 1 := by
    rcases pz_kind u2 with ⟨j, hj, ej, a1, b1⟩ | ⟨a1, b1⟩
    · exact Or.inr b1
    · exact Or.inl b1
  obtain ⟨hw, ⟨rfl, rfl⟩ | ⟨hw0, rfl, hF⟩⟩ := hF
  · refine same (P := True) (by rw [zf_MP_swap, zf_Fo_isTold, if_pos (by decide), pz_bs, if_pos rfl]) (mNo (P := True) ?_)
    rcases pt with h | h
    · exact Or.inl h
    · rcases kt with h2 | h2
      · exact Or.inr ⟨h, Or.inl h2⟩
      · exact Or.inr ⟨h, Or.inr ⟨h2, Or.inl rfl⟩⟩
  · have e0 : zf_Fo_isTold (nI wn) = some 1 := by rw [zf_Fo_isTold, if_neg (nI_nle hw0 (by omega))]
    by_cases hn : nc = 20
    · subst hn
      refine same (P := True) (by rw [zf_MP_swap, e0, pz_bs, if_neg pz_b1, zf_Ch_isFull, if_neg (by decide), pz_bs, if_neg pz_b1]) (mNo (P := True) ?_)
      rcases pt with h | h
      · exact Or.inl h
      · rcases kt with h2 | h2
        · exact Or.inr ⟨h, Or.inl h2⟩
        · exact Or.inr ⟨h, Or.inr ⟨h2, Or.inr ⟨rfl, rfl⟩⟩⟩
    · have hlt : nc < 20 := by omega
      have f1 : zf_Ch_isFull (nI nc) = some 0 := by rw [zf_Ch_isFull, if_pos (show nI nc < (20 : Int32) from nI_lt (b := 20) hlt (by omega))]
      have f2 : ¬ nI nc = (20 : Int32) := fun q => hn ((nI_eq (b := 20) (by omega) (by omega)).mp q)
      rcases pz_part u1 (g := np) (by omega) with ⟨j, hj, ej, a1, b1⟩ | ⟨a1, b1⟩
      · rcases pz_kind u2 with ⟨k, hk, ek, a2, b2⟩ | ⟨a2, b2⟩
        · subst ej; subst ek
          obtain ⟨q1, q2⟩ := ho.at_ hj
          obtain ⟨w, hw9, ew⟩ := hg_gr (cp := cp) (cd := cd) (d := 100000) hG hcg hj
          have hC' : IC (nc + 1) (upd ck nc (nI k)) (vp_updL cg nc (gr pg nc cp cd cg 100000 j)) := by rw [ew]; exact hC.push hlt hk hw9
          obtain ⟨r, s1, t1, t2, t3, s2, m1, m2, m3, m4, a, b⟩ := p_valueFor (cp := cp) (cd := cd) hI hC q2 hw hF sm nt nl nd xfs mst mow msu mne
          obtain ⟨r', s1', t1', t2', t3', s2', m1', m2', m3', m4', a', b'⟩ := p_valueFor (cp := upd cp nc (nI j)) (cd := vp_updL cd nc 100000) hI hC' q2 hw hF s1 t1 t2 t3 s2 m1 m2 m3 m4
          by_cases hlt2 : r < r'
          · refine ⟨1, upd ver (ow po j) (ver (ow po j) + 1), nc + 1, upd cp nc (nI j), vp_updL cd nc 100000, upd ck nc (nI k), vp_updL cg nc (gr pg nc cp cd cg 100000 j), s1', t1', t2', t3', s2', m1', m2', m3', m4', hC', ?_, ?_⟩
            · rw [zf_MP_swap, e0, pz_bs, if_neg pz_b1, f1, pz_bs, if_pos rfl, a1, pz_bs, if_neg pz_b1, a2, pz_bs, if_neg pz_b1]
              simp (disch := omega) only [nI_clamp, pz_i2, q1]
              rw [a, pz_bs, px_gr hc (by omega), pz_bs, px_add hlt, pz_bs]
              simp only
              rw [a', pz_bs]
              simp only [if_pos hlt2]
            · rw [zf_Mo_swap, b1, pz_bs, if_neg pz_b1, b2, pz_bs, if_neg pz_b1, if_neg pz_b1, if_neg f2]
              simp (disch := omega) only [nI_clamp, pz_i2, q1]
              rw [b, pz_bs, pm_gr hc (by omega), pz_bs, pm_add hlt, pz_bs]
              simp only
              rw [b', pz_bs]
              simp only [if_neg (Int64.not_le.mpr hlt2)]
          · have hd : nI (nc + 1) - (1 : Int32) = nI nc := nI_pred nc
            refine ⟨0, ver, nc, upd cp nc (nI j), vp_updL cd nc 100000, upd ck nc (nI k), vp_updL cg nc (gr pg nc cp cd cg 100000 j), s1', t1', t2', t3', s2', m1', m2', m3', m4', ⟨by omega, fun i hi2 => hC'.2.1 i (by omega), fun i hi2 => hC'.2.2 i (by omega)⟩, ?_, ?_⟩
            · rw [zf_MP_swap, e0, pz_bs, if_neg pz_b1, f1, pz_bs, if_pos rfl, a1, pz_bs, if_neg pz_b1, a2, pz_bs, if_neg pz_b1]
              simp (disch := omega) only [nI_clamp, pz_i2, q1]
              rw [a, pz_bs, px_gr hc (by omega), pz_bs, px_add hlt, pz_bs]
              simp only
              rw [a', pz_bs]
              simp only [if_neg hlt2]
              rw [zf_Ch_dropLast, if_neg (nI_nle (by omega) (by omega)), pz_bs, hd]
            · rw [zf_Mo_swap, b1, pz_bs, if_neg pz_b1, b2, pz_bs, if_neg pz_b1, if_neg pz_b1, if_neg f2]
              simp (disch := omega) only [nI_clamp, pz_i2, q1]
              rw [b, pz_bs, pm_gr hc (by omega), pz_bs, pm_add hlt, pz_bs]
              simp only
              rw [b', pz_bs]
              simp only [if_pos (Int64.not_lt.mp hlt2), hd]
        · refine same (P := True) (by rw [zf_MP_swap, e0, pz_bs, if_neg pz_b1, f1, pz_bs, if_pos rfl, a1, pz_bs, if_neg pz_b1, a2, pz_bs, if_pos rfl]) (mNo (P := True) (Or.inr ⟨b1, Or.inl b2⟩))
      · exact same (P := True) (by rw [zf_MP_swap, e0, pz_bs, if_neg pz_b1, f1, pz_bs, if_pos rfl, a1, pz_bs, if_pos rfl]) (mNo (P := True) (Or.inl b1))
end PVA
end
section
/-! ===== rows of kit/laws/BITS.to-paste: Int32 by its bits ===== -/
def bt (x : Int32) (i : Nat) : Bool := x.toBitVec.getLsbD i
theorem b_ext {x y : Int32} (h : ∀ i, i < 32 → bt x i = bt y i) : x = y := Int32.toBitVec_inj.mp (BitVec.eq_of_getLsbD_eq (fun i hi => h i hi))
theorem b_or (x y : Int32) (i : Nat) : bt (x ||| y) i = (bt x i || bt y i) := by unfold bt; rw [Int32.toBitVec_or, BitVec.getLsbD_or]
theorem b_and (x y : Int32) (i : Nat) : bt (x &&& y) i = (bt x i && bt y i) := by unfold bt; rw [Int32.toBitVec_and, BitVec.getLsbD_and]
theorem b_0 (i : Nat) : bt 0 i = false := BitVec.getLsbD_zero
theorem s_l : ∀ n, n < 32 → ((nI n &&& 31).toBitVec.smod 32).toNat = n := by decide +kernel
theorem b_shl (n : Nat) (hn : n < 32) (x : Int32) {i : Nat} (hi : i < 32) : bt (x <<< (nI n &&& 31)) i = (decide (n ≤ i) && bt x (i - n)) := by
  unfold bt
  rw [Int32.toBitVec_shiftLeft]
  show (x.toBitVec <<< ((nI n &&& 31).toBitVec.smod 32).toNat).getLsbD i = _
  rw [s_l n hn, BitVec.getLsbD_shiftLeft]
  rcases Nat.lt_or_ge i n with h | h
  · simp [h, Nat.not_le.mpr h]
  · simp [hi, h, Nat.not_lt.mpr h]
theorem b_sshr (n : Nat) (hn : n < 32) (x : Int32) {i : Nat} (hi : i < 32) : bt (x >>> (nI n &&& 31)) i = if n + i < 32 then bt x (n + i) else bt x 31 := by
  unfold bt
  rw [Int32.toBitVec_shiftRight]
  show (x.toBitVec.sshiftRight ((nI n &&& 31).toBitVec.smod 32).toNat).getLsbD i = _
  rw [s_l n hn, BitVec.getLsbD_sshiftRight, BitVec.msb_eq_getLsbD_last]
  simp [hi]
/-! PURE: into: what is within what -/
theorem b_1 : ∀ i, i < 32 → bt 1 i = decide (i = 0) := by decide +kernel
theorem b_test {x : Int32} : (x &&& (1 : Int32)) = 1 ↔ bt x 0 = true := by
  constructor
  · intro h
    have a := b_and x 1 0
    rw [h, b_1 0 (by omega)] at a
    simpa using a.symm
  · intro h
    refine b_ext (fun i hi => ?_)
    rw [b_and, b_1 i hi]
    by_cases q : i = 0
    · subst q; rw [h]; rfl
    · simp [q]
/-- the bit of a good in a set -/
def bs (x : Int32) (v : Nat) : Prop := bt x v = true
theorem bs_iff {x : Int32} {v : Nat} (hv : v < 8) : ((x >>> (nI v &&& 31)) &&& (1 : Int32)) = 1 ↔ bs x v := by
  rw [b_test, b_sshr v (by omega) x (by omega), if_pos (by omega)]
  exact Iff.rfl
theorem bs_one {i v : Nat} (hi : i < 8) (hv : v < 8) : bs ((1 : Int32) <<< (nI i &&& 31)) v ↔ v = i := by
  unfold bs
  rw [b_shl i (by omega) 1 (by omega), b_1 (v - i) (by omega)]
  simp
  omega
theorem bs_or {x y : Int32} {v : Nat} : bs (x ||| y) v ↔ bs x v ∨ bs y v := by
  unfold bs
  rw [b_or]
  simp
theorem or_0 (x : Int32) : x ||| (0 : Int32) = x := b_ext (fun i _ => by rw [b_or, b_0]; simp)
section PIN
variable {np : Nat} {po pi : Nat → Int32}
/-- by so many steps from i to v -/
def RT (np : Nat) (po pi : Nat → Int32) (i : Nat) : Nat → Nat → Prop
  | 0, v => v = i
  | d + 1, v => ∃ j, j < np ∧ pi j = nI v ∧ RT np po pi i d (ow po j)
def LN (np : Nat) (po pi : Nat → Int32) (i : Nat) : Nat → Nat → Nat
  | 0, v => if v = i then 1 else 0
  | d + 1, v => sN (fun j => if pi j = nI v then LN np po pi i d (ow po j) else 0) np
theorem LA_LN (i : Nat) : ∀ (d v : Nat), LA np po pi (e1 i) d v = lN (LN np po pi i d v)
  | 0, v => by
    rw [LA, e1, LN]
    by_cases q : v = i
    · rw [if_pos q, if_pos q]; rfl
    · rw [if_neg q, if_neg q]; rfl
  | d + 1, v => by
    rw [LA, AT, LN]
    refine sg_lN (fun j hj => ?_)
    by_cases q : pi j = nI v
    · rw [if_pos q, if_pos q, LA_LN i d]
    · rw [if_neg q, if_neg q]; rfl
theorem LN_bd (hp : np ≤ 24) (i : Nat) : ∀ (d v : Nat), LN np po pi i d v ≤ 24 ^ d
  | 0, v => by
    rw [LN]
    by_cases q : v = i
    · rw [if_pos q]; decide
    · rw [if_neg q]; decide
  | d + 1, v => by
    rw [LN]
    refine Nat.le_trans (sN_bd (M := 24 ^ d) (fun j hj => ?_)) (by rw [Nat.pow_succ, Nat.mul_comm]; exact Nat.mul_le_mul_left _ hp)
    by_cases q : pi j = nI v
    · rw [if_pos q]; exact LN_bd hp i d _
    · rw [if_neg q]; exact Nat.zero_le _
theorem sN_pos {f : Nat → Nat} : ∀ {n : Nat}, 0 < sN f n ↔ ∃ j, j < n ∧ 0 < f j
  | 0 => by
    rw [sN]
    exact ⟨fun h => absurd h (by omega), fun ⟨j, h, _⟩ => by omega⟩
  | n + 1 => by
    rw [sN]
    constructor
    · intro h
      by_cases q : 0 < f n
      · exact ⟨n, by omega, q⟩
      · obtain ⟨j, h1, h2⟩ := sN_pos.mp (show 0 < sN f n by omega)
        exact ⟨j, by omega, h2⟩
    · rintro ⟨j, h1, h2⟩
      by_cases q : j = n
      · subst q; omega
      · have := sN_pos.mpr ⟨j, (show j < n by omega), h2⟩
        omega
theorem LN_RT (i : Nat) : ∀ (d v : Nat), 0 < LN np po pi i d v ↔ RT np po pi i d v
  | 0, v => by
    rw [LN, RT]
    by_cases q : v = i
    · rw [if_pos q]; exact ⟨fun _ => q, fun _ => by omega⟩
    · rw [if_neg q]; exact ⟨fun h => absurd h (by omega), fun h => absurd h q⟩
  | d + 1, v => by
    rw [LN, RT, sN_pos]
    constructor
    · rintro ⟨j, h1, h2⟩
      by_cases q : pi j = nI v
      · rw [if_pos q] at h2
        exact ⟨j, h1, q, (LN_RT i d _).mp h2⟩
      · rw [if_neg q] at h2; omega
    · rintro ⟨j, h1, h2, h3⟩
      exact ⟨j, h1, by rw [if_pos h2]; exact (LN_RT i d _).mpr h3⟩
/-- the class's test -/
theorem px_test (hp : np ≤ 24) (i v : Nat) : sg (fun d => LA np po pi (e1 i) d v) 8 ≤ 0 ↔ ¬ ∃ d, d < 8 ∧ RT np po pi i d v := by
  have e : sg (fun d => LA np po pi (e1 i) d v) 8 = lN (sN (fun d => LN np po pi i d v) 8) := sg_lN (fun d _ => LA_LN i d v)
  have b : sN (fun d => LN np po pi i d v) 8 ≤ 8 * 24 ^ 8 := sN_bd (fun d hd => Nat.le_trans (LN_bd hp i d v) (Nat.pow_le_pow_right (by omega) (by omega)))
  have b2 : 8 * 24 ^ 8 < 2 ^ 63 := by decide
  rw [e, show (0 : Int64) = lN 0 from rfl, pk_lLE (by omega) (by omega)]
  constructor
  · rintro h ⟨d, h1, h2⟩
    have := (sN_pos (f := fun d => LN np po pi i d v)).mpr ⟨d, h1, (LN_RT i d v).mpr h2⟩
    omega
  · intro h
    by_cases q : 0 < sN (fun d => LN np po pi i d v) 8
    · obtain ⟨d, h1, h2⟩ := sN_pos.mp q
      exact absurd ⟨d, h1, (LN_RT i d v).mp h2⟩ h
    · omega
/-- within t steps -/
def RW (np : Nat) (po pi : Nat → Int32) (i t v : Nat) : Prop := ∃ d, d ≤ t ∧ RT np po pi i d v
noncomputable def ct (P : Nat → Prop) : Nat := sN (fun v => @ite _ (P v) (Classical.propDecidable _) 1 0) 8
theorem sN_one {a : Nat} (ha : a < 8) : sN (fun v => if v = a then 1 else 0) 8 = 1 := by
  rcases (show a = 0 ∨ a = 1 ∨ a = 2 ∨ a = 3 ∨ a = 4 ∨ a = 5 ∨ a = 6 ∨ a = 7 by omega) with rfl | rfl | rfl | rfl | rfl | rfl | rfl | rfl <;> decide
theorem ct_lt {P Q : Nat → Prop} (h : ∀ v, v < 8 → P v → Q v) {a : Nat} (ha : a < 8) (h1 : Q a) (h2 : ¬ P a) : ct P + 1 ≤ ct Q := by
  have e := sN_one ha
  have key : ct P + sN (fun v => if v = a then 1 else 0) 8 ≤ ct Q := by
    unfold ct
    rw [← sN_add]
    refine sN_le (fun v hv => ?_)
    by_cases p : P v
    · have n : ¬ v = a := fun z => h2 (z ▸ p)
      rw [if_pos p, if_neg n, if_pos (h v hv p)]
      omega
    · rw [if_neg p]
      by_cases z : v = a
      · have hQ : Q v := z ▸ h1
        rw [if_pos z, if_pos hQ]
        omega
      · rw [if_neg z]
        exact Nat.zero_le _
  omega
theorem ct_le (P : Nat → Prop) : ct P ≤ 8 := by
  unfold ct
  refine Nat.le_trans (sN_bd (M := 1) (fun v _ => ?_)) (by omega)
  by_cases p : P v
  · rw [if_pos p]; omega
  · rw [if_neg p]; omega
theorem RT_short (ho : HO np po) {i : Nat} (hi : i < 8) {s v : Nat} (hv : v < 8) (h : RT np po pi i s v) : ∃ d, d < 8 ∧ RT np po pi i d v := by
  have stab : ∃ t, t ≤ 7 ∧ ∀ v, v < 8 → RW np po pi i (t + 1) v → RW np po pi i t v := by
    refine Classical.byContradiction (fun hno => ?_)
    have grow : ∀ t, t ≤ 7 → ∃ v, v < 8 ∧ RW np po pi i (t + 1) v ∧ ¬ RW np po pi i t v := fun t ht =>
      Classical.byContradiction (fun q => hno ⟨t, ht, fun v hv h => Classical.byContradiction (fun z => q ⟨v, hv, h, z⟩)⟩)
    have cnt : ∀ t, t ≤ 8 → t + 1 ≤ ct (RW np po pi i t) := by
      intro t
      induction t with
      | zero =>
        intro _
        have := ct_lt (P := fun _ => False) (Q := RW np po pi i 0) (fun _ _ z => z.elim) hi ⟨0, by omega, rfl⟩ (fun z => z)
        omega
      | succ t ih =>
        intro ht
        obtain ⟨v, h1, h2, h3⟩ := grow t (by omega)
        have := ct_lt (P := RW np po pi i t) (Q := RW np po pi i (t + 1)) (fun _ _ ⟨d, z1, z2⟩ => ⟨d, by omega, z2⟩) h1 h2 h3
        have := ih (by omega)
        omega
    have a := cnt 8 (by omega)
    have b := ct_le (RW np po pi i 8)
    omega
  obtain ⟨t, ht, hs⟩ := stab
  have all : ∀ s v, v < 8 → RT np po pi i s v → RW np po pi i t v := by
    intro s
    induction s with
    | zero => intro v _ h; exact ⟨0, by omega, h⟩
    | succ s ih =>
      rintro v hv ⟨j, h1, h2, h3⟩
      obtain ⟨d, z1, z2⟩ := ih (ow po j) (ho.at_ h1).2 h3
      exact hs v hv ⟨d + 1, by omega, j, h1, h2, z2⟩
  obtain ⟨d, z1, z2⟩ := all s v hv h
  exact ⟨d, by omega, z2⟩
/-- the reference's pass over the parts -/
theorem pm_pass (hp : np ≤ 24) (ho : HO np po) (hi : HI np pi) (v1 v3 : Int32) (K : Int32 → Int32 → Option Int32) : ∀ (m k n : Nat) (x : Int32), k + m = np → m < n → ∃ y, zf_Mo_inside_L15 v1 v3 (nI np) po pi K n x (nI k) = K y (v3 + 1) ∧ (∀ v, bs x v → bs y v) ∧ (∀ j, k ≤ j → j < np → bs x (ow po j) → ∀ w, w < 8 → pi j = nI w → bs y w) ∧ (∀ P : Nat → Prop, (∀ v, v < 8 → bs x v → P v) → (∀ j, j < np → P (ow po j) → ∀ w, w < 8 → pi j = nI w → P w) → ∀ v, v < 8 → bs y v → P v) := by
  intro m
  induction m with
  | zero =>
    intro k n x hk hn
    obtain ⟨n, rfl⟩ : ∃ q, n = q + 1 := ⟨n - 1, by omega⟩
    have e : k = np := by omega
    subst e
    exact ⟨x, by rw [zf_Mo_inside_L15, if_pos (nI_le (Nat.le_refl _) (by omega))], fun _ h => h, fun j h1 h2 => by omega, fun P h _ => h⟩
  | succ m ih =>
    intro k n x hk hn
    obtain ⟨n, rfl⟩ : ∃ q, n = q + 1 := ⟨n - 1, by omega⟩
    have hkn : k < np := by omega
    obtain ⟨q1, q2⟩ := ho.at_ hkn
    have same : ∀ {R : Prop}, (zf_Mo_inside_L15 v1 v3 (nI np) po pi K (n + 1) x (nI k) = zf_Mo_inside_L15 v1 v3 (nI np) po pi K n x (nI (k + 1))) → (bs x (ow po k) → ∀ w, w < 8 → ¬ pi k = nI w) → ∃ y, zf_Mo_inside_L15 v1 v3 (nI np) po pi K (n + 1) x (nI k) = K y (v3 + 1) ∧ (∀ v, bs x v → bs y v) ∧ (∀ j, k ≤ j → j < np → bs x (ow po j) → ∀ w, w < 8 → pi j = nI w → bs y w) ∧ (∀ P : Nat → Prop, (∀ v, v < 8 → bs x v → P v) → (∀ j, j < np → P (ow po j) → ∀ w, w < 8 → pi j = nI w → P w) → ∀ v, v < 8 → bs y v → P v) := fun e hno => by
      obtain ⟨y, a, b, c, d⟩ := ih (k + 1) n x (by omega) (by omega)
      refine ⟨y, e.trans a, b, fun j h1 h2 h3 w h4 h5 => ?_, d⟩
      by_cases z : j = k
      · subst z; exact absurd h5 (hno h3 w h4)
      · exact c j (by omega) h2 h3 w h4 h5
    have hexp : zf_Mo_inside_L15 v1 v3 (nI np) po pi K (n + 1) x (nI k) = (if ((x >>> (nI (ow po k) &&& 31)) &&& (1 : Int32)) = 1 then (if pi k < 0 then zf_Mo_inside_L15 v1 v3 (nI np) po pi K n x (nI (k + 1)) else zf_Mo_inside_L15 v1 v3 (nI np) po pi K n (x ||| ((1 : Int32) <<< (pi k &&& 31))) (nI (k + 1))) else zf_Mo_inside_L15 v1 v3 (nI np) po pi K n x (nI (k + 1))) := by
      rw [zf_Mo_inside_L15, if_neg (nI_ge hkn (by omega))]
      simp (disch := omega) only [nI_clamp, pz_i2, nI_1, or_0]
      rw [← q1]
    by_cases hb : bs x (ow po k)
    · rw [if_pos ((bs_iff q2).mpr hb)] at hexp
      rcases hi k hkn with hm | ⟨w0, hw0, hm⟩
      · rw [hm, if_pos (by decide)] at hexp
        exact same (R := True) hexp (fun _ w hw z => pz_neg w (by omega) (by rw [← z]; exact hm))
      · rw [hm, if_neg (nI_pos (by omega))] at hexp
        obtain ⟨y, a, b, c, d⟩ := ih (k + 1) n (x ||| ((1 : Int32) <<< (nI w0 &&& 31))) (by omega) (by omega)
        refine ⟨y, hexp.trans a, fun v h => b v (bs_or.mpr (Or.inl h)), fun j h1 h2 h3 w h4 h5 => ?_, fun P h1 h2 => d P (fun v hv h => ?_) h2⟩
        · by_cases z : j = k
          · subst z
            have ew : w = w0 := (nI_eq (by omega) (by omega)).mp (h5.symm.trans hm)
            subst ew
            exact b w (bs_or.mpr (Or.inr ((bs_one h4 h4).mpr rfl)))
          · exact c j (by omega) h2 (bs_or.mpr (Or.inl h3)) w h4 h5
        · rcases bs_or.mp h with h | h
          · exact h1 v hv h
          · have ev := (bs_one hw0 hv).mp h
            subst ev
            exact h2 k hkn (h1 _ q2 hb) v hv hm
    · rw [if_neg (fun z => hb ((bs_iff q2).mp z))] at hexp
      exact same (R := True) hexp (fun z => absurd z hb)
theorem pm_turns (hp : np ≤ 24) (ho : HO np po) (hi : HI np pi) {i : Nat} (v1 : Int32) : ∀ (m t n : Nat) (x : Int32), t + m = 8 → m < n → (∀ v, v < 8 → bs x v → ∃ d, RT np po pi i d v) → (∀ d v, d ≤ t → v < 8 → RT np po pi i d v → bs x v) → ∃ y, zf_Mo_inside_L6 v1 (nI np) po pi n x (nI t) = some y ∧ (∀ v, v < 8 → bs y v → ∃ d, RT np po pi i d v) ∧ (∀ d v, d ≤ 8 → v < 8 → RT np po pi i d v → bs y v) := by
  intro m
  induction m with
  | zero =>
    intro t n x hk hn h1 h2
    obtain ⟨n, rfl⟩ : ∃ q, n = q + 1 := ⟨n - 1, by omega⟩
    have e : t = 8 := by omega
    subst e
    exact ⟨x, by rw [zf_Mo_inside_L6, if_pos (by decide)], h1, h2⟩
  | succ m ih =>
    intro t n x hk hn h1 h2
    obtain ⟨n, rfl⟩ : ∃ q, n = q + 1 := ⟨n - 1, by omega⟩
    obtain ⟨y, a, b, c, d⟩ := pm_pass hp ho hi v1 (nI t) (fun uv2 uv3 => zf_Mo_inside_L6 v1 (nI np) po pi n uv2 uv3) np 0 2000 x (by omega) (by omega)
    obtain ⟨z, e, f, g⟩ := ih (t + 1) n y (by omega) (by omega) (d (fun v => ∃ d, RT np po pi i d v) h1 (fun j hj ⟨s, hs⟩ w hw hm => ⟨s + 1, j, hj, hm, hs⟩)) (fun s v hs hv hr => by
      cases s with
      | zero => exact b v (h2 0 v (by omega) hv hr)
      | succ s =>
        obtain ⟨j, hj, hm, hr⟩ := hr
        exact c j (by omega) hj (h2 s _ (by omega) (ho.at_ hj).2 hr) v hv hm)
    refine ⟨z, ?_, f, g⟩
    rw [zf_Mo_inside_L6, if_neg (show ¬ (8 : Int32) ≤ nI t from nI_ge (b := 8) (by omega) (by omega))]
    refine a.trans ?_
    simp only [nI_1]
    exact e
theorem pm_inside (hp : np ≤ 24) (ho : HO np po) (hi : HI np pi) {i : Nat} (hi8 : i < 8) : ∃ y, zf_Mo_inside (nI i) (nI np) po pi = some y ∧ ∀ v, v < 8 → (bs y v ↔ ∃ d, RT np po pi i d v) := by
  obtain ⟨y, a, b, c⟩ := pm_turns (i := i) hp ho hi (nI i) 8 0 2000 ((1 : Int32) <<< (nI i &&& 31)) (by omega) (by omega) (fun v hv h => ⟨0, (bs_one hi8 hv).mp h⟩) (fun d v hd hv hr => by
    rw [show d = 0 by omega] at hr
    exact (bs_one hi8 hv).mpr hr)
  refine ⟨y, a, fun v hv => ⟨b v hv, fun ⟨s, hs⟩ => ?_⟩⟩
  obtain ⟨d, hd, hr⟩ := RT_short ho hi8 hv hs
  exact c d v (by omega) hv hr
theorem IP.into_ {pk : Nat → Int32} {pg : Nat → Int64} (h : IP np po pk pi pg) {jj i : Nat} (hj : jj < np) (hi8 : i < 8) (hno : ¬ ∃ d, RT np po pi i d (ow po jj)) : IP np po pk (upd pi jj (nI i)) pg := by
  obtain ⟨h1, h2, h3, h4, h5, rk, h6⟩ := h
  refine ⟨h1, h2, fun j hj2 => ?_, h4, h5, ?_⟩
  · rw [pz_upd]
    by_cases q : j = jj
    · rw [if_pos q]; exact Or.inr ⟨i, hi8, rfl⟩
    · rw [if_neg q]; exact h3 j hj2
  · refine ⟨fun v => @ite _ (∃ d, RT np po pi i d v) (Classical.propDecidable _) (rk v) (rk v + rk i + 1), fun j hj2 w hw e => ?_⟩
    rw [pz_upd] at e
    by_cases q : j = jj
    · rw [if_pos q] at e
      have ew : w = i := (nI_eq (by omega) (by omega)).mp e.symm
      subst ew
      subst q
      show @ite _ (∃ d, RT np po pi w d w) (Classical.propDecidable _) (rk w) (rk w + rk w + 1) < @ite _ (∃ d, RT np po pi w d (ow po j)) (Classical.propDecidable _) (rk (ow po j)) (rk (ow po j) + rk w + 1)
      rw [if_pos ⟨0, rfl⟩, if_neg hno]
      omega
    · rw [if_neg q] at e
      have old := h6 j hj2 w hw e
      show @ite _ (∃ d, RT np po pi i d w) (Classical.propDecidable _) (rk w) (rk w + rk i + 1) < @ite _ (∃ d, RT np po pi i d (ow po j)) (Classical.propDecidable _) (rk (ow po j)) (rk (ow po j) + rk i + 1)
      by_cases z : ∃ d, RT np po pi i d (ow po j)
      · obtain ⟨d, hd⟩ := z
        rw [if_pos ⟨d + 1, j, hj2, e, hd⟩, if_pos ⟨d, hd⟩]
        exact old
      · rw [if_neg z]
        by_cases z2 : ∃ d, RT np po pi i d w
        · rw [if_pos z2]; omega
        · rw [if_neg z2]; omega
theorem pp_into {g : Nat} {pk ver : Nat → Int32} {pg : Nat → Int64} (hg : g ≤ 8) (hI : IP np po pk pi pg) (u1 u2 : Int32) (nt nl nd : Nat → Int64) : ∃ a ver' pi' t1 t2 t3, IP np po pk pi' pg ∧ zf_MP_into u1 u2 (nI g) ver (nI np) po pi nt nl nd = some (a, ver', pi', t1, t2, t3) ∧ zf_Mo_into u1 u2 (nI g) (nI np) ver po pi = some (a, ver', pi') := by
  obtain ⟨hp, ho, hi, hk5, hG, hR⟩ := id hI
  rcases pz_part u1 (g := np) (by omega) with ⟨j, hj, ej, a1, b1⟩ | ⟨a1, b1⟩
  · rcases pz_good u2 (g := g) (by omega) with ⟨i, hig, ei, a2, b2⟩ | ⟨a2, b2⟩
    · subst ej; subst ei
      obtain ⟨q1, q2⟩ := ho.at_ hj
      rcases hi j hj with hm | ⟨w, hw, hm⟩
      · obtain ⟨t1, t2, t3, e1, h1⟩ := px_cw hp ho hi (show i < 8 by omega) nt nl nd
        obtain ⟨y, e2, h2⟩ := pm_inside hp ho hi (show i < 8 by omega)
        have hn1 : ¬ (0 : Int32) ≤ -1 := by decide
        have test : (t1 (ow po j) ≤ 0) ↔ ¬ bs y (ow po j) := by
          rw [h1 _ q2, px_test hp, h2 _ q2]
          constructor
          · rintro h ⟨s, hs⟩
            exact h (RT_short ho (by omega) q2 hs)
          · rintro h ⟨d, -, hd⟩
            exact h ⟨d, hd⟩
        by_cases hb : bs y (ow po j)
        · refine ⟨0, ver, pi, t1, t2, t3, hI, ?_, ?_⟩
          · rw [zf_MP_into, a1, pz_bs, if_neg pz_b1, a2, pz_bs, if_neg pz_b1]
            simp (disch := omega) only [nI_clamp, pz_i2, hm, if_true, q1]
            rw [zf_Ne_holds, e1, pz_bs]
            simp (disch := omega) only [nI_clamp, pz_i2]
            rw [if_neg (fun z => test.mp z hb), pz_bs]
            simp only [if_neg pz_b1]
          · rw [zf_Mo_into, b1, pz_bs, if_neg pz_b1, b2, pz_bs, if_neg pz_b1]
            simp (disch := omega) only [nI_clamp, pz_i2, hm, if_neg hn1, q1]
            rw [e2, pz_bs, if_pos ((bs_iff q2).mpr hb)]
        · refine ⟨1, upd ver (ow po j) (ver (ow po j) + 1), upd pi j (nI i), t1, t2, t3, hI.into_ hj (by omega) (fun z => hb ((h2 _ q2).mpr z)), ?_, ?_⟩
          · rw [zf_MP_into, a1, pz_bs, if_neg pz_b1, a2, pz_bs, if_neg pz_b1]
            simp (disch := omega) only [nI_clamp, pz_i2, hm, if_true, q1]
            rw [zf_Ne_holds, e1, pz_bs]
            simp (disch := omega) only [nI_clamp, pz_i2]
            rw [if_pos (test.mpr hb), pz_bs]
            simp only [if_true]
          · rw [zf_Mo_into, b1, pz_bs, if_neg pz_b1, b2, pz_bs, if_neg pz_b1]
            simp (disch := omega) only [nI_clamp, pz_i2, hm, if_neg hn1, q1]
            rw [e2, pz_bs, if_neg (fun z => hb ((bs_iff q2).mp z))]
      · refine ⟨0, ver, pi, nt, nl, nd, hI, ?_, ?_⟩
        · rw [zf_MP_into, a1, pz_bs, if_neg pz_b1, a2, pz_bs, if_neg pz_b1]
          simp (disch := omega) only [nI_clamp, pz_i2, hm, pz_n1]
        · rw [zf_Mo_into, b1, pz_bs, if_neg pz_b1, b2, pz_bs, if_neg pz_b1]
          simp (disch := omega) only [nI_clamp, pz_i2, hm, pz_p0]
    · exact ⟨0, ver, pi, nt, nl, nd, hI, by rw [zf_MP_into, a1, pz_bs, if_neg pz_b1, a2, pz_bs, if_pos rfl], by rw [zf_Mo_into, b1, pz_bs, if_neg pz_b1, b2, pz_bs, if_pos rfl]⟩
  · exact ⟨0, ver, pi, nt, nl, nd, hI, by rw [zf_MP_into, a1, pz_bs, if_pos rfl], by rw [zf_Mo_into, b1, pz_bs, if_pos rfl]⟩
end PIN
end
section
/-! PURE: a word of the text, both ways -/
def dg (c : Int32) : Nat := (c - 48).toNatClampNeg
theorem dg_ok {c : Int32} (h1 : ¬ c < (48 : Int32)) (h2 : ¬ (57 : Int32) < c) : dg c ≤ 9 ∧ c - 48 = nI (dg c) := by
  have a : 48 ≤ c.toInt := by rw [Int32.lt_iff_toInt_lt, show (48 : Int32).toInt = 48 from rfl] at h1; omega
  have b : c.toInt ≤ 57 := by rw [Int32.lt_iff_toInt_lt, show (57 : Int32).toInt = 57 from rfl] at h2; omega
  obtain ⟨k, hk, e⟩ := nI_of (x := c) (by rw [Int32.lt_iff_toInt_lt, Int32.toInt_zero]; omega)
  subst e
  rw [nI_toInt hk] at a b
  have e2 : nI k - (48 : Int32) = nI (k - 48) := pk_sub (a := k) (b := 48) (by omega)
  rw [dg, e2, nI_clamp (by omega)]
  exact ⟨by omega, rfl⟩
def nm (ft : Nat → Int32) : Nat → Nat → Nat → Option Nat
  | 0, _, a => some a
  | m + 1, k, a => if ft k < (48 : Int32) then none else (if (57 : Int32) < ft k then none else nm ft m (k + 1) (10 * a + dg (ft k)))
def ew : Option Nat → Int32
  | none => -12
  | some a => nI a
theorem nm_in (ft : Nat → Int32) : ∀ (m k a : Nat), (a + 1) * 10 ^ m ≤ 1000000 → ew (nm ft m k a) = -12 ∨ ¬ ew (nm ft m k a) < (-11 : Int32) := by
  intro m
  induction m with
  | zero =>
    intro k a h
    refine Or.inr (fun q => ?_)
    have hlt : a < 2 ^ 31 := by omega
    rw [nm, ew, Int32.lt_iff_toInt_lt, nI_toInt hlt, show (-11 : Int32).toInt = -11 from rfl] at q
    omega
  | succ m ih =>
    intro k a h
    rw [nm]
    by_cases h1 : ft k < (48 : Int32)
    · rw [if_pos h1]; exact Or.inl rfl
    · rw [if_neg h1]
      by_cases h2 : (57 : Int32) < ft k
      · rw [if_pos h2]; exact Or.inl rfl
      · rw [if_neg h2]
        refine ih (k + 1) _ ?_
        have hd := (dg_ok h1 h2).1
        refine Nat.le_trans ?_ h
        rw [Nat.pow_succ, Nat.mul_comm (10 ^ m) 10, ← Nat.mul_assoc]
        exact Nat.mul_le_mul_right _ (by omega)
theorem px_num (ft : Nat → Int32) (v1 : Int32) {e : Nat} (he : e ≤ 300) : ∀ (m k a n : Nat), k + m = e → m < n → (a + 1) * 10 ^ m ≤ 1000000 → zf_Fo_numberAt_L16 v1 (nI e) ft n (nI a) (nI k) = some (ew (nm ft m k a)) := by
  intro m
  induction m with
  | zero =>
    intro k a n hk hn _
    obtain ⟨n, rfl⟩ : ∃ q, n = q + 1 := ⟨n - 1, by omega⟩
    have e2 : k = e := by omega
    subst e2
    rw [zf_Fo_numberAt_L16, if_pos (nI_le (Nat.le_refl _) (by omega))]; rfl
  | succ m ih =>
    intro k a n hk hn h
    obtain ⟨n, rfl⟩ : ∃ q, n = q + 1 := ⟨n - 1, by omega⟩
    rw [zf_Fo_numberAt_L16, if_neg (nI_ge (show k < e by omega) (by omega)), nm]
    simp (disch := omega) only [nI_clamp, pz_i2, nI_1]
    by_cases h1 : ft k < (48 : Int32)
    · rw [zf_Fo_isDigit, if_pos h1, pz_bs, if_pos rfl, if_pos h1]; rfl
    · by_cases h2 : (57 : Int32) < ft k
      · rw [zf_Fo_isDigit, if_neg h1, if_pos h2, pz_bs, if_pos rfl, if_neg h1, if_pos h2]; rfl
      · obtain ⟨d1, d2⟩ := dg_ok h1 h2
        rw [zf_Fo_isDigit, if_neg h1, if_neg h2, pz_bs, if_neg pz_b1, if_neg h1, if_neg h2, d2, show (10 : Int32) = nI 10 from rfl, pk_mul, nI_add, Nat.mul_comm a 10]
        refine ih (k + 1) _ n (by omega) (by omega) (Nat.le_trans ?_ h)
        rw [Nat.pow_succ, Nat.mul_comm (10 ^ m) 10, ← Nat.mul_assoc]
        exact Nat.mul_le_mul_right _ (by omega)
theorem pm_no (ft : Nat → Int32) (v1 v2 v3 x : Int32) (n : Nat) : zf_Mo_wordAt_L184 v1 v2 v3 ft (n + 1) (-12) x = some (-12) := by
  rw [zf_Mo_wordAt_L184]
  by_cases h : v1 + v2 ≤ x
  · rw [if_pos h]
  · rw [if_neg h, if_pos (by decide)]
theorem pm_num (ft : Nat → Int32) (v3 : Int32) {s l : Nat} (he : s + l ≤ 300) : ∀ (m k a n : Nat), k + m = s + l → m < n → (a + 1) * 10 ^ m ≤ 1000000 → zf_Mo_wordAt_L184 (nI s) (nI l) v3 ft n (nI a) (nI k) = some (ew (nm ft m k a)) := by
  intro m
  induction m with
  | zero =>
    intro k a n hk hn _
    obtain ⟨n, rfl⟩ : ∃ q, n = q + 1 := ⟨n - 1, by omega⟩
    rw [zf_Mo_wordAt_L184, nI_add, if_pos (nI_le (by omega) (by omega))]; rfl
  | succ m ih =>
    intro k a n hk hn h
    obtain ⟨n, rfl⟩ : ∃ q, n = q + 1 := ⟨n - 1, by omega⟩
    obtain ⟨n, rfl⟩ : ∃ q, n = q + 1 := ⟨n - 1, by omega⟩
    have ha : a < 2 ^ 31 := by
      have : a + 1 ≤ (a + 1) * 10 ^ (m + 1) := Nat.le_mul_of_pos_right _ (Nat.pow_pos (by omega))
      omega
    rw [zf_Mo_wordAt_L184, nI_add, if_neg (nI_ge (show k < s + l by omega) (by omega)), if_neg (nI_pos ha), nm]
    simp (disch := omega) only [nI_clamp, pz_i2, nI_1]
    by_cases h1 : ft k < (48 : Int32)
    · rw [if_pos h1, if_pos h1, pm_no]; rfl
    · by_cases h2 : (57 : Int32) < ft k
      · rw [if_neg h1, if_pos h2, if_neg h1, if_pos h2, pm_no]; rfl
      · obtain ⟨d1, d2⟩ := dg_ok h1 h2
        have e3 : (10 : Int32) * nI a + ft k - 48 = nI (10 * a + dg (ft k)) := by
          rw [show (10 : Int32) * nI a + ft k - 48 = (10 : Int32) * nI a + (ft k - 48) by grind, d2, show (10 : Int32) = nI 10 from rfl, pk_mul, nI_add]
        rw [if_neg h1, if_neg h2, if_neg h1, if_neg h2, e3]
        refine ih (k + 1) _ (n + 1) (by omega) (by omega) (Nat.le_trans ?_ h)
        rw [Nat.pow_succ, Nat.mul_comm (10 ^ m) 10, ← Nat.mul_assoc]
        exact Nat.mul_le_mul_right _ (by omega)
theorem pm_is (ft : Nat → Int32) {s : Nat} (hs : s + 3 ≤ 300) (a b c : Int32) : zf_Mo_is (nI s) a b c ft = some (if ft s = a then (if ft (s + 1) = b then (if ft (s + 2) = c then 1 else 0) else 0) else 0) := by
  have e1 : nI s + (1 : Int32) = nI (s + 1) := nI_1 s
  have e2 : nI s + (2 : Int32) = nI (s + 2) := nI_add s 2
  rw [zf_Mo_is]
  simp (disch := omega) only [nI_clamp, pz_i2, e1, e2]
  by_cases h1 : ft s = a
  · by_cases h2 : ft (s + 1) = b
    · by_cases h3 : ft (s + 2) = c
      · simp only [if_pos h1, if_pos h2, if_pos h3]
      · simp only [if_pos h1, if_pos h2, if_neg h3]
    · simp only [if_pos h1, if_neg h2]
  · simp only [if_neg h1]
/-- what a word tells -/
def wd (ft : Nat → Int32) (s l : Nat) : Int32 :=
  if l = 1 ∧ (ft s = 110 ∨ ft s = 43 ∨ ft s = 45 ∨ ft s = 42) then (if ft s = 110 then -6 else (if ft s = 43 then -7 else (if ft s = 45 then -8 else -9)))
  else if l = 2 ∧ ft s = 107 ∧ ¬ ft (s + 1) < 48 ∧ ¬ (52 : Int32) < ft (s + 1) then (-1 : Int32) - (ft (s + 1) - 48)
  else if l = 3 ∧ ft s = 109 ∧ ft (s + 1) = 105 ∧ ft (s + 2) = 110 then -10
  else if l = 3 ∧ ft s = 109 ∧ ft (s + 1) = 97 ∧ ft (s + 2) = 120 then -11
  else if 6 < l then -12 else ew (nm ft l s 0)
theorem pw_10 {l : Nat} (h : ¬ 6 < l) : (0 + 1) * 10 ^ l ≤ 1000000 := by
  rcases (show l = 0 ∨ l = 1 ∨ l = 2 ∨ l = 3 ∨ l = 4 ∨ l = 5 ∨ l = 6 by omega) with rfl | rfl | rfl | rfl | rfl | rfl | rfl <;> decide
theorem pm_word (ft : Nat → Int32) {s l : Nat} (hl : 0 < l) (hs : s + l ≤ 300) : zf_Mo_wordAt (nI s) (nI l) ft = some (wd ft s l) := by
  have e1 : nI s + (1 : Int32) = nI (s + 1) := nI_1 s
  have num : ∀ v3, (if (6 : Int32) < nI l then zf_Mo_wordAt_L184 (nI s) (nI l) v3 ft 2000 (-12) (nI s) else zf_Mo_wordAt_L184 (nI s) (nI l) v3 ft 2000 0 (nI s)) = some (if 6 < l then -12 else ew (nm ft l s 0)) := fun v3 => by
    by_cases h : 6 < l
    · rw [if_pos (show (6 : Int32) < nI l from nI_lt (a := 6) h (by omega)), if_pos h, pm_no]
    · rw [if_neg (show ¬ (6 : Int32) < nI l from nI_nlt (a := 6) (by omega) (by omega)), if_neg h]
      exact pm_num ft v3 hs l s 0 2000 (by omega) (by omega) (pw_10 h)
  have k1 : nI l = (1 : Int32) ↔ l = 1 := nI_eq (b := 1) (by omega) (by omega)
  have k2 : nI l = (2 : Int32) ↔ l = 2 := nI_eq (b := 2) (by omega) (by omega)
  have k3 : nI l = (3 : Int32) ↔ l = 3 := nI_eq (b := 3) (by omega) (by omega)
  rw [zf_Mo_wordAt]
  by_cases l1 : l = 1
  · have n1 : nI l = (1 : Int32) := k1.mpr l1
    have n2 : ¬ nI l = (2 : Int32) := fun q => by have := k2.mp q; omega
    have n3 : ¬ nI l = (3 : Int32) := fun q => by have := k3.mp q; omega
    have a2 : ¬ l = 2 := by omega
    have a3 : ¬ l = 3 := by omega
    simp (disch := omega) only [nI_clamp, pz_i2, if_pos n1, if_neg n2, if_neg n3, num]
    unfold wd
    by_cases c1 : ft s = 110
    · simp [c1, l1]
    · by_cases c2 : ft s = 43
      · simp [c2, l1]
      · by_cases c3 : ft s = 45
        · simp [c3, l1]
        · by_cases c4 : ft s = 42
          · simp [c4, l1]
          · simp [c1, c2, c3, c4, a2, a3, l1]
  · have n1 : ¬ nI l = (1 : Int32) := fun q => l1 (k1.mp q)
    by_cases l2 : l = 2
    · have n2 : nI l = (2 : Int32) := k2.mpr l2
      have n3 : ¬ nI l = (3 : Int32) := fun q => by have := k3.mp q; omega
      have a3 : ¬ l = 3 := by omega
      simp (disch := omega) only [nI_clamp, pz_i2, if_neg n1, if_pos n2, if_neg n3, num, e1]
      unfold wd
      by_cases c1 : ft s = 107
      · by_cases c2 : ft (s + 1) < 48
        · simp [c1, c2, l1, l2]
        · by_cases c3 : (52 : Int32) < ft (s + 1)
          · simp [c1, c2, c3, l1, l2]
          · simp [c1, c2, c3, l2]
      · simp [c1, l2]
    · have n2 : ¬ nI l = (2 : Int32) := fun q => l2 (k2.mp q)
      by_cases l3 : l = 3
      · have n3 : nI l = (3 : Int32) := k3.mpr l3
        simp (disch := omega) only [nI_clamp, pz_i2, if_neg n1, if_neg n2, if_pos n3, num]
        rw [pm_is ft (by omega), pm_is ft (by omega), pz_bs, pz_bs]
        unfold wd
        by_cases c1 : ft s = 109
        · by_cases c2 : ft (s + 1) = 105
          · by_cases c3 : ft (s + 2) = 110
            · simp [c1, c2, c3, l3]
            · simp [c1, c2, c3, l3]
          · by_cases c4 : ft (s + 1) = 97
            · by_cases c5 : ft (s + 2) = 120
              · simp [c1, c4, c5, l3]
              · simp [c1, c4, c5, l3]
            · simp [c1, c2, c4, l3]
        · simp [c1, l3]
      · have n3 : ¬ nI l = (3 : Int32) := fun q => l3 (k3.mp q)
        simp (disch := omega) only [nI_clamp, pz_i2, if_neg n1, if_neg n2, if_neg n3, num]
        unfold wd
        simp [l1, l2, l3]
theorem wd_dig {ft : Nat → Int32} {s l : Nat} (h1 : ¬ ft s < (48 : Int32)) (h2 : ¬ (57 : Int32) < ft s) : wd ft s l = if 6 < l then -12 else ew (nm ft l s 0) := by
  have x1 : ¬ ft s = 110 := fun q => h2 (by rw [q]; decide)
  have x2 : ¬ ft s = 43 := fun q => h1 (by rw [q]; decide)
  have x3 : ¬ ft s = 45 := fun q => h1 (by rw [q]; decide)
  have x4 : ¬ ft s = 42 := fun q => h1 (by rw [q]; decide)
  have x5 : ¬ ft s = 107 := fun q => h2 (by rw [q]; decide)
  have x6 : ¬ ft s = 109 := fun q => h2 (by rw [q]; decide)
  unfold wd
  simp [x1, x2, x3, x4, x5, x6]
theorem wd_no {ft : Nat → Int32} {s l : Nat} (hl : 0 < l) (h : ft s < (48 : Int32) ∨ (57 : Int32) < ft s) : (if 6 < l then (-12 : Int32) else ew (nm ft l s 0)) = -12 := by
  by_cases q : 6 < l
  · rw [if_pos q]
  · rw [if_neg q]
    obtain ⟨m, rfl⟩ : ∃ m, l = m + 1 := ⟨l - 1, by omega⟩
    rw [nm]
    by_cases h1 : ft s < (48 : Int32)
    · rw [if_pos h1]; rfl
    · rw [if_neg h1, if_pos (h.resolve_left h1)]; rfl
theorem pw_k (c : Int32) : (c - 48 < 0 ∨ (5 : Int32) ≤ c - 48) ↔ (c < 48 ∨ (52 : Int32) < c) := by
  have b1 := Int32.le_toInt c
  have b2 := Int32.toInt_lt c
  rw [Int32.lt_iff_toInt_lt, Int32.le_iff_toInt_le, Int32.lt_iff_toInt_lt, Int32.lt_iff_toInt_lt, Int32.toInt_sub, show (48 : Int32).toInt = 48 from rfl, show (5 : Int32).toInt = 5 from rfl, show (52 : Int32).toInt = 52 from rfl, Int32.toInt_zero]
  by_cases h : -2147483600 ≤ c.toInt
  · rw [Int.bmod_eq_of_le (by omega) (by omega)]
    omega
  · have e : (c.toInt - 48).bmod (2 ^ 32) = c.toInt - 48 + 4294967296 := by
      rw [← Int.add_bmod_right, Int.bmod_eq_of_le (by omega) (by omega)]
      rfl
    rw [e]
    omega
theorem px_word (ft : Nat → Int32) {s l : Nat} (hl : 0 < l) (hs : s + l ≤ 300) : zf_Fo_wordAt (nI s) (nI (s + l)) ft = some (wd ft s l) := by
  have e1 : nI s + (1 : Int32) = nI (s + 1) := nI_1 s
  have e2 : nI s + (2 : Int32) = nI (s + 2) := nI_add s 2
  have e3 : nI (s + l) - nI s = nI l := by rw [pk_sub (by omega)]; congr 1; omega
  have k1 : nI l = (1 : Int32) ↔ l = 1 := nI_eq (b := 1) (by omega) (by omega)
  have k2 : nI l = (2 : Int32) ↔ l = 2 := nI_eq (b := 2) (by omega) (by omega)
  have k3 : nI l = (3 : Int32) ↔ l = 3 := nI_eq (b := 3) (by omega) (by omega)
  rw [zf_Fo_wordAt, e3]
  by_cases hd : ft s < (48 : Int32) ∨ (57 : Int32) < ft s
  · have no := wd_no (ft := ft) hl hd
    have y : zf_Fo_isDigit (ft s) = some 0 := by
      rw [zf_Fo_isDigit]
      by_cases h1 : ft s < (48 : Int32)
      · rw [if_pos h1]
      · rw [if_neg h1, if_pos (hd.resolve_left h1)]
    simp (disch := omega) only [nI_clamp, pz_i2]
    rw [y, pz_bs, if_pos rfl]
    by_cases l1 : l = 1
    · rw [if_pos (k1.mpr l1), zf_Fo_signOf]
      have a2 : ¬ l = 2 := by omega
      have a3 : ¬ l = 3 := by omega
      unfold wd
      rw [no]
      by_cases c1 : ft s = 110
      · simp [c1, l1]
      · by_cases c2 : ft s = 43
        · simp [c2, l1]
        · by_cases c3 : ft s = 45
          · simp [c3, l1]
          · by_cases c4 : ft s = 42
            · simp [c4, l1]
            · simp [c1, c2, c3, c4, l1]
    · rw [if_neg (fun q => l1 (k1.mp q))]
      by_cases l2 : l = 2
      · rw [if_pos (k2.mpr l2)]
        simp (disch := omega) only [e1, nI_clamp, pz_i2]
        unfold wd
        rw [no]
        by_cases c1 : ft s = 107
        · rw [if_pos c1, zf_Fo_shareOf, zf_MP_isKind]
          by_cases c2 : ft (s + 1) - 48 < 0
          · have := (pw_k (ft (s + 1))).mp (Or.inl c2)
            rw [if_pos c2, pz_bs, if_pos rfl, pz_bs]
            rcases this with t | t
            · simp [t, l2]
            · simp [t, l2]
          · by_cases c3 : (5 : Int32) ≤ ft (s + 1) - 48
            · have := (pw_k (ft (s + 1))).mp (Or.inr c3)
              rw [if_neg c2, if_pos c3, pz_bs, if_pos rfl, pz_bs]
              rcases this with t | t
              · simp [t, l2]
              · simp [t, l2]
            · have d1 : ¬ ft (s + 1) < 48 := fun q => ((pw_k (ft (s + 1))).mpr (Or.inl q)).elim c2 c3
              have d2 : ¬ (52 : Int32) < ft (s + 1) := fun q => ((pw_k (ft (s + 1))).mpr (Or.inr q)).elim c2 c3
              rw [if_neg c2, if_neg c3, pz_bs, if_neg pz_b1, pz_bs]
              simp [c1, d1, d2, l2]
        · simp [c1, l2]
      · rw [if_neg (fun q => l2 (k2.mp q))]
        by_cases l3 : l = 3
        · rw [if_pos (k3.mpr l3)]
          simp (disch := omega) only [e1, e2, nI_clamp, pz_i2]
          unfold wd
          rw [no]
          by_cases c1 : ft s = 109
          · rw [if_pos c1, zf_Fo_boundOf]
            by_cases c2 : ft (s + 1) = 105
            · by_cases c3 : ft (s + 2) = 110
              · simp [c1, c2, c3, l3]
              · simp [c1, c2, c3, l3]
            · by_cases c4 : ft (s + 1) = 97
              · by_cases c5 : ft (s + 2) = 120
                · simp [c1, c4, c5, l3]
                · simp [c1, c4, c5, l3]
              · simp [c1, c2, c4, l3]
          · simp [c1, l3]
        · rw [if_neg (fun q => l3 (k3.mp q))]
          unfold wd
          rw [no]
          simp [l1, l2, l3]
  · have h1 : ¬ ft s < (48 : Int32) := fun q => hd (Or.inl q)
    have h2 : ¬ (57 : Int32) < ft s := fun q => hd (Or.inr q)
    have y : zf_Fo_isDigit (ft s) = some 1 := by rw [zf_Fo_isDigit, if_neg h1, if_neg h2]
    simp (disch := omega) only [nI_clamp, pz_i2]
    rw [y, pz_bs, if_neg pz_b1, zf_Fo_numberAt, e3, wd_dig h1 h2]
    by_cases h : 6 < l
    · rw [if_neg (show ¬ nI l ≤ (6 : Int32) from nI_ge (a := 6) h (by omega)), if_pos h, pz_bs]
    · rw [if_pos (show nI l ≤ (6 : Int32) from nI_le (b := 6) (by omega) (by omega)), if_neg h]
      have q := px_num ft (nI s) hs l s 0 2000 (by omega) (by omega) (pw_10 h)
      have q : zf_Fo_numberAt_L16 (nI s) (nI (s + l)) ft 2000 0 (nI s) = _ := q
      rw [q, pz_bs]
end
section
/-! PURE: score: the text, both ways -/
theorem wd_in (ft : Nat → Int32) (s l : Nat) : wd ft s l = -12 ∨ ¬ wd ft s l < (-11 : Int32) := by
  unfold wd
  split
  · refine Or.inr ?_
    repeat' split
    all_goals decide
  · split
    · rename_i h
      refine Or.inr (fun q => ?_)
      obtain ⟨-, -, h1, h2⟩ := h
      have h2' : ¬ (57 : Int32) < ft (s + 1) := fun z => h2 (by
        rw [Int32.lt_iff_toInt_lt, show (57 : Int32).toInt = 57 from rfl] at z
        rw [Int32.lt_iff_toInt_lt, show (52 : Int32).toInt = 52 from rfl]
        omega)
      obtain ⟨d1, d2⟩ := dg_ok h1 h2'
      rw [d2] at q
      rcases (show dg (ft (s + 1)) = 0 ∨ dg (ft (s + 1)) = 1 ∨ dg (ft (s + 1)) = 2 ∨ dg (ft (s + 1)) = 3 ∨ dg (ft (s + 1)) = 4 ∨ dg (ft (s + 1)) = 5 ∨ dg (ft (s + 1)) = 6 ∨ dg (ft (s + 1)) = 7 ∨ dg (ft (s + 1)) = 8 ∨ dg (ft (s + 1)) = 9 by omega) with e | e | e | e | e | e | e | e | e | e <;> rw [e] at q <;> revert q <;> decide
    · split
      · exact Or.inr (by decide)
      · split
        · exact Or.inr (by decide)
        · split
          · exact Or.inl rfl
          · rename_i h
            exact nm_in ft l s 0 (pw_10 h)
theorem dp_congr {f g : Nat → Int32} : ∀ {k : Nat}, (∀ j, j < k → f j = g j) → dp f k = dp g k
  | 0, _ => rfl
  | k + 1, h => by rw [dp, dp, h k (Nat.lt_succ_self k), dp_congr (fun j hj => h j (Nat.lt_succ_of_lt hj))]
theorem dp_upd {f : Nat → Int32} {c k : Nat} {w : Int32} (h : k ≤ c) : dp (upd f c w) k = dp f k := dp_congr (fun j hj => by rw [pz_upd, if_neg (by omega)])
theorem dp_push {f : Nat → Int32} {c : Nat} {w : Int32} : dp (upd f c w) (c + 1) = if (-7 : Int32) < w then dp f c + 1 else dp f c - 1 := by
  rw [dp, dp_upd (Nat.le_refl c), pz_upd, if_pos rfl]
def JS (c : Nat) (fr nw : Nat → Int32) : Prop := (∀ j, j < c → fr j = nw j) ∧ (∀ j, j < c → ¬ fr j < (-11 : Int32)) ∧ ∀ j, j < c → ¬ (-7 : Int32) < fr j → 2 ≤ dp fr j
theorem JS.push {c : Nat} {fr nw : Nat → Int32} (h : JS c fr nw) {w : Int32} (h1 : ¬ w < (-11 : Int32)) (h2 : ¬ (-7 : Int32) < w → 2 ≤ dp fr c) : JS (c + 1) (upd fr c w) (upd nw c w) := by
  obtain ⟨a, b, d⟩ := h
  refine ⟨fun j hj => ?_, fun j hj => ?_, fun j hj q => ?_⟩
  · rw [pz_upd, pz_upd]
    by_cases z : j = c
    · rw [if_pos z, if_pos z]
    · rw [if_neg z, if_neg z]; exact a j (by omega)
  · rw [pz_upd]
    by_cases z : j = c
    · rw [if_pos z]; exact h1
    · rw [if_neg z]; exact b j (by omega)
  · rw [dp_upd (by omega)]
    rw [pz_upd] at q
    by_cases z : j = c
    · rw [if_pos z] at q; rw [z]; exact h2 q
    · rw [if_neg z] at q; exact d j (by omega) q
/-- both ways end alike -/
def SR (X : Option (Int32 × Int32 × Int32 × Int32 × Int32 × (Nat → Int32) × (Nat → Int32))) (M : Option (Int32 × Int32 × Int32 × Int32 × (Nat → Int32) × (Nat → Int32))) : Prop := ∃ a wn fw hf rc rd fr nw, IF wn fw hf ∧ X = some (a, 0, rc, rd, nI wn, fr, fw) ∧ M = some (a, 0, nI wn, hf, fw, nw)
theorem pm_copy (ft nw : Nat → Int32) {c : Nat} (hc : c ≤ 150) (v2 v3 v4 mwc mhf : Int32) : ∀ (m k n : Nat) (wo : Nat → Int32), k + m = c → m < n → ∃ wo', zf_Mo_score_L168 (nI c) v2 v3 v4 0 mwc mhf nw ft n (nI k) wo = some (nI c, 0, nI c, 1, wo', nw) ∧ ∀ j, wo' j = if k ≤ j ∧ j < c then nw j else wo j := by
  intro m
  induction m with
  | zero =>
    intro k n wo hk hn
    obtain ⟨n, rfl⟩ : ∃ q, n = q + 1 := ⟨n - 1, by omega⟩
    have e : k = c := by omega
    subst e
    exact ⟨wo, by rw [zf_Mo_score_L168, if_pos (nI_le (Nat.le_refl _) (by omega))], fun j => by rw [if_neg (by omega)]⟩
  | succ m ih =>
    intro k n wo hk hn
    obtain ⟨n, rfl⟩ : ∃ q, n = q + 1 := ⟨n - 1, by omega⟩
    obtain ⟨wo', a, b⟩ := ih (k + 1) n (upd wo k (nw k)) (by omega) (by omega)
    refine ⟨wo', ?_, fun j => ?_⟩
    · rw [zf_Mo_score_L168, if_neg (nI_ge (show k < c by omega) (by omega))]
      simp (disch := omega) only [nI_clamp, pz_i2, nI_1]
      exact a
    · rw [b j, pz_upd]
      by_cases z : j = k
      · subst z
        rw [if_neg (by omega), if_pos rfl, if_pos (by omega)]
      · rw [if_neg z]
        by_cases z2 : k + 1 ≤ j ∧ j < c
        · rw [if_pos z2, if_pos (by omega)]
        · rw [if_neg z2, if_neg (by omega)]
section PTE
variable {ft fw : Nat → Int32} {tn wn : Nat} {hf : Int32}
theorem ps_fin (ht : tn ≤ 300) (hF : IF wn fw hf) {c : Nat} {fr nw : Nat → Int32} (hc : 2 * c ≤ tn + 1) (hJ : JS c fr nw) (st : Int32) (n n' : Nat) : SR (zf_Fo_readText_L24 (nI tn) 0 (nI wn) fw ft (n + 1) st (nI (tn + 1)) (nI c) (nI (dp fr c)) fr) (zf_Mo_score_L9 (nI tn) (nI wn) hf fw ft (n' + 1) (nI c) (nI (dp fr c)) (-1) (nI tn) nw) := by
  have hd := dp_le fr c
  have c1 : ¬ (0 : Int32) ≤ -1 := by decide
  have c2 : (-1 : Int32) < 0 := by decide
  rw [zf_Fo_readText_L24, if_pos (nI_lt (Nat.lt_succ_self tn) (by omega)), zf_Mo_score_L9, if_pos (nI_le (Nat.le_refl _) (by omega)), if_neg c1]
  by_cases h : dp fr c = 1
  · have e1 : nI (dp fr c) = (1 : Int32) := by rw [h]; rfl
    obtain ⟨wo', a, b⟩ := pm_copy ft nw (show c ≤ 150 by omega) (nI (dp fr c)) (-1) (nI tn) (nI wn) hf c 0 2000 fw (by omega) (by omega)
    have hc0 : 0 < c := by
      rcases Nat.eq_zero_or_pos c with z | z
      · rw [z, dp] at h; omega
      · exact z
    have ew : wo' = va_cpy fr fw 0 0 c := by
      funext j
      rw [b j]
      by_cases z : j < c
      · rw [if_pos ⟨by omega, z⟩, pk_cpy_in (by omega) (by omega), hJ.1 _ (by omega)]
        simp
      · rw [if_neg (by omega), pk_cpy_out (by omega)]
    have eq1 : ∀ j, j < c → va_cpy fr fw 0 0 c j = fr j := fun j hj => by rw [pk_cpy_in (by omega) (by omega)]; simp
    refine ⟨nI c, c, va_cpy fr fw 0 0 c, 1, nI c, nI (dp fr c), fr, nw, ⟨by omega, Or.inr ⟨hc0, rfl, fun j hj => ?_, fun j hj q => ?_, ?_⟩⟩, ?_, ?_⟩
    · rw [eq1 j hj]; exact hJ.2.1 j hj
    · rw [eq1 j hj] at q
      rw [dp_congr (g := fr) (fun i hi => eq1 i (by omega))]
      exact hJ.2.2 j hj q
    · rw [dp_congr (g := fr) eq1, h]
    · rw [if_pos e1, if_neg]
      · simp (disch := omega) only [nI_clamp]
        rfl
      · simp (disch := omega) only [nI_clamp]
        have : (0 : Int32).toNatClampNeg = 0 := rfl
        rw [this]
        rintro (q | q | q | q | q)
        · exact absurd q (by decide)
        · exact absurd q (by decide)
        · exact nI_pos (by omega) q
        · omega
        · omega
    · rw [if_pos e1, if_pos c2, ← ew]
      exact a
  · have e1 : ¬ nI (dp fr c) = (1 : Int32) := fun q => h ((nI_eq (b := 1) (by omega) (by omega)).mp q)
    exact ⟨_, wn, fw, hf, nI c, nI (dp fr c), fr, nw, hF, by rw [if_neg e1], by rw [if_neg e1, if_neg (nI_pos (by omega))]⟩
def gap (ft : Nat → Int32) (k : Nat) : Prop := ft k = 32 ∨ ft k = 10
theorem px_gap {k : Nat} : (gap ft k → zf_Fo_isGap (ft k) = some 1 ∧ zf_Mo_isBlank (ft k) = some 1) ∧ (¬ gap ft k → zf_Fo_isGap (ft k) = some 0 ∧ zf_Mo_isBlank (ft k) = some 0) := by
  constructor
  · rintro (h | h)
    · exact ⟨by rw [zf_Fo_isGap, if_pos h], by rw [zf_Mo_isBlank, if_pos h]⟩
    · have n : ¬ ft k = 32 := by rw [h]; decide
      exact ⟨by rw [zf_Fo_isGap, if_neg n, if_pos h], by rw [zf_Mo_isBlank, if_neg n, if_pos h]⟩
  · intro h
    have n1 : ¬ ft k = 32 := fun q => h (Or.inl q)
    have n2 : ¬ ft k = 10 := fun q => h (Or.inr q)
    exact ⟨by rw [zf_Fo_isGap, if_neg n1, if_neg n2], by rw [zf_Mo_isBlank, if_neg n1, if_neg n2]⟩
theorem p_wend : ∀ (m k : Nat), k + m = tn → ∃ e, k ≤ e ∧ e ≤ tn ∧ (∀ i, k ≤ i → i < e → ¬ gap ft i) ∧ (e = tn ∨ gap ft e) := by
  intro m
  induction m with
  | zero => intro k hk; exact ⟨k, by omega, by omega, fun i h1 h2 => by omega, Or.inl (by omega)⟩
  | succ m ih =>
    intro k hk
    by_cases h : gap ft k
    · exact ⟨k, by omega, by omega, fun i h1 h2 => by omega, Or.inr h⟩
    · obtain ⟨e, h1, h2, h3, h4⟩ := ih (k + 1) (by omega)
      refine ⟨e, by omega, h2, fun i z1 z2 => ?_, h4⟩
      by_cases z : i = k
      · rw [z]; exact h
      · exact h3 i (by omega) z2
theorem px_scan (ht : tn ≤ 300) (s xwc rc rd : Int32) (fr : Nat → Int32) : ∀ (d k n : Nat), k + d ≤ tn → (∀ i, k ≤ i → i < k + d → ¬ gap ft i) → zf_Fo_readText_L24 (nI tn) 0 xwc fw ft (n + d) s (nI k) rc rd fr = zf_Fo_readText_L24 (nI tn) 0 xwc fw ft n s (nI (k + d)) rc rd fr := by
  intro d
  induction d with
  | zero => intro k n _ _; rfl
  | succ d ih =>
    intro k n hk h
    have hkt : k < tn := by omega
    rw [show n + (d + 1) = (n + d) + 1 by omega, zf_Fo_readText_L24, if_neg (nI_nlt (by omega) (by omega)), if_neg (fun q => by have := (nI_eq (by omega) (by omega)).mp q; omega)]
    simp (disch := omega) only [nI_clamp, pz_i2, nI_1]
    rw [(px_gap.2 (h k (by omega) (by omega))).1, pz_bs, if_pos rfl, ih (k + 1) n (by omega) (fun i h1 h2 => h i (by omega) (by omega)), show k + 1 + d = k + (d + 1) by omega]
theorem pm_scan (ht : tn ≤ 300) (v1 v2 v3 v5 mwc mhf : Int32) (nw : Nat → Int32) (K : Int32 → Int32 → Int32 → Int32 → (Nat → Int32) → Option (Int32 × Int32 × Int32 × Int32 × (Nat → Int32) × (Nat → Int32))) : ∀ (d k n : Nat), k + d ≤ tn → (∀ i, k ≤ i → i < k + d → ¬ gap ft i) → zf_Mo_score_L45 v1 v2 v3 v5 (nI tn) mwc mhf fw nw ft K (n + d) (nI k) = zf_Mo_score_L45 v1 v2 v3 v5 (nI tn) mwc mhf fw nw ft K n (nI (k + d)) := by
  intro d
  induction d with
  | zero => intro k n _ _; rfl
  | succ d ih =>
    intro k n hk h
    have hkt : k < tn := by omega
    rw [show n + (d + 1) = (n + d) + 1 by omega, zf_Mo_score_L45, if_neg (nI_ge hkt (by omega))]
    simp (disch := omega) only [nI_clamp, pz_i2, nI_1]
    rw [(px_gap.2 (h k (by omega) (by omega))).2, pz_bs, if_pos rfl, ih (k + 1) n (by omega) (fun i h1 h2 => h i (by omega) (by omega)), show k + 1 + d = k + (d + 1) by omega]
/-- the word's step of the class -/
def stX (xwc : Int32) (fw ft : Nat → Int32) (tn n e : Nat) (w rc rd : Int32) (fr : Nat → Int32) : Option (Int32 × Int32 × Int32 × Int32 × Int32 × (Nat → Int32) × (Nat → Int32)) := (zf_Fo_takeWord w rc rd fr).bind (fun y => if y.1 = 0 then some ((-1 : Int32) - y.2.1, 0, y.2.1, y.2.2.1, xwc, y.2.2.2, fw) else zf_Fo_readText_L24 (nI tn) 0 xwc fw ft n (nI (e + 1)) (nI (e + 1)) y.2.1 y.2.2.1 y.2.2.2)
theorem px_take (ht : tn ≤ 300) {s e : Nat} (hs : s < e) (he : e ≤ tn) (hg : e = tn ∨ gap ft e) (xwc rc rd : Int32) (fr : Nat → Int32) (n : Nat) : zf_Fo_readText_L24 (nI tn) 0 xwc fw ft (n + 1) (nI s) (nI e) rc rd fr = stX xwc fw ft tn n e (wd ft s (e - s)) rc rd fr := by
  have ew : zf_Fo_wordAt (nI s) (nI e) ft = some (wd ft s (e - s)) := by
    have := px_word ft (s := s) (l := e - s) (by omega) (by omega)
    rw [show s + (e - s) = e by omega] at this
    exact this
  rw [zf_Fo_readText_L24, if_neg (nI_nlt (by omega) (by omega)), stX]
  by_cases q : e = tn
  · subst q
    rw [if_pos rfl, if_neg (nI_ge hs (by omega)), ew, pz_bs, nI_1]
  · rw [if_neg (fun z => q ((nI_eq (by omega) (by omega)).mp z))]
    simp (disch := omega) only [nI_clamp, pz_i2, nI_1]
    rw [(px_gap.1 (hg.resolve_left q)).1, pz_bs, if_neg pz_b1, if_neg (nI_ge hs (by omega)), ew, pz_bs]
/-- the word's step of the reference -/
def stM (K : Int32 → Int32 → Int32 → Int32 → (Nat → Int32) → Option (Int32 × Int32 × Int32 × Int32 × (Nat → Int32) × (Nat → Int32))) (w v1 v2 v3 : Int32) (e : Nat) (nw : Nat → Int32) : Option (Int32 × Int32 × Int32 × Int32 × (Nat → Int32) × (Nat → Int32)) := if w = (-12 : Int32) then K v1 v2 v1 (nI e) nw else ((zf_Mo_isOfTwo w).bind (fun y22 => (if y22 = 0 then (if v1 < 0 ∨ 150 ≤ v1.toNatClampNeg then none else ((zf_Mo_isOfTwo w).bind (fun y25 => (if y25 = 0 then K (v1 + (1 : Int32)) (v2 + (1 : Int32)) v3 (nI e) (upd nw v1.toNatClampNeg w) else K (v1 + (1 : Int32)) (v2 + (-1 : Int32)) v3 (nI e) (upd nw v1.toNatClampNeg w))))) else (if (2 : Int32) ≤ v2 then (if v1 < 0 ∨ 150 ≤ v1.toNatClampNeg then none else ((zf_Mo_isOfTwo w).bind (fun y29 => (if y29 = 0 then K (v1 + (1 : Int32)) (v2 + (1 : Int32)) v3 (nI e) (upd nw v1.toNatClampNeg w) else K (v1 + (1 : Int32)) (v2 + (-1 : Int32)) v3 (nI e) (upd nw v1.toNatClampNeg w))))) else K v1 v2 v1 (nI e) nw))))
theorem pm_take (ht : tn ≤ 300) {s e : Nat} (hs : s < e) (he : e ≤ tn) (hg : e = tn ∨ gap ft e) (v1 v2 v3 mwc mhf : Int32) (nw : Nat → Int32) (K : Int32 → Int32 → Int32 → Int32 → (Nat → Int32) → Option (Int32 × Int32 × Int32 × Int32 × (Nat → Int32) × (Nat → Int32))) (n : Nat) : zf_Mo_score_L45 v1 v2 v3 (nI s) (nI tn) mwc mhf fw nw ft K (n + 1) (nI e) = stM K (wd ft s (e - s)) v1 v2 v3 e nw := by
  have ew : zf_Mo_wordAt (nI s) (nI e - nI s) ft = some (wd ft s (e - s)) := by
    rw [pk_sub (by omega)]
    exact pm_word ft (by omega) (by omega)
  rw [zf_Mo_score_L45, stM]
  by_cases q : e = tn
  · subst q
    rw [if_pos (nI_le (Nat.le_refl _) (by omega)), ew, pz_bs]
  · rw [if_neg (nI_ge (show e < tn by omega) (by omega))]
    rw [if_neg (nI_in (show e < 300 by omega) (by omega)), nI_clamp (by omega), (px_gap.1 (hg.resolve_left q)).2, pz_bs, if_neg pz_b1, ew, pz_bs]
theorem ps_loop (ht : tn ≤ 300) (hF : IF wn fw hf) : ∀ (m k c : Nat) (n n' : Nat) (fr nw : Nat → Int32), k + m = tn → m + 2 ≤ n → m + 2 ≤ n' → 2 * c ≤ k → JS c fr nw → SR (zf_Fo_readText_L24 (nI tn) 0 (nI wn) fw ft n (nI k) (nI k) (nI c) (nI (dp fr c)) fr) (zf_Mo_score_L9 (nI tn) (nI wn) hf fw ft n' (nI c) (nI (dp fr c)) (-1) (nI k) nw) := by
  intro m
  induction m using Nat.strongRecOn with
  | ind m ih =>
  intro k c n n' fr nw hk hn hn' hc hJ
  have hd := dp_le fr c
  have c1 : ¬ (0 : Int32) ≤ -1 := by decide
  by_cases hkt : k = tn
  · subst hkt
    obtain ⟨n, rfl⟩ : ∃ q, n = (q + 1) + 1 := ⟨n - 2, by omega⟩
    obtain ⟨n', rfl⟩ : ∃ q, n' = q + 1 := ⟨n' - 1, by omega⟩
    rw [zf_Fo_readText_L24, if_neg (nI_nlt (Nat.le_refl _) (by omega)), if_pos rfl, if_pos (nI_le (Nat.le_refl _) (by omega)), nI_1]
    exact ps_fin ht hF (by omega) hJ _ n n'
  · have hlt : k < tn := by omega
    obtain ⟨n', rfl⟩ : ∃ q, n' = q + 1 := ⟨n' - 1, by omega⟩
    by_cases hgap : gap ft k
    · obtain ⟨n, rfl⟩ : ∃ q, n = q + 1 := ⟨n - 1, by omega⟩
      have r := ih (m - 1) (by omega) (k + 1) c n n' fr nw (by omega) (by omega) (by omega) (by omega) hJ
      rw [zf_Fo_readText_L24, if_neg (nI_nlt (by omega) (by omega)), if_neg (fun z => hkt ((nI_eq (by omega) (by omega)).mp z)), zf_Mo_score_L9, if_neg (nI_ge hlt (by omega)), if_neg c1]
      simp (disch := omega) only [nI_clamp, pz_i2, nI_1]
      rw [(px_gap.1 hgap).1, pz_bs, if_neg pz_b1, if_pos (nI_le (Nat.le_refl _) (by omega)), (px_gap.1 hgap).2, pz_bs, if_neg pz_b1]
      exact r
    · obtain ⟨e, h1, h2, h3, h4⟩ := p_wend (ft := ft) (tn := tn) m k hk
      have hke : k < e := by
        rcases Nat.lt_or_ge k e with z | z
        · exact z
        · have z2 : e = k := by omega
          rcases h4 with h4 | h4
          · omega
          · rw [z2] at h4; exact absurd h4 hgap
      have eX : zf_Fo_readText_L24 (nI tn) 0 (nI wn) fw ft n (nI k) (nI k) (nI c) (nI (dp fr c)) fr = stX (nI wn) fw ft tn (n - (e - k) - 1) e (wd ft k (e - k)) (nI c) (nI (dp fr c)) fr := by
        have a := px_scan (ft := ft) (fw := fw) ht (nI k) (nI wn) (nI c) (nI (dp fr c)) fr (e - k) k (n - (e - k) - 1 + 1) (by omega) (fun i z1 z2 => h3 i z1 (by omega))
        rw [show n - (e - k) - 1 + 1 + (e - k) = n by omega, show k + (e - k) = e by omega] at a
        rw [a]
        exact px_take ht hke h2 h4 (nI wn) (nI c) (nI (dp fr c)) fr _
      have eM : zf_Mo_score_L9 (nI tn) (nI wn) hf fw ft (n' + 1) (nI c) (nI (dp fr c)) (-1) (nI k) nw = stM (fun uv1 uv2 uv3 uv4 umnw => zf_Mo_score_L9 (nI tn) (nI wn) hf fw ft n' uv1 uv2 uv3 uv4 umnw) (wd ft k (e - k)) (nI c) (nI (dp fr c)) (-1) e nw := by
        rw [zf_Mo_score_L9, if_neg (nI_ge hlt (by omega)), if_neg c1]
        simp (disch := omega) only [nI_clamp, pz_i2]
        rw [(px_gap.2 hgap).2, pz_bs, if_pos rfl]
        have a := pm_scan (ft := ft) (fw := fw) ht (nI c) (nI (dp fr c)) (-1) (nI k) (nI wn) hf nw (fun uv1 uv2 uv3 uv4 umnw => zf_Mo_score_L9 (nI tn) (nI wn) hf fw ft n' uv1 uv2 uv3 uv4 umnw) (e - k) k (2000 - (e - k) - 1 + 1) (by omega) (fun i z1 z2 => h3 i z1 (by omega))
        rw [show 2000 - (e - k) - 1 + 1 + (e - k) = 2000 by omega, show k + (e - k) = e by omega] at a
        rw [a]
        exact pm_take ht hke h2 h4 (nI c) (nI (dp fr c)) (-1) (nI wn) hf nw _ _
      rw [eX, eM]
      generalize hw : wd ft k (e - k) = w
      have hwi : w = -12 ∨ ¬ w < (-11 : Int32) := by rw [← hw]; exact wd_in ft k (e - k)
      -- the reference stops with a wrong word
      have mwrong : zf_Mo_score_L9 (nI tn) (nI wn) hf fw ft n' (nI c) (nI (dp fr c)) (nI c) (nI e) nw = some ((-1 : Int32) - nI c, 0, nI wn, hf, fw, nw) := by
        obtain ⟨q, rfl⟩ : ∃ q, n' = q + 1 := ⟨n' - 1, by omega⟩
        rw [zf_Mo_score_L9]
        have p0 : (0 : Int32) ≤ nI c := nI_pos' (by omega)
        have p1 : ¬ nI c < 0 := nI_pos (by omega)
        by_cases z : nI tn ≤ nI e
        · rw [if_pos z, if_pos p0, if_neg p1]
        · rw [if_neg z, if_pos p0, if_pos p0, if_neg p1]
      have wrong : ∀ {R : Prop}, zf_Fo_takeWord w (nI c) (nI (dp fr c)) fr = some (0, nI c, nI (dp fr c), fr) → stM (fun uv1 uv2 uv3 uv4 umnw => zf_Mo_score_L9 (nI tn) (nI wn) hf fw ft n' uv1 uv2 uv3 uv4 umnw) w (nI c) (nI (dp fr c)) (-1) e nw = zf_Mo_score_L9 (nI tn) (nI wn) hf fw ft n' (nI c) (nI (dp fr c)) (nI c) (nI e) nw → SR (stX (nI wn) fw ft tn (n - (e - k) - 1) e w (nI c) (nI (dp fr c)) fr) (stM (fun uv1 uv2 uv3 uv4 umnw => zf_Mo_score_L9 (nI tn) (nI wn) hf fw ft n' uv1 uv2 uv3 uv4 umnw) w (nI c) (nI (dp fr c)) (-1) e nw) := fun a b => by
        refine ⟨(-1 : Int32) - nI c, wn, fw, hf, nI c, nI (dp fr c), fr, nw, hF, ?_, ?_⟩
        · rw [stX, a, pz_bs]
          simp only [if_true]
        · rw [b, mwrong]
      -- a word that is taken
      have taken : ∀ {R : Prop}, ¬ w < (-11 : Int32) → (¬ (-7 : Int32) < w → 2 ≤ dp fr c) → zf_Fo_takeWord w (nI c) (nI (dp fr c)) fr = some (1, nI (c + 1), nI (dp (upd fr c w) (c + 1)), upd fr c w) → stM (fun uv1 uv2 uv3 uv4 umnw => zf_Mo_score_L9 (nI tn) (nI wn) hf fw ft n' uv1 uv2 uv3 uv4 umnw) w (nI c) (nI (dp fr c)) (-1) e nw = zf_Mo_score_L9 (nI tn) (nI wn) hf fw ft n' (nI (c + 1)) (nI (dp (upd fr c w) (c + 1))) (-1) (nI e) (upd nw c w) → SR (stX (nI wn) fw ft tn (n - (e - k) - 1) e w (nI c) (nI (dp fr c)) fr) (stM (fun uv1 uv2 uv3 uv4 umnw => zf_Mo_score_L9 (nI tn) (nI wn) hf fw ft n' uv1 uv2 uv3 uv4 umnw) w (nI c) (nI (dp fr c)) (-1) e nw) := fun q1 q2 a b => by
        have hJ' := hJ.push q1 q2
        rw [b, stX, a, pz_bs]
        simp only [if_neg pz_b1]
        by_cases z : e = tn
        · obtain ⟨x, hx⟩ : ∃ x, n - (e - k) - 1 = x + 1 := ⟨n - (e - k) - 2, by omega⟩
          obtain ⟨y, rfl⟩ : ∃ q, n' = q + 1 := ⟨n' - 1, by omega⟩
          rw [hx, z]
          exact ps_fin ht hF (by omega) hJ' _ x y
        · have ge : gap ft e := h4.resolve_left z
          obtain ⟨y, rfl⟩ : ∃ q, n' = q + 1 := ⟨n' - 1, by omega⟩
          have r := ih (tn - (e + 1)) (by omega) (e + 1) (c + 1) (n - (e - k) - 1) y (upd fr c w) (upd nw c w) (by omega) (by omega) (by omega) (by omega) hJ'
          have eM2 : zf_Mo_score_L9 (nI tn) (nI wn) hf fw ft (y + 1) (nI (c + 1)) (nI (dp (upd fr c w) (c + 1))) (-1) (nI e) (upd nw c w) = zf_Mo_score_L9 (nI tn) (nI wn) hf fw ft y (nI (c + 1)) (nI (dp (upd fr c w) (c + 1))) (-1) (nI (e + 1)) (upd nw c w) := by
            rw [zf_Mo_score_L9, if_neg (nI_ge (show e < tn by omega) (by omega)), if_neg c1]
            rw [if_neg (nI_in (show e < 300 by omega) (by omega)), nI_clamp (by omega), (px_gap.1 ge).2, pz_bs, if_neg pz_b1, nI_1]
          rw [eM2]
          exact r
      have l150 : nI c < (150 : Int32) := nI_lt (b := 150) (by omega) (by omega)
      rcases hwi with hno | hok
      · have j0 : zf_Fo_joinsTwo w = some 0 := by rw [hno]; rfl
        refine wrong (R := True) ?_ ?_
        · rw [zf_Fo_takeWord, j0, pz_bs, if_pos hno]
        · rw [stM, if_pos hno]
      · have hn12 : ¬ w = -12 := fun z => hok (by rw [z]; decide)
        by_cases hop : (-7 : Int32) < w
        · have j0 : zf_Fo_joinsTwo w = some 0 := by rw [zf_Fo_joinsTwo, if_pos hop]
          have o0 : zf_Mo_isOfTwo w = some 0 := by rw [zf_Mo_isOfTwo, if_pos hop]
          have ed : dp (upd fr c w) (c + 1) = dp fr c + 1 := by rw [dp_push, if_pos hop]
          refine taken (R := True) hok (fun z => absurd hop z) ?_ ?_
          · rw [zf_Fo_takeWord, j0, pz_bs, if_neg hn12, if_pos rfl, if_pos l150, ed]
            simp (disch := omega) only [nI_clamp, pz_i2, nI_1, if_true]
          · rw [stM, if_neg hn12, o0, pz_bs, if_pos rfl, ed]
            simp (disch := omega) only [nI_clamp, pz_i2, nI_1, pz_bs, if_true]
        · have j1 : zf_Fo_joinsTwo w = some 1 := by rw [zf_Fo_joinsTwo, if_neg hop, if_neg hok]
          have o1 : zf_Mo_isOfTwo w = some 1 := by rw [zf_Mo_isOfTwo, if_neg hop]
          by_cases h2d : 2 ≤ dp fr c
          · have ed : dp (upd fr c w) (c + 1) = dp fr c - 1 := by rw [dp_push, if_neg hop]
            have g1 : nI (dp fr c) + (-1 : Int32) = nI (dp fr c - 1) := by
              obtain ⟨z, hz⟩ : ∃ z, dp fr c = z + 1 := ⟨dp fr c - 1, by omega⟩
              rw [hz, pk_m1]; rfl
            have l2 : ¬ nI (dp fr c) < (2 : Int32) := nI_nlt (b := 2) h2d (by omega)
            have g2 : (2 : Int32) ≤ nI (dp fr c) := nI_le (a := 2) h2d (by omega)
            refine taken (R := True) hok (fun _ => h2d) ?_ ?_
            · rw [zf_Fo_takeWord, j1, pz_bs, if_neg hn12, if_neg pz_b1, if_neg l2, if_pos l150, ed, g1]
              simp (disch := omega) only [nI_clamp, pz_i2, nI_1, if_neg pz_b1]
            · rw [stM, if_neg hn12, o1, pz_bs, if_neg pz_b1, if_pos g2, ed, g1]
              simp (disch := omega) only [nI_clamp, pz_i2, nI_1, pz_bs, if_neg pz_b1]
          · have l2 : nI (dp fr c) < (2 : Int32) := nI_lt (b := 2) (by omega) (by omega)
            have g2 : ¬ (2 : Int32) ≤ nI (dp fr c) := nI_ge (b := 2) (by omega) (by omega)
            refine wrong (R := True) ?_ ?_
            · rw [zf_Fo_takeWord, j1, pz_bs, if_neg hn12, if_neg pz_b1, if_pos l2]
            · rw [stM, if_neg hn12, o1, pz_bs, if_neg pz_b1, if_neg g2]
theorem pp_score (ht : tn ≤ 300) (hF : IF wn fw hf) (xrc xrd : Int32) (fr nw : Nat → Int32) : ∃ a wn' fw' hf' rc rd fr' nw', IF wn' fw' hf' ∧ zf_MP_score (nI tn) xrc xrd (nI wn) ft fr fw = some (a, 0, rc, rd, nI wn', fr', fw') ∧ zf_Mo_score (nI tn) (nI wn) hf ft fw nw = some (a, 0, nI wn', hf', fw', nw') := by
  obtain ⟨a, wn', fw', hf', rc, rd, fr', nw', h1, h2, h3⟩ := ps_loop (ft := ft) ht hF tn 0 0 2000 2000 fr nw (by omega) (by omega) (by omega) (by omega) ⟨fun j hj => absurd hj (Nat.not_lt_zero j), fun j hj => absurd hj (Nat.not_lt_zero j), fun j hj => absurd hj (Nat.not_lt_zero j)⟩
  have h2 : zf_Fo_readText (nI tn) xrc xrd (nI wn) ft fr fw = some (a, 0, rc, rd, nI wn', fr', fw') := h2
  exact ⟨a, wn', fw', hf', rc, rd, fr', nw', h1, by rw [zf_MP_score, h2, pz_bs], h3⟩
end PTE
end
section
/-! PURE: the law -/
def zz_Good (L : Nat) (xs : Nat → Int32) (n i : Nat) : Prop := ∀ (g np nc tn wn : Nat) (hf : Int32) (ver rig po pk pl pi cp ck ft fw : Nat → Int32) (pg cd cg : Nat → Int64) (xrc xrd : Int32) (xsm xnt xnl xnd xfs mst mow msu mne : Nat → Int64) (xfr mnw : Nat → Int32), g ≤ 8 → IP np po pk pi pg → IC nc ck cg → tn ≤ 300 → IF wn fw hf → zf_La_law_L18 L xs n (nI i) (nI g) ver rig (nI np) (nI tn) xrc xrd (nI wn) xsm po pk pg pl pi (nI nc) cp cd ck cg xnt xnl xnd ft xfr fw xfs (nI g) (nI np) (nI nc) (nI tn) (nI wn) hf ver po pk pg pl pi cp cd ck cg rig ft fw mnw mst mow msu mne = some 1
set_option maxHeartbeats 4000000 in
set_option maxRecDepth 100000 in
theorem zz_op0 {L : Nat} {xs : Nat → Int32} {n i : Nat} (H : zz_Good L xs n (i + 7)) (hi : i + 7 ≤ L) (hL : L ≤ 3584) (hop : xs i &&& (31 : Int32) = (0 : Int32)) : zz_Good L xs (n + 1) i := by
  intro g np nc tn wn hf ver rig po pk pl pi cp ck ft fw pg cd cg xrc xrd xsm xnt xnl xnd xfs mst mow msu mne xfr mnw hg hI hC ht hF
  have e1 : nI i + (1 : Int32) = nI (i + 1) := nI_add i 1
  have e2 : nI i + (2 : Int32) = nI (i + 2) := nI_add i 2
  have e3 : nI i + (3 : Int32) = nI (i + 3) := nI_add i 3
  have e4 : nI i + (4 : Int32) = nI (i + 4) := nI_add i 4
  have e5 : nI i + (5 : Int32) = nI (i + 5) := nI_add i 5
  have e6 : nI i + (6 : Int32) = nI (i + 6) := nI_add i 6
  have e7 : nI i + (7 : Int32) = nI (i + 7) := nI_add i 7
  have stop : ¬ ((Int32.ofNat L) - (7 : Int32)) < nI i := by
    rw [show (Int32.ofNat L) - (7 : Int32) = nI (L - 7) from pk_sub (a := L) (b := 7) (by omega)]
    exact nI_nlt (by omega) (by omega)
  have hc : (xs (nI i).toNatClampNeg) &&& (31 : Int32) = (0 : Int32) := by rw [nI_clamp (by omega)]; exact hop
  rw [zf_La_law_L18, if_neg stop, if_neg (nI_in (show i < L by omega) (by omega)), if_pos hc]
  try simp (disch := omega) only [e1, e2, e3, e4, e5, e6, e7, nI_clamp, pz_i2]
  obtain ⟨a, g', hg, eX, eM⟩ := pp_good hg
  rw [eX, pz_bs, eM, pz_bs, if_pos rfl]
  exact H _ _ _ _ _ _ _ _ _ _ _ _ _ _ _ _ _ _ _ _ _ _ _ _ _ _ _ _ _ _ _ _ hg hI hC ht hF
set_option maxHeartbeats 4000000 in
set_option maxRecDepth 100000 in
theorem zz_op1 {L : Nat} {xs : Nat → Int32} {n i : Nat} (H : zz_Good L xs n (i + 7)) (hi : i + 7 ≤ L) (hL : L ≤ 3584) (hop : xs i &&& (31 : Int32) = (1 : Int32)) : zz_Good L xs (n + 1) i := by
  intro g np nc tn wn hf ver rig po pk pl pi cp ck ft fw pg cd cg xrc xrd xsm xnt xnl xnd xfs mst mow msu mne xfr mnw hg hI hC ht hF
  have e1 : nI i + (1 : Int32) = nI (i + 1) := nI_add i 1
  have e2 : nI i + (2 : Int32) = nI (i + 2) := nI_add i 2
  have e3 : nI i + (3 : Int32) = nI (i + 3) := nI_add i 3
  have e4 : nI i + (4 : Int32) = nI (i + 4) := nI_add i 4
  have e5 : nI i + (5 : Int32) = nI (i + 5) := nI_add i 5
  have e6 : nI i + (6 : Int32) = nI (i + 6) := nI_add i 6
  have e7 : nI i + (7 : Int32) = nI (i + 7) := nI_add i 7
  have stop : ¬ ((Int32.ofNat L) - (7 : Int32)) < nI i := by
    rw [show (Int32.ofNat L) - (7 : Int32) = nI (L - 7) from pk_sub (a := L) (b := 7) (by omega)]
    exact nI_nlt (by omega) (by omega)
  have hc : (xs (nI i).toNatClampNeg) &&& (31 : Int32) = (1 : Int32) := by rw [nI_clamp (by omega)]; exact hop
  have h0 : ¬ (xs (nI i).toNatClampNeg) &&& (31 : Int32) = (0 : Int32) := by rw [hc]; decide
  rw [zf_La_law_L18, if_neg stop, if_neg (nI_in (show i < L by omega) (by omega)), if_neg h0, if_pos hc]
  try simp (disch := omega) only [e1, e2, e3, e4, e5, e6, e7, nI_clamp, pz_i2]
  obtain ⟨a, ver', np', po', pk', pg', pl', pi', hI, eX, eM⟩ := pp_part (ver := ver) (pl := pl) hg hI (xs (i + 1)) (xs (i + 2)) (((xs (i + 3)).toInt64 <<< ((32 : Int32).toInt64 &&& 63)) ||| ((xs (i + 4)).toInt64 &&& (4294967295 : Int64))) (xs (i + 5))
  rw [eX, pz_bs, eM, pz_bs, if_pos rfl]
  exact H _ _ _ _ _ _ _ _ _ _ _ _ _ _ _ _ _ _ _ _ _ _ _ _ _ _ _ _ _ _ _ _ hg hI hC ht hF
set_option maxHeartbeats 4000000 in
set_option maxRecDepth 100000 in
theorem zz_op2 {L : Nat} {xs : Nat → Int32} {n i : Nat} (H : zz_Good L xs n (i + 7)) (hi : i + 7 ≤ L) (hL : L ≤ 3584) (hop : xs i &&& (31 : Int32) = (2 : Int32)) : zz_Good L xs (n + 1) i := by
  intro g np nc tn wn hf ver rig po pk pl pi cp ck ft fw pg cd cg xrc xrd xsm xnt xnl xnd xfs mst mow msu mne xfr mnw hg hI hC ht hF
  have e1 : nI i + (1 : Int32) = nI (i + 1) := nI_add i 1
  have e2 : nI i + (2 : Int32) = nI (i + 2) := nI_add i 2
  have e3 : nI i + (3 : Int32) = nI (i + 3) := nI_add i 3
  have e4 : nI i + (4 : Int32) = nI (i + 4) := nI_add i 4
  have e5 : nI i + (5 : Int32) = nI (i + 5) := nI_add i 5
  have e6 : nI i + (6 : Int32) = nI (i + 6) := nI_add i 6
  have e7 : nI i + (7 : Int32) = nI (i + 7) := nI_add i 7
  have stop : ¬ ((Int32.ofNat L) - (7 : Int32)) < nI i := by
    rw [show (Int32.ofNat L) - (7 : Int32) = nI (L - 7) from pk_sub (a := L) (b := 7) (by omega)]
    exact nI_nlt (by omega) (by omega)
  have hc : (xs (nI i).toNatClampNeg) &&& (31 : Int32) = (2 : Int32) := by rw [nI_clamp (by omega)]; exact hop
  have h0 : ¬ (xs (nI i).toNatClampNeg) &&& (31 : Int32) = (0 : Int32) := by rw [hc]; decide
  have h1 : ¬ (xs (nI i).toNatClampNeg) &&& (31 : Int32) = (1 : Int32) := by rw [hc]; decide
  rw [zf_La_law_L18, if_neg stop, if_neg (nI_in (show i < L by omega) (by omega)), if_neg h0, if_neg h1, if_pos hc]
  try simp (disch := omega) only [e1, e2, e3, e4, e5, e6, e7, nI_clamp, pz_i2]
  obtain ⟨a, ver', pi', t1, t2, t3, hI, eX, eM⟩ := pp_into (ver := ver) hg hI (xs (i + 1)) (xs (i + 2)) xnt xnl xnd
  rw [eX, pz_bs, eM, pz_bs, if_pos rfl]
  exact H _ _ _ _ _ _ _ _ _ _ _ _ _ _ _ _ _ _ _ _ _ _ _ _ _ _ _ _ _ _ _ _ hg hI hC ht hF
set_option maxHeartbeats 4000000 in
set_option maxRecDepth 100000 in
theorem zz_op3 {L : Nat} {xs : Nat → Int32} {n i : Nat} (H : zz_Good L xs n (i + 7)) (hi : i + 7 ≤ L) (hL : L ≤ 3584) (hop : xs i &&& (31 : Int32) = (3 : Int32)) : zz_Good L xs (n + 1) i := by
  intro g np nc tn wn hf ver rig po pk pl pi cp ck ft fw pg cd cg xrc xrd xsm xnt xnl xnd xfs mst mow msu mne xfr mnw hg hI hC ht hF
  have e1 : nI i + (1 : Int32) = nI (i + 1) := nI_add i 1
  have e2 : nI i + (2 : Int32) = nI (i + 2) := nI_add i 2
  have e3 : nI i + (3 : Int32) = nI (i + 3) := nI_add i 3
  have e4 : nI i + (4 : Int32) = nI (i + 4) := nI_add i 4
  have e5 : nI i + (5 : Int32) = nI (i + 5) := nI_add i 5
  have e6 : nI i + (6 : Int32) = nI (i + 6) := nI_add i 6
  have e7 : nI i + (7 : Int32) = nI (i + 7) := nI_add i 7
  have stop : ¬ ((Int32.ofNat L) - (7 : Int32)) < nI i := by
    rw [show (Int32.ofNat L) - (7 : Int32) = nI (L - 7) from pk_sub (a := L) (b := 7) (by omega)]
    exact nI_nlt (by omega) (by omega)
  have hc : (xs (nI i).toNatClampNeg) &&& (31 : Int32) = (3 : Int32) := by rw [nI_clamp (by omega)]; exact hop
  have h0 : ¬ (xs (nI i).toNatClampNeg) &&& (31 : Int32) = (0 : Int32) := by rw [hc]; decide
  have h1 : ¬ (xs (nI i).toNatClampNeg) &&& (31 : Int32) = (1 : Int32) := by rw [hc]; decide
  have h2 : ¬ (xs (nI i).toNatClampNeg) &&& (31 : Int32) = (2 : Int32) := by rw [hc]; decide
  rw [zf_La_law_L18, if_neg stop, if_neg (nI_in (show i < L by omega) (by omega)), if_neg h0, if_neg h1, if_neg h2, if_pos hc]
  try simp (disch := omega) only [e1, e2, e3, e4, e5, e6, e7, nI_clamp, pz_i2]
  obtain ⟨a, ver', pl', eX, eM⟩ := pp_life (ver := ver) (pl := pl) hI.1 hI.2.1 (xs (i + 1)) (xs (i + 2))
  rw [eX, pz_bs, eM, pz_bs, if_pos rfl]
  exact H _ _ _ _ _ _ _ _ _ _ _ _ _ _ _ _ _ _ _ _ _ _ _ _ _ _ _ _ _ _ _ _ hg hI hC ht hF
set_option maxHeartbeats 4000000 in
set_option maxRecDepth 100000 in
theorem zz_op4 {L : Nat} {xs : Nat → Int32} {n i : Nat} (H : zz_Good L xs n (i + 7)) (hi : i + 7 ≤ L) (hL : L ≤ 3584) (hop : xs i &&& (31 : Int32) = (4 : Int32)) : zz_Good L xs (n + 1) i := by
  intro g np nc tn wn hf ver rig po pk pl pi cp ck ft fw pg cd cg xrc xrd xsm xnt xnl xnd xfs mst mow msu mne xfr mnw hg hI hC ht hF
  have e1 : nI i + (1 : Int32) = nI (i + 1) := nI_add i 1
  have e2 : nI i + (2 : Int32) = nI (i + 2) := nI_add i 2
  have e3 : nI i + (3 : Int32) = nI (i + 3) := nI_add i 3
  have e4 : nI i + (4 : Int32) = nI (i + 4) := nI_add i 4
  have e5 : nI i + (5 : Int32) = nI (i + 5) := nI_add i 5
  have e6 : nI i + (6 : Int32) = nI (i + 6) := nI_add i 6
  have e7 : nI i + (7 : Int32) = nI (i + 7) := nI_add i 7
  have stop : ¬ ((Int32.ofNat L) - (7 : Int32)) < nI i := by
    rw [show (Int32.ofNat L) - (7 : Int32) = nI (L - 7) from pk_sub (a := L) (b := 7) (by omega)]
    exact nI_nlt (by omega) (by omega)
  have hc : (xs (nI i).toNatClampNeg) &&& (31 : Int32) = (4 : Int32) := by rw [nI_clamp (by omega)]; exact hop
  have h0 : ¬ (xs (nI i).toNatClampNeg) &&& (31 : Int32) = (0 : Int32) := by rw [hc]; decide
  have h1 : ¬ (xs (nI i).toNatClampNeg) &&& (31 : Int32) = (1 : Int32) := by rw [hc]; decide
  have h2 : ¬ (xs (nI i).toNatClampNeg) &&& (31 : Int32) = (2 : Int32) := by rw [hc]; decide
  have h3 : ¬ (xs (nI i).toNatClampNeg) &&& (31 : Int32) = (3 : Int32) := by rw [hc]; decide
  rw [zf_La_law_L18, if_neg stop, if_neg (nI_in (show i < L by omega) (by omega)), if_neg h0, if_neg h1, if_neg h2, if_neg h3, if_pos hc]
  try simp (disch := omega) only [e1, e2, e3, e4, e5, e6, e7, nI_clamp, pz_i2]
  obtain ⟨a, ver', nc', cp', cd', ck', cg', hC, eX, eM⟩ := pp_change (ver := ver) (cp := cp) (cd := cd) hI.1 hI.2.1 hC (xs (i + 1)) (((xs (i + 2)).toInt64 <<< ((32 : Int32).toInt64 &&& 63)) ||| ((xs (i + 3)).toInt64 &&& (4294967295 : Int64))) (xs (i + 4)) (((xs (i + 5)).toInt64 <<< ((32 : Int32).toInt64 &&& 63)) ||| ((xs (i + 6)).toInt64 &&& (4294967295 : Int64)))
  rw [eX, pz_bs, eM, pz_bs, if_pos rfl]
  exact H _ _ _ _ _ _ _ _ _ _ _ _ _ _ _ _ _ _ _ _ _ _ _ _ _ _ _ _ _ _ _ _ hg hI hC ht hF
set_option maxHeartbeats 4000000 in
set_option maxRecDepth 100000 in
theorem zz_op5 {L : Nat} {xs : Nat → Int32} {n i : Nat} (H : zz_Good L xs n (i + 7)) (hi : i + 7 ≤ L) (hL : L ≤ 3584) (hop : xs i &&& (31 : Int32) = (5 : Int32)) : zz_Good L xs (n + 1) i := by
  intro g np nc tn wn hf ver rig po pk pl pi cp ck ft fw pg cd cg xrc xrd xsm xnt xnl xnd xfs mst mow msu mne xfr mnw hg hI hC ht hF
  have e1 : nI i + (1 : Int32) = nI (i + 1) := nI_add i 1
  have e2 : nI i + (2 : Int32) = nI (i + 2) := nI_add i 2
  have e3 : nI i + (3 : Int32) = nI (i + 3) := nI_add i 3
  have e4 : nI i + (4 : Int32) = nI (i + 4) := nI_add i 4
  have e5 : nI i + (5 : Int32) = nI (i + 5) := nI_add i 5
  have e6 : nI i + (6 : Int32) = nI (i + 6) := nI_add i 6
  have e7 : nI i + (7 : Int32) = nI (i + 7) := nI_add i 7
  have stop : ¬ ((Int32.ofNat L) - (7 : Int32)) < nI i := by
    rw [show (Int32.ofNat L) - (7 : Int32) = nI (L - 7) from pk_sub (a := L) (b := 7) (by omega)]
    exact nI_nlt (by omega) (by omega)
  have hc : (xs (nI i).toNatClampNeg) &&& (31 : Int32) = (5 : Int32) := by rw [nI_clamp (by omega)]; exact hop
  have h0 : ¬ (xs (nI i).toNatClampNeg) &&& (31 : Int32) = (0 : Int32) := by rw [hc]; decide
  have h1 : ¬ (xs (nI i).toNatClampNeg) &&& (31 : Int32) = (1 : Int32) := by rw [hc]; decide
  have h2 : ¬ (xs (nI i).toNatClampNeg) &&& (31 : Int32) = (2 : Int32) := by rw [hc]; decide
  have h3 : ¬ (xs (nI i).toNatClampNeg) &&& (31 : Int32) = (3 : Int32) := by rw [hc]; decide
  have h4 : ¬ (xs (nI i).toNatClampNeg) &&& (31 : Int32) = (4 : Int32) := by rw [hc]; decide
  rw [zf_La_law_L18, if_neg stop, if_neg (nI_in (show i < L by omega) (by omega)), if_neg h0, if_neg h1, if_neg h2, if_neg h3, if_neg h4, if_pos hc]
  try simp (disch := omega) only [e1, e2, e3, e4, e5, e6, e7, nI_clamp, pz_i2]
  obtain ⟨a, s1, t1, t2, t3, m1, m2, m3, eX, eM⟩ := pp_total (cp := cp) (cd := cd) hg hI hC (xs (i + 1)) (xs (i + 2)) xsm xnt xnl xnd mow msu mne
  rw [eX, pz_bs, eM, pz_bs, if_pos rfl]
  exact H _ _ _ _ _ _ _ _ _ _ _ _ _ _ _ _ _ _ _ _ _ _ _ _ _ _ _ _ _ _ _ _ hg hI hC ht hF
set_option maxHeartbeats 4000000 in
set_option maxRecDepth 100000 in
theorem zz_op6 {L : Nat} {xs : Nat → Int32} {n i : Nat} (H : zz_Good L xs n (i + 7)) (hi : i + 7 ≤ L) (hL : L ≤ 3584) (hop : xs i &&& (31 : Int32) = (6 : Int32)) : zz_Good L xs (n + 1) i := by
  intro g np nc tn wn hf ver rig po pk pl pi cp ck ft fw pg cd cg xrc xrd xsm xnt xnl xnd xfs mst mow msu mne xfr mnw hg hI hC ht hF
  have e1 : nI i + (1 : Int32) = nI (i + 1) := nI_add i 1
  have e2 : nI i + (2 : Int32) = nI (i + 2) := nI_add i 2
  have e3 : nI i + (3 : Int32) = nI (i + 3) := nI_add i 3
  have e4 : nI i + (4 : Int32) = nI (i + 4) := nI_add i 4
  have e5 : nI i + (5 : Int32) = nI (i + 5) := nI_add i 5
  have e6 : nI i + (6 : Int32) = nI (i + 6) := nI_add i 6
  have e7 : nI i + (7 : Int32) = nI (i + 7) := nI_add i 7
  have stop : ¬ ((Int32.ofNat L) - (7 : Int32)) < nI i := by
    rw [show (Int32.ofNat L) - (7 : Int32) = nI (L - 7) from pk_sub (a := L) (b := 7) (by omega)]
    exact nI_nlt (by omega) (by omega)
  have hc : (xs (nI i).toNatClampNeg) &&& (31 : Int32) = (6 : Int32) := by rw [nI_clamp (by omega)]; exact hop
  have h0 : ¬ (xs (nI i).toNatClampNeg) &&& (31 : Int32) = (0 : Int32) := by rw [hc]; decide
  have h1 : ¬ (xs (nI i).toNatClampNeg) &&& (31 : Int32) = (1 : Int32) := by rw [hc]; decide
  have h2 : ¬ (xs (nI i).toNatClampNeg) &&& (31 : Int32) = (2 : Int32) := by rw [hc]; decide
  have h3 : ¬ (xs (nI i).toNatClampNeg) &&& (31 : Int32) = (3 : Int32) := by rw [hc]; decide
  have h4 : ¬ (xs (nI i).toNatClampNeg) &&& (31 : Int32) = (4 : Int32) := by rw [hc]; decide
  have h5 : ¬ (xs (nI i).toNatClampNeg) &&& (31 : Int32) = (5 : Int32) := by rw [hc]; decide
  rw [zf_La_law_L18, if_neg stop, if_neg (nI_in (show i < L by omega) (by omega)), if_neg h0, if_neg h1, if_neg h2, if_neg h3, if_neg h4, if_neg h5, if_pos hc]
  try simp (disch := omega) only [e1, e2, e3, e4, e5, e6, e7, nI_clamp, pz_i2]
  obtain ⟨a, s1, t1, t2, t3, m1, m2, m3, eX, eM⟩ := pp_totalOn (cp := cp) (cd := cd) hg hI hC (xs (i + 1)) (xs (i + 2)) (((xs (i + 3)).toInt64 <<< ((32 : Int32).toInt64 &&& 63)) ||| ((xs (i + 4)).toInt64 &&& (4294967295 : Int64))) xsm xnt xnl xnd mow msu mne
  rw [eX, pz_bs, eM, pz_bs, if_pos rfl]
  exact H _ _ _ _ _ _ _ _ _ _ _ _ _ _ _ _ _ _ _ _ _ _ _ _ _ _ _ _ _ _ _ _ hg hI hC ht hF
set_option maxHeartbeats 4000000 in
set_option maxRecDepth 100000 in
theorem zz_op7 {L : Nat} {xs : Nat → Int32} {n i : Nat} (H : zz_Good L xs n (i + 7)) (hi : i + 7 ≤ L) (hL : L ≤ 3584) (hop : xs i &&& (31 : Int32) = (7 : Int32)) : zz_Good L xs (n + 1) i := by
  intro g np nc tn wn hf ver rig po pk pl pi cp ck ft fw pg cd cg xrc xrd xsm xnt xnl xnd xfs mst mow msu mne xfr mnw hg hI hC ht hF
  have e1 : nI i + (1 : Int32) = nI (i + 1) := nI_add i 1
  have e2 : nI i + (2 : Int32) = nI (i + 2) := nI_add i 2
  have e3 : nI i + (3 : Int32) = nI (i + 3) := nI_add i 3
  have e4 : nI i + (4 : Int32) = nI (i + 4) := nI_add i 4
  have e5 : nI i + (5 : Int32) = nI (i + 5) := nI_add i 5
  have e6 : nI i + (6 : Int32) = nI (i + 6) := nI_add i 6
  have e7 : nI i + (7 : Int32) = nI (i + 7) := nI_add i 7
  have stop : ¬ ((Int32.ofNat L) - (7 : Int32)) < nI i := by
    rw [show (Int32.ofNat L) - (7 : Int32) = nI (L - 7) from pk_sub (a := L) (b := 7) (by omega)]
    exact nI_nlt (by omega) (by omega)
  have hc : (xs (nI i).toNatClampNeg) &&& (31 : Int32) = (7 : Int32) := by rw [nI_clamp (by omega)]; exact hop
  have h0 : ¬ (xs (nI i).toNatClampNeg) &&& (31 : Int32) = (0 : Int32) := by rw [hc]; decide
  have h1 : ¬ (xs (nI i).toNatClampNeg) &&& (31 : Int32) = (1 : Int32) := by rw [hc]; decide
  have h2 : ¬ (xs (nI i).toNatClampNeg) &&& (31 : Int32) = (2 : Int32) := by rw [hc]; decide
  have h3 : ¬ (xs (nI i).toNatClampNeg) &&& (31 : Int32) = (3 : Int32) := by rw [hc]; decide
  have h4 : ¬ (xs (nI i).toNatClampNeg) &&& (31 : Int32) = (4 : Int32) := by rw [hc]; decide
  have h5 : ¬ (xs (nI i).toNatClampNeg) &&& (31 : Int32) = (5 : Int32) := by rw [hc]; decide
  have h6 : ¬ (xs (nI i).toNatClampNeg) &&& (31 : Int32) = (6 : Int32) := by rw [hc]; decide
  rw [zf_La_law_L18, if_neg stop, if_neg (nI_in (show i < L by omega) (by omega)), if_neg h0, if_neg h1, if_neg h2, if_neg h3, if_neg h4, if_neg h5, if_neg h6, if_pos hc]
  try simp (disch := omega) only [e1, e2, e3, e4, e5, e6, e7, nI_clamp, pz_i2]
  obtain ⟨a, eX, eM⟩ := pp_frees (pk := pk) (pl := pl) (pg := pg) (cp := cp) (cd := cd) (ck := ck) (cg := cg) hI.1 hC.1 (xs (i + 1)) (xs (i + 2))
  rw [eX, pz_bs, eM, pz_bs, if_pos rfl]
  exact H _ _ _ _ _ _ _ _ _ _ _ _ _ _ _ _ _ _ _ _ _ _ _ _ _ _ _ _ _ _ _ _ hg hI hC ht hF
set_option maxHeartbeats 4000000 in
set_option maxRecDepth 100000 in
theorem zz_op8 {L : Nat} {xs : Nat → Int32} {n i : Nat} (H : zz_Good L xs n (i + 7)) (hi : i + 7 ≤ L) (hL : L ≤ 3584) (hop : xs i &&& (31 : Int32) = (8 : Int32)) : zz_Good L xs (n + 1) i := by
  intro g np nc tn wn hf ver rig po pk pl pi cp ck ft fw pg cd cg xrc xrd xsm xnt xnl xnd xfs mst mow msu mne xfr mnw hg hI hC ht hF
  have e1 : nI i + (1 : Int32) = nI (i + 1) := nI_add i 1
  have e2 : nI i + (2 : Int32) = nI (i + 2) := nI_add i 2
  have e3 : nI i + (3 : Int32) = nI (i + 3) := nI_add i 3
  have e4 : nI i + (4 : Int32) = nI (i + 4) := nI_add i 4
  have e5 : nI i + (5 : Int32) = nI (i + 5) := nI_add i 5
  have e6 : nI i + (6 : Int32) = nI (i + 6) := nI_add i 6
  have e7 : nI i + (7 : Int32) = nI (i + 7) := nI_add i 7
  have stop : ¬ ((Int32.ofNat L) - (7 : Int32)) < nI i := by
    rw [show (Int32.ofNat L) - (7 : Int32) = nI (L - 7) from pk_sub (a := L) (b := 7) (by omega)]
    exact nI_nlt (by omega) (by omega)
  have hc : (xs (nI i).toNatClampNeg) &&& (31 : Int32) = (8 : Int32) := by rw [nI_clamp (by omega)]; exact hop
  have h0 : ¬ (xs (nI i).toNatClampNeg) &&& (31 : Int32) = (0 : Int32) := by rw [hc]; decide
  have h1 : ¬ (xs (nI i).toNatClampNeg) &&& (31 : Int32) = (1 : Int32) := by rw [hc]; decide
  have h2 : ¬ (xs (nI i).toNatClampNeg) &&& (31 : Int32) = (2 : Int32) := by rw [hc]; decide
  have h3 : ¬ (xs (nI i).toNatClampNeg) &&& (31 : Int32) = (3 : Int32) := by rw [hc]; decide
  have h4 : ¬ (xs (nI i).toNatClampNeg) &&& (31 : Int32) = (4 : Int32) := by rw [hc]; decide
  have h5 : ¬ (xs (nI i).toNatClampNeg) &&& (31 : Int32) = (5 : Int32) := by rw [hc]; decide
  have h6 : ¬ (xs (nI i).toNatClampNeg) &&& (31 : Int32) = (6 : Int32) := by rw [hc]; decide
  have h7 : ¬ (xs (nI i).toNatClampNeg) &&& (31 : Int32) = (7 : Int32) := by rw [hc]; decide
  rw [zf_La_law_L18, if_neg stop, if_neg (nI_in (show i < L by omega) (by omega)), if_neg h0, if_neg h1, if_neg h2, if_neg h3, if_neg h4, if_neg h5, if_neg h6, if_neg h7, if_pos hc]
  try simp (disch := omega) only [e1, e2, e3, e4, e5, e6, e7, nI_clamp, pz_i2]
  obtain ⟨a, eX, eM⟩ := pp_version (ver := ver) hg (xs (i + 1))
  rw [eX, pz_bs, eM, pz_bs, if_pos rfl]
  exact H _ _ _ _ _ _ _ _ _ _ _ _ _ _ _ _ _ _ _ _ _ _ _ _ _ _ _ _ _ _ _ _ hg hI hC ht hF
set_option maxHeartbeats 4000000 in
set_option maxRecDepth 100000 in
theorem zz_op9 {L : Nat} {xs : Nat → Int32} {n i : Nat} (H : zz_Good L xs n (i + 7)) (hi : i + 7 ≤ L) (hL : L ≤ 3584) (hop : xs i &&& (31 : Int32) = (9 : Int32)) : zz_Good L xs (n + 1) i := by
  intro g np nc tn wn hf ver rig po pk pl pi cp ck ft fw pg cd cg xrc xrd xsm xnt xnl xnd xfs mst mow msu mne xfr mnw hg hI hC ht hF
  have e1 : nI i + (1 : Int32) = nI (i + 1) := nI_add i 1
  have e2 : nI i + (2 : Int32) = nI (i + 2) := nI_add i 2
  have e3 : nI i + (3 : Int32) = nI (i + 3) := nI_add i 3
  have e4 : nI i + (4 : Int32) = nI (i + 4) := nI_add i 4
  have e5 : nI i + (5 : Int32) = nI (i + 5) := nI_add i 5
  have e6 : nI i + (6 : Int32) = nI (i + 6) := nI_add i 6
  have e7 : nI i + (7 : Int32) = nI (i + 7) := nI_add i 7
  have stop : ¬ ((Int32.ofNat L) - (7 : Int32)) < nI i := by
    rw [show (Int32.ofNat L) - (7 : Int32) = nI (L - 7) from pk_sub (a := L) (b := 7) (by omega)]
    exact nI_nlt (by omega) (by omega)
  have hc : (xs (nI i).toNatClampNeg) &&& (31 : Int32) = (9 : Int32) := by rw [nI_clamp (by omega)]; exact hop
  have h0 : ¬ (xs (nI i).toNatClampNeg) &&& (31 : Int32) = (0 : Int32) := by rw [hc]; decide
  have h1 : ¬ (xs (nI i).toNatClampNeg) &&& (31 : Int32) = (1 : Int32) := by rw [hc]; decide
  have h2 : ¬ (xs (nI i).toNatClampNeg) &&& (31 : Int32) = (2 : Int32) := by rw [hc]; decide
  have h3 : ¬ (xs (nI i).toNatClampNeg) &&& (31 : Int32) = (3 : Int32) := by rw [hc]; decide
  have h4 : ¬ (xs (nI i).toNatClampNeg) &&& (31 : Int32) = (4 : Int32) := by rw [hc]; decide
  have h5 : ¬ (xs (nI i).toNatClampNeg) &&& (31 : Int32) = (5 : Int32) := by rw [hc]; decide
  have h6 : ¬ (xs (nI i).toNatClampNeg) &&& (31 : Int32) = (6 : Int32) := by rw [hc]; decide
  have h7 : ¬ (xs (nI i).toNatClampNeg) &&& (31 : Int32) = (7 : Int32) := by rw [hc]; decide
  have h8 : ¬ (xs (nI i).toNatClampNeg) &&& (31 : Int32) = (8 : Int32) := by rw [hc]; decide
  rw [zf_La_law_L18, if_neg stop, if_neg (nI_in (show i < L by omega) (by omega)), if_neg h0, if_neg h1, if_neg h2, if_neg h3, if_neg h4, if_neg h5, if_neg h6, if_neg h7, if_neg h8, if_pos hc]
  simp (disch := omega) only [e1, e2, e3, e4, e5, e6, e7, nI_clamp, pz_i2]
  by_cases hb : xs (i + 3) = 0
  · simp only [if_pos hb]
    obtain ⟨a, rig', eX, eM⟩ := pp_right (rig := rig) hg (xs (i + 1)) (xs (i + 2)) 0
    rw [eX, pz_bs, eM, pz_bs, if_pos rfl]
    exact H _ _ _ _ _ _ _ _ _ _ _ _ _ _ _ _ _ _ _ _ _ _ _ _ _ _ _ _ _ _ _ _ hg hI hC ht hF
  · simp only [if_neg hb]
    obtain ⟨a, rig', eX, eM⟩ := pp_right (rig := rig) hg (xs (i + 1)) (xs (i + 2)) 1
    rw [eX, pz_bs, eM, pz_bs, if_pos rfl]
    exact H _ _ _ _ _ _ _ _ _ _ _ _ _ _ _ _ _ _ _ _ _ _ _ _ _ _ _ _ _ _ _ _ hg hI hC ht hF
set_option maxHeartbeats 4000000 in
set_option maxRecDepth 100000 in
theorem zz_op10 {L : Nat} {xs : Nat → Int32} {n i : Nat} (H : zz_Good L xs n (i + 7)) (hi : i + 7 ≤ L) (hL : L ≤ 3584) (hop : xs i &&& (31 : Int32) = (10 : Int32)) : zz_Good L xs (n + 1) i := by
  intro g np nc tn wn hf ver rig po pk pl pi cp ck ft fw pg cd cg xrc xrd xsm xnt xnl xnd xfs mst mow msu mne xfr mnw hg hI hC ht hF
  have e1 : nI i + (1 : Int32) = nI (i + 1) := nI_add i 1
  have e2 : nI i + (2 : Int32) = nI (i + 2) := nI_add i 2
  have e3 : nI i + (3 : Int32) = nI (i + 3) := nI_add i 3
  have e4 : nI i + (4 : Int32) = nI (i + 4) := nI_add i 4
  have e5 : nI i + (5 : Int32) = nI (i + 5) := nI_add i 5
  have e6 : nI i + (6 : Int32) = nI (i + 6) := nI_add i 6
  have e7 : nI i + (7 : Int32) = nI (i + 7) := nI_add i 7
  have stop : ¬ ((Int32.ofNat L) - (7 : Int32)) < nI i := by
    rw [show (Int32.ofNat L) - (7 : Int32) = nI (L - 7) from pk_sub (a := L) (b := 7) (by omega)]
    exact nI_nlt (by omega) (by omega)
  have hc : (xs (nI i).toNatClampNeg) &&& (31 : Int32) = (10 : Int32) := by rw [nI_clamp (by omega)]; exact hop
  have h0 : ¬ (xs (nI i).toNatClampNeg) &&& (31 : Int32) = (0 : Int32) := by rw [hc]; decide
  have h1 : ¬ (xs (nI i).toNatClampNeg) &&& (31 : Int32) = (1 : Int32) := by rw [hc]; decide
  have h2 : ¬ (xs (nI i).toNatClampNeg) &&& (31 : Int32) = (2 : Int32) := by rw [hc]; decide
  have h3 : ¬ (xs (nI i).toNatClampNeg) &&& (31 : Int32) = (3 : Int32) := by rw [hc]; decide
  have h4 : ¬ (xs (nI i).toNatClampNeg) &&& (31 : Int32) = (4 : Int32) := by rw [hc]; decide
  have h5 : ¬ (xs (nI i).toNatClampNeg) &&& (31 : Int32) = (5 : Int32) := by rw [hc]; decide
  have h6 : ¬ (xs (nI i).toNatClampNeg) &&& (31 : Int32) = (6 : Int32) := by rw [hc]; decide
  have h7 : ¬ (xs (nI i).toNatClampNeg) &&& (31 : Int32) = (7 : Int32) := by rw [hc]; decide
  have h8 : ¬ (xs (nI i).toNatClampNeg) &&& (31 : Int32) = (8 : Int32) := by rw [hc]; decide
  have h9 : ¬ (xs (nI i).toNatClampNeg) &&& (31 : Int32) = (9 : Int32) := by rw [hc]; decide
  rw [zf_La_law_L18, if_neg stop, if_neg (nI_in (show i < L by omega) (by omega)), if_neg h0, if_neg h1, if_neg h2, if_neg h3, if_neg h4, if_neg h5, if_neg h6, if_neg h7, if_neg h8, if_neg h9, if_pos hc]
  try simp (disch := omega) only [e1, e2, e3, e4, e5, e6, e7, nI_clamp, pz_i2]
  obtain ⟨a, eX, eM⟩ := pp_seen (rig := rig) (po := po) (pk := pk) (pl := pl) (pg := pg) (cp := cp) (cd := cd) (ck := ck) (cg := cg) hg hI.1 hC.1 (xs (i + 1)) (xs (i + 2)) (xs (i + 3)) (xs (i + 4))
  rw [eX, pz_bs, eM, pz_bs, if_pos rfl]
  exact H _ _ _ _ _ _ _ _ _ _ _ _ _ _ _ _ _ _ _ _ _ _ _ _ _ _ _ _ _ _ _ _ hg hI hC ht hF
set_option maxHeartbeats 4000000 in
set_option maxRecDepth 100000 in
theorem zz_op11 {L : Nat} {xs : Nat → Int32} {n i : Nat} (H : zz_Good L xs n (i + 7)) (hi : i + 7 ≤ L) (hL : L ≤ 3584) (hop : xs i &&& (31 : Int32) = (11 : Int32)) : zz_Good L xs (n + 1) i := by
  intro g np nc tn wn hf ver rig po pk pl pi cp ck ft fw pg cd cg xrc xrd xsm xnt xnl xnd xfs mst mow msu mne xfr mnw hg hI hC ht hF
  have e1 : nI i + (1 : Int32) = nI (i + 1) := nI_add i 1
  have e2 : nI i + (2 : Int32) = nI (i + 2) := nI_add i 2
  have e3 : nI i + (3 : Int32) = nI (i + 3) := nI_add i 3
  have e4 : nI i + (4 : Int32) = nI (i + 4) := nI_add i 4
  have e5 : nI i + (5 : Int32) = nI (i + 5) := nI_add i 5
  have e6 : nI i + (6 : Int32) = nI (i + 6) := nI_add i 6
  have e7 : nI i + (7 : Int32) = nI (i + 7) := nI_add i 7
  have stop : ¬ ((Int32.ofNat L) - (7 : Int32)) < nI i := by
    rw [show (Int32.ofNat L) - (7 : Int32) = nI (L - 7) from pk_sub (a := L) (b := 7) (by omega)]
    exact nI_nlt (by omega) (by omega)
  have hc : (xs (nI i).toNatClampNeg) &&& (31 : Int32) = (11 : Int32) := by rw [nI_clamp (by omega)]; exact hop
  have h0 : ¬ (xs (nI i).toNatClampNeg) &&& (31 : Int32) = (0 : Int32) := by rw [hc]; decide
  have h1 : ¬ (xs (nI i).toNatClampNeg) &&& (31 : Int32) = (1 : Int32) := by rw [hc]; decide
  have h2 : ¬ (xs (nI i).toNatClampNeg) &&& (31 : Int32) = (2 : Int32) := by rw [hc]; decide
  have h3 : ¬ (xs (nI i).toNatClampNeg) &&& (31 : Int32) = (3 : Int32) := by rw [hc]; decide
  have h4 : ¬ (xs (nI i).toNatClampNeg) &&& (31 : Int32) = (4 : Int32) := by rw [hc]; decide
  have h5 : ¬ (xs (nI i).toNatClampNeg) &&& (31 : Int32) = (5 : Int32) := by rw [hc]; decide
  have h6 : ¬ (xs (nI i).toNatClampNeg) &&& (31 : Int32) = (6 : Int32) := by rw [hc]; decide
  have h7 : ¬ (xs (nI i).toNatClampNeg) &&& (31 : Int32) = (7 : Int32) := by rw [hc]; decide
  have h8 : ¬ (xs (nI i).toNatClampNeg) &&& (31 : Int32) = (8 : Int32) := by rw [hc]; decide
  have h9 : ¬ (xs (nI i).toNatClampNeg) &&& (31 : Int32) = (9 : Int32) := by rw [hc]; decide
  have h10 : ¬ (xs (nI i).toNatClampNeg) &&& (31 : Int32) = (10 : Int32) := by rw [hc]; decide
  rw [zf_La_law_L18, if_neg stop, if_neg (nI_in (show i < L by omega) (by omega)), if_neg h0, if_neg h1, if_neg h2, if_neg h3, if_neg h4, if_neg h5, if_neg h6, if_neg h7, if_neg h8, if_neg h9, if_neg h10, if_pos hc]
  try simp (disch := omega) only [e1, e2, e3, e4, e5, e6, e7, nI_clamp, pz_i2]
  obtain ⟨a, tn', ft', ht, eX, eM⟩ := pp_unit (ft := ft) ht (xs (i + 1))
  rw [eX, pz_bs, eM, pz_bs, if_pos rfl]
  exact H _ _ _ _ _ _ _ _ _ _ _ _ _ _ _ _ _ _ _ _ _ _ _ _ _ _ _ _ _ _ _ _ hg hI hC ht hF
set_option maxHeartbeats 4000000 in
set_option maxRecDepth 100000 in
theorem zz_op12 {L : Nat} {xs : Nat → Int32} {n i : Nat} (H : zz_Good L xs n (i + 7)) (hi : i + 7 ≤ L) (hL : L ≤ 3584) (hop : xs i &&& (31 : Int32) = (12 : Int32)) : zz_Good L xs (n + 1) i := by
  intro g np nc tn wn hf ver rig po pk pl pi cp ck ft fw pg cd cg xrc xrd xsm xnt xnl xnd xfs mst mow msu mne xfr mnw hg hI hC ht hF
  have e1 : nI i + (1 : Int32) = nI (i + 1) := nI_add i 1
  have e2 : nI i + (2 : Int32) = nI (i + 2) := nI_add i 2
  have e3 : nI i + (3 : Int32) = nI (i + 3) := nI_add i 3
  have e4 : nI i + (4 : Int32) = nI (i + 4) := nI_add i 4
  have e5 : nI i + (5 : Int32) = nI (i + 5) := nI_add i 5
  have e6 : nI i + (6 : Int32) = nI (i + 6) := nI_add i 6
  have e7 : nI i + (7 : Int32) = nI (i + 7) := nI_add i 7
  have stop : ¬ ((Int32.ofNat L) - (7 : Int32)) < nI i := by
    rw [show (Int32.ofNat L) - (7 : Int32) = nI (L - 7) from pk_sub (a := L) (b := 7) (by omega)]
    exact nI_nlt (by omega) (by omega)
  have hc : (xs (nI i).toNatClampNeg) &&& (31 : Int32) = (12 : Int32) := by rw [nI_clamp (by omega)]; exact hop
  have h0 : ¬ (xs (nI i).toNatClampNeg) &&& (31 : Int32) = (0 : Int32) := by rw [hc]; decide
  have h1 : ¬ (xs (nI i).toNatClampNeg) &&& (31 : Int32) = (1 : Int32) := by rw [hc]; decide
  have h2 : ¬ (xs (nI i).toNatClampNeg) &&& (31 : Int32) = (2 : Int32) := by rw [hc]; decide
  have h3 : ¬ (xs (nI i).toNatClampNeg) &&& (31 : Int32) = (3 : Int32) := by rw [hc]; decide
  have h4 : ¬ (xs (nI i).toNatClampNeg) &&& (31 : Int32) = (4 : Int32) := by rw [hc]; decide
  have h5 : ¬ (xs (nI i).toNatClampNeg) &&& (31 : Int32) = (5 : Int32) := by rw [hc]; decide
  have h6 : ¬ (xs (nI i).toNatClampNeg) &&& (31 : Int32) = (6 : Int32) := by rw [hc]; decide
  have h7 : ¬ (xs (nI i).toNatClampNeg) &&& (31 : Int32) = (7 : Int32) := by rw [hc]; decide
  have h8 : ¬ (xs (nI i).toNatClampNeg) &&& (31 : Int32) = (8 : Int32) := by rw [hc]; decide
  have h9 : ¬ (xs (nI i).toNatClampNeg) &&& (31 : Int32) = (9 : Int32) := by rw [hc]; decide
  have h10 : ¬ (xs (nI i).toNatClampNeg) &&& (31 : Int32) = (10 : Int32) := by rw [hc]; decide
  have h11 : ¬ (xs (nI i).toNatClampNeg) &&& (31 : Int32) = (11 : Int32) := by rw [hc]; decide
  rw [zf_La_law_L18, if_neg stop, if_neg (nI_in (show i < L by omega) (by omega)), if_neg h0, if_neg h1, if_neg h2, if_neg h3, if_neg h4, if_neg h5, if_neg h6, if_neg h7, if_neg h8, if_neg h9, if_neg h10, if_neg h11, if_pos hc]
  try simp (disch := omega) only [e1, e2, e3, e4, e5, e6, e7, nI_clamp, pz_i2]
  obtain ⟨a, wn', fw', hf', rc, rd, fr', nw', hF, eX, eM⟩ := pp_score (ft := ft) ht hF xrc xrd xfr mnw
  rw [eX, pz_bs, eM, pz_bs, if_pos rfl]
  exact H _ _ _ 0 _ _ _ _ _ _ _ _ _ _ _ _ _ _ _ _ _ _ _ _ _ _ _ _ _ _ _ _ hg hI hC (Nat.zero_le _) hF
set_option maxHeartbeats 4000000 in
set_option maxRecDepth 100000 in
theorem zz_op13 {L : Nat} {xs : Nat → Int32} {n i : Nat} (H : zz_Good L xs n (i + 7)) (hi : i + 7 ≤ L) (hL : L ≤ 3584) (hop : xs i &&& (31 : Int32) = (13 : Int32)) : zz_Good L xs (n + 1) i := by
  intro g np nc tn wn hf ver rig po pk pl pi cp ck ft fw pg cd cg xrc xrd xsm xnt xnl xnd xfs mst mow msu mne xfr mnw hg hI hC ht hF
  have e1 : nI i + (1 : Int32) = nI (i + 1) := nI_add i 1
  have e2 : nI i + (2 : Int32) = nI (i + 2) := nI_add i 2
  have e3 : nI i + (3 : Int32) = nI (i + 3) := nI_add i 3
  have e4 : nI i + (4 : Int32) = nI (i + 4) := nI_add i 4
  have e5 : nI i + (5 : Int32) = nI (i + 5) := nI_add i 5
  have e6 : nI i + (6 : Int32) = nI (i + 6) := nI_add i 6
  have e7 : nI i + (7 : Int32) = nI (i + 7) := nI_add i 7
  have stop : ¬ ((Int32.ofNat L) - (7 : Int32)) < nI i := by
    rw [show (Int32.ofNat L) - (7 : Int32) = nI (L - 7) from pk_sub (a := L) (b := 7) (by omega)]
    exact nI_nlt (by omega) (by omega)
  have hc : (xs (nI i).toNatClampNeg) &&& (31 : Int32) = (13 : Int32) := by rw [nI_clamp (by omega)]; exact hop
  have h0 : ¬ (xs (nI i).toNatClampNeg) &&& (31 : Int32) = (0 : Int32) := by rw [hc]; decide
  have h1 : ¬ (xs (nI i).toNatClampNeg) &&& (31 : Int32) = (1 : Int32) := by rw [hc]; decide
  have h2 : ¬ (xs (nI i).toNatClampNeg) &&& (31 : Int32) = (2 : Int32) := by rw [hc]; decide
  have h3 : ¬ (xs (nI i).toNatClampNeg) &&& (31 : Int32) = (3 : Int32) := by rw [hc]; decide
  have h4 : ¬ (xs (nI i).toNatClampNeg) &&& (31 : Int32) = (4 : Int32) := by rw [hc]; decide
  have h5 : ¬ (xs (nI i).toNatClampNeg) &&& (31 : Int32) = (5 : Int32) := by rw [hc]; decide
  have h6 : ¬ (xs (nI i).toNatClampNeg) &&& (31 : Int32) = (6 : Int32) := by rw [hc]; decide
  have h7 : ¬ (xs (nI i).toNatClampNeg) &&& (31 : Int32) = (7 : Int32) := by rw [hc]; decide
  have h8 : ¬ (xs (nI i).toNatClampNeg) &&& (31 : Int32) = (8 : Int32) := by rw [hc]; decide
  have h9 : ¬ (xs (nI i).toNatClampNeg) &&& (31 : Int32) = (9 : Int32) := by rw [hc]; decide
  have h10 : ¬ (xs (nI i).toNatClampNeg) &&& (31 : Int32) = (10 : Int32) := by rw [hc]; decide
  have h11 : ¬ (xs (nI i).toNatClampNeg) &&& (31 : Int32) = (11 : Int32) := by rw [hc]; decide
  have h12 : ¬ (xs (nI i).toNatClampNeg) &&& (31 : Int32) = (12 : Int32) := by rw [hc]; decide
  rw [zf_La_law_L18, if_neg stop, if_neg (nI_in (show i < L by omega) (by omega)), if_neg h0, if_neg h1, if_neg h2, if_neg h3, if_neg h4, if_neg h5, if_neg h6, if_neg h7, if_neg h8, if_neg h9, if_neg h10, if_neg h11, if_neg h12, if_pos hc]
  try simp (disch := omega) only [e1, e2, e3, e4, e5, e6, e7, nI_clamp, pz_i2]
  obtain ⟨a, s1, t1, t2, t3, s2, m1, m2, m3, m4, eX, eM⟩ := pp_scored (cp := cp) (cd := cd) hg hI hC hF (xs (i + 1)) xsm xnt xnl xnd xfs mst mow msu mne
  rw [eX, pz_bs, eM, pz_bs, if_pos rfl]
  exact H _ _ _ _ _ _ _ _ _ _ _ _ _ _ _ _ _ _ _ _ _ _ _ _ _ _ _ _ _ _ _ _ hg hI hC ht hF
set_option maxHeartbeats 4000000 in
set_option maxRecDepth 100000 in
theorem zz_op14 {L : Nat} {xs : Nat → Int32} {n i : Nat} (H : zz_Good L xs n (i + 7)) (hi : i + 7 ≤ L) (hL : L ≤ 3584) (hop : xs i &&& (31 : Int32) = (14 : Int32)) : zz_Good L xs (n + 1) i := by
  intro g np nc tn wn hf ver rig po pk pl pi cp ck ft fw pg cd cg xrc xrd xsm xnt xnl xnd xfs mst mow msu mne xfr mnw hg hI hC ht hF
  have e1 : nI i + (1 : Int32) = nI (i + 1) := nI_add i 1
  have e2 : nI i + (2 : Int32) = nI (i + 2) := nI_add i 2
  have e3 : nI i + (3 : Int32) = nI (i + 3) := nI_add i 3
  have e4 : nI i + (4 : Int32) = nI (i + 4) := nI_add i 4
  have e5 : nI i + (5 : Int32) = nI (i + 5) := nI_add i 5
  have e6 : nI i + (6 : Int32) = nI (i + 6) := nI_add i 6
  have e7 : nI i + (7 : Int32) = nI (i + 7) := nI_add i 7
  have stop : ¬ ((Int32.ofNat L) - (7 : Int32)) < nI i := by
    rw [show (Int32.ofNat L) - (7 : Int32) = nI (L - 7) from pk_sub (a := L) (b := 7) (by omega)]
    exact nI_nlt (by omega) (by omega)
  have hc : (xs (nI i).toNatClampNeg) &&& (31 : Int32) = (14 : Int32) := by rw [nI_clamp (by omega)]; exact hop
  have h0 : ¬ (xs (nI i).toNatClampNeg) &&& (31 : Int32) = (0 : Int32) := by rw [hc]; decide
  have h1 : ¬ (xs (nI i).toNatClampNeg) &&& (31 : Int32) = (1 : Int32) := by rw [hc]; decide
  have h2 : ¬ (xs (nI i).toNatClampNeg) &&& (31 : Int32) = (2 : Int32) := by rw [hc]; decide
  have h3 : ¬ (xs (nI i).toNatClampNeg) &&& (31 : Int32) = (3 : Int32) := by rw [hc]; decide
  have h4 : ¬ (xs (nI i).toNatClampNeg) &&& (31 : Int32) = (4 : Int32) := by rw [hc]; decide
  have h5 : ¬ (xs (nI i).toNatClampNeg) &&& (31 : Int32) = (5 : Int32) := by rw [hc]; decide
  have h6 : ¬ (xs (nI i).toNatClampNeg) &&& (31 : Int32) = (6 : Int32) := by rw [hc]; decide
  have h7 : ¬ (xs (nI i).toNatClampNeg) &&& (31 : Int32) = (7 : Int32) := by rw [hc]; decide
  have h8 : ¬ (xs (nI i).toNatClampNeg) &&& (31 : Int32) = (8 : Int32) := by rw [hc]; decide
  have h9 : ¬ (xs (nI i).toNatClampNeg) &&& (31 : Int32) = (9 : Int32) := by rw [hc]; decide
  have h10 : ¬ (xs (nI i).toNatClampNeg) &&& (31 : Int32) = (10 : Int32) := by rw [hc]; decide
  have h11 : ¬ (xs (nI i).toNatClampNeg) &&& (31 : Int32) = (11 : Int32) := by rw [hc]; decide
  have h12 : ¬ (xs (nI i).toNatClampNeg) &&& (31 : Int32) = (12 : Int32) := by rw [hc]; decide
  have h13 : ¬ (xs (nI i).toNatClampNeg) &&& (31 : Int32) = (13 : Int32) := by rw [hc]; decide
  rw [zf_La_law_L18, if_neg stop, if_neg (nI_in (show i < L by omega) (by omega)), if_neg h0, if_neg h1, if_neg h2, if_neg h3, if_neg h4, if_neg h5, if_neg h6, if_neg h7, if_neg h8, if_neg h9, if_neg h10, if_neg h11, if_neg h12, if_neg h13, if_pos hc]
  try simp (disch := omega) only [e1, e2, e3, e4, e5, e6, e7, nI_clamp, pz_i2]
  obtain ⟨a, ver', nc', cp', cd', ck', cg', s1, t1, t2, t3, s2, m1, m2, m3, m4, hC, eX, eM⟩ := pp_swap (ver := ver) (cp := cp) (cd := cd) hI hC hF (xs (i + 1)) (xs (i + 2)) xsm xnt xnl xnd xfs mst mow msu mne
  rw [eX, pz_bs, eM, pz_bs, if_pos rfl]
  exact H _ _ _ _ _ _ _ _ _ _ _ _ _ _ _ _ _ _ _ _ _ _ _ _ _ _ _ _ _ _ _ _ hg hI hC ht hF
set_option maxHeartbeats 4000000 in
set_option maxRecDepth 100000 in
theorem zz_op15 {L : Nat} {xs : Nat → Int32} {n i : Nat} (H : zz_Good L xs n (i + 7)) (hi : i + 7 ≤ L) (hL : L ≤ 3584) (hop : xs i &&& (31 : Int32) = (15 : Int32)) : zz_Good L xs (n + 1) i := by
  intro g np nc tn wn hf ver rig po pk pl pi cp ck ft fw pg cd cg xrc xrd xsm xnt xnl xnd xfs mst mow msu mne xfr mnw hg hI hC ht hF
  have e1 : nI i + (1 : Int32) = nI (i + 1) := nI_add i 1
  have e2 : nI i + (2 : Int32) = nI (i + 2) := nI_add i 2
  have e3 : nI i + (3 : Int32) = nI (i + 3) := nI_add i 3
  have e4 : nI i + (4 : Int32) = nI (i + 4) := nI_add i 4
  have e5 : nI i + (5 : Int32) = nI (i + 5) := nI_add i 5
  have e6 : nI i + (6 : Int32) = nI (i + 6) := nI_add i 6
  have e7 : nI i + (7 : Int32) = nI (i + 7) := nI_add i 7
  have stop : ¬ ((Int32.ofNat L) - (7 : Int32)) < nI i := by
    rw [show (Int32.ofNat L) - (7 : Int32) = nI (L - 7) from pk_sub (a := L) (b := 7) (by omega)]
    exact nI_nlt (by omega) (by omega)
  have hc : (xs (nI i).toNatClampNeg) &&& (31 : Int32) = (15 : Int32) := by rw [nI_clamp (by omega)]; exact hop
  have h0 : ¬ (xs (nI i).toNatClampNeg) &&& (31 : Int32) = (0 : Int32) := by rw [hc]; decide
  have h1 : ¬ (xs (nI i).toNatClampNeg) &&& (31 : Int32) = (1 : Int32) := by rw [hc]; decide
  have h2 : ¬ (xs (nI i).toNatClampNeg) &&& (31 : Int32) = (2 : Int32) := by rw [hc]; decide
  have h3 : ¬ (xs (nI i).toNatClampNeg) &&& (31 : Int32) = (3 : Int32) := by rw [hc]; decide
  have h4 : ¬ (xs (nI i).toNatClampNeg) &&& (31 : Int32) = (4 : Int32) := by rw [hc]; decide
  have h5 : ¬ (xs (nI i).toNatClampNeg) &&& (31 : Int32) = (5 : Int32) := by rw [hc]; decide
  have h6 : ¬ (xs (nI i).toNatClampNeg) &&& (31 : Int32) = (6 : Int32) := by rw [hc]; decide
  have h7 : ¬ (xs (nI i).toNatClampNeg) &&& (31 : Int32) = (7 : Int32) := by rw [hc]; decide
  have h8 : ¬ (xs (nI i).toNatClampNeg) &&& (31 : Int32) = (8 : Int32) := by rw [hc]; decide
  have h9 : ¬ (xs (nI i).toNatClampNeg) &&& (31 : Int32) = (9 : Int32) := by rw [hc]; decide
  have h10 : ¬ (xs (nI i).toNatClampNeg) &&& (31 : Int32) = (10 : Int32) := by rw [hc]; decide
  have h11 : ¬ (xs (nI i).toNatClampNeg) &&& (31 : Int32) = (11 : Int32) := by rw [hc]; decide
  have h12 : ¬ (xs (nI i).toNatClampNeg) &&& (31 : Int32) = (12 : Int32) := by rw [hc]; decide
  have h13 : ¬ (xs (nI i).toNatClampNeg) &&& (31 : Int32) = (13 : Int32) := by rw [hc]; decide
  have h14 : ¬ (xs (nI i).toNatClampNeg) &&& (31 : Int32) = (14 : Int32) := by rw [hc]; decide
  rw [zf_La_law_L18, if_neg stop, if_neg (nI_in (show i < L by omega) (by omega)), if_neg h0, if_neg h1, if_neg h2, if_neg h3, if_neg h4, if_neg h5, if_neg h6, if_neg h7, if_neg h8, if_neg h9, if_neg h10, if_neg h11, if_neg h12, if_neg h13, if_neg h14, if_pos hc]
  try simp (disch := omega) only [e1, e2, e3, e4, e5, e6, e7, nI_clamp, pz_i2]
  obtain ⟨a, s1, t1, t2, t3, m1, m2, m3, eX, eM⟩ := pp_mark (ver := ver) (cp := cp) (cd := cd) hg hI hC (xs (i + 1)) (((xs (i + 2)).toInt64 <<< ((32 : Int32).toInt64 &&& 63)) ||| ((xs (i + 3)).toInt64 &&& (4294967295 : Int64))) (xs (i + 4)) xsm xnt xnl xnd mow msu mne
  rw [eX, pz_bs, eM, pz_bs, if_pos rfl]
  exact H _ _ _ _ _ _ _ _ _ _ _ _ _ _ _ _ _ _ _ _ _ _ _ _ _ _ _ _ _ _ _ _ hg hI hC ht hF
set_option maxHeartbeats 4000000 in
set_option maxRecDepth 100000 in
theorem zz_op16 {L : Nat} {xs : Nat → Int32} {n i : Nat} (H : zz_Good L xs n (i + 7)) (hi : i + 7 ≤ L) (hL : L ≤ 3584) (hop : xs i &&& (31 : Int32) = (16 : Int32)) : zz_Good L xs (n + 1) i := by
  intro g np nc tn wn hf ver rig po pk pl pi cp ck ft fw pg cd cg xrc xrd xsm xnt xnl xnd xfs mst mow msu mne xfr mnw hg hI hC ht hF
  have e1 : nI i + (1 : Int32) = nI (i + 1) := nI_add i 1
  have e2 : nI i + (2 : Int32) = nI (i + 2) := nI_add i 2
  have e3 : nI i + (3 : Int32) = nI (i + 3) := nI_add i 3
  have e4 : nI i + (4 : Int32) = nI (i + 4) := nI_add i 4
  have e5 : nI i + (5 : Int32) = nI (i + 5) := nI_add i 5
  have e6 : nI i + (6 : Int32) = nI (i + 6) := nI_add i 6
  have e7 : nI i + (7 : Int32) = nI (i + 7) := nI_add i 7
  have stop : ¬ ((Int32.ofNat L) - (7 : Int32)) < nI i := by
    rw [show (Int32.ofNat L) - (7 : Int32) = nI (L - 7) from pk_sub (a := L) (b := 7) (by omega)]
    exact nI_nlt (by omega) (by omega)
  have hc : (xs (nI i).toNatClampNeg) &&& (31 : Int32) = (16 : Int32) := by rw [nI_clamp (by omega)]; exact hop
  have h0 : ¬ (xs (nI i).toNatClampNeg) &&& (31 : Int32) = (0 : Int32) := by rw [hc]; decide
  have h1 : ¬ (xs (nI i).toNatClampNeg) &&& (31 : Int32) = (1 : Int32) := by rw [hc]; decide
  have h2 : ¬ (xs (nI i).toNatClampNeg) &&& (31 : Int32) = (2 : Int32) := by rw [hc]; decide
  have h3 : ¬ (xs (nI i).toNatClampNeg) &&& (31 : Int32) = (3 : Int32) := by rw [hc]; decide
  have h4 : ¬ (xs (nI i).toNatClampNeg) &&& (31 : Int32) = (4 : Int32) := by rw [hc]; decide
  have h5 : ¬ (xs (nI i).toNatClampNeg) &&& (31 : Int32) = (5 : Int32) := by rw [hc]; decide
  have h6 : ¬ (xs (nI i).toNatClampNeg) &&& (31 : Int32) = (6 : Int32) := by rw [hc]; decide
  have h7 : ¬ (xs (nI i).toNatClampNeg) &&& (31 : Int32) = (7 : Int32) := by rw [hc]; decide
  have h8 : ¬ (xs (nI i).toNatClampNeg) &&& (31 : Int32) = (8 : Int32) := by rw [hc]; decide
  have h9 : ¬ (xs (nI i).toNatClampNeg) &&& (31 : Int32) = (9 : Int32) := by rw [hc]; decide
  have h10 : ¬ (xs (nI i).toNatClampNeg) &&& (31 : Int32) = (10 : Int32) := by rw [hc]; decide
  have h11 : ¬ (xs (nI i).toNatClampNeg) &&& (31 : Int32) = (11 : Int32) := by rw [hc]; decide
  have h12 : ¬ (xs (nI i).toNatClampNeg) &&& (31 : Int32) = (12 : Int32) := by rw [hc]; decide
  have h13 : ¬ (xs (nI i).toNatClampNeg) &&& (31 : Int32) = (13 : Int32) := by rw [hc]; decide
  have h14 : ¬ (xs (nI i).toNatClampNeg) &&& (31 : Int32) = (14 : Int32) := by rw [hc]; decide
  have h15 : ¬ (xs (nI i).toNatClampNeg) &&& (31 : Int32) = (15 : Int32) := by rw [hc]; decide
  rw [zf_La_law_L18, if_neg stop, if_neg (nI_in (show i < L by omega) (by omega)), if_neg h0, if_neg h1, if_neg h2, if_neg h3, if_neg h4, if_neg h5, if_neg h6, if_neg h7, if_neg h8, if_neg h9, if_neg h10, if_neg h11, if_neg h12, if_neg h13, if_neg h14, if_neg h15, if_pos hc]
  try simp (disch := omega) only [e1, e2, e3, e4, e5, e6, e7, nI_clamp, pz_i2]
  obtain ⟨a, s1, t1, eX, eM⟩ := pp_most (cp := cp) (cd := cd) hI hC (xs (i + 1)) xsm xnt
  rw [eX, pz_bs, eM, pz_bs, if_pos rfl]
  exact H _ _ _ _ _ _ _ _ _ _ _ _ _ _ _ _ _ _ _ _ _ _ _ _ _ _ _ _ _ _ _ _ hg hI hC ht hF
set_option maxHeartbeats 4000000 in
set_option maxRecDepth 100000 in
theorem zz_op17 {L : Nat} {xs : Nat → Int32} {n i : Nat} (H : zz_Good L xs n (i + 7)) (hi : i + 7 ≤ L) (hL : L ≤ 3584) (h0 : ¬ xs i &&& (31 : Int32) = (0 : Int32)) (h1 : ¬ xs i &&& (31 : Int32) = (1 : Int32)) (h2 : ¬ xs i &&& (31 : Int32) = (2 : Int32)) (h3 : ¬ xs i &&& (31 : Int32) = (3 : Int32)) (h4 : ¬ xs i &&& (31 : Int32) = (4 : Int32)) (h5 : ¬ xs i &&& (31 : Int32) = (5 : Int32)) (h6 : ¬ xs i &&& (31 : Int32) = (6 : Int32)) (h7 : ¬ xs i &&& (31 : Int32) = (7 : Int32)) (h8 : ¬ xs i &&& (31 : Int32) = (8 : Int32)) (h9 : ¬ xs i &&& (31 : Int32) = (9 : Int32)) (h10 : ¬ xs i &&& (31 : Int32) = (10 : Int32)) (h11 : ¬ xs i &&& (31 : Int32) = (11 : Int32)) (h12 : ¬ xs i &&& (31 : Int32) = (12 : Int32)) (h13 : ¬ xs i &&& (31 : Int32) = (13 : Int32)) (h14 : ¬ xs i &&& (31 : Int32) = (14 : Int32)) (h15 : ¬ xs i &&& (31 : Int32) = (15 : Int32)) (h16 : ¬ xs i &&& (31 : Int32) = (16 : Int32)) : zz_Good L xs (n + 1) i := by
  intro g np nc tn wn hf ver rig po pk pl pi cp ck ft fw pg cd cg xrc xrd xsm xnt xnl xnd xfs mst mow msu mne xfr mnw hg hI hC ht hF
  have e1 : nI i + (1 : Int32) = nI (i + 1) := nI_add i 1
  have e2 : nI i + (2 : Int32) = nI (i + 2) := nI_add i 2
  have e3 : nI i + (3 : Int32) = nI (i + 3) := nI_add i 3
  have e4 : nI i + (4 : Int32) = nI (i + 4) := nI_add i 4
  have e5 : nI i + (5 : Int32) = nI (i + 5) := nI_add i 5
  have e6 : nI i + (6 : Int32) = nI (i + 6) := nI_add i 6
  have e7 : nI i + (7 : Int32) = nI (i + 7) := nI_add i 7
  have stop : ¬ ((Int32.ofNat L) - (7 : Int32)) < nI i := by
    rw [show (Int32.ofNat L) - (7 : Int32) = nI (L - 7) from pk_sub (a := L) (b := 7) (by omega)]
    exact nI_nlt (by omega) (by omega)
  have h0 : ¬ (xs (nI i).toNatClampNeg) &&& (31 : Int32) = (0 : Int32) := by rw [nI_clamp (by omega)]; exact h0
  have h1 : ¬ (xs (nI i).toNatClampNeg) &&& (31 : Int32) = (1 : Int32) := by rw [nI_clamp (by omega)]; exact h1
  have h2 : ¬ (xs (nI i).toNatClampNeg) &&& (31 : Int32) = (2 : Int32) := by rw [nI_clamp (by omega)]; exact h2
  have h3 : ¬ (xs (nI i).toNatClampNeg) &&& (31 : Int32) = (3 : Int32) := by rw [nI_clamp (by omega)]; exact h3
  have h4 : ¬ (xs (nI i).toNatClampNeg) &&& (31 : Int32) = (4 : Int32) := by rw [nI_clamp (by omega)]; exact h4
  have h5 : ¬ (xs (nI i).toNatClampNeg) &&& (31 : Int32) = (5 : Int32) := by rw [nI_clamp (by omega)]; exact h5
  have h6 : ¬ (xs (nI i).toNatClampNeg) &&& (31 : Int32) = (6 : Int32) := by rw [nI_clamp (by omega)]; exact h6
  have h7 : ¬ (xs (nI i).toNatClampNeg) &&& (31 : Int32) = (7 : Int32) := by rw [nI_clamp (by omega)]; exact h7
  have h8 : ¬ (xs (nI i).toNatClampNeg) &&& (31 : Int32) = (8 : Int32) := by rw [nI_clamp (by omega)]; exact h8
  have h9 : ¬ (xs (nI i).toNatClampNeg) &&& (31 : Int32) = (9 : Int32) := by rw [nI_clamp (by omega)]; exact h9
  have h10 : ¬ (xs (nI i).toNatClampNeg) &&& (31 : Int32) = (10 : Int32) := by rw [nI_clamp (by omega)]; exact h10
  have h11 : ¬ (xs (nI i).toNatClampNeg) &&& (31 : Int32) = (11 : Int32) := by rw [nI_clamp (by omega)]; exact h11
  have h12 : ¬ (xs (nI i).toNatClampNeg) &&& (31 : Int32) = (12 : Int32) := by rw [nI_clamp (by omega)]; exact h12
  have h13 : ¬ (xs (nI i).toNatClampNeg) &&& (31 : Int32) = (13 : Int32) := by rw [nI_clamp (by omega)]; exact h13
  have h14 : ¬ (xs (nI i).toNatClampNeg) &&& (31 : Int32) = (14 : Int32) := by rw [nI_clamp (by omega)]; exact h14
  have h15 : ¬ (xs (nI i).toNatClampNeg) &&& (31 : Int32) = (15 : Int32) := by rw [nI_clamp (by omega)]; exact h15
  have h16 : ¬ (xs (nI i).toNatClampNeg) &&& (31 : Int32) = (16 : Int32) := by rw [nI_clamp (by omega)]; exact h16
  rw [zf_La_law_L18, if_neg stop, if_neg (nI_in (show i < L by omega) (by omega)), if_neg h0, if_neg h1, if_neg h2, if_neg h3, if_neg h4, if_neg h5, if_neg h6, if_neg h7, if_neg h8, if_neg h9, if_neg h10, if_neg h11, if_neg h12, if_neg h13, if_neg h14, if_neg h15, if_neg h16]
  rw [e7]
  exact H _ _ _ _ _ _ _ _ _ _ _ _ _ _ _ _ _ _ _ _ _ _ _ _ _ _ _ _ _ _ _ _ hg hI hC ht hF
theorem zz_step {L : Nat} {xs : Nat → Int32} {n i : Nat} (H : zz_Good L xs n (i + 7)) (hi : i + 7 ≤ L) (hL : L ≤ 3584) : zz_Good L xs (n + 1) i := by
  by_cases h0 : xs i &&& (31 : Int32) = (0 : Int32)
  · exact zz_op0 H hi hL h0
  by_cases h1 : xs i &&& (31 : Int32) = (1 : Int32)
  · exact zz_op1 H hi hL h1
  by_cases h2 : xs i &&& (31 : Int32) = (2 : Int32)
  · exact zz_op2 H hi hL h2
  by_cases h3 : xs i &&& (31 : Int32) = (3 : Int32)
  · exact zz_op3 H hi hL h3
  by_cases h4 : xs i &&& (31 : Int32) = (4 : Int32)
  · exact zz_op4 H hi hL h4
  by_cases h5 : xs i &&& (31 : Int32) = (5 : Int32)
  · exact zz_op5 H hi hL h5
  by_cases h6 : xs i &&& (31 : Int32) = (6 : Int32)
  · exact zz_op6 H hi hL h6
  by_cases h7 : xs i &&& (31 : Int32) = (7 : Int32)
  · exact zz_op7 H hi hL h7
  by_cases h8 : xs i &&& (31 : Int32) = (8 : Int32)
  · exact zz_op8 H hi hL h8
  by_cases h9 : xs i &&& (31 : Int32) = (9 : Int32)
  · exact zz_op9 H hi hL h9
  by_cases h10 : xs i &&& (31 : Int32) = (10 : Int32)
  · exact zz_op10 H hi hL h10
  by_cases h11 : xs i &&& (31 : Int32) = (11 : Int32)
  · exact zz_op11 H hi hL h11
  by_cases h12 : xs i &&& (31 : Int32) = (12 : Int32)
  · exact zz_op12 H hi hL h12
  by_cases h13 : xs i &&& (31 : Int32) = (13 : Int32)
  · exact zz_op13 H hi hL h13
  by_cases h14 : xs i &&& (31 : Int32) = (14 : Int32)
  · exact zz_op14 H hi hL h14
  by_cases h15 : xs i &&& (31 : Int32) = (15 : Int32)
  · exact zz_op15 H hi hL h15
  by_cases h16 : xs i &&& (31 : Int32) = (16 : Int32)
  · exact zz_op16 H hi hL h16
  exact zz_op17 H hi hL h0 h1 h2 h3 h4 h5 h6 h7 h8 h9 h10 h11 h12 h13 h14 h15 h16
theorem zz_stop {L : Nat} {xs : Nat → Int32} {n i : Nat} (hi : L < i + 7) (hi2 : i ≤ 4000) (hL : L ≤ 3584) : zz_Good L xs (n + 1) i := by
  intro g np nc tn wn hf ver rig po pk pl pi cp ck ft fw pg cd cg xrc xrd xsm xnt xnl xnd xfs mst mow msu mne xfr mnw hg hI hC ht hF
  have stop : ((Int32.ofNat L) - (7 : Int32)) < nI i := by
    by_cases h : 7 ≤ L
    · rw [show (Int32.ofNat L) - (7 : Int32) = nI (L - 7) from pk_sub (a := L) (b := 7) h]
      exact nI_lt (by omega) (by omega)
    · have a : nI L - nI 7 < 0 := pk_sneg (by omega) (by omega)
      have a : ((Int32.ofNat L) - (7 : Int32)) < 0 := a
      have b : (0 : Int32) ≤ nI i := nI_pos' (by omega)
      rw [Int32.lt_iff_toInt_lt] at a ⊢
      rw [Int32.le_iff_toInt_le] at b
      omega
  rw [zf_La_law_L18, if_pos stop]
theorem zz_all {L : Nat} {xs : Nat → Int32} (hL : L ≤ 3584) : ∀ (m n i : Nat), L < i + 7 * m + 7 → m < n → i ≤ L + 7 → zz_Good L xs n i := by
  intro m
  induction m with
  | zero =>
    intro n i h hn hi
    obtain ⟨n, rfl⟩ : ∃ q, n = q + 1 := ⟨n - 1, by omega⟩
    exact zz_stop (by omega) (by omega) hL
  | succ m ih =>
    intro n i h hn hi
    obtain ⟨n, rfl⟩ : ∃ q, n = q + 1 := ⟨n - 1, by omega⟩
    by_cases z : i + 7 ≤ L
    · exact zz_step (ih n (i + 7) (by omega) (by omega) (by omega)) z hL
    · exact zz_stop (by omega) (by omega) hL
theorem zp_law (L : Nat) (xs : Nat → Int32) (hL : L ≤ 3584) : zf_La_law_L18 L xs 2000 0 0 (fun _ => 0) (fun _ => 0) 0 0 0 0 0 (fun _ => 0) (fun _ => 0) (fun _ => 0) (fun _ => 0) (fun _ => 0) (fun _ => 0) 0 (fun _ => 0) (fun _ => 0) (fun _ => 0) (fun _ => 0) (fun _ => 0) (fun _ => 0) (fun _ => 0) (fun _ => 0) (fun _ => 0) (fun _ => 0) (fun _ => 0) 0 0 0 0 0 0 (fun _ => 0) (fun _ => 0) (fun _ => 0) (fun _ => 0) (fun _ => 0) (fun _ => 0) (fun _ => 0) (fun _ => 0) (fun _ => 0) (fun _ => 0) (fun _ => 0) (fun _ => 0) (fun _ => 0) (fun _ => 0) (fun _ => 0) (fun _ => 0) (fun _ => 0) (fun _ => 0) = some 1 := by
  exact zz_all hL 600 2000 0 (by omega) (by omega) (by omega) 0 0 0 0 0 0 (fun _ => 0) (fun _ => 0) (fun _ => 0) (fun _ => 0) (fun _ => 0) (fun _ => 0) (fun _ => 0) (fun _ => 0) (fun _ => 0) (fun _ => 0) (fun _ => 0) (fun _ => 0) (fun _ => 0) 0 0 (fun _ => 0) (fun _ => 0) (fun _ => 0) (fun _ => 0) (fun _ => 0) (fun _ => 0) (fun _ => 0) (fun _ => 0) (fun _ => 0) (fun _ => 0) (fun _ => 0) (by omega) ⟨by omega, fun j hj => absurd hj (Nat.not_lt_zero j), fun j hj => absurd hj (Nat.not_lt_zero j), fun j hj => absurd hj (Nat.not_lt_zero j), fun j hj => absurd hj (Nat.not_lt_zero j), fun _ => 0, fun j hj => absurd hj (Nat.not_lt_zero j)⟩ ⟨by omega, fun j hj => absurd hj (Nat.not_lt_zero j), fun j hj => absurd hj (Nat.not_lt_zero j)⟩ (by omega) ⟨by omega, Or.inl ⟨rfl, rfl⟩⟩
end
