-- ===== PART A: goes FIRST, ahead of the names: the tables' words, and 'selects' of the private methods out of them =====
/-- a private method of a class that the tables say can be made, by its rows of tables_1 -/
def lw_okq (q : MethodName × Nat) : Prop := (q.1.cls ≠ "java/lang/invoke/MethodHandle" ∧ q.1.cls ≠ "java/lang/invoke/VarHandle") ∧ Cond.instantiable q.1.cls q.2 ∈ tables_1 ∧ Cond.privateMethod q.1 ∈ tables_1 ∧ Cond.instanceMethod q.1 ∈ tables_1
theorem lw_p0 : lw_okq (⟨"ContinuousRows$Log", "isPlace", "(I)Z"⟩, 4) := ⟨⟨by decide +kernel, by decide +kernel⟩, List.mem_of_getElem? (i := 20) (by decide +kernel), List.mem_of_getElem? (i := 145) (by decide +kernel), List.mem_of_getElem? (i := 146) (by decide +kernel)⟩
theorem lw_p1 : lw_okq (⟨"ContinuousRows", "find", "(I)LContinuousRows$Question;"⟩, 10) := ⟨⟨by decide +kernel, by decide +kernel⟩, List.mem_of_getElem? (i := 12) (by decide +kernel), List.mem_of_getElem? (i := 194) (by decide +kernel), List.mem_of_getElem? (i := 195) (by decide +kernel)⟩
theorem lw_p2 : lw_okq (⟨"ContinuousRows$Question", "use", "(I)V"⟩, 5) := ⟨⟨by decide +kernel, by decide +kernel⟩, List.mem_of_getElem? (i := 164) (by decide +kernel), List.mem_of_getElem? (i := 208) (by decide +kernel), List.mem_of_getElem? (i := 209) (by decide +kernel)⟩
theorem lw_p3 : lw_okq (⟨"ContinuousRows", "isPast", "(I)Z"⟩, 10) := ⟨⟨by decide +kernel, by decide +kernel⟩, List.mem_of_getElem? (i := 12) (by decide +kernel), List.mem_of_getElem? (i := 220) (by decide +kernel), List.mem_of_getElem? (i := 221) (by decide +kernel)⟩
theorem lw_p4 : lw_okq (⟨"ContinuousRows", "findRows", "(LContinuousRows$Question;II)LContinuousRows$RowSet;"⟩, 10) := ⟨⟨by decide +kernel, by decide +kernel⟩, List.mem_of_getElem? (i := 12) (by decide +kernel), List.mem_of_getElem? (i := 224) (by decide +kernel), List.mem_of_getElem? (i := 225) (by decide +kernel)⟩
theorem lw_p5 : lw_okq (⟨"ContinuousRows", "fill", "(LContinuousRows$RowSet;LContinuousRows$Question;I)V"⟩, 10) := ⟨⟨by decide +kernel, by decide +kernel⟩, List.mem_of_getElem? (i := 12) (by decide +kernel), List.mem_of_getElem? (i := 228) (by decide +kernel), List.mem_of_getElem? (i := 229) (by decide +kernel)⟩
theorem lw_p6 : lw_okq (⟨"ContinuousRows$Search", "narrow", "(III)Z"⟩, 3) := ⟨⟨by decide +kernel, by decide +kernel⟩, List.mem_of_getElem? (i := 56) (by decide +kernel), List.mem_of_getElem? (i := 268) (by decide +kernel), List.mem_of_getElem? (i := 269) (by decide +kernel)⟩
theorem lw_p7 : lw_okq (⟨"ContinuousRows$Search", "allowed", "(I)I"⟩, 3) := ⟨⟨by decide +kernel, by decide +kernel⟩, List.mem_of_getElem? (i := 56) (by decide +kernel), List.mem_of_getElem? (i := 272) (by decide +kernel), List.mem_of_getElem? (i := 273) (by decide +kernel)⟩
theorem lw_p8 : lw_okq (⟨"ContinuousRows$Search", "keep", "(II)Z"⟩, 3) := ⟨⟨by decide +kernel, by decide +kernel⟩, List.mem_of_getElem? (i := 56) (by decide +kernel), List.mem_of_getElem? (i := 280) (by decide +kernel), List.mem_of_getElem? (i := 281) (by decide +kernel)⟩
theorem lw_p9 : lw_okq (⟨"ContinuousRows$Search", "extend", "(LContinuousRows$Question;LContinuousRows$RowSet;II)V"⟩, 3) := ⟨⟨by decide +kernel, by decide +kernel⟩, List.mem_of_getElem? (i := 56) (by decide +kernel), List.mem_of_getElem? (i := 284) (by decide +kernel), List.mem_of_getElem? (i := 285) (by decide +kernel)⟩
theorem lw_p10 : lw_okq (⟨"ContinuousRows$Search", "filter", "(LContinuousRows$Question;III)I"⟩, 3) := ⟨⟨by decide +kernel, by decide +kernel⟩, List.mem_of_getElem? (i := 56) (by decide +kernel), List.mem_of_getElem? (i := 288) (by decide +kernel), List.mem_of_getElem? (i := 289) (by decide +kernel)⟩
theorem lw_p11 : lw_okq (⟨"ContinuousRows$Search", "valueOf", "(I)I"⟩, 3) := ⟨⟨by decide +kernel, by decide +kernel⟩, List.mem_of_getElem? (i := 56) (by decide +kernel), List.mem_of_getElem? (i := 292) (by decide +kernel), List.mem_of_getElem? (i := 293) (by decide +kernel)⟩
theorem lw_p12 : lw_okq (⟨"ContinuousRows$RowSet", "allValuesOf", "(I)I"⟩, 2) := ⟨⟨by decide +kernel, by decide +kernel⟩, List.mem_of_getElem? (i := 72) (by decide +kernel), List.mem_of_getElem? (i := 350) (by decide +kernel), List.mem_of_getElem? (i := 351) (by decide +kernel)⟩
theorem lw_p13 : lw_okq (⟨"ContinuousRows", "areRowsOthers", "(IIII)Z"⟩, 10) := ⟨⟨by decide +kernel, by decide +kernel⟩, List.mem_of_getElem? (i := 12) (by decide +kernel), List.mem_of_getElem? (i := 366) (by decide +kernel), List.mem_of_getElem? (i := 367) (by decide +kernel)⟩
theorem lw_p14 : lw_okq (⟨"ContinuousRows", "hasRowThrough", "(LContinuousRows$Question;II)Z"⟩, 10) := ⟨⟨by decide +kernel, by decide +kernel⟩, List.mem_of_getElem? (i := 12) (by decide +kernel), List.mem_of_getElem? (i := 371) (by decide +kernel), List.mem_of_getElem? (i := 372) (by decide +kernel)⟩
theorem lw_p15 : lw_okq (⟨"ContinuousRowsModel", "isThere", "(II)Z"⟩, 16) := ⟨⟨by decide +kernel, by decide +kernel⟩, List.mem_of_getElem? (i := 407) (by decide +kernel), List.mem_of_getElem? (i := 474) (by decide +kernel), List.mem_of_getElem? (i := 475) (by decide +kernel)⟩
def lw_privs_1 : List (MethodName × Nat) := [(⟨"ContinuousRows$Log", "isPlace", "(I)Z"⟩, 4), (⟨"ContinuousRows", "find", "(I)LContinuousRows$Question;"⟩, 10), (⟨"ContinuousRows$Question", "use", "(I)V"⟩, 5), (⟨"ContinuousRows", "isPast", "(I)Z"⟩, 10), (⟨"ContinuousRows", "findRows", "(LContinuousRows$Question;II)LContinuousRows$RowSet;"⟩, 10), (⟨"ContinuousRows", "fill", "(LContinuousRows$RowSet;LContinuousRows$Question;I)V"⟩, 10), (⟨"ContinuousRows$Search", "narrow", "(III)Z"⟩, 3), (⟨"ContinuousRows$Search", "allowed", "(I)I"⟩, 3), (⟨"ContinuousRows$Search", "keep", "(II)Z"⟩, 3), (⟨"ContinuousRows$Search", "extend", "(LContinuousRows$Question;LContinuousRows$RowSet;II)V"⟩, 3), (⟨"ContinuousRows$Search", "filter", "(LContinuousRows$Question;III)I"⟩, 3), (⟨"ContinuousRows$Search", "valueOf", "(I)I"⟩, 3), (⟨"ContinuousRows$RowSet", "allValuesOf", "(I)I"⟩, 2), (⟨"ContinuousRows", "areRowsOthers", "(IIII)Z"⟩, 10), (⟨"ContinuousRows", "hasRowThrough", "(LContinuousRows$Question;II)Z"⟩, 10), (⟨"ContinuousRowsModel", "isThere", "(II)Z"⟩, 16)]
theorem lw_r1 : ∀ q ∈ lw_privs_1, lw_okq q := List.forall_mem_cons.mpr ⟨lw_p0, List.forall_mem_cons.mpr ⟨lw_p1, List.forall_mem_cons.mpr ⟨lw_p2, List.forall_mem_cons.mpr ⟨lw_p3, List.forall_mem_cons.mpr ⟨lw_p4, List.forall_mem_cons.mpr ⟨lw_p5, List.forall_mem_cons.mpr ⟨lw_p6, List.forall_mem_cons.mpr ⟨lw_p7, List.forall_mem_cons.mpr ⟨lw_p8, List.forall_mem_cons.mpr ⟨lw_p9, List.forall_mem_cons.mpr ⟨lw_p10, List.forall_mem_cons.mpr ⟨lw_p11, List.forall_mem_cons.mpr ⟨lw_p12, List.forall_mem_cons.mpr ⟨lw_p13, List.forall_mem_cons.mpr ⟨lw_p14, List.forall_mem_cons.mpr ⟨lw_p15, fun _ h => absurd h List.not_mem_nil⟩⟩⟩⟩⟩⟩⟩⟩⟩⟩⟩⟩⟩⟩⟩⟩
theorem lw_p16 : lw_okq (⟨"ContinuousRowsModel", "last", "(II)I"⟩, 16) := ⟨⟨by decide +kernel, by decide +kernel⟩, List.mem_of_getElem? (i := 407) (by decide +kernel), List.mem_of_getElem? (i := 478) (by decide +kernel), List.mem_of_getElem? (i := 479) (by decide +kernel)⟩
theorem lw_p17 : lw_okq (⟨"ContinuousRowsModel", "say", "(IIZ)V"⟩, 16) := ⟨⟨by decide +kernel, by decide +kernel⟩, List.mem_of_getElem? (i := 407) (by decide +kernel), List.mem_of_getElem? (i := 482) (by decide +kernel), List.mem_of_getElem? (i := 483) (by decide +kernel)⟩
theorem lw_p18 : lw_okq (⟨"ContinuousRowsModel", "forget", "(II)V"⟩, 16) := ⟨⟨by decide +kernel, by decide +kernel⟩, List.mem_of_getElem? (i := 407) (by decide +kernel), List.mem_of_getElem? (i := 486) (by decide +kernel), List.mem_of_getElem? (i := 487) (by decide +kernel)⟩
theorem lw_p19 : lw_okq (⟨"ContinuousRowsModel", "isNumber", "(I)Z"⟩, 16) := ⟨⟨by decide +kernel, by decide +kernel⟩, List.mem_of_getElem? (i := 407) (by decide +kernel), List.mem_of_getElem? (i := 502) (by decide +kernel), List.mem_of_getElem? (i := 503) (by decide +kernel)⟩
theorem lw_p20 : lw_okq (⟨"ContinuousRowsModel", "isQuestion", "(I)Z"⟩, 16) := ⟨⟨by decide +kernel, by decide +kernel⟩, List.mem_of_getElem? (i := 407) (by decide +kernel), List.mem_of_getElem? (i := 518) (by decide +kernel), List.mem_of_getElem? (i := 519) (by decide +kernel)⟩
theorem lw_p21 : lw_okq (⟨"ContinuousRowsModel", "count", "(III)I"⟩, 16) := ⟨⟨by decide +kernel, by decide +kernel⟩, List.mem_of_getElem? (i := 407) (by decide +kernel), List.mem_of_getElem? (i := 533) (by decide +kernel), List.mem_of_getElem? (i := 534) (by decide +kernel)⟩
theorem lw_p22 : lw_okq (⟨"ContinuousRowsModel", "bits", "(IIII)J"⟩, 16) := ⟨⟨by decide +kernel, by decide +kernel⟩, List.mem_of_getElem? (i := 407) (by decide +kernel), List.mem_of_getElem? (i := 537) (by decide +kernel), List.mem_of_getElem? (i := 538) (by decide +kernel)⟩
theorem lw_p23 : lw_okq (⟨"ContinuousRowsModel", "rowsOf", "(II)I"⟩, 16) := ⟨⟨by decide +kernel, by decide +kernel⟩, List.mem_of_getElem? (i := 407) (by decide +kernel), List.mem_of_getElem? (i := 541) (by decide +kernel), List.mem_of_getElem? (i := 542) (by decide +kernel)⟩
theorem lw_p24 : lw_okq (⟨"ContinuousRowsModel", "at", "(II)I"⟩, 16) := ⟨⟨by decide +kernel, by decide +kernel⟩, List.mem_of_getElem? (i := 407) (by decide +kernel), List.mem_of_getElem? (i := 545) (by decide +kernel), List.mem_of_getElem? (i := 546) (by decide +kernel)⟩
theorem lw_p25 : lw_okq (⟨"ContinuousRowsModel", "ask", "(II)V"⟩, 16) := ⟨⟨by decide +kernel, by decide +kernel⟩, List.mem_of_getElem? (i := 407) (by decide +kernel), List.mem_of_getElem? (i := 549) (by decide +kernel), List.mem_of_getElem? (i := 550) (by decide +kernel)⟩
theorem lw_p26 : lw_okq (⟨"ContinuousRowsModel", "see", "(II)V"⟩, 16) := ⟨⟨by decide +kernel, by decide +kernel⟩, List.mem_of_getElem? (i := 407) (by decide +kernel), List.mem_of_getElem? (i := 553) (by decide +kernel), List.mem_of_getElem? (i := 554) (by decide +kernel)⟩
theorem lw_p27 : lw_okq (⟨"ContinuousRowsModel", "stands", "(II)Z"⟩, 16) := ⟨⟨by decide +kernel, by decide +kernel⟩, List.mem_of_getElem? (i := 407) (by decide +kernel), List.mem_of_getElem? (i := 557) (by decide +kernel), List.mem_of_getElem? (i := 558) (by decide +kernel)⟩
theorem lw_p28 : lw_okq (⟨"ContinuousRowsModel", "askLast", "(IIIII)V"⟩, 16) := ⟨⟨by decide +kernel, by decide +kernel⟩, List.mem_of_getElem? (i := 407) (by decide +kernel), List.mem_of_getElem? (i := 561) (by decide +kernel), List.mem_of_getElem? (i := 562) (by decide +kernel)⟩
theorem lw_p29 : lw_okq (⟨"ContinuousRowsModel", "isRow", "(I)Z"⟩, 16) := ⟨⟨by decide +kernel, by decide +kernel⟩, List.mem_of_getElem? (i := 407) (by decide +kernel), List.mem_of_getElem? (i := 565) (by decide +kernel), List.mem_of_getElem? (i := 566) (by decide +kernel)⟩
theorem lw_p30 : lw_okq (⟨"ContinuousRowsModel", "valueOf", "(I)I"⟩, 16) := ⟨⟨by decide +kernel, by decide +kernel⟩, List.mem_of_getElem? (i := 407) (by decide +kernel), List.mem_of_getElem? (i := 569) (by decide +kernel), List.mem_of_getElem? (i := 570) (by decide +kernel)⟩
theorem lw_p31 : lw_okq (⟨"ContinuousRowsModel", "again", "(II)Z"⟩, 16) := ⟨⟨by decide +kernel, by decide +kernel⟩, List.mem_of_getElem? (i := 407) (by decide +kernel), List.mem_of_getElem? (i := 590) (by decide +kernel), List.mem_of_getElem? (i := 591) (by decide +kernel)⟩
def lw_privs_2 : List (MethodName × Nat) := [(⟨"ContinuousRowsModel", "last", "(II)I"⟩, 16), (⟨"ContinuousRowsModel", "say", "(IIZ)V"⟩, 16), (⟨"ContinuousRowsModel", "forget", "(II)V"⟩, 16), (⟨"ContinuousRowsModel", "isNumber", "(I)Z"⟩, 16), (⟨"ContinuousRowsModel", "isQuestion", "(I)Z"⟩, 16), (⟨"ContinuousRowsModel", "count", "(III)I"⟩, 16), (⟨"ContinuousRowsModel", "bits", "(IIII)J"⟩, 16), (⟨"ContinuousRowsModel", "rowsOf", "(II)I"⟩, 16), (⟨"ContinuousRowsModel", "at", "(II)I"⟩, 16), (⟨"ContinuousRowsModel", "ask", "(II)V"⟩, 16), (⟨"ContinuousRowsModel", "see", "(II)V"⟩, 16), (⟨"ContinuousRowsModel", "stands", "(II)Z"⟩, 16), (⟨"ContinuousRowsModel", "askLast", "(IIIII)V"⟩, 16), (⟨"ContinuousRowsModel", "isRow", "(I)Z"⟩, 16), (⟨"ContinuousRowsModel", "valueOf", "(I)I"⟩, 16), (⟨"ContinuousRowsModel", "again", "(II)Z"⟩, 16)]
theorem lw_r2 : ∀ q ∈ lw_privs_2, lw_okq q := List.forall_mem_cons.mpr ⟨lw_p16, List.forall_mem_cons.mpr ⟨lw_p17, List.forall_mem_cons.mpr ⟨lw_p18, List.forall_mem_cons.mpr ⟨lw_p19, List.forall_mem_cons.mpr ⟨lw_p20, List.forall_mem_cons.mpr ⟨lw_p21, List.forall_mem_cons.mpr ⟨lw_p22, List.forall_mem_cons.mpr ⟨lw_p23, List.forall_mem_cons.mpr ⟨lw_p24, List.forall_mem_cons.mpr ⟨lw_p25, List.forall_mem_cons.mpr ⟨lw_p26, List.forall_mem_cons.mpr ⟨lw_p27, List.forall_mem_cons.mpr ⟨lw_p28, List.forall_mem_cons.mpr ⟨lw_p29, List.forall_mem_cons.mpr ⟨lw_p30, List.forall_mem_cons.mpr ⟨lw_p31, fun _ h => absurd h List.not_mem_nil⟩⟩⟩⟩⟩⟩⟩⟩⟩⟩⟩⟩⟩⟩⟩⟩
def lw_privs : List (MethodName × Nat) := lw_privs_1 ++ (lw_privs_2)
def lw_tbl : List Cond := k2_sels lw_privs ++ tables_1
theorem lw_privs_ok : ∀ q ∈ lw_privs, lw_okq q := by
  show ∀ q ∈ lw_privs_1 ++ (lw_privs_2), lw_okq q
  exact List.forall_mem_append.mpr ⟨lw_r1, lw_r2⟩
/-! my names: types, field tables, code, words -/
def RK0 : String := "ContinuousRows$Log"
def TK0 : u_T := fun k => match k with
  | 0 => ("ContinuousRows$Log", "saidAt", "[I", true)
  | 1 => ("ContinuousRows$Log", "triples", "[I", true)
  | 2 => ("ContinuousRows$Log", "comes", "[Z", true)
  | _ => ("ContinuousRows$Log", "size", "I", false)
def tyK0 : Nat → FieldType := fun k => match k with
  | 0 => .array .int
  | 1 => .array .int
  | 2 => .array .boolean
  | _ => .int
theorem nmK0 : ∀ a, a < 4 → ∀ b, b < 4 → a ≠ b → (TK0 a).2.1 ≠ (TK0 b).2.1 := by decide +kernel
theorem tyK0_ok : ∀ k, k < 4 → parseFieldDescriptor (TK0 k).2.2.1 = some (tyK0 k) := by decide +kernel
def RK1 : String := "ContinuousRows$Seen"
def TK1 : u_T := fun k => match k with
  | _ => ("ContinuousRows$Seen", "objects", "[I", true)
def tyK1 : Nat → FieldType := fun k => match k with
  | _ => .array .int
theorem nmK1 : ∀ a, a < 1 → ∀ b, b < 1 → a ≠ b → (TK1 a).2.1 ≠ (TK1 b).2.1 := by decide +kernel
theorem tyK1_ok : ∀ k, k < 1 → parseFieldDescriptor (TK1 k).2.2.1 = some (tyK1 k) := by decide +kernel
def RK2 : String := "ContinuousRows$Question"
def TK2 : u_T := fun k => match k with
  | 0 => ("ContinuousRows$Question", "items", "[I", true)
  | 1 => ("ContinuousRows$Question", "lastVariables", "[I", true)
  | 2 => ("ContinuousRows$Question", "width", "I", false)
  | 3 => ("ContinuousRows$Question", "patterns", "I", false)
  | _ => ("ContinuousRows$Question", "variables", "I", false)
def tyK2 : Nat → FieldType := fun k => match k with
  | 0 => .array .int
  | 1 => .array .int
  | 2 => .int
  | 3 => .int
  | _ => .int
theorem nmK2 : ∀ a, a < 5 → ∀ b, b < 5 → a ≠ b → (TK2 a).2.1 ≠ (TK2 b).2.1 := by decide +kernel
theorem tyK2_ok : ∀ k, k < 5 → parseFieldDescriptor (TK2 k).2.2.1 = some (tyK2 k) := by decide +kernel
def RK3 : String := "ContinuousRows$Search"
def TK3 : u_T := fun k => match k with
  | 0 => ("ContinuousRows$Search", "seen", "LContinuousRows$Seen;", true)
  | 1 => ("ContinuousRows$Search", "open", "[I", true)
  | _ => ("ContinuousRows$Search", "values", "[I", true)
def tyK3 : Nat → FieldType := fun k => match k with
  | 0 => .object "ContinuousRows$Seen"
  | 1 => .array .int
  | _ => .array .int
theorem nmK3 : ∀ a, a < 3 → ∀ b, b < 3 → a ≠ b → (TK3 a).2.1 ≠ (TK3 b).2.1 := by decide +kernel
theorem tyK3_ok : ∀ k, k < 3 → parseFieldDescriptor (TK3 k).2.2.1 = some (tyK3 k) := by decide +kernel
def RK4 : String := "ContinuousRows$RowSet"
def TK4 : u_T := fun k => match k with
  | 0 => ("ContinuousRows$RowSet", "words", "[I", true)
  | _ => ("ContinuousRows$RowSet", "size", "I", false)
def tyK4 : Nat → FieldType := fun k => match k with
  | 0 => .array .int
  | _ => .int
theorem nmK4 : ∀ a, a < 2 → ∀ b, b < 2 → a ≠ b → (TK4 a).2.1 ≠ (TK4 b).2.1 := by decide +kernel
theorem tyK4_ok : ∀ k, k < 2 → parseFieldDescriptor (TK4 k).2.2.1 = some (tyK4 k) := by decide +kernel
def RK5 : String := "ContinuousRows"
def TK5 : u_T := fun k => match k with
  | 0 => ("ContinuousRows", "numbers", "I", true)
  | 1 => ("ContinuousRows", "log", "LContinuousRows$Log;", true)
  | 2 => ("ContinuousRows", "questions", "[LContinuousRows$Question;", true)
  | 3 => ("ContinuousRows", "seen", "LContinuousRows$Seen;", true)
  | 4 => ("ContinuousRows", "search", "LContinuousRows$Search;", true)
  | 5 => ("ContinuousRows", "rowsThen", "LContinuousRows$RowSet;", true)
  | 6 => ("ContinuousRows", "rowsBefore", "LContinuousRows$RowSet;", true)
  | 7 => ("ContinuousRows", "oneWord", "LContinuousRows$RowSet;", true)
  | 8 => ("ContinuousRows", "latestNumber", "I", false)
  | _ => ("ContinuousRows", "questionCount", "I", false)
def tyK5 : Nat → FieldType := fun k => match k with
  | 0 => .int
  | 1 => .object "ContinuousRows$Log"
  | 2 => .array (.object "ContinuousRows$Question")
  | 3 => .object "ContinuousRows$Seen"
  | 4 => .object "ContinuousRows$Search"
  | 5 => .object "ContinuousRows$RowSet"
  | 6 => .object "ContinuousRows$RowSet"
  | 7 => .object "ContinuousRows$RowSet"
  | 8 => .int
  | _ => .int
theorem nmK5 : ∀ a, a < 10 → ∀ b, b < 10 → a ≠ b → (TK5 a).2.1 ≠ (TK5 b).2.1 := by decide +kernel
theorem tyK5_ok : ∀ k, k < 10 → parseFieldDescriptor (TK5 k).2.2.1 = some (tyK5 k) := by decide +kernel
def RK6 : String := "ContinuousRowsModel"
def TK6 : u_T := fun k => match k with
  | 0 => ("ContinuousRowsModel", "numbers", "I", true)
  | 1 => ("ContinuousRowsModel", "latest", "I", false)
  | 2 => ("ContinuousRowsModel", "when", "[I", true)
  | 3 => ("ContinuousRowsModel", "triples", "[I", true)
  | 4 => ("ContinuousRowsModel", "comes", "[Z", true)
  | 5 => ("ContinuousRowsModel", "said", "I", false)
  | 6 => ("ContinuousRowsModel", "windows", "[I", true)
  | 7 => ("ContinuousRowsModel", "patternCounts", "[I", true)
  | 8 => ("ContinuousRowsModel", "items", "[I", true)
  | 9 => ("ContinuousRowsModel", "questions", "I", false)
  | 10 => ("ContinuousRowsModel", "rows", "[J", true)
  | 11 => ("ContinuousRowsModel", "known", "[Z", true)
  | 12 => ("ContinuousRowsModel", "next", "[J", true)
  | 13 => ("ContinuousRowsModel", "seen", "[Z", true)
  | 14 => ("ContinuousRowsModel", "values", "[I", true)
  | _ => ("ContinuousRowsModel", "lasts", "[I", true)
def tyK6 : Nat → FieldType := fun k => match k with
  | 0 => .int
  | 1 => .int
  | 2 => .array .int
  | 3 => .array .int
  | 4 => .array .boolean
  | 5 => .int
  | 6 => .array .int
  | 7 => .array .int
  | 8 => .array .int
  | 9 => .int
  | 10 => .array .long
  | 11 => .array .boolean
  | 12 => .array .long
  | 13 => .array .boolean
  | 14 => .array .int
  | _ => .array .int
theorem nmK6 : ∀ a, a < 16 → ∀ b, b < 16 → a ≠ b → (TK6 a).2.1 ≠ (TK6 b).2.1 := by decide +kernel
theorem tyK6_ok : ∀ k, k < 16 → parseFieldDescriptor (TK6 k).2.2.1 = some (tyK6 k) := by decide +kernel
abbrev zz_cl : List vw_C := [(RK0, TK0, 4), (RK1, TK1, 1), (RK2, TK2, 5), (RK3, TK3, 3), (RK4, TK4, 2), (RK5, TK5, 10), (RK6, TK6, 16)]
abbrev b_Lg_init : ByteArray := prog_2_method_1_code
def y_Lg_init : MethodName := ⟨RK0, "<init>", "()V"⟩
abbrev b_Lg_isFull : ByteArray := prog_2_method_2_code
def y_Lg_isFull : MethodName := ⟨RK0, "isFull", "()Z"⟩
abbrev b_Lg_say : ByteArray := prog_2_method_3_code
def y_Lg_say : MethodName := ⟨RK0, "say", "(IIZ)I"⟩
abbrev b_Lg_lastOf : ByteArray := prog_2_method_4_code
def y_Lg_lastOf : MethodName := ⟨RK0, "lastOf", "(II)I"⟩
abbrev b_Lg_heldUntil : ByteArray := prog_2_method_5_code
def y_Lg_heldUntil : MethodName := ⟨RK0, "heldUntil", "(I)I"⟩
abbrev b_Lg_comesAt : ByteArray := prog_2_method_6_code
def y_Lg_comesAt : MethodName := ⟨RK0, "comesAt", "(I)Z"⟩
abbrev b_Lg_numberAt : ByteArray := prog_2_method_7_code
def y_Lg_numberAt : MethodName := ⟨RK0, "numberAt", "(I)I"⟩
abbrev b_Lg_shows : ByteArray := prog_2_method_8_code
def y_Lg_shows : MethodName := ⟨RK0, "shows", "(III)Z"⟩
abbrev b_Lg_isPlace : ByteArray := prog_2_method_9_code
def y_Lg_isPlace : MethodName := ⟨RK0, "isPlace", "(I)Z"⟩
abbrev b_Qu_init : ByteArray := prog_3_method_1_code
def y_Qu_init : MethodName := ⟨RK2, "<init>", "(I)V"⟩
abbrev b_Qu_add : ByteArray := prog_3_method_2_code
def y_Qu_add : MethodName := ⟨RK2, "add", "(III)Z"⟩
abbrev b_Qu_itemAt : ByteArray := prog_3_method_3_code
def y_Qu_itemAt : MethodName := ⟨RK2, "itemAt", "(II)I"⟩
abbrev b_Qu_uses : ByteArray := prog_3_method_4_code
def y_Qu_uses : MethodName := ⟨RK2, "uses", "(I)Z"⟩
abbrev b_Qu_use : ByteArray := prog_3_method_5_code
def y_Qu_use : MethodName := ⟨RK2, "use", "(I)V"⟩
abbrev b_Rs_init : ByteArray := prog_4_method_1_code
def y_Rs_init : MethodName := ⟨RK4, "<init>", "(I)V"⟩
abbrev b_Rs_clear : ByteArray := prog_4_method_2_code
def y_Rs_clear : MethodName := ⟨RK4, "clear", "()V"⟩
abbrev b_Rs_isFull : ByteArray := prog_4_method_3_code
def y_Rs_isFull : MethodName := ⟨RK4, "isFull", "()Z"⟩
abbrev b_Rs_add : ByteArray := prog_4_method_4_code
def y_Rs_add : MethodName := ⟨RK4, "add", "(II)V"⟩
abbrev b_Rs_removeAll : ByteArray := prog_4_method_5_code
def y_Rs_removeAll : MethodName := ⟨RK4, "removeAll", "(LContinuousRows$RowSet;)V"⟩
abbrev b_Rs_isSameAs : ByteArray := prog_4_method_6_code
def y_Rs_isSameAs : MethodName := ⟨RK4, "isSameAs", "(LContinuousRows$RowSet;)Z"⟩
abbrev b_Rs_count : ByteArray := prog_4_method_7_code
def y_Rs_count : MethodName := ⟨RK4, "count", "()I"⟩
abbrev b_Rs_keyAt : ByteArray := prog_4_method_8_code
def y_Rs_keyAt : MethodName := ⟨RK4, "keyAt", "(I)I"⟩
abbrev b_Rs_sumOf : ByteArray := prog_4_method_9_code
def y_Rs_sumOf : MethodName := ⟨RK4, "sumOf", "(I)I"⟩
abbrev b_Rs_leastOf : ByteArray := prog_4_method_10_code
def y_Rs_leastOf : MethodName := ⟨RK4, "leastOf", "(I)I"⟩
abbrev b_Rs_greatestOf : ByteArray := prog_4_method_11_code
def y_Rs_greatestOf : MethodName := ⟨RK4, "greatestOf", "(I)I"⟩
abbrev b_Rs_allValuesOf : ByteArray := prog_4_method_12_code
def y_Rs_allValuesOf : MethodName := ⟨RK4, "allValuesOf", "(I)I"⟩
abbrev b_Rs_valuesOf : ByteArray := prog_4_method_13_code
def y_Rs_valuesOf : MethodName := ⟨RK4, "valuesOf", "(II)I"⟩
abbrev b_Rs_bitAt : ByteArray := prog_4_method_14_code
def y_Rs_bitAt : MethodName := ⟨RK4, "bitAt", "(II)I"⟩
abbrev b_Sr_init : ByteArray := prog_5_method_1_code
def y_Sr_init : MethodName := ⟨RK3, "<init>", "(LContinuousRows$Seen;)V"⟩
abbrev b_Sr_begin : ByteArray := prog_5_method_2_code
def y_Sr_begin : MethodName := ⟨RK3, "begin", "(LContinuousRows$Question;)V"⟩
abbrev b_Sr_bind : ByteArray := prog_5_method_3_code
def y_Sr_bind : MethodName := ⟨RK3, "bind", "(LContinuousRows$Question;II)Z"⟩
abbrev b_Sr_run : ByteArray := prog_5_method_4_code
def y_Sr_run : MethodName := ⟨RK3, "run", "(LContinuousRows$Question;LContinuousRows$RowSet;)V"⟩
abbrev b_Sr_narrow : ByteArray := prog_5_method_5_code
def y_Sr_narrow : MethodName := ⟨RK3, "narrow", "(III)Z"⟩
abbrev b_Sr_extend : ByteArray := prog_5_method_6_code
def y_Sr_extend : MethodName := ⟨RK3, "extend", "(LContinuousRows$Question;LContinuousRows$RowSet;II)V"⟩
abbrev b_Sr_filter : ByteArray := prog_5_method_7_code
def y_Sr_filter : MethodName := ⟨RK3, "filter", "(LContinuousRows$Question;III)I"⟩
abbrev b_Sr_valueOf : ByteArray := prog_5_method_8_code
def y_Sr_valueOf : MethodName := ⟨RK3, "valueOf", "(I)I"⟩
abbrev b_Sr_allowed : ByteArray := prog_5_method_9_code
def y_Sr_allowed : MethodName := ⟨RK3, "allowed", "(I)I"⟩
abbrev b_Sr_keep : ByteArray := prog_5_method_10_code
def y_Sr_keep : MethodName := ⟨RK3, "keep", "(II)Z"⟩
abbrev b_Se_init : ByteArray := prog_6_method_1_code
def y_Se_init : MethodName := ⟨RK1, "<init>", "()V"⟩
abbrev b_Se_read : ByteArray := prog_6_method_2_code
def y_Se_read : MethodName := ⟨RK1, "read", "(LContinuousRows$Log;II)V"⟩
abbrev b_Se_put : ByteArray := prog_6_method_3_code
def y_Se_put : MethodName := ⟨RK1, "put", "(IZ)V"⟩
abbrev b_Se_objectsOf : ByteArray := prog_6_method_4_code
def y_Se_objectsOf : MethodName := ⟨RK1, "objectsOf", "(II)I"⟩
abbrev b_C_init : ByteArray := prog_1_method_1_code
def y_C_init : MethodName := ⟨RK5, "<init>", "(I)V"⟩
abbrev b_C_change : ByteArray := prog_1_method_2_code
def y_C_change : MethodName := ⟨RK5, "change", "(IIIZ)I"⟩
abbrev b_C_step : ByteArray := prog_1_method_3_code
def y_C_step : MethodName := ⟨RK5, "step", "()I"⟩
abbrev b_C_question : ByteArray := prog_1_method_4_code
def y_C_question : MethodName := ⟨RK5, "question", "(I)I"⟩
abbrev b_C_pattern : ByteArray := prog_1_method_5_code
def y_C_pattern : MethodName := ⟨RK5, "pattern", "(IIII)I"⟩
abbrev b_C_window : ByteArray := prog_1_method_6_code
def y_C_window : MethodName := ⟨RK5, "window", "(II)I"⟩
abbrev b_C_rows : ByteArray := prog_1_method_7_code
def y_C_rows : MethodName := ⟨RK5, "rows", "(II)I"⟩
abbrev b_C_changed : ByteArray := prog_1_method_8_code
def y_C_changed : MethodName := ⟨RK5, "changed", "(IIZ)I"⟩
abbrev b_C_row : ByteArray := prog_1_method_9_code
def y_C_row : MethodName := ⟨RK5, "row", "(IIII)I"⟩
abbrev b_C_aggregate : ByteArray := prog_1_method_10_code
def y_C_aggregate : MethodName := ⟨RK5, "aggregate", "(IIII)I"⟩
abbrev b_C_late : ByteArray := prog_1_method_11_code
def y_C_late : MethodName := ⟨RK5, "late", "(IIIIZ)I"⟩
abbrev b_C_still : ByteArray := prog_1_method_12_code
def y_C_still : MethodName := ⟨RK5, "still", "(I)I"⟩
abbrev b_C_there : ByteArray := prog_1_method_13_code
def y_C_there : MethodName := ⟨RK5, "there", "(IIII)I"⟩
abbrev b_C_age : ByteArray := prog_1_method_14_code
def y_C_age : MethodName := ⟨RK5, "age", "(IIII)I"⟩
abbrev b_C_latest : ByteArray := prog_1_method_15_code
def y_C_latest : MethodName := ⟨RK5, "latest", "()I"⟩
abbrev b_C_isTriple : ByteArray := prog_1_method_16_code
def y_C_isTriple : MethodName := ⟨RK5, "isTriple", "(III)Z"⟩
abbrev b_C_tripleOf : ByteArray := prog_1_method_17_code
def y_C_tripleOf : MethodName := ⟨RK5, "tripleOf", "(III)I"⟩
abbrev b_C_isItem : ByteArray := prog_1_method_18_code
def y_C_isItem : MethodName := ⟨RK5, "isItem", "(II)Z"⟩
abbrev b_C_isWindow : ByteArray := prog_1_method_19_code
def y_C_isWindow : MethodName := ⟨RK5, "isWindow", "(I)Z"⟩
abbrev b_C_isPast : ByteArray := prog_1_method_20_code
def y_C_isPast : MethodName := ⟨RK5, "isPast", "(I)Z"⟩
abbrev b_C_find : ByteArray := prog_1_method_21_code
def y_C_find : MethodName := ⟨RK5, "find", "(I)LContinuousRows$Question;"⟩
abbrev b_C_fill : ByteArray := prog_1_method_22_code
def y_C_fill : MethodName := ⟨RK5, "fill", "(LContinuousRows$RowSet;LContinuousRows$Question;I)V"⟩
abbrev b_C_findRows : ByteArray := prog_1_method_23_code
def y_C_findRows : MethodName := ⟨RK5, "findRows", "(LContinuousRows$Question;II)LContinuousRows$RowSet;"⟩
abbrev b_C_areRowsOthers : ByteArray := prog_1_method_24_code
def y_C_areRowsOthers : MethodName := ⟨RK5, "areRowsOthers", "(IIII)Z"⟩
abbrev b_C_hasRowThrough : ByteArray := prog_1_method_25_code
def y_C_hasRowThrough : MethodName := ⟨RK5, "hasRowThrough", "(LContinuousRows$Question;II)Z"⟩
abbrev b_M_init : ByteArray := prog_8_method_1_code
def y_M_init : MethodName := ⟨RK6, "<init>", "(I)V"⟩
abbrev b_M_isTriple : ByteArray := prog_8_method_2_code
def y_M_isTriple : MethodName := ⟨RK6, "isTriple", "(III)Z"⟩
abbrev b_M_triple : ByteArray := prog_8_method_3_code
def y_M_triple : MethodName := ⟨RK6, "triple", "(III)I"⟩
abbrev b_M_isNumber : ByteArray := prog_8_method_4_code
def y_M_isNumber : MethodName := ⟨RK6, "isNumber", "(I)Z"⟩
abbrev b_M_isQuestion : ByteArray := prog_8_method_5_code
def y_M_isQuestion : MethodName := ⟨RK6, "isQuestion", "(I)Z"⟩
abbrev b_M_last : ByteArray := prog_8_method_6_code
def y_M_last : MethodName := ⟨RK6, "last", "(II)I"⟩
abbrev b_M_isThere : ByteArray := prog_8_method_7_code
def y_M_isThere : MethodName := ⟨RK6, "isThere", "(II)Z"⟩
abbrev b_M_say : ByteArray := prog_8_method_8_code
def y_M_say : MethodName := ⟨RK6, "say", "(IIZ)V"⟩
abbrev b_M_forget : ByteArray := prog_8_method_9_code
def y_M_forget : MethodName := ⟨RK6, "forget", "(II)V"⟩
abbrev b_M_change : ByteArray := prog_8_method_10_code
def y_M_change : MethodName := ⟨RK6, "change", "(IIIZ)I"⟩
abbrev b_M_step : ByteArray := prog_8_method_11_code
def y_M_step : MethodName := ⟨RK6, "step", "()I"⟩
abbrev b_M_latest : ByteArray := prog_8_method_12_code
def y_M_latest : MethodName := ⟨RK6, "latest", "()I"⟩
abbrev b_M_there : ByteArray := prog_8_method_13_code
def y_M_there : MethodName := ⟨RK6, "there", "(IIII)I"⟩
abbrev b_M_age : ByteArray := prog_8_method_14_code
def y_M_age : MethodName := ⟨RK6, "age", "(IIII)I"⟩
abbrev b_M_question : ByteArray := prog_8_method_15_code
def y_M_question : MethodName := ⟨RK6, "question", "(I)I"⟩
abbrev b_M_isItem : ByteArray := prog_8_method_16_code
def y_M_isItem : MethodName := ⟨RK6, "isItem", "(II)Z"⟩
abbrev b_M_pattern : ByteArray := prog_8_method_17_code
def y_M_pattern : MethodName := ⟨RK6, "pattern", "(IIII)I"⟩
abbrev b_M_window : ByteArray := prog_8_method_18_code
def y_M_window : MethodName := ⟨RK6, "window", "(II)I"⟩
abbrev b_M_see : ByteArray := prog_8_method_19_code
def y_M_see : MethodName := ⟨RK6, "see", "(II)V"⟩
abbrev b_M_valueOf : ByteArray := prog_8_method_20_code
def y_M_valueOf : MethodName := ⟨RK6, "valueOf", "(I)I"⟩
abbrev b_M_isRow : ByteArray := prog_8_method_21_code
def y_M_isRow : MethodName := ⟨RK6, "isRow", "(I)Z"⟩
abbrev b_M_stands : ByteArray := prog_8_method_22_code
def y_M_stands : MethodName := ⟨RK6, "stands", "(II)Z"⟩
abbrev b_M_ask : ByteArray := prog_8_method_23_code
def y_M_ask : MethodName := ⟨RK6, "ask", "(II)V"⟩
abbrev b_M_askLast : ByteArray := prog_8_method_24_code
def y_M_askLast : MethodName := ⟨RK6, "askLast", "(IIIII)V"⟩
abbrev b_M_at : ByteArray := prog_8_method_25_code
def y_M_at : MethodName := ⟨RK6, "at", "(II)I"⟩
abbrev b_M_rowsOf : ByteArray := prog_8_method_26_code
def y_M_rowsOf : MethodName := ⟨RK6, "rowsOf", "(II)I"⟩
abbrev b_M_bits : ByteArray := prog_8_method_27_code
def y_M_bits : MethodName := ⟨RK6, "bits", "(IIII)J"⟩
abbrev b_M_count : ByteArray := prog_8_method_28_code
def y_M_count : MethodName := ⟨RK6, "count", "(III)I"⟩
abbrev b_M_rows : ByteArray := prog_8_method_29_code
def y_M_rows : MethodName := ⟨RK6, "rows", "(II)I"⟩
abbrev b_M_changed : ByteArray := prog_8_method_30_code
def y_M_changed : MethodName := ⟨RK6, "changed", "(IIZ)I"⟩
abbrev b_M_row : ByteArray := prog_8_method_31_code
def y_M_row : MethodName := ⟨RK6, "row", "(IIII)I"⟩
abbrev b_M_aggregate : ByteArray := prog_8_method_32_code
def y_M_aggregate : MethodName := ⟨RK6, "aggregate", "(IIII)I"⟩
abbrev b_M_late : ByteArray := prog_8_method_33_code
def y_M_late : MethodName := ⟨RK6, "late", "(IIIIZ)I"⟩
abbrev b_M_again : ByteArray := prog_8_method_34_code
def y_M_again : MethodName := ⟨RK6, "again", "(II)Z"⟩
abbrev b_M_still : ByteArray := prog_8_method_35_code
def y_M_still : MethodName := ⟨RK6, "still", "(I)I"⟩
abbrev b_Jm_max : ByteArray := prog_10_method_65_code
def y_Jm_max : MethodName := ⟨"java/lang/Math", "max", "(II)I"⟩
abbrev b_Jm_floorMod : ByteArray := prog_10_method_50_code
def y_Jm_floorMod : MethodName := ⟨"java/lang/Math", "floorMod", "(II)I"⟩
abbrev b_Jm_min : ByteArray := prog_10_method_69_code
def y_Jm_min : MethodName := ⟨"java/lang/Math", "min", "(II)I"⟩
abbrev b_Ja_fill : ByteArray := prog_11_method_103_code
def y_Ja_fill : MethodName := ⟨"java/util/Arrays", "fill", "([II)V"⟩
abbrev b_Ji_bitCount : ByteArray := prog_9_method_49_code
def y_Ji_bitCount : MethodName := ⟨"java/lang/Integer", "bitCount", "(I)I"⟩
def zz_G : List Cond := lw_tbl.filter goodWord
theorem zz_in {w : Cond} (h : w ∈ lw_tbl) (hg : goodWord w = true) : w ∈ zz_G := List.mem_filter.mpr ⟨h, hg⟩
theorem zz_gg : GoodIn zz_G zz_G := fun w h => ⟨h, good_of_word (List.mem_filter.mp h).2⟩
theorem zz_I {c : Cond} (h : c ∈ zz_G) : GoodIn zz_G (c :: zz_G) := fun w hw => (List.mem_cons.mp hw).elim (fun e => by rw [e]; exact zz_gg _ h) (zz_gg w)
theorem zz_V {own C : String} {idx : Nat} {y : MethodName} {c : Cond} (h1 : Cond.methodLink own idx y ∈ zz_G) (h2 : Cond.instanceMethod y ∈ zz_G) (h3 : Cond.selects C y y ∈ zz_G) (h4 : Cond.initialized C ∈ zz_G) (h5 : c ∈ zz_G) : GoodIn zz_G (wsV own idx C y (c :: zz_G)) := by
  intro w hw
  unfold wsV at hw
  simp only [List.cons_append, List.nil_append, List.mem_cons] at hw
  rcases hw with e | e | e | e | e | hw
  · rw [e]; exact zz_gg _ h1
  · rw [e]; exact zz_gg _ h2
  · rw [e]; exact zz_gg _ h3
  · rw [e]; exact zz_gg _ h4
  · rw [e]; exact zz_gg _ h5
  · exact zz_gg _ hw
theorem zz_S {own : String} {idx : Nat} {y : MethodName} {c : Cond} (h1 : Cond.methodLink own idx y ∈ zz_G) (h2 : Cond.static y ∈ zz_G) (h4 : Cond.initialized y.cls ∈ zz_G) (h5 : c ∈ zz_G) : GoodIn zz_G (va_wsS own idx y (c :: zz_G)) := by
  intro w hw
  unfold va_wsS at hw
  simp only [List.cons_append, List.nil_append, List.mem_cons] at hw
  rcases hw with e | e | e | e | hw
  · rw [e]; exact zz_gg _ h1
  · rw [e]; exact zz_gg _ h2
  · rw [e]; exact zz_gg _ h4
  · rw [e]; exact zz_gg _ h5
  · exact zz_gg _ hw
abbrev w_Lg_init : List Cond := Cond.code y_Lg_init b_Lg_init 1 none :: zz_G
abbrev w_Lg_isFull : List Cond := Cond.code y_Lg_isFull b_Lg_isFull 1 (some .boolean) :: zz_G
abbrev w_Lg_say : List Cond := Cond.code y_Lg_say b_Lg_say 5 (some .int) :: zz_G
abbrev w_Lg_lastOf : List Cond := Cond.code y_Lg_lastOf b_Lg_lastOf 4 (some .int) :: zz_G
abbrev w_Lg_heldUntil : List Cond := Cond.code y_Lg_heldUntil b_Lg_heldUntil 3 (some .int) :: zz_G
abbrev w_Lg_comesAt : List Cond := Cond.code y_Lg_comesAt b_Lg_comesAt 2 (some .boolean) :: zz_G
abbrev w_Lg_numberAt : List Cond := Cond.code y_Lg_numberAt b_Lg_numberAt 2 (some .int) :: zz_G
abbrev w_Lg_shows : List Cond := Cond.code y_Lg_shows b_Lg_shows 4 (some .boolean) :: zz_G
abbrev w_Lg_isPlace : List Cond := Cond.code y_Lg_isPlace b_Lg_isPlace 2 (some .boolean) :: zz_G
abbrev w_Qu_init : List Cond := Cond.code y_Qu_init b_Qu_init 2 none :: zz_G
abbrev w_Qu_add : List Cond := Cond.code y_Qu_add b_Qu_add 4 (some .boolean) :: zz_G
abbrev w_Qu_itemAt : List Cond := Cond.code y_Qu_itemAt b_Qu_itemAt 4 (some .int) :: zz_G
abbrev w_Qu_uses : List Cond := Cond.code y_Qu_uses b_Qu_uses 2 (some .boolean) :: zz_G
abbrev w_Qu_use : List Cond := Cond.code y_Qu_use b_Qu_use 2 none :: zz_G
abbrev w_Rs_init : List Cond := Cond.code y_Rs_init b_Rs_init 2 none :: zz_G
abbrev w_Rs_clear : List Cond := Cond.code y_Rs_clear b_Rs_clear 1 none :: zz_G
abbrev w_Rs_isFull : List Cond := Cond.code y_Rs_isFull b_Rs_isFull 1 (some .boolean) :: zz_G
abbrev w_Rs_add : List Cond := Cond.code y_Rs_add b_Rs_add 3 none :: zz_G
abbrev w_Rs_removeAll : List Cond := Cond.code y_Rs_removeAll b_Rs_removeAll 6 none :: zz_G
abbrev w_Rs_isSameAs : List Cond := Cond.code y_Rs_isSameAs b_Rs_isSameAs 3 (some .boolean) :: zz_G
abbrev w_Rs_count : List Cond := Cond.code y_Rs_count b_Rs_count 3 (some .int) :: zz_G
abbrev w_Rs_keyAt : List Cond := Cond.code y_Rs_keyAt b_Rs_keyAt 5 (some .int) :: zz_G
abbrev w_Rs_sumOf : List Cond := Cond.code y_Rs_sumOf b_Rs_sumOf 7 (some .int) :: zz_G
abbrev w_Rs_leastOf : List Cond := Cond.code y_Rs_leastOf b_Rs_leastOf 3 (some .int) :: zz_G
abbrev w_Rs_greatestOf : List Cond := Cond.code y_Rs_greatestOf b_Rs_greatestOf 3 (some .int) :: zz_G
abbrev w_Rs_allValuesOf : List Cond := Cond.code y_Rs_allValuesOf b_Rs_allValuesOf 4 (some .int) :: zz_G
abbrev w_Rs_valuesOf : List Cond := Cond.code y_Rs_valuesOf b_Rs_valuesOf 3 (some .int) :: zz_G
abbrev w_Rs_bitAt : List Cond := Cond.code y_Rs_bitAt b_Rs_bitAt 4 (some .int) :: zz_G
abbrev w_Sr_init : List Cond := Cond.code y_Sr_init b_Sr_init 2 none :: zz_G
abbrev w_Sr_begin : List Cond := Cond.code y_Sr_begin b_Sr_begin 3 none :: zz_G
abbrev w_Sr_bind : List Cond := Cond.code y_Sr_bind b_Sr_bind 7 (some .boolean) :: zz_G
abbrev w_Sr_run : List Cond := Cond.code y_Sr_run b_Sr_run 4 none :: zz_G
abbrev w_Sr_narrow : List Cond := Cond.code y_Sr_narrow b_Sr_narrow 13 (some .boolean) :: zz_G
abbrev w_Sr_extend : List Cond := Cond.code y_Sr_extend b_Sr_extend 7 none :: zz_G
abbrev w_Sr_filter : List Cond := Cond.code y_Sr_filter b_Sr_filter 11 (some .int) :: zz_G
abbrev w_Sr_valueOf : List Cond := Cond.code y_Sr_valueOf b_Sr_valueOf 3 (some .int) :: zz_G
abbrev w_Sr_allowed : List Cond := Cond.code y_Sr_allowed b_Sr_allowed 3 (some .int) :: zz_G
abbrev w_Sr_keep : List Cond := Cond.code y_Sr_keep b_Sr_keep 4 (some .boolean) :: zz_G
abbrev w_Se_init : List Cond := Cond.code y_Se_init b_Se_init 1 none :: zz_G
abbrev w_Se_read : List Cond := Cond.code y_Se_read b_Se_read 5 none :: zz_G
abbrev w_Se_put : List Cond := Cond.code y_Se_put b_Se_put 5 none :: zz_G
abbrev w_Se_objectsOf : List Cond := Cond.code y_Se_objectsOf b_Se_objectsOf 3 (some .int) :: zz_G
abbrev w_C_init : List Cond := Cond.code y_C_init b_C_init 2 none :: zz_G
abbrev w_C_change : List Cond := Cond.code y_C_change b_C_change 7 (some .int) :: zz_G
abbrev w_C_step : List Cond := Cond.code y_C_step b_C_step 1 (some .int) :: zz_G
abbrev w_C_question : List Cond := Cond.code y_C_question b_C_question 2 (some .int) :: zz_G
abbrev w_C_pattern : List Cond := Cond.code y_C_pattern b_C_pattern 6 (some .int) :: zz_G
abbrev w_C_window : List Cond := Cond.code y_C_window b_C_window 5 (some .int) :: zz_G
abbrev w_C_rows : List Cond := Cond.code y_C_rows b_C_rows 4 (some .int) :: zz_G
abbrev w_C_changed : List Cond := Cond.code y_C_changed b_C_changed 5 (some .int) :: zz_G
abbrev w_C_row : List Cond := Cond.code y_C_row b_C_row 6 (some .int) :: zz_G
abbrev w_C_aggregate : List Cond := Cond.code y_C_aggregate b_C_aggregate 7 (some .int) :: zz_G
abbrev w_C_late : List Cond := Cond.code y_C_late b_C_late 12 (some .int) :: zz_G
abbrev w_C_still : List Cond := Cond.code y_C_still b_C_still 4 (some .int) :: zz_G
abbrev w_C_there : List Cond := Cond.code y_C_there b_C_there 5 (some .int) :: zz_G
abbrev w_C_age : List Cond := Cond.code y_C_age b_C_age 6 (some .int) :: zz_G
abbrev w_C_latest : List Cond := Cond.code y_C_latest b_C_latest 1 (some .int) :: zz_G
abbrev w_C_isTriple : List Cond := Cond.code y_C_isTriple b_C_isTriple 3 (some .boolean) :: zz_G
abbrev w_C_tripleOf : List Cond := Cond.code y_C_tripleOf b_C_tripleOf 3 (some .int) :: zz_G
abbrev w_C_isItem : List Cond := Cond.code y_C_isItem b_C_isItem 2 (some .boolean) :: zz_G
abbrev w_C_isWindow : List Cond := Cond.code y_C_isWindow b_C_isWindow 1 (some .boolean) :: zz_G
abbrev w_C_isPast : List Cond := Cond.code y_C_isPast b_C_isPast 2 (some .boolean) :: zz_G
abbrev w_C_find : List Cond := Cond.code y_C_find b_C_find 2 (some (.object "ContinuousRows$Question")) :: zz_G
abbrev w_C_fill : List Cond := Cond.code y_C_fill b_C_fill 4 none :: zz_G
abbrev w_C_findRows : List Cond := Cond.code y_C_findRows b_C_findRows 4 (some (.object "ContinuousRows$RowSet")) :: zz_G
abbrev w_C_areRowsOthers : List Cond := Cond.code y_C_areRowsOthers b_C_areRowsOthers 7 (some .boolean) :: zz_G
abbrev w_C_hasRowThrough : List Cond := Cond.code y_C_hasRowThrough b_C_hasRowThrough 5 (some .boolean) :: zz_G
abbrev w_M_init : List Cond := Cond.code y_M_init b_M_init 3 none :: zz_G
abbrev w_M_isTriple : List Cond := Cond.code y_M_isTriple b_M_isTriple 3 (some .boolean) :: zz_G
abbrev w_M_triple : List Cond := Cond.code y_M_triple b_M_triple 3 (some .int) :: zz_G
abbrev w_M_isNumber : List Cond := Cond.code y_M_isNumber b_M_isNumber 2 (some .boolean) :: zz_G
abbrev w_M_isQuestion : List Cond := Cond.code y_M_isQuestion b_M_isQuestion 2 (some .boolean) :: zz_G
abbrev w_M_last : List Cond := Cond.code y_M_last b_M_last 5 (some .int) :: zz_G
abbrev w_M_isThere : List Cond := Cond.code y_M_isThere b_M_isThere 4 (some .boolean) :: zz_G
abbrev w_M_say : List Cond := Cond.code y_M_say b_M_say 4 none :: zz_G
abbrev w_M_forget : List Cond := Cond.code y_M_forget b_M_forget 4 none :: zz_G
abbrev w_M_change : List Cond := Cond.code y_M_change b_M_change 7 (some .int) :: zz_G
abbrev w_M_step : List Cond := Cond.code y_M_step b_M_step 1 (some .int) :: zz_G
abbrev w_M_latest : List Cond := Cond.code y_M_latest b_M_latest 1 (some .int) :: zz_G
abbrev w_M_there : List Cond := Cond.code y_M_there b_M_there 5 (some .int) :: zz_G
abbrev w_M_age : List Cond := Cond.code y_M_age b_M_age 5 (some .int) :: zz_G
abbrev w_M_question : List Cond := Cond.code y_M_question b_M_question 2 (some .int) :: zz_G
abbrev w_M_isItem : List Cond := Cond.code y_M_isItem b_M_isItem 2 (some .boolean) :: zz_G
abbrev w_M_pattern : List Cond := Cond.code y_M_pattern b_M_pattern 6 (some .int) :: zz_G
abbrev w_M_window : List Cond := Cond.code y_M_window b_M_window 4 (some .int) :: zz_G
abbrev w_M_see : List Cond := Cond.code y_M_see b_M_see 5 none :: zz_G
abbrev w_M_valueOf : List Cond := Cond.code y_M_valueOf b_M_valueOf 2 (some .int) :: zz_G
abbrev w_M_isRow : List Cond := Cond.code y_M_isRow b_M_isRow 5 (some .boolean) :: zz_G
abbrev w_M_stands : List Cond := Cond.code y_M_stands b_M_stands 5 (some .boolean) :: zz_G
abbrev w_M_ask : List Cond := Cond.code y_M_ask b_M_ask 10 none :: zz_G
abbrev w_M_askLast : List Cond := Cond.code y_M_askLast b_M_askLast 8 none :: zz_G
abbrev w_M_at : List Cond := Cond.code y_M_at b_M_at 3 (some .int) :: zz_G
abbrev w_M_rowsOf : List Cond := Cond.code y_M_rowsOf b_M_rowsOf 5 (some .int) :: zz_G
abbrev w_M_bits : List Cond := Cond.code y_M_bits b_M_bits 9 (some .long) :: zz_G
abbrev w_M_count : List Cond := Cond.code y_M_count b_M_count 8 (some .int) :: zz_G
abbrev w_M_rows : List Cond := Cond.code y_M_rows b_M_rows 3 (some .int) :: zz_G
abbrev w_M_changed : List Cond := Cond.code y_M_changed b_M_changed 4 (some .int) :: zz_G
abbrev w_M_row : List Cond := Cond.code y_M_row b_M_row 10 (some .int) :: zz_G
abbrev w_M_aggregate : List Cond := Cond.code y_M_aggregate b_M_aggregate 13 (some .int) :: zz_G
abbrev w_M_late : List Cond := Cond.code y_M_late b_M_late 10 (some .int) :: zz_G
abbrev w_M_again : List Cond := Cond.code y_M_again b_M_again 6 (some .boolean) :: zz_G
abbrev w_M_still : List Cond := Cond.code y_M_still b_M_still 7 (some .int) :: zz_G
abbrev w_Jm_max : List Cond := Cond.code y_Jm_max b_Jm_max 2 (some .int) :: zz_G
abbrev w_Jm_floorMod : List Cond := Cond.code y_Jm_floorMod b_Jm_floorMod 3 (some .int) :: zz_G
abbrev w_Jm_min : List Cond := Cond.code y_Jm_min b_Jm_min 2 (some .int) :: zz_G
abbrev w_Ja_fill : List Cond := Cond.code y_Ja_fill b_Ja_fill 4 none :: zz_G
abbrev w_Ji_bitCount : List Cond := Cond.code y_Ji_bitCount b_Ji_bitCount 1 (some .int) :: zz_G
theorem iwK0 : ∀ w ∈ u_ws RK0 TK0 4, w ∈ zz_G := by
  have h : ∀ w ∈ u_ws RK0 TK0 4, w ∈ tables_1 ∧ goodWord w = true := by decide +kernel
  exact fun w hw => zz_in (List.mem_append_right _ (h w hw).1) (h w hw).2
theorem iwK1 : ∀ w ∈ u_ws RK1 TK1 1, w ∈ zz_G := by
  have h : ∀ w ∈ u_ws RK1 TK1 1, w ∈ tables_1 ∧ goodWord w = true := by decide +kernel
  exact fun w hw => zz_in (List.mem_append_right _ (h w hw).1) (h w hw).2
theorem iwK2 : ∀ w ∈ u_ws RK2 TK2 5, w ∈ zz_G := by
  have h : ∀ w ∈ u_ws RK2 TK2 5, w ∈ tables_1 ∧ goodWord w = true := by decide +kernel
  exact fun w hw => zz_in (List.mem_append_right _ (h w hw).1) (h w hw).2
theorem iwK3 : ∀ w ∈ u_ws RK3 TK3 3, w ∈ zz_G := by
  have h : ∀ w ∈ u_ws RK3 TK3 3, w ∈ tables_1 ∧ goodWord w = true := by decide +kernel
  exact fun w hw => zz_in (List.mem_append_right _ (h w hw).1) (h w hw).2
theorem iwK4 : ∀ w ∈ u_ws RK4 TK4 2, w ∈ zz_G := by
  have h : ∀ w ∈ u_ws RK4 TK4 2, w ∈ tables_1 ∧ goodWord w = true := by decide +kernel
  exact fun w hw => zz_in (List.mem_append_right _ (h w hw).1) (h w hw).2
theorem iwK5 : ∀ w ∈ u_ws RK5 TK5 10, w ∈ zz_G := by
  have h : ∀ w ∈ u_ws RK5 TK5 10, w ∈ tables_1 ∧ goodWord w = true := by decide +kernel
  exact fun w hw => zz_in (List.mem_append_right _ (h w hw).1) (h w hw).2
theorem iwK6 : ∀ w ∈ u_ws RK6 TK6 16, w ∈ zz_G := by
  have h : ∀ w ∈ u_ws RK6 TK6 16, w ∈ tables_1 ∧ goodWord w = true := by decide +kernel
  exact fun w hw => zz_in (List.mem_append_right _ (h w hw).1) (h w hw).2
