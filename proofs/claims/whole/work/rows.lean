section
-- ===== PART A: goes FIRST, ahead of the names: the tables' words, and 'selects' of the private methods out of them =====
/-- a private method of a class that the tables say can be made, by its rows of tables_1 -/
def lw_okq (q : MethodName × Nat) : Prop := (q.1.cls ≠ "java/lang/invoke/MethodHandle" ∧ q.1.cls ≠ "java/lang/invoke/VarHandle") ∧ Cond.instantiable q.1.cls q.2 ∈ tables_1 ∧ Cond.privateMethod q.1 ∈ tables_1 ∧ Cond.instanceMethod q.1 ∈ tables_1
theorem lw_p0 : lw_okq (⟨"ContinuousRows$Log", "isPlace", "(I)Z"⟩, 4) := ⟨⟨by decide +kernel, by decide +kernel⟩, List.mem_of_getElem? (i := 20) (by decide +kernel), List.mem_of_getElem? (i := 145) (by decide +kernel), List.mem_of_getElem? (i := 146) (by decide +kernel)⟩
theorem lw_p1 : lw_okq (⟨"ContinuousRows", "find", "(I)LContinuousRows$Question;"⟩, 10) := ⟨⟨by decide +kernel, by decide +kernel⟩, List.mem_of_getElem? (i := 12) (by decide +kernel), List.mem_of_getElem? (i := 194) (by decide +kernel), List.mem_of_getElem? (i := 195) (by decide +kernel)⟩
theorem lw_p2 : lw_okq (⟨"ContinuousRows$Question", "use", "(I)V"⟩, 5) := ⟨⟨by decide +kernel, by decide +kernel⟩, List.mem_of_getElem? (i := 164) (by decide +kernel), List.mem_of_getElem? (i := 208) (by decide +kernel), List.mem_of_getElem? (i := 209) (by decide +kernel)⟩
theorem lw_p3 : lw_okq (⟨"ContinuousRows", "isPast", "(I)Z"⟩, 10) := ⟨⟨by decide +kernel, by decide +kernel⟩, List.mem_of_getElem? (i := 12) (by decide +kernel), List.mem_of_getElem? (i := 220) (by decide +kernel), List.mem_of_getElem? (i := 221) (by decide +kernel)⟩
theorem lw_p4 : lw_okq (⟨"ContinuousRows", "findRows", "(LContinuousRows$Question;II)LContinuousRows$RowSet;"⟩, 10) := ⟨⟨by decide +kernel, by decide +kernel⟩, List.mem_of_getElem? (i := 12) (by decide +kernel), List.mem_of_getElem? (i := 224) (by decide +kernel), List.mem_of_getElem? (i := 225) (by decide +kernel)⟩
theorem lw_p5 : lw_okq (⟨"ContinuousRows", "fill", "(LContinuousRows$RowSet;LContinuousRows$Question;I)V"⟩, 10) := ⟨⟨by decide +kernel, by decide +kernel⟩, List.mem_of_getElem? (i := 12) (by decide +kernel), List.mem_of_getElem? (i := 228) (by decide +kernel), List.mem_of_getElem? (i := 229) (by decide +kernel)⟩
theorem lw_p6 : lw_okq (⟨"ContinuousRows$Search", "narrow", "(III)Z"⟩, 3) := ⟨⟨by decide +kernel, by decide +kernel⟩, List.mem_of_getElem? (i := 56) (by decide +kernel), List.mem_of_getElem? (i := 268) (by decide +kernel), List.mem_of_getElem? (i := 269) (by decide +kernel)⟩
theorem lw_p7 : lw_okq (⟨"ContinuousRows$Search", "allowed", "(I)I"⟩, 3) := ⟨⟨by decide +kernel, by decide +kernel⟩, List.mem_of_getElem? (i := 56) (by decide +kernel), List.mem_of_getElem? (i := 272) (by decide +kernel), List.mem_of_getElem? (i := 273) (by decide +kernel)⟩
theorem lw_p8 : lw_okq (⟨"ContinuousRows$Search", "keep", "(II)Z"⟩, 3) := ⟨⟨by decide +kernel, by decide +kernel⟩, List.mem_of_getElem? (i := 56) (by decide +kernel), List.mem_of_getElem? (i := 280) (by decide +kernel), List.mem_of_getElem? (i := 281) (by decide +kernel)⟩
theorem lw_p9 : lw_okq (⟨"ContinuousRows$Search", "extend", "(LContinuousRows$Question;LContinuousRows$RowSet;II)V"⟩, 3) := ⟨⟨by decide +kernel, by decide +kernel⟩, List.mem_of_getElem? (i := 56) (by decide +kernel), List.mem_of_getElem? (i := 284) (by decide +kernel), List.mem_of_getElem? (i := 285) (by decide +kernel)⟩
theorem lw_p10 : lw_okq (⟨"ContinuousRows$Search", "filter", "(LContinuousRows$Question;III)I"⟩, 3) := ⟨⟨by decide +kernel, by decide +kernel⟩, List.mem_of_getElem? (i := 56) (by decide +kernel), List.mem_of_getElem? (i := 288) (by decide +kernel), List.mem_of_getElem? (i := 289) (by decide +kernel)⟩
theorem lw_p11 : lw_okq (⟨"ContinuousRows$Search", "valueOf", "(I)I"⟩, 3) := ⟨⟨by decide +kernel, by decide +kernel⟩, List.mem_of_getElem? (i := 56) (by decide +kernel), List.mem_of_getElem? (i := 292) (by decide +kernel), List.mem_of_getElem? (i := 293) (by decide +kernel)⟩
theorem lw_p12 : lw_okq (⟨"ContinuousRows$RowSet", "allValuesOf", "(I)I"⟩, 2) := ⟨⟨by decide +kernel, by decide +kernel⟩, List.mem_of_getElem? (i := 72) (by decide +kernel), List.mem_of_getElem? (i := 350) (by decide +kernel), List.mem_of_getElem? (i := 351) (by decide +kernel)⟩
theorem lw_p13 : lw_okq (⟨"ContinuousRows", "areRowsOthers", "(IIII)Z"⟩, 10) := ⟨⟨by decide +kernel, by decide +kernel⟩, List.mem_of_getElem? (i := 12) (by decide +kernel), List.mem_of_getElem? (i := 366) (by decide +kernel), List.mem_of_getElem? (i := 367) (by decide +kernel)⟩
theorem lw_p14 : lw_okq (⟨"ContinuousRows", "hasRowThrough", "(LContinuousRows$Question;II)Z"⟩, 10) := ⟨⟨by decide +kernel, by decide +kernel⟩, List.mem_of_getElem? (i := 12) (by decide +kernel), List.mem_of_getElem? (i := 371) (by decide +kernel), List.mem_of_getElem? (i := 372) (by decide +kernel)⟩
theorem lw_p15 : lw_okq (⟨"ContinuousRowsModel", "isThere", "(II)Z"⟩, 16) := ⟨⟨by decide +kernel, by decide +kernel⟩, List.mem_of_getElem? (i := 407) (by decide +kernel), List.mem_of_getElem? (i := 474) (by decide +kernel), List.mem_of_getElem? (i := 475) (by decide +kernel)⟩
def lw_privs_1 : List (MethodName × Nat) := [(⟨"ContinuousRows$Log", "isPlace", "(I)Z"⟩, 4), (⟨"ContinuousRows", "find", "(I)LContinuousRows$Question;"⟩, 10), (⟨"ContinuousRows$Question", "use", "(I)V"⟩, 5), (⟨"ContinuousRows", "isPast", "(I)Z"⟩, 10), (⟨"ContinuousRows", "findRows", "(LContinuousRows$Question;II)LContinuousRows$RowSet;"⟩, 10), (⟨"ContinuousRows", "fill", "(LContinuousRows$RowSet;LContinuousRows$Question;I)V"⟩, 10), (⟨"ContinuousRows$Search", "narrow", "(III)Z"⟩, 3), (⟨"ContinuousRows$Search", "allowed", "(I)I"⟩, 3), (⟨"ContinuousRows$Search", "keep", "(II)Z"⟩, 3), (⟨"ContinuousRows$Search", "extend", "(LContinuousRows$Question;LContinuousRows$RowSet;II)V"⟩, 3), (⟨"ContinuousRows$Search", "filter", "(LContinuousRows$Question;III)I"⟩, 3), (⟨"ContinuousRows$Search", "valueOf", "(I)I"⟩, 3), (⟨"ContinuousRows$RowSet", "allValuesOf", "(I)I"⟩, 2), (⟨"ContinuousRows", "areRowsOthers", "(IIII)Z"⟩, 10), (⟨"ContinuousRows", "hasRowThrough", "(LContinuousRows$Question;II)Z"⟩, 10), (⟨"ContinuousRowsModel", "isThere", "(II)Z"⟩, 16)]
theorem lw_r1 : ∀ q ∈ lw_privs_1, lw_okq q := List.forall_mem_cons.mpr ⟨lw_p0, List.forall_mem_cons.mpr ⟨lw_p1, List.forall_mem_cons.mpr ⟨lw_p2, List.forall_mem_cons.mpr ⟨lw_p3, List.forall_mem_cons.mpr ⟨lw_p4, List.forall_mem_cons.mpr ⟨lw_p5, List.forall_mem_cons.mpr ⟨lw_p6, List.forall_mem_cons.mpr ⟨lw_p7, List.forall_mem_cons.mpr ⟨lw_p8, List.forall_mem_cons.mpr ⟨lw_p9, List.forall_mem_cons.mpr ⟨lw_p10, List.forall_mem_cons.mpr ⟨lw_p11, List.forall_mem_cons.mpr ⟨lw_p12, List.forall_mem_cons.mpr ⟨lw_p13, List.forall_mem_cons.mpr ⟨lw_p14, List.forall_mem_cons.mpr ⟨lw_p15, fun _ h => absurd h List.not_mem_nil⟩⟩⟩⟩⟩⟩⟩⟩⟩⟩⟩⟩⟩⟩⟩⟩
theorem lw_p16 : lw_okq (⟨"ContinuousRowsModel", "last", "(II)I"⟩, 16) := ⟨⟨by decide +kernel, by decide +kernel⟩, List.mem_of_getElem? (i := 407) (by decide +kernel), List.mem_of_getElem? (i := 478) (by decide +kernel), List.mem_of_getElem? (i := 479) (by decide +kernel)⟩
theorem lw_p17 : lw_okq (⟨"ContinuousRowsModel", "say", "(IIZ)V"⟩, 16) := ⟨⟨by decide +kernel, by decide +kernel⟩, List.mem_of_getElem? (i := 407) (by decide +kernel), List.mem_of_getElem? (i := 482) (by decide +kernel), List.mem_of_getElem? (i := 483) (by decide +kernel)⟩
theorem lw_p18 : lw_okq (⟨"ContinuousRowsModel", "forget", "(II)V"⟩, 16) := ⟨⟨by decide +kernel, by decide +kernel⟩, List.mem_of_getElem? (i := 407) (by decide +kernel), List.mem_of_getElem? (i := 486) (by decide +kernel), List.mem_of_getElem? (i := 487) (by decide +kernel)⟩
theorem lw_p19 : lw_okq (⟨"ContinuousRowsModel", "isNumber", "(I)Z"⟩, 16) := ⟨⟨by decide +kernel, by decide +kernel⟩, List.mem_of_getElem? (i := 407) (by decide +kernel), List.mem_of_getElem? (i := 502) (by decide +kernel), List.mem_of_getElem? (i := 503) (by decide +kernel)⟩
theorem lw_p20 : lw_okq (⟨"ContinuousRowsModel", "isQuestion", "(I)Z"⟩, 16) := ⟨⟨by decide +kernel, by decide +kernel⟩, List.mem_of_getElem? (i := 407) (by decide +kernel), List.mem_of_getElem? (i := 518) (by decide +kernel), List.mem_of_getElem? (i := 519) (by decide +kernel)⟩
theorem lw_p21 : lw_okq (⟨"ContinuousRowsModel", "count", "(III)I"⟩, 16) := ⟨⟨by decide +kernel, by decide +kernel⟩, List.mem_of_getElem? (i := 407) (by decide +kernel), List.mem_of_getElem? (i := 533) (by decide +kernel), List.mem_of_getElem? (i := 534) (by decide +kernel)⟩
theorem lw_p22 : lw_okq (⟨"ContinuousRowsModel", "bits", "(IIII)J"⟩, 16) := ⟨⟨by decide +kernel, by decide +kernel⟩, List.mem_of_getElem? (i := 407) (by decide +kernel), List.mem_of_getElem? (i := 537) (by decide +kernel), List.mem_of_getElem? (i := 538) (by decide +kernel)⟩
theorem lw_p23 : lw_okq (⟨"ContinuousRowsModel", "rowsOf", "(II)I"⟩, 16) := ⟨⟨by decide +kernel, by decide +kernel⟩, List.mem_of_getElem? (i := 407) (by decide +kernel), List.mem_of_getElem? (i := 541) (by decide +kernel), List.mem_of_getElem? (i := 542) (by decide +kernel)⟩
theorem lw_p24 : lw_okq (⟨"ContinuousRowsModel", "at", "(II)I"⟩, 16) := ⟨⟨by decide +kernel, by decide +kernel⟩, List.mem_of_getElem? (i := 407) (by decide +kernel), List.mem_of_getElem? (i := 545) (by decide +kernel), List.mem_of_getElem? (i := 546) (by decide +kernel)⟩
theorem lw_p25 : lw_okq (⟨"ContinuousRowsModel", "ask", "(II)V"⟩, 16) := ⟨⟨by decide +kernel, by decide +kernel⟩, List.mem_of_getElem? (i := 407) (by decide +kernel), List.mem_of_getElem? (i := 549) (by decide +kernel), List.mem_of_getElem? (i := 550) (by decide +kernel)⟩
theorem lw_p26 : lw_okq (⟨"ContinuousRowsModel", "see", "(II)V"⟩, 16) := ⟨⟨by decide +kernel, by decide +kernel⟩, List.mem_of_getElem? (i := 407) (by decide +kernel), List.mem_of_getElem? (i := 553) (by decide +kernel), List.mem_of_getElem? (i := 554) (by decide +kernel)⟩
theorem lw_p27 : lw_okq (⟨"ContinuousRowsModel", "stands", "(II)Z"⟩, 16) := ⟨⟨by decide +kernel, by decide +kernel⟩, List.mem_of_getElem? (i := 407) (by decide +kernel), List.mem_of_getElem? (i := 557) (by decide +kernel), List.mem_of_getElem? (i := 558) (by decide +kernel)⟩
theorem lw_p28 : lw_okq (⟨"ContinuousRowsModel", "askLast", "(IIIII)V"⟩, 16) := ⟨⟨by decide +kernel, by decide +kernel⟩, List.mem_of_getElem? (i := 407) (by decide +kernel), List.mem_of_getElem? (i := 561) (by decide +kernel), List.mem_of_getElem? (i := 562) (by decide +kernel)⟩
theorem lw_p29 : lw_okq (⟨"ContinuousRowsModel", "isRow", "(I)Z"⟩, 16) := ⟨⟨by decide +kernel, by decide +kernel⟩, List.mem_of_getElem? (i := 407) (by decide +kernel), List.mem_of_getElem? (i := 565) (by decide +kernel), List.mem_of_getElem? (i := 566) (by decide +kernel)⟩
theorem lw_p30 : lw_okq (⟨"ContinuousRowsModel", "valueOf", "(I)I"⟩, 16) := ⟨⟨by decide +kernel, by decide +kernel⟩, List.mem_of_getElem? (i := 407) (by decide +kernel), List.mem_of_getElem? (i := 569) (by decide +kernel), List.mem_of_getElem? (i := 570) (by decide +kernel)⟩
theorem lw_p31 : lw_okq (⟨"ContinuousRowsModel", "again", "(II)Z"⟩, 16) := ⟨⟨by decide +kernel, by decide +kernel⟩, List.mem_of_getElem? (i := 407) (by decide +kernel), List.mem_of_getElem? (i := 590) (by decide +kernel), List.mem_of_getElem? (i := 591) (by decide +kernel)⟩
def lw_privs_2 : List (MethodName × Nat) := [(⟨"ContinuousRowsModel", "last", "(II)I"⟩, 16), (⟨"ContinuousRowsModel", "say", "(IIZ)V"⟩, 16), (⟨"ContinuousRowsModel", "forget", "(II)V"⟩, 16), (⟨"ContinuousRowsModel", "isNumber", "(I)Z"⟩, 16), (⟨"ContinuousRowsModel", "isQuestion", "(I)Z"⟩, 16), (⟨"ContinuousRowsModel", "count", "(III)I"⟩, 16), (⟨"ContinuousRowsModel", "bits", "(IIII)J"⟩, 16), (⟨"ContinuousRowsModel", "rowsOf", "(II)I"⟩, 16), (⟨"ContinuousRowsModel", "at", "(II)I"⟩, 16), (⟨"ContinuousRowsModel", "ask", "(II)V"⟩, 16), (⟨"ContinuousRowsModel", "see", "(II)V"⟩, 16), (⟨"ContinuousRowsModel", "stands", "(II)Z"⟩, 16), (⟨"ContinuousRowsModel", "askLast", "(IIIII)V"⟩, 16), (⟨"ContinuousRowsModel", "isRow", "(I)Z"⟩, 16), (⟨"ContinuousRowsModel", "valueOf", "(I)I"⟩, 16), (⟨"ContinuousRowsModel", "again", "(II)Z"⟩, 16)]
theorem lw_r2 : ∀ q ∈ lw_privs_2, lw_okq q := List.forall_mem_cons.mpr ⟨lw_p16, List.forall_mem_cons.mpr ⟨lw_p17, List.forall_mem_cons.mpr ⟨lw_p18, List.forall_mem_cons.mpr ⟨lw_p19, List.forall_mem_cons.mpr ⟨lw_p20, List.forall_mem_cons.mpr ⟨lw_p21, List.forall_mem_cons.mpr ⟨lw_p22, List.forall_mem_cons.mpr ⟨lw_p23, List.forall_mem_cons.mpr ⟨lw_p24, List.forall_mem_cons.mpr ⟨lw_p25, List.forall_mem_cons.mpr ⟨lw_p26, List.forall_mem_cons.mpr ⟨lw_p27, List.forall_mem_cons.mpr ⟨lw_p28, List.forall_mem_cons.mpr ⟨lw_p29, List.forall_mem_cons.mpr ⟨lw_p30, List.forall_mem_cons.mpr ⟨lw_p31, fun _ h => absurd h List.not_mem_nil⟩⟩⟩⟩⟩⟩⟩⟩⟩⟩⟩⟩⟩⟩⟩⟩
def lw_privs : List (MethodName × Nat) := lw_privs_1 ++ (lw_privs_2)
def lw_tbl : List Cond := k2_sels lw_privs ++ tables_1
theorem lw_privs_ok : ∀ q ∈ lw_privs, lw_okq q := by
  show ∀ q ∈ lw_privs_1 ++ (lw_privs_2), lw_okq q
  exact List.forall_mem_append.mpr ⟨lw_r1, lw_r2⟩
/-! my names: types, field tables, code, words -/
def RK0 : String := "ContinuousRows$Log"
def TK0 : u_T := fun k => match k with
  | 0 => ("ContinuousRows$Log", "saidAt", "[I", true)
  | 1 => ("ContinuousRows$Log", "triples", "[I", true)
  | 2 => ("ContinuousRows$Log", "comes", "[Z", true)
  | _ => ("ContinuousRows$Log", "size", "I", false)
def tyK0 : Nat → FieldType := fun k => match k with
  | 0 => .array .int
  | 1 => .array .int
  | 2 => .array .boolean
  | _ => .int
theorem nmK0 : ∀ a, a < 4 → ∀ b, b < 4 → a ≠ b → (TK0 a).2.1 ≠ (TK0 b).2.1 := by decide +kernel
theorem tyK0_ok : ∀ k, k < 4 → parseFieldDescriptor (TK0 k).2.2.1 = some (tyK0 k) := by decide +kernel
def RK1 : String := "ContinuousRows$Seen"
def TK1 : u_T := fun k => match k with
  | _ => ("ContinuousRows$Seen", "objects", "[I", true)
def tyK1 : Nat → FieldType := fun k => match k with
  | _ => .array .int
theorem nmK1 : ∀ a, a < 1 → ∀ b, b < 1 → a ≠ b → (TK1 a).2.1 ≠ (TK1 b).2.1 := by decide +kernel
theorem tyK1_ok : ∀ k, k < 1 → parseFieldDescriptor (TK1 k).2.2.1 = some (tyK1 k) := by decide +kernel
def RK2 : String := "ContinuousRows$Question"
def TK2 : u_T := fun k => match k with
  | 0 => ("ContinuousRows$Question", "items", "[I", true)
  | 1 => ("ContinuousRows$Question", "lastVariables", "[I", true)
  | 2 => ("ContinuousRows$Question", "width", "I", false)
  | 3 => ("ContinuousRows$Question", "patterns", "I", false)
  | _ => ("ContinuousRows$Question", "variables", "I", false)
def tyK2 : Nat → FieldType := fun k => match k with
  | 0 => .array .int
  | 1 => .array .int
  | 2 => .int
  | 3 => .int
  | _ => .int
theorem nmK2 : ∀ a, a < 5 → ∀ b, b < 5 → a ≠ b → (TK2 a).2.1 ≠ (TK2 b).2.1 := by decide +kernel
theorem tyK2_ok : ∀ k, k < 5 → parseFieldDescriptor (TK2 k).2.2.1 = some (tyK2 k) := by decide +kernel
def RK3 : String := "ContinuousRows$Search"
def TK3 : u_T := fun k => match k with
  | 0 => ("ContinuousRows$Search", "seen", "LContinuousRows$Seen;", true)
  | 1 => ("ContinuousRows$Search", "open", "[I", true)
  | _ => ("ContinuousRows$Search", "values", "[I", true)
def tyK3 : Nat → FieldType := fun k => match k with
  | 0 => .object "ContinuousRows$Seen"
  | 1 => .array .int
  | _ => .array .int
theorem nmK3 : ∀ a, a < 3 → ∀ b, b < 3 → a ≠ b → (TK3 a).2.1 ≠ (TK3 b).2.1 := by decide +kernel
theorem tyK3_ok : ∀ k, k < 3 → parseFieldDescriptor (TK3 k).2.2.1 = some (tyK3 k) := by decide +kernel
def RK4 : String := "ContinuousRows$RowSet"
def TK4 : u_T := fun k => match k with
  | 0 => ("ContinuousRows$RowSet", "words", "[I", true)
  | _ => ("ContinuousRows$RowSet", "size", "I", false)
def tyK4 : Nat → FieldType := fun k => match k with
  | 0 => .array .int
  | _ => .int
theorem nmK4 : ∀ a, a < 2 → ∀ b, b < 2 → a ≠ b → (TK4 a).2.1 ≠ (TK4 b).2.1 := by decide +kernel
theorem tyK4_ok : ∀ k, k < 2 → parseFieldDescriptor (TK4 k).2.2.1 = some (tyK4 k) := by decide +kernel
def RK5 : String := "ContinuousRows"
def TK5 : u_T := fun k => match k with
  | 0 => ("ContinuousRows", "numbers", "I", true)
  | 1 => ("ContinuousRows", "log", "LContinuousRows$Log;", true)
  | 2 => ("ContinuousRows", "questions", "[LContinuousRows$Question;", true)
  | 3 => ("ContinuousRows", "seen", "LContinuousRows$Seen;", true)
  | 4 => ("ContinuousRows", "search", "LContinuousRows$Search;", true)
  | 5 => ("ContinuousRows", "rowsThen", "LContinuousRows$RowSet;", true)
  | 6 => ("ContinuousRows", "rowsBefore", "LContinuousRows$RowSet;", true)
  | 7 => ("ContinuousRows", "oneWord", "LContinuousRows$RowSet;", true)
  | 8 => ("ContinuousRows", "latestNumber", "I", false)
  | _ => ("ContinuousRows", "questionCount", "I", false)
def tyK5 : Nat → FieldType := fun k => match k with
  | 0 => .int
  | 1 => .object "ContinuousRows$Log"
  | 2 => .array (.object "ContinuousRows$Question")
  | 3 => .object "ContinuousRows$Seen"
  | 4 => .object "ContinuousRows$Search"
  | 5 => .object "ContinuousRows$RowSet"
  | 6 => .object "ContinuousRows$RowSet"
  | 7 => .object "ContinuousRows$RowSet"
  | 8 => .int
  | _ => .int
theorem nmK5 : ∀ a, a < 10 → ∀ b, b < 10 → a ≠ b → (TK5 a).2.1 ≠ (TK5 b).2.1 := by decide +kernel
theorem tyK5_ok : ∀ k, k < 10 → parseFieldDescriptor (TK5 k).2.2.1 = some (tyK5 k) := by decide +kernel
def RK6 : String := "ContinuousRowsModel"
def TK6 : u_T := fun k => match k with
  | 0 => ("ContinuousRowsModel", "numbers", "I", true)
  | 1 => ("ContinuousRowsModel", "latest", "I", false)
  | 2 => ("ContinuousRowsModel", "when", "[I", true)
  | 3 => ("ContinuousRowsModel", "triples", "[I", true)
  | 4 => ("ContinuousRowsModel", "comes", "[Z", true)
  | 5 => ("ContinuousRowsModel", "said", "I", false)
  | 6 => ("ContinuousRowsModel", "windows", "[I", true)
  | 7 => ("ContinuousRowsModel", "patternCounts", "[I", true)
  | 8 => ("ContinuousRowsModel", "items", "[I", true)
  | 9 => ("ContinuousRowsModel", "questions", "I", false)
  | 10 => ("ContinuousRowsModel", "rows", "[J", true)
  | 11 => ("ContinuousRowsModel", "known", "[Z", true)
  | 12 => ("ContinuousRowsModel", "next", "[J", true)
  | 13 => ("ContinuousRowsModel", "seen", "[Z", true)
  | 14 => ("ContinuousRowsModel", "values", "[I", true)
  | _ => ("ContinuousRowsModel", "lasts", "[I", true)
def tyK6 : Nat → FieldType := fun k => match k with
  | 0 => .int
  | 1 => .int
  | 2 => .array .int
  | 3 => .array .int
  | 4 => .array .boolean
  | 5 => .int
  | 6 => .array .int
  | 7 => .array .int
  | 8 => .array .int
  | 9 => .int
  | 10 => .array .long
  | 11 => .array .boolean
  | 12 => .array .long
  | 13 => .array .boolean
  | 14 => .array .int
  | _ => .array .int
theorem nmK6 : ∀ a, a < 16 → ∀ b, b < 16 → a ≠ b → (TK6 a).2.1 ≠ (TK6 b).2.1 := by decide +kernel
theorem tyK6_ok : ∀ k, k < 16 → parseFieldDescriptor (TK6 k).2.2.1 = some (tyK6 k) := by decide +kernel
abbrev zz_cl : List vw_C := [(RK0, TK0, 4), (RK1, TK1, 1), (RK2, TK2, 5), (RK3, TK3, 3), (RK4, TK4, 2), (RK5, TK5, 10), (RK6, TK6, 16)]
abbrev b_Lg_init : ByteArray := prog_2_method_1_code
def y_Lg_init : MethodName := ⟨RK0, "<init>", "()V"⟩
abbrev b_Lg_isFull : ByteArray := prog_2_method_2_code
def y_Lg_isFull : MethodName := ⟨RK0, "isFull", "()Z"⟩
abbrev b_Lg_say : ByteArray := prog_2_method_3_code
def y_Lg_say : MethodName := ⟨RK0, "say", "(IIZ)I"⟩
abbrev b_Lg_lastOf : ByteArray := prog_2_method_4_code
def y_Lg_lastOf : MethodName := ⟨RK0, "lastOf", "(II)I"⟩
abbrev b_Lg_heldUntil : ByteArray := prog_2_method_5_code
def y_Lg_heldUntil : MethodName := ⟨RK0, "heldUntil", "(I)I"⟩
abbrev b_Lg_comesAt : ByteArray := prog_2_method_6_code
def y_Lg_comesAt : MethodName := ⟨RK0, "comesAt", "(I)Z"⟩
abbrev b_Lg_numberAt : ByteArray := prog_2_method_7_code
def y_Lg_numberAt : MethodName := ⟨RK0, "numberAt", "(I)I"⟩
abbrev b_Lg_shows : ByteArray := prog_2_method_8_code
def y_Lg_shows : MethodName := ⟨RK0, "shows", "(III)Z"⟩
abbrev b_Lg_isPlace : ByteArray := prog_2_method_9_code
def y_Lg_isPlace : MethodName := ⟨RK0, "isPlace", "(I)Z"⟩
abbrev b_Qu_init : ByteArray := prog_3_method_1_code
def y_Qu_init : MethodName := ⟨RK2, "<init>", "(I)V"⟩
abbrev b_Qu_add : ByteArray := prog_3_method_2_code
def y_Qu_add : MethodName := ⟨RK2, "add", "(III)Z"⟩
abbrev b_Qu_itemAt : ByteArray := prog_3_method_3_code
def y_Qu_itemAt : MethodName := ⟨RK2, "itemAt", "(II)I"⟩
abbrev b_Qu_uses : ByteArray := prog_3_method_4_code
def y_Qu_uses : MethodName := ⟨RK2, "uses", "(I)Z"⟩
abbrev b_Qu_use : ByteArray := prog_3_method_5_code
def y_Qu_use : MethodName := ⟨RK2, "use", "(I)V"⟩
abbrev b_Rs_init : ByteArray := prog_4_method_1_code
def y_Rs_init : MethodName := ⟨RK4, "<init>", "(I)V"⟩
abbrev b_Rs_clear : ByteArray := prog_4_method_2_code
def y_Rs_clear : MethodName := ⟨RK4, "clear", "()V"⟩
abbrev b_Rs_isFull : ByteArray := prog_4_method_3_code
def y_Rs_isFull : MethodName := ⟨RK4, "isFull", "()Z"⟩
abbrev b_Rs_add : ByteArray := prog_4_method_4_code
def y_Rs_add : MethodName := ⟨RK4, "add", "(II)V"⟩
abbrev b_Rs_removeAll : ByteArray := prog_4_method_5_code
def y_Rs_removeAll : MethodName := ⟨RK4, "removeAll", "(LContinuousRows$RowSet;)V"⟩
abbrev b_Rs_isSameAs : ByteArray := prog_4_method_6_code
def y_Rs_isSameAs : MethodName := ⟨RK4, "isSameAs", "(LContinuousRows$RowSet;)Z"⟩
abbrev b_Rs_count : ByteArray := prog_4_method_7_code
def y_Rs_count : MethodName := ⟨RK4, "count", "()I"⟩
abbrev b_Rs_keyAt : ByteArray := prog_4_method_8_code
def y_Rs_keyAt : MethodName := ⟨RK4, "keyAt", "(I)I"⟩
abbrev b_Rs_sumOf : ByteArray := prog_4_method_9_code
def y_Rs_sumOf : MethodName := ⟨RK4, "sumOf", "(I)I"⟩
abbrev b_Rs_leastOf : ByteArray := prog_4_method_10_code
def y_Rs_leastOf : MethodName := ⟨RK4, "leastOf", "(I)I"⟩
abbrev b_Rs_greatestOf : ByteArray := prog_4_method_11_code
def y_Rs_greatestOf : MethodName := ⟨RK4, "greatestOf", "(I)I"⟩
abbrev b_Rs_allValuesOf : ByteArray := prog_4_method_12_code
def y_Rs_allValuesOf : MethodName := ⟨RK4, "allValuesOf", "(I)I"⟩
abbrev b_Rs_valuesOf : ByteArray := prog_4_method_13_code
def y_Rs_valuesOf : MethodName := ⟨RK4, "valuesOf", "(II)I"⟩
abbrev b_Rs_bitAt : ByteArray := prog_4_method_14_code
def y_Rs_bitAt : MethodName := ⟨RK4, "bitAt", "(II)I"⟩
abbrev b_Sr_init : ByteArray := prog_5_method_1_code
def y_Sr_init : MethodName := ⟨RK3, "<init>", "(LContinuousRows$Seen;)V"⟩
abbrev b_Sr_begin : ByteArray := prog_5_method_2_code
def y_Sr_begin : MethodName := ⟨RK3, "begin", "(LContinuousRows$Question;)V"⟩
abbrev b_Sr_bind : ByteArray := prog_5_method_3_code
def y_Sr_bind : MethodName := ⟨RK3, "bind", "(LContinuousRows$Question;II)Z"⟩
abbrev b_Sr_run : ByteArray := prog_5_method_4_code
def y_Sr_run : MethodName := ⟨RK3, "run", "(LContinuousRows$Question;LContinuousRows$RowSet;)V"⟩
abbrev b_Sr_narrow : ByteArray := prog_5_method_5_code
def y_Sr_narrow : MethodName := ⟨RK3, "narrow", "(III)Z"⟩
abbrev b_Sr_extend : ByteArray := prog_5_method_6_code
def y_Sr_extend : MethodName := ⟨RK3, "extend", "(LContinuousRows$Question;LContinuousRows$RowSet;II)V"⟩
abbrev b_Sr_filter : ByteArray := prog_5_method_7_code
def y_Sr_filter : MethodName := ⟨RK3, "filter", "(LContinuousRows$Question;III)I"⟩
abbrev b_Sr_valueOf : ByteArray := prog_5_method_8_code
def y_Sr_valueOf : MethodName := ⟨RK3, "valueOf", "(I)I"⟩
abbrev b_Sr_allowed : ByteArray := prog_5_method_9_code
def y_Sr_allowed : MethodName := ⟨RK3, "allowed", "(I)I"⟩
abbrev b_Sr_keep : ByteArray := prog_5_method_10_code
def y_Sr_keep : MethodName := ⟨RK3, "keep", "(II)Z"⟩
abbrev b_Se_init : ByteArray := prog_6_method_1_code
def y_Se_init : MethodName := ⟨RK1, "<init>", "()V"⟩
abbrev b_Se_read : ByteArray := prog_6_method_2_code
def y_Se_read : MethodName := ⟨RK1, "read", "(LContinuousRows$Log;II)V"⟩
abbrev b_Se_put : ByteArray := prog_6_method_3_code
def y_Se_put : MethodName := ⟨RK1, "put", "(IZ)V"⟩
abbrev b_Se_objectsOf : ByteArray := prog_6_method_4_code
def y_Se_objectsOf : MethodName := ⟨RK1, "objectsOf", "(II)I"⟩
abbrev b_C_init : ByteArray := prog_1_method_1_code
def y_C_init : MethodName := ⟨RK5, "<init>", "(I)V"⟩
abbrev b_C_change : ByteArray := prog_1_method_2_code
def y_C_change : MethodName := ⟨RK5, "change", "(IIIZ)I"⟩
abbrev b_C_step : ByteArray := prog_1_method_3_code
def y_C_step : MethodName := ⟨RK5, "step", "()I"⟩
abbrev b_C_question : ByteArray := prog_1_method_4_code
def y_C_question : MethodName := ⟨RK5, "question", "(I)I"⟩
abbrev b_C_pattern : ByteArray := prog_1_method_5_code
def y_C_pattern : MethodName := ⟨RK5, "pattern", "(IIII)I"⟩
abbrev b_C_window : ByteArray := prog_1_method_6_code
def y_C_window : MethodName := ⟨RK5, "window", "(II)I"⟩
abbrev b_C_rows : ByteArray := prog_1_method_7_code
def y_C_rows : MethodName := ⟨RK5, "rows", "(II)I"⟩
abbrev b_C_changed : ByteArray := prog_1_method_8_code
def y_C_changed : MethodName := ⟨RK5, "changed", "(IIZ)I"⟩
abbrev b_C_row : ByteArray := prog_1_method_9_code
def y_C_row : MethodName := ⟨RK5, "row", "(IIII)I"⟩
abbrev b_C_aggregate : ByteArray := prog_1_method_10_code
def y_C_aggregate : MethodName := ⟨RK5, "aggregate", "(IIII)I"⟩
abbrev b_C_late : ByteArray := prog_1_method_11_code
def y_C_late : MethodName := ⟨RK5, "late", "(IIIIZ)I"⟩
abbrev b_C_still : ByteArray := prog_1_method_12_code
def y_C_still : MethodName := ⟨RK5, "still", "(I)I"⟩
abbrev b_C_there : ByteArray := prog_1_method_13_code
def y_C_there : MethodName := ⟨RK5, "there", "(IIII)I"⟩
abbrev b_C_age : ByteArray := prog_1_method_14_code
def y_C_age : MethodName := ⟨RK5, "age", "(IIII)I"⟩
abbrev b_C_latest : ByteArray := prog_1_method_15_code
def y_C_latest : MethodName := ⟨RK5, "latest", "()I"⟩
abbrev b_C_isTriple : ByteArray := prog_1_method_16_code
def y_C_isTriple : MethodName := ⟨RK5, "isTriple", "(III)Z"⟩
abbrev b_C_tripleOf : ByteArray := prog_1_method_17_code
def y_C_tripleOf : MethodName := ⟨RK5, "tripleOf", "(III)I"⟩
abbrev b_C_isItem : ByteArray := prog_1_method_18_code
def y_C_isItem : MethodName := ⟨RK5, "isItem", "(II)Z"⟩
abbrev b_C_isWindow : ByteArray := prog_1_method_19_code
def y_C_isWindow : MethodName := ⟨RK5, "isWindow", "(I)Z"⟩
abbrev b_C_isPast : ByteArray := prog_1_method_20_code
def y_C_isPast : MethodName := ⟨RK5, "isPast", "(I)Z"⟩
abbrev b_C_find : ByteArray := prog_1_method_21_code
def y_C_find : MethodName := ⟨RK5, "find", "(I)LContinuousRows$Question;"⟩
abbrev b_C_fill : ByteArray := prog_1_method_22_code
def y_C_fill : MethodName := ⟨RK5, "fill", "(LContinuousRows$RowSet;LContinuousRows$Question;I)V"⟩
abbrev b_C_findRows : ByteArray := prog_1_method_23_code
def y_C_findRows : MethodName := ⟨RK5, "findRows", "(LContinuousRows$Question;II)LContinuousRows$RowSet;"⟩
abbrev b_C_areRowsOthers : ByteArray := prog_1_method_24_code
def y_C_areRowsOthers : MethodName := ⟨RK5, "areRowsOthers", "(IIII)Z"⟩
abbrev b_C_hasRowThrough : ByteArray := prog_1_method_25_code
def y_C_hasRowThrough : MethodName := ⟨RK5, "hasRowThrough", "(LContinuousRows$Question;II)Z"⟩
abbrev b_M_init : ByteArray := prog_8_method_1_code
def y_M_init : MethodName := ⟨RK6, "<init>", "(I)V"⟩
abbrev b_M_isTriple : ByteArray := prog_8_method_2_code
def y_M_isTriple : MethodName := ⟨RK6, "isTriple", "(III)Z"⟩
abbrev b_M_triple : ByteArray := prog_8_method_3_code
def y_M_triple : MethodName := ⟨RK6, "triple", "(III)I"⟩
abbrev b_M_isNumber : ByteArray := prog_8_method_4_code
def y_M_isNumber : MethodName := ⟨RK6, "isNumber", "(I)Z"⟩
abbrev b_M_isQuestion : ByteArray := prog_8_method_5_code
def y_M_isQuestion : MethodName := ⟨RK6, "isQuestion", "(I)Z"⟩
abbrev b_M_last : ByteArray := prog_8_method_6_code
def y_M_last : MethodName := ⟨RK6, "last", "(II)I"⟩
abbrev b_M_isThere : ByteArray := prog_8_method_7_code
def y_M_isThere : MethodName := ⟨RK6, "isThere", "(II)Z"⟩
abbrev b_M_say : ByteArray := prog_8_method_8_code
def y_M_say : MethodName := ⟨RK6, "say", "(IIZ)V"⟩
abbrev b_M_forget : ByteArray := prog_8_method_9_code
def y_M_forget : MethodName := ⟨RK6, "forget", "(II)V"⟩
abbrev b_M_change : ByteArray := prog_8_method_10_code
def y_M_change : MethodName := ⟨RK6, "change", "(IIIZ)I"⟩
abbrev b_M_step : ByteArray := prog_8_method_11_code
def y_M_step : MethodName := ⟨RK6, "step", "()I"⟩
abbrev b_M_latest : ByteArray := prog_8_method_12_code
def y_M_latest : MethodName := ⟨RK6, "latest", "()I"⟩
abbrev b_M_there : ByteArray := prog_8_method_13_code
def y_M_there : MethodName := ⟨RK6, "there", "(IIII)I"⟩
abbrev b_M_age : ByteArray := prog_8_method_14_code
def y_M_age : MethodName := ⟨RK6, "age", "(IIII)I"⟩
abbrev b_M_question : ByteArray := prog_8_method_15_code
def y_M_question : MethodName := ⟨RK6, "question", "(I)I"⟩
abbrev b_M_isItem : ByteArray := prog_8_method_16_code
def y_M_isItem : MethodName := ⟨RK6, "isItem", "(II)Z"⟩
abbrev b_M_pattern : ByteArray := prog_8_method_17_code
def y_M_pattern : MethodName := ⟨RK6, "pattern", "(IIII)I"⟩
abbrev b_M_window : ByteArray := prog_8_method_18_code
def y_M_window : MethodName := ⟨RK6, "window", "(II)I"⟩
abbrev b_M_see : ByteArray := prog_8_method_19_code
def y_M_see : MethodName := ⟨RK6, "see", "(II)V"⟩
abbrev b_M_valueOf : ByteArray := prog_8_method_20_code
def y_M_valueOf : MethodName := ⟨RK6, "valueOf", "(I)I"⟩
abbrev b_M_isRow : ByteArray := prog_8_method_21_code
def y_M_isRow : MethodName := ⟨RK6, "isRow", "(I)Z"⟩
abbrev b_M_stands : ByteArray := prog_8_method_22_code
def y_M_stands : MethodName := ⟨RK6, "stands", "(II)Z"⟩
abbrev b_M_ask : ByteArray := prog_8_method_23_code
def y_M_ask : MethodName := ⟨RK6, "ask", "(II)V"⟩
abbrev b_M_askLast : ByteArray := prog_8_method_24_code
def y_M_askLast : MethodName := ⟨RK6, "askLast", "(IIIII)V"⟩
abbrev b_M_at : ByteArray := prog_8_method_25_code
def y_M_at : MethodName := ⟨RK6, "at", "(II)I"⟩
abbrev b_M_rowsOf : ByteArray := prog_8_method_26_code
def y_M_rowsOf : MethodName := ⟨RK6, "rowsOf", "(II)I"⟩
abbrev b_M_bits : ByteArray := prog_8_method_27_code
def y_M_bits : MethodName := ⟨RK6, "bits", "(IIII)J"⟩
abbrev b_M_count : ByteArray := prog_8_method_28_code
def y_M_count : MethodName := ⟨RK6, "count", "(III)I"⟩
abbrev b_M_rows : ByteArray := prog_8_method_29_code
def y_M_rows : MethodName := ⟨RK6, "rows", "(II)I"⟩
abbrev b_M_changed : ByteArray := prog_8_method_30_code
def y_M_changed : MethodName := ⟨RK6, "changed", "(IIZ)I"⟩
abbrev b_M_row : ByteArray := prog_8_method_31_code
def y_M_row : MethodName := ⟨RK6, "row", "(IIII)I"⟩
abbrev b_M_aggregate : ByteArray := prog_8_method_32_code
def y_M_aggregate : MethodName := ⟨RK6, "aggregate", "(IIII)I"⟩
abbrev b_M_late : ByteArray := prog_8_method_33_code
def y_M_late : MethodName := ⟨RK6, "late", "(IIIIZ)I"⟩
abbrev b_M_again : ByteArray := prog_8_method_34_code
def y_M_again : MethodName := ⟨RK6, "again", "(II)Z"⟩
abbrev b_M_still : ByteArray := prog_8_method_35_code
def y_M_still : MethodName := ⟨RK6, "still", "(I)I"⟩
abbrev b_Jm_max : ByteArray := prog_10_method_65_code
def y_Jm_max : MethodName := ⟨"java/lang/Math", "max", "(II)I"⟩
abbrev b_Jm_floorMod : ByteArray := prog_10_method_50_code
def y_Jm_floorMod : MethodName := ⟨"java/lang/Math", "floorMod", "(II)I"⟩
abbrev b_Jm_min : ByteArray := prog_10_method_69_code
def y_Jm_min : MethodName := ⟨"java/lang/Math", "min", "(II)I"⟩
abbrev b_Ja_fill : ByteArray := prog_11_method_103_code
def y_Ja_fill : MethodName := ⟨"java/util/Arrays", "fill", "([II)V"⟩
abbrev b_Ji_bitCount : ByteArray := prog_9_method_49_code
def y_Ji_bitCount : MethodName := ⟨"java/lang/Integer", "bitCount", "(I)I"⟩
def zz_G : List Cond := lw_tbl.filter goodWord
theorem zz_in {w : Cond} (h : w ∈ lw_tbl) (hg : goodWord w = true) : w ∈ zz_G := List.mem_filter.mpr ⟨h, hg⟩
theorem zz_gg : GoodIn zz_G zz_G := fun w h => ⟨h, good_of_word (List.mem_filter.mp h).2⟩
theorem zz_I {c : Cond} (h : c ∈ zz_G) : GoodIn zz_G (c :: zz_G) := fun w hw => (List.mem_cons.mp hw).elim (fun e => by rw [e]; exact zz_gg _ h) (zz_gg w)
theorem zz_V {own C : String} {idx : Nat} {y : MethodName} {c : Cond} (h1 : Cond.methodLink own idx y ∈ zz_G) (h2 : Cond.instanceMethod y ∈ zz_G) (h3 : Cond.selects C y y ∈ zz_G) (h4 : Cond.initialized C ∈ zz_G) (h5 : c ∈ zz_G) : GoodIn zz_G (wsV own idx C y (c :: zz_G)) := by
  intro w hw
  unfold wsV at hw
  simp only [List.cons_append, List.nil_append, List.mem_cons] at hw
  rcases hw with e | e | e | e | e | hw
  · rw [e]; exact zz_gg _ h1
  · rw [e]; exact zz_gg _ h2
  · rw [e]; exact zz_gg _ h3
  · rw [e]; exact zz_gg _ h4
  · rw [e]; exact zz_gg _ h5
  · exact zz_gg _ hw
theorem zz_S {own : String} {idx : Nat} {y : MethodName} {c : Cond} (h1 : Cond.methodLink own idx y ∈ zz_G) (h2 : Cond.static y ∈ zz_G) (h4 : Cond.initialized y.cls ∈ zz_G) (h5 : c ∈ zz_G) : GoodIn zz_G (va_wsS own idx y (c :: zz_G)) := by
  intro w hw
  unfold va_wsS at hw
  simp only [List.cons_append, List.nil_append, List.mem_cons] at hw
  rcases hw with e | e | e | e | hw
  · rw [e]; exact zz_gg _ h1
  · rw [e]; exact zz_gg _ h2
  · rw [e]; exact zz_gg _ h4
  · rw [e]; exact zz_gg _ h5
  · exact zz_gg _ hw
abbrev w_Lg_init : List Cond := Cond.code y_Lg_init b_Lg_init 1 none :: zz_G
abbrev w_Lg_isFull : List Cond := Cond.code y_Lg_isFull b_Lg_isFull 1 (some .boolean) :: zz_G
abbrev w_Lg_say : List Cond := Cond.code y_Lg_say b_Lg_say 5 (some .int) :: zz_G
abbrev w_Lg_lastOf : List Cond := Cond.code y_Lg_lastOf b_Lg_lastOf 4 (some .int) :: zz_G
abbrev w_Lg_heldUntil : List Cond := Cond.code y_Lg_heldUntil b_Lg_heldUntil 3 (some .int) :: zz_G
abbrev w_Lg_comesAt : List Cond := Cond.code y_Lg_comesAt b_Lg_comesAt 2 (some .boolean) :: zz_G
abbrev w_Lg_numberAt : List Cond := Cond.code y_Lg_numberAt b_Lg_numberAt 2 (some .int) :: zz_G
abbrev w_Lg_shows : List Cond := Cond.code y_Lg_shows b_Lg_shows 4 (some .boolean) :: zz_G
abbrev w_Lg_isPlace : List Cond := Cond.code y_Lg_isPlace b_Lg_isPlace 2 (some .boolean) :: zz_G
abbrev w_Qu_init : List Cond := Cond.code y_Qu_init b_Qu_init 2 none :: zz_G
abbrev w_Qu_add : List Cond := Cond.code y_Qu_add b_Qu_add 4 (some .boolean) :: zz_G
abbrev w_Qu_itemAt : List Cond := Cond.code y_Qu_itemAt b_Qu_itemAt 4 (some .int) :: zz_G
abbrev w_Qu_uses : List Cond := Cond.code y_Qu_uses b_Qu_uses 2 (some .boolean) :: zz_G
abbrev w_Qu_use : List Cond := Cond.code y_Qu_use b_Qu_use 2 none :: zz_G
abbrev w_Rs_init : List Cond := Cond.code y_Rs_init b_Rs_init 2 none :: zz_G
abbrev w_Rs_clear : List Cond := Cond.code y_Rs_clear b_Rs_clear 1 none :: zz_G
abbrev w_Rs_isFull : List Cond := Cond.code y_Rs_isFull b_Rs_isFull 1 (some .boolean) :: zz_G
abbrev w_Rs_add : List Cond := Cond.code y_Rs_add b_Rs_add 3 none :: zz_G
abbrev w_Rs_removeAll : List Cond := Cond.code y_Rs_removeAll b_Rs_removeAll 6 none :: zz_G
abbrev w_Rs_isSameAs : List Cond := Cond.code y_Rs_isSameAs b_Rs_isSameAs 3 (some .boolean) :: zz_G
abbrev w_Rs_count : List Cond := Cond.code y_Rs_count b_Rs_count 3 (some .int) :: zz_G
abbrev w_Rs_keyAt : List Cond := Cond.code y_Rs_keyAt b_Rs_keyAt 5 (some .int) :: zz_G
abbrev w_Rs_sumOf : List Cond := Cond.code y_Rs_sumOf b_Rs_sumOf 7 (some .int) :: zz_G
abbrev w_Rs_leastOf : List Cond := Cond.code y_Rs_leastOf b_Rs_leastOf 3 (some .int) :: zz_G
abbrev w_Rs_greatestOf : List Cond := Cond.code y_Rs_greatestOf b_Rs_greatestOf 3 (some .int) :: zz_G
abbrev w_Rs_allValuesOf : List Cond := Cond.code y_Rs_allValuesOf b_Rs_allValuesOf 4 (some .int) :: zz_G
abbrev w_Rs_valuesOf : List Cond := Cond.code y_Rs_valuesOf b_Rs_valuesOf 3 (some .int) :: zz_G
abbrev w_Rs_bitAt : List Cond := Cond.code y_Rs_bitAt b_Rs_bitAt 4 (some .int) :: zz_G
abbrev w_Sr_init : List Cond := Cond.code y_Sr_init b_Sr_init 2 none :: zz_G
abbrev w_Sr_begin : List Cond := Cond.code y_Sr_begin b_Sr_begin 3 none :: zz_G
abbrev w_Sr_bind : List Cond := Cond.code y_Sr_bind b_Sr_bind 7 (some .boolean) :: zz_G
abbrev w_Sr_run : List Cond := Cond.code y_Sr_run b_Sr_run 4 none :: zz_G
abbrev w_Sr_narrow : List Cond := Cond.code y_Sr_narrow b_Sr_narrow 13 (some .boolean) :: zz_G
abbrev w_Sr_extend : List Cond := Cond.code y_Sr_extend b_Sr_extend 7 none :: zz_G
abbrev w_Sr_filter : List Cond := Cond.code y_Sr_filter b_Sr_filter 11 (some .int) :: zz_G
abbrev w_Sr_valueOf : List Cond := Cond.code y_Sr_valueOf b_Sr_valueOf 3 (some .int) :: zz_G
abbrev w_Sr_allowed : List Cond := Cond.code y_Sr_allowed b_Sr_allowed 3 (some .int) :: zz_G
abbrev w_Sr_keep : List Cond := Cond.code y_Sr_keep b_Sr_keep 4 (some .boolean) :: zz_G
abbrev w_Se_init : List Cond := Cond.code y_Se_init b_Se_init 1 none :: zz_G
abbrev w_Se_read : List Cond := Cond.code y_Se_read b_Se_read 5 none :: zz_G
abbrev w_Se_put : List Cond := Cond.code y_Se_put b_Se_put 5 none :: zz_G
abbrev w_Se_objectsOf : List Cond := Cond.code y_Se_objectsOf b_Se_objectsOf 3 (some .int) :: zz_G
abbrev w_C_init : List Cond := Cond.code y_C_init b_C_init 2 none :: zz_G
abbrev w_C_change : List Cond := Cond.code y_C_change b_C_change 7 (some .int) :: zz_G
abbrev w_C_step : List Cond := Cond.code y_C_step b_C_step 1 (some .int) :: zz_G
abbrev w_C_question : List Cond := Cond.code y_C_question b_C_question 2 (some .int) :: zz_G
abbrev w_C_pattern : List Cond := Cond.code y_C_pattern b_C_pattern 6 (some .int) :: zz_G
abbrev w_C_window : List Cond := Cond.code y_C_window b_C_window 5 (some .int) :: zz_G
abbrev w_C_rows : List Cond := Cond.code y_C_rows b_C_rows 4 (some .int) :: zz_G
abbrev w_C_changed : List Cond := Cond.code y_C_changed b_C_changed 5 (some .int) :: zz_G
abbrev w_C_row : List Cond := Cond.code y_C_row b_C_row 6 (some .int) :: zz_G
abbrev w_C_aggregate : List Cond := Cond.code y_C_aggregate b_C_aggregate 7 (some .int) :: zz_G
abbrev w_C_late : List Cond := Cond.code y_C_late b_C_late 12 (some .int) :: zz_G
abbrev w_C_still : List Cond := Cond.code y_C_still b_C_still 4 (some .int) :: zz_G
abbrev w_C_there : List Cond := Cond.code y_C_there b_C_there 5 (some .int) :: zz_G
abbrev w_C_age : List Cond := Cond.code y_C_age b_C_age 6 (some .int) :: zz_G
abbrev w_C_latest : List Cond := Cond.code y_C_latest b_C_latest 1 (some .int) :: zz_G
abbrev w_C_isTriple : List Cond := Cond.code y_C_isTriple b_C_isTriple 3 (some .boolean) :: zz_G
abbrev w_C_tripleOf : List Cond := Cond.code y_C_tripleOf b_C_tripleOf 3 (some .int) :: zz_G
abbrev w_C_isItem : List Cond := Cond.code y_C_isItem b_C_isItem 2 (some .boolean) :: zz_G
abbrev w_C_isWindow : List Cond := Cond.code y_C_isWindow b_C_isWindow 1 (some .boolean) :: zz_G
abbrev w_C_isPast : List Cond := Cond.code y_C_isPast b_C_isPast 2 (some .boolean) :: zz_G
abbrev w_C_find : List Cond := Cond.code y_C_find b_C_find 2 (some (.object "ContinuousRows$Question")) :: zz_G
abbrev w_C_fill : List Cond := Cond.code y_C_fill b_C_fill 4 none :: zz_G
abbrev w_C_findRows : List Cond := Cond.code y_C_findRows b_C_findRows 4 (some (.object "ContinuousRows$RowSet")) :: zz_G
abbrev w_C_areRowsOthers : List Cond := Cond.code y_C_areRowsOthers b_C_areRowsOthers 7 (some .boolean) :: zz_G
abbrev w_C_hasRowThrough : List Cond := Cond.code y_C_hasRowThrough b_C_hasRowThrough 5 (some .boolean) :: zz_G
abbrev w_M_init : List Cond := Cond.code y_M_init b_M_init 3 none :: zz_G
abbrev w_M_isTriple : List Cond := Cond.code y_M_isTriple b_M_isTriple 3 (some .boolean) :: zz_G
abbrev w_M_triple : List Cond := Cond.code y_M_triple b_M_triple 3 (some .int) :: zz_G
abbrev w_M_isNumber : List Cond := Cond.code y_M_isNumber b_M_isNumber 2 (some .boolean) :: zz_G
abbrev w_M_isQuestion : List Cond := Cond.code y_M_isQuestion b_M_isQuestion 2 (some .boolean) :: zz_G
abbrev w_M_last : List Cond := Cond.code y_M_last b_M_last 5 (some .int) :: zz_G
abbrev w_M_isThere : List Cond := Cond.code y_M_isThere b_M_isThere 4 (some .boolean) :: zz_G
abbrev w_M_say : List Cond := Cond.code y_M_say b_M_say 4 none :: zz_G
abbrev w_M_forget : List Cond := Cond.code y_M_forget b_M_forget 4 none :: zz_G
abbrev w_M_change : List Cond := Cond.code y_M_change b_M_change 7 (some .int) :: zz_G
abbrev w_M_step : List Cond := Cond.code y_M_step b_M_step 1 (some .int) :: zz_G
abbrev w_M_latest : List Cond := Cond.code y_M_latest b_M_latest 1 (some .int) :: zz_G
abbrev w_M_there : List Cond := Cond.code y_M_there b_M_there 5 (some .int) :: zz_G
abbrev w_M_age : List Cond := Cond.code y_M_age b_M_age 5 (some .int) :: zz_G
abbrev w_M_question : List Cond := Cond.code y_M_question b_M_question 2 (some .int) :: zz_G
abbrev w_M_isItem : List Cond := Cond.code y_M_isItem b_M_isItem 2 (some .boolean) :: zz_G
abbrev w_M_pattern : List Cond := Cond.code y_M_pattern b_M_pattern 6 (some .int) :: zz_G
abbrev w_M_window : List Cond := Cond.code y_M_window b_M_window 4 (some .int) :: zz_G
abbrev w_M_see : List Cond := Cond.code y_M_see b_M_see 5 none :: zz_G
abbrev w_M_valueOf : List Cond := Cond.code y_M_valueOf b_M_valueOf 2 (some .int) :: zz_G
abbrev w_M_isRow : List Cond := Cond.code y_M_isRow b_M_isRow 5 (some .boolean) :: zz_G
abbrev w_M_stands : List Cond := Cond.code y_M_stands b_M_stands 5 (some .boolean) :: zz_G
abbrev w_M_ask : List Cond := Cond.code y_M_ask b_M_ask 10 none :: zz_G
abbrev w_M_askLast : List Cond := Cond.code y_M_askLast b_M_askLast 8 none :: zz_G
abbrev w_M_at : List Cond := Cond.code y_M_at b_M_at 3 (some .int) :: zz_G
abbrev w_M_rowsOf : List Cond := Cond.code y_M_rowsOf b_M_rowsOf 5 (some .int) :: zz_G
abbrev w_M_bits : List Cond := Cond.code y_M_bits b_M_bits 9 (some .long) :: zz_G
abbrev w_M_count : List Cond := Cond.code y_M_count b_M_count 8 (some .int) :: zz_G
abbrev w_M_rows : List Cond := Cond.code y_M_rows b_M_rows 3 (some .int) :: zz_G
abbrev w_M_changed : List Cond := Cond.code y_M_changed b_M_changed 4 (some .int) :: zz_G
abbrev w_M_row : List Cond := Cond.code y_M_row b_M_row 10 (some .int) :: zz_G
abbrev w_M_aggregate : List Cond := Cond.code y_M_aggregate b_M_aggregate 13 (some .int) :: zz_G
abbrev w_M_late : List Cond := Cond.code y_M_late b_M_late 10 (some .int) :: zz_G
abbrev w_M_again : List Cond := Cond.code y_M_again b_M_again 6 (some .boolean) :: zz_G
abbrev w_M_still : List Cond := Cond.code y_M_still b_M_still 7 (some .int) :: zz_G
abbrev w_Jm_max : List Cond := Cond.code y_Jm_max b_Jm_max 2 (some .int) :: zz_G
abbrev w_Jm_floorMod : List Cond := Cond.code y_Jm_floorMod b_Jm_floorMod 3 (some .int) :: zz_G
abbrev w_Jm_min : List Cond := Cond.code y_Jm_min b_Jm_min 2 (some .int) :: zz_G
abbrev w_Ja_fill : List Cond := Cond.code y_Ja_fill b_Ja_fill 4 none :: zz_G
abbrev w_Ji_bitCount : List Cond := Cond.code y_Ji_bitCount b_Ji_bitCount 1 (some .int) :: zz_G
theorem iwK0 : ∀ w ∈ u_ws RK0 TK0 4, w ∈ zz_G := by
  have h : ∀ w ∈ u_ws RK0 TK0 4, w ∈ tables_1 ∧ goodWord w = true := by decide +kernel
  exact fun w hw => zz_in (List.mem_append_right _ (h w hw).1) (h w hw).2
theorem iwK1 : ∀ w ∈ u_ws RK1 TK1 1, w ∈ zz_G := by
  have h : ∀ w ∈ u_ws RK1 TK1 1, w ∈ tables_1 ∧ goodWord w = true := by decide +kernel
  exact fun w hw => zz_in (List.mem_append_right _ (h w hw).1) (h w hw).2
theorem iwK2 : ∀ w ∈ u_ws RK2 TK2 5, w ∈ zz_G := by
  have h : ∀ w ∈ u_ws RK2 TK2 5, w ∈ tables_1 ∧ goodWord w = true := by decide +kernel
  exact fun w hw => zz_in (List.mem_append_right _ (h w hw).1) (h w hw).2
theorem iwK3 : ∀ w ∈ u_ws RK3 TK3 3, w ∈ zz_G := by
  have h : ∀ w ∈ u_ws RK3 TK3 3, w ∈ tables_1 ∧ goodWord w = true := by decide +kernel
  exact fun w hw => zz_in (List.mem_append_right _ (h w hw).1) (h w hw).2
theorem iwK4 : ∀ w ∈ u_ws RK4 TK4 2, w ∈ zz_G := by
  have h : ∀ w ∈ u_ws RK4 TK4 2, w ∈ tables_1 ∧ goodWord w = true := by decide +kernel
  exact fun w hw => zz_in (List.mem_append_right _ (h w hw).1) (h w hw).2
theorem iwK5 : ∀ w ∈ u_ws RK5 TK5 10, w ∈ zz_G := by
  have h : ∀ w ∈ u_ws RK5 TK5 10, w ∈ tables_1 ∧ goodWord w = true := by decide +kernel
  exact fun w hw => zz_in (List.mem_append_right _ (h w hw).1) (h w hw).2
theorem iwK6 : ∀ w ∈ u_ws RK6 TK6 16, w ∈ zz_G := by
  have h : ∀ w ∈ u_ws RK6 TK6 16, w ∈ tables_1 ∧ goodWord w = true := by decide +kernel
  exact fun w hw => zz_in (List.mem_append_right _ (h w hw).1) (h w hw).2
end
section
theorem ac_int : Cond.arrayClass .int ∈ zz_G := zz_in (List.mem_append_right _ (List.mem_append_left _ (List.mem_of_getElem? (i := 41) (by decide +kernel)))) rfl
theorem ac_boolean : Cond.arrayClass .boolean ∈ zz_G := zz_in (List.mem_append_right _ (List.mem_append_left _ (List.mem_of_getElem? (i := 42) (by decide +kernel)))) rfl
theorem ac_long : Cond.arrayClass .long ∈ zz_G := zz_in (List.mem_append_right _ (List.mem_append_right _ (List.mem_append_left _ (List.mem_of_getElem? (i := 222) (by decide +kernel))))) rfl
theorem im_Obj : Cond.instanceMethod objectInit ∈ zz_G := zz_in (List.mem_append_right _ (List.mem_append_left _ (List.mem_of_getElem? (i := 17) (by decide +kernel)))) rfl
theorem co_Obj : Cond.code objectInit ⟨#[0xb1]⟩ 1 none ∈ zz_G := zz_in (List.mem_append_right _ (List.mem_append_left _ (List.mem_of_getElem? (i := 18) rfl))) rfl
theorem fl_Lg_22 : Cond.fieldLink "ContinuousRows$Log" 22 "ContinuousRows$Log" "size" "I" ∈ zz_G := zz_in (List.mem_append_right _ (List.mem_append_left _ (List.mem_of_getElem? (i := 30) (by decide +kernel)))) rfl
theorem ml_Lg_26 : Cond.methodLink "ContinuousRows$Log" 26 y_Lg_isFull ∈ zz_G := zz_in (List.mem_append_right _ (List.mem_append_left _ (List.mem_of_getElem? (i := 152) (by decide +kernel)))) rfl
theorem im_Lg_isFull : Cond.instanceMethod y_Lg_isFull ∈ zz_G := zz_in (List.mem_append_right _ (List.mem_append_left _ (List.mem_of_getElem? (i := 130) (by decide +kernel)))) rfl
theorem se_Lg_isFull : Cond.selects "ContinuousRows$Log" y_Lg_isFull y_Lg_isFull ∈ zz_G := zz_in (List.mem_append_right _ (List.mem_append_left _ (List.mem_of_getElem? (i := 131) (by decide +kernel)))) rfl
theorem in_Lg : Cond.initialized "ContinuousRows$Log" ∈ zz_G := zz_in (List.mem_append_right _ (List.mem_append_left _ (List.mem_of_getElem? (i := 2) (by decide +kernel)))) rfl
theorem co_Lg_isFull : Cond.code y_Lg_isFull b_Lg_isFull 1 (some .boolean) ∈ zz_G := zz_in (List.mem_append_right _ (List.mem_append_left _ (List.mem_of_getElem? (i := 132) rfl))) rfl
theorem hd_Lg_isFull : y_Lg_isFull.cls ≠ "java/lang/invoke/MethodHandle" ∧ y_Lg_isFull.cls ≠ "java/lang/invoke/VarHandle" ∧ (parseMethodDescriptor y_Lg_isFull.desc).map (fun d => d.parameters.length) = some 0 := by decide +kernel
theorem fl_Lg_9 : Cond.fieldLink "ContinuousRows$Log" 9 "ContinuousRows$Log" "saidAt" "[I" ∈ zz_G := zz_in (List.mem_append_right _ (List.mem_append_left _ (List.mem_of_getElem? (i := 25) (by decide +kernel)))) rfl
theorem fl_Lg_15 : Cond.fieldLink "ContinuousRows$Log" 15 "ContinuousRows$Log" "triples" "[I" ∈ zz_G := zz_in (List.mem_append_right _ (List.mem_append_left _ (List.mem_of_getElem? (i := 27) (by decide +kernel)))) rfl
theorem fl_Lg_18 : Cond.fieldLink "ContinuousRows$Log" 18 "ContinuousRows$Log" "comes" "[Z" ∈ zz_G := zz_in (List.mem_append_right _ (List.mem_append_left _ (List.mem_of_getElem? (i := 29) (by decide +kernel)))) rfl
theorem fl_Qu_22 : Cond.fieldLink "ContinuousRows$Question" 22 "ContinuousRows$Question" "patterns" "I" ∈ zz_G := zz_in (List.mem_append_right _ (List.mem_append_left _ (List.mem_of_getElem? (i := 174) (by decide +kernel)))) rfl
theorem fl_Qu_9 : Cond.fieldLink "ContinuousRows$Question" 9 "ContinuousRows$Question" "items" "[I" ∈ zz_G := zz_in (List.mem_append_right _ (List.mem_append_left _ (List.mem_of_getElem? (i := 169) (by decide +kernel)))) rfl
theorem fl_Qu_15 : Cond.fieldLink "ContinuousRows$Question" 15 "ContinuousRows$Question" "lastVariables" "[I" ∈ zz_G := zz_in (List.mem_append_right _ (List.mem_append_left _ (List.mem_of_getElem? (i := 170) (by decide +kernel)))) rfl
theorem fl_Qu_35 : Cond.fieldLink "ContinuousRows$Question" 35 "ContinuousRows$Question" "variables" "I" ∈ zz_G := zz_in (List.mem_append_right _ (List.mem_append_left _ (List.mem_of_getElem? (i := 177) (by decide +kernel)))) rfl
theorem fl_Rs_21 : Cond.fieldLink "ContinuousRows$RowSet" 21 "ContinuousRows$RowSet" "size" "I" ∈ zz_G := zz_in (List.mem_append_right _ (List.mem_append_left _ (List.mem_of_getElem? (i := 81) (by decide +kernel)))) rfl
theorem fl_Rs_15 : Cond.fieldLink "ContinuousRows$RowSet" 15 "ContinuousRows$RowSet" "words" "[I" ∈ zz_G := zz_in (List.mem_append_right _ (List.mem_append_left _ (List.mem_of_getElem? (i := 80) (by decide +kernel)))) rfl
theorem ml_Rs_25 : Cond.methodLink "ContinuousRows$RowSet" 25 y_Rs_isFull ∈ zz_G := zz_in (List.mem_append_right _ (List.mem_append_right _ (List.mem_append_left _ (List.mem_of_getElem? (i := 59) (by decide +kernel))))) rfl
theorem im_Rs_isFull : Cond.instanceMethod y_Rs_isFull ∈ zz_G := zz_in (List.mem_append_right _ (List.mem_append_right _ (List.mem_append_left _ (List.mem_of_getElem? (i := 60) (by decide +kernel))))) rfl
theorem se_Rs_isFull : Cond.selects "ContinuousRows$RowSet" y_Rs_isFull y_Rs_isFull ∈ zz_G := zz_in (List.mem_append_right _ (List.mem_append_right _ (List.mem_append_left _ (List.mem_of_getElem? (i := 61) (by decide +kernel))))) rfl
theorem in_Rs : Cond.initialized "ContinuousRows$RowSet" ∈ zz_G := zz_in (List.mem_append_right _ (List.mem_append_left _ (List.mem_of_getElem? (i := 5) (by decide +kernel)))) rfl
theorem co_Rs_isFull : Cond.code y_Rs_isFull b_Rs_isFull 1 (some .boolean) ∈ zz_G := zz_in (List.mem_append_right _ (List.mem_append_right _ (List.mem_append_left _ (List.mem_of_getElem? (i := 62) rfl)))) rfl
theorem hd_Rs_isFull : y_Rs_isFull.cls ≠ "java/lang/invoke/MethodHandle" ∧ y_Rs_isFull.cls ≠ "java/lang/invoke/VarHandle" ∧ (parseMethodDescriptor y_Rs_isFull.desc).map (fun d => d.parameters.length) = some 0 := by decide +kernel
theorem kn_Rs_29 : Cond.constant "ContinuousRows$RowSet" 29 (65535) ∈ zz_G := zz_in (List.mem_append_right _ (List.mem_append_right _ (List.mem_append_left _ (List.mem_of_getElem? (i := 68) (by decide +kernel))))) rfl
theorem fl_Sr_9 : Cond.fieldLink "ContinuousRows$Search" 9 "ContinuousRows$Search" "open" "[I" ∈ zz_G := zz_in (List.mem_append_right _ (List.mem_append_left _ (List.mem_of_getElem? (i := 62) (by decide +kernel)))) rfl
theorem ml_Sr_22 : Cond.methodLink "ContinuousRows$Search" 22 y_Qu_uses ∈ zz_G := zz_in (List.mem_append_right _ (List.mem_append_right _ (List.mem_append_left _ (List.mem_of_getElem? (i := 14) (by decide +kernel))))) rfl
theorem im_Qu_uses : Cond.instanceMethod y_Qu_uses ∈ zz_G := zz_in (List.mem_append_right _ (List.mem_append_right _ (List.mem_append_left _ (List.mem_of_getElem? (i := 15) (by decide +kernel))))) rfl
theorem se_Qu_uses : Cond.selects "ContinuousRows$Question" y_Qu_uses y_Qu_uses ∈ zz_G := zz_in (List.mem_append_right _ (List.mem_append_right _ (List.mem_append_left _ (List.mem_of_getElem? (i := 16) (by decide +kernel))))) rfl
theorem in_Qu : Cond.initialized "ContinuousRows$Question" ∈ zz_G := zz_in (List.mem_append_right _ (List.mem_append_left _ (List.mem_of_getElem? (i := 8) (by decide +kernel)))) rfl
theorem co_Qu_uses : Cond.code y_Qu_uses b_Qu_uses 2 (some .boolean) ∈ zz_G := zz_in (List.mem_append_right _ (List.mem_append_right _ (List.mem_append_left _ (List.mem_of_getElem? (i := 17) rfl)))) rfl
theorem hd_Qu_uses : y_Qu_uses.cls ≠ "java/lang/invoke/MethodHandle" ∧ y_Qu_uses.cls ≠ "java/lang/invoke/VarHandle" ∧ (parseMethodDescriptor y_Qu_uses.desc).map (fun d => d.parameters.length) = some 1 := by decide +kernel
theorem kn_Sr_28 : Cond.constant "ContinuousRows$Search" 28 (65535) ∈ zz_G := zz_in (List.mem_append_right _ (List.mem_append_right _ (List.mem_append_left _ (List.mem_of_getElem? (i := 18) (by decide +kernel))))) rfl
theorem ml_Sr_29 : Cond.methodLink "ContinuousRows$Search" 29 y_Qu_itemAt ∈ zz_G := zz_in (List.mem_append_right _ (List.mem_append_right _ (List.mem_append_left _ (List.mem_of_getElem? (i := 23) (by decide +kernel))))) rfl
theorem im_Qu_itemAt : Cond.instanceMethod y_Qu_itemAt ∈ zz_G := zz_in (List.mem_append_right _ (List.mem_append_right _ (List.mem_append_left _ (List.mem_of_getElem? (i := 24) (by decide +kernel))))) rfl
theorem se_Qu_itemAt : Cond.selects "ContinuousRows$Question" y_Qu_itemAt y_Qu_itemAt ∈ zz_G := zz_in (List.mem_append_right _ (List.mem_append_right _ (List.mem_append_left _ (List.mem_of_getElem? (i := 25) (by decide +kernel))))) rfl
theorem co_Qu_itemAt : Cond.code y_Qu_itemAt b_Qu_itemAt 4 (some .int) ∈ zz_G := zz_in (List.mem_append_right _ (List.mem_append_right _ (List.mem_append_left _ (List.mem_of_getElem? (i := 26) rfl)))) rfl
theorem hd_Qu_itemAt : y_Qu_itemAt.cls ≠ "java/lang/invoke/MethodHandle" ∧ y_Qu_itemAt.cls ≠ "java/lang/invoke/VarHandle" ∧ (parseMethodDescriptor y_Qu_itemAt.desc).map (fun d => d.parameters.length) = some 2 := by decide +kernel
theorem fl_Sr_37 : Cond.fieldLink "ContinuousRows$Search" 37 "ContinuousRows$Question" "patterns" "I" ∈ zz_G := zz_in (List.mem_append_right _ (List.mem_append_left _ (List.mem_of_getElem? (i := 175) (by decide +kernel)))) rfl
theorem ml_Sr_65 : Cond.methodLink "ContinuousRows$Search" 65 y_Rs_add ∈ zz_G := zz_in (List.mem_append_right _ (List.mem_append_right _ (List.mem_append_left _ (List.mem_of_getElem? (i := 55) (by decide +kernel))))) rfl
theorem im_Rs_add : Cond.instanceMethod y_Rs_add ∈ zz_G := zz_in (List.mem_append_right _ (List.mem_append_right _ (List.mem_append_left _ (List.mem_of_getElem? (i := 56) (by decide +kernel))))) rfl
theorem se_Rs_add : Cond.selects "ContinuousRows$RowSet" y_Rs_add y_Rs_add ∈ zz_G := zz_in (List.mem_append_right _ (List.mem_append_right _ (List.mem_append_left _ (List.mem_of_getElem? (i := 57) (by decide +kernel))))) rfl
theorem co_Rs_add : Cond.code y_Rs_add b_Rs_add 3 none ∈ zz_G := zz_in (List.mem_append_right _ (List.mem_append_right _ (List.mem_append_left _ (List.mem_of_getElem? (i := 58) rfl)))) rfl
theorem hd_Rs_add : y_Rs_add.cls ≠ "java/lang/invoke/MethodHandle" ∧ y_Rs_add.cls ≠ "java/lang/invoke/VarHandle" ∧ (parseMethodDescriptor y_Rs_add.desc).map (fun d => d.parameters.length) = some 2 := by decide +kernel
theorem fl_Sr_58 : Cond.fieldLink "ContinuousRows$Search" 58 "ContinuousRows$Question" "lastVariables" "[I" ∈ zz_G := zz_in (List.mem_append_right _ (List.mem_append_left _ (List.mem_of_getElem? (i := 171) (by decide +kernel)))) rfl
theorem fl_Sr_18 : Cond.fieldLink "ContinuousRows$Search" 18 "ContinuousRows$Search" "seen" "LContinuousRows$Seen;" ∈ zz_G := zz_in (List.mem_append_right _ (List.mem_append_left _ (List.mem_of_getElem? (i := 61) (by decide +kernel)))) rfl
theorem fl_Sr_15 : Cond.fieldLink "ContinuousRows$Search" 15 "ContinuousRows$Search" "values" "[I" ∈ zz_G := zz_in (List.mem_append_right _ (List.mem_append_left _ (List.mem_of_getElem? (i := 63) (by decide +kernel)))) rfl
theorem ml_Sr_49 : Cond.methodLink "ContinuousRows$Search" 49 y_Sr_allowed ∈ zz_G := zz_in (List.mem_append_right _ (List.mem_append_right _ (List.mem_append_left _ (List.mem_of_getElem? (i := 31) (by decide +kernel))))) rfl
theorem im_Sr_allowed : Cond.instanceMethod y_Sr_allowed ∈ zz_G := zz_in (List.mem_append_right _ (List.mem_append_right _ (List.mem_append_left _ (List.mem_of_getElem? (i := 33) (by decide +kernel))))) rfl
theorem se_Sr_allowed : Cond.selects "ContinuousRows$Search" y_Sr_allowed y_Sr_allowed ∈ zz_G := zz_in (List.mem_append_left _ (List.mem_of_getElem? (i := 7) (by decide +kernel))) rfl
theorem in_Sr : Cond.initialized "ContinuousRows$Search" ∈ zz_G := zz_in (List.mem_append_right _ (List.mem_append_left _ (List.mem_of_getElem? (i := 4) (by decide +kernel)))) rfl
theorem co_Sr_allowed : Cond.code y_Sr_allowed b_Sr_allowed 3 (some .int) ∈ zz_G := zz_in (List.mem_append_right _ (List.mem_append_right _ (List.mem_append_left _ (List.mem_of_getElem? (i := 34) rfl)))) rfl
theorem hd_Sr_allowed : y_Sr_allowed.cls ≠ "java/lang/invoke/MethodHandle" ∧ y_Sr_allowed.cls ≠ "java/lang/invoke/VarHandle" ∧ (parseMethodDescriptor y_Sr_allowed.desc).map (fun d => d.parameters.length) = some 1 := by decide +kernel
theorem fl_Se_9 : Cond.fieldLink "ContinuousRows$Seen" 9 "ContinuousRows$Seen" "objects" "[I" ∈ zz_G := zz_in (List.mem_append_right _ (List.mem_append_left _ (List.mem_of_getElem? (i := 51) (by decide +kernel)))) rfl
theorem fl_C_75 : Cond.fieldLink "ContinuousRows" 75 "ContinuousRows" "latestNumber" "I" ∈ zz_G := zz_in (List.mem_append_right _ (List.mem_append_left _ (List.mem_of_getElem? (i := 99) (by decide +kernel)))) rfl
theorem fl_C_59 : Cond.fieldLink "ContinuousRows" 59 "ContinuousRows" "numbers" "I" ∈ zz_G := zz_in (List.mem_append_right _ (List.mem_append_left _ (List.mem_of_getElem? (i := 91) (by decide +kernel)))) rfl
theorem fl_C_92 : Cond.fieldLink "ContinuousRows" 92 "ContinuousRows" "questionCount" "I" ∈ zz_G := zz_in (List.mem_append_right _ (List.mem_append_left _ (List.mem_of_getElem? (i := 100) (by decide +kernel)))) rfl
theorem fl_C_18 : Cond.fieldLink "ContinuousRows" 18 "ContinuousRows" "questions" "[LContinuousRows$Question;" ∈ zz_G := zz_in (List.mem_append_right _ (List.mem_append_left _ (List.mem_of_getElem? (i := 93) (by decide +kernel)))) rfl
theorem ml_C_155 : Cond.methodLink "ContinuousRows" 155 y_Rs_clear ∈ zz_G := zz_in (List.mem_append_right _ (List.mem_append_left _ (List.mem_of_getElem? (i := 231) (by decide +kernel)))) rfl
theorem im_Rs_clear : Cond.instanceMethod y_Rs_clear ∈ zz_G := zz_in (List.mem_append_right _ (List.mem_append_left _ (List.mem_of_getElem? (i := 232) (by decide +kernel)))) rfl
theorem se_Rs_clear : Cond.selects "ContinuousRows$RowSet" y_Rs_clear y_Rs_clear ∈ zz_G := zz_in (List.mem_append_right _ (List.mem_append_left _ (List.mem_of_getElem? (i := 233) (by decide +kernel)))) rfl
theorem co_Rs_clear : Cond.code y_Rs_clear b_Rs_clear 1 none ∈ zz_G := zz_in (List.mem_append_right _ (List.mem_append_left _ (List.mem_of_getElem? (i := 234) rfl))) rfl
theorem hd_Rs_clear : y_Rs_clear.cls ≠ "java/lang/invoke/MethodHandle" ∧ y_Rs_clear.cls ≠ "java/lang/invoke/VarHandle" ∧ (parseMethodDescriptor y_Rs_clear.desc).map (fun d => d.parameters.length) = some 0 := by decide +kernel
theorem fl_C_25 : Cond.fieldLink "ContinuousRows" 25 "ContinuousRows" "seen" "LContinuousRows$Seen;" ∈ zz_G := zz_in (List.mem_append_right _ (List.mem_append_left _ (List.mem_of_getElem? (i := 94) (by decide +kernel)))) rfl
theorem fl_C_12 : Cond.fieldLink "ContinuousRows" 12 "ContinuousRows" "log" "LContinuousRows$Log;" ∈ zz_G := zz_in (List.mem_append_right _ (List.mem_append_left _ (List.mem_of_getElem? (i := 92) (by decide +kernel)))) rfl
theorem fl_C_110 : Cond.fieldLink "ContinuousRows" 110 "ContinuousRows$Question" "width" "I" ∈ zz_G := zz_in (List.mem_append_right _ (List.mem_append_left _ (List.mem_of_getElem? (i := 173) (by decide +kernel)))) rfl
theorem fl_C_43 : Cond.fieldLink "ContinuousRows" 43 "ContinuousRows" "rowsThen" "LContinuousRows$RowSet;" ∈ zz_G := zz_in (List.mem_append_right _ (List.mem_append_left _ (List.mem_of_getElem? (i := 96) (by decide +kernel)))) rfl
theorem fl_C_107 : Cond.fieldLink "ContinuousRows" 107 "ContinuousRows$Question" "patterns" "I" ∈ zz_G := zz_in (List.mem_append_right _ (List.mem_append_left _ (List.mem_of_getElem? (i := 176) (by decide +kernel)))) rfl
theorem fl_C_34 : Cond.fieldLink "ContinuousRows" 34 "ContinuousRows" "search" "LContinuousRows$Search;" ∈ zz_G := zz_in (List.mem_append_right _ (List.mem_append_left _ (List.mem_of_getElem? (i := 95) (by decide +kernel)))) rfl
theorem ml_C_162 : Cond.methodLink "ContinuousRows" 162 y_Sr_begin ∈ zz_G := zz_in (List.mem_append_right _ (List.mem_append_right _ (List.mem_append_left _ (List.mem_of_getElem? (i := 10) (by decide +kernel))))) rfl
theorem im_Sr_begin : Cond.instanceMethod y_Sr_begin ∈ zz_G := zz_in (List.mem_append_right _ (List.mem_append_right _ (List.mem_append_left _ (List.mem_of_getElem? (i := 11) (by decide +kernel))))) rfl
theorem se_Sr_begin : Cond.selects "ContinuousRows$Search" y_Sr_begin y_Sr_begin ∈ zz_G := zz_in (List.mem_append_right _ (List.mem_append_right _ (List.mem_append_left _ (List.mem_of_getElem? (i := 12) (by decide +kernel))))) rfl
theorem co_Sr_begin : Cond.code y_Sr_begin b_Sr_begin 3 none ∈ zz_G := zz_in (List.mem_append_right _ (List.mem_append_right _ (List.mem_append_left _ (List.mem_of_getElem? (i := 13) rfl)))) rfl
theorem hd_Sr_begin : y_Sr_begin.cls ≠ "java/lang/invoke/MethodHandle" ∧ y_Sr_begin.cls ≠ "java/lang/invoke/VarHandle" ∧ (parseMethodDescriptor y_Sr_begin.desc).map (fun d => d.parameters.length) = some 1 := by decide +kernel
theorem fl_M_53 : Cond.fieldLink "ContinuousRowsModel" 53 "ContinuousRowsModel" "latest" "I" ∈ zz_G := zz_in (List.mem_append_right _ (List.mem_append_right _ (List.mem_append_left _ (List.mem_of_getElem? (i := 174) (by decide +kernel))))) rfl
theorem fl_M_56 : Cond.fieldLink "ContinuousRowsModel" 56 "ContinuousRowsModel" "questions" "I" ∈ zz_G := zz_in (List.mem_append_right _ (List.mem_append_right _ (List.mem_append_left _ (List.mem_of_getElem? (i := 182) (by decide +kernel))))) rfl
theorem fl_M_59 : Cond.fieldLink "ContinuousRowsModel" 59 "ContinuousRowsModel" "said" "I" ∈ zz_G := zz_in (List.mem_append_right _ (List.mem_append_right _ (List.mem_append_left _ (List.mem_of_getElem? (i := 178) (by decide +kernel))))) rfl
theorem fl_M_13 : Cond.fieldLink "ContinuousRowsModel" 13 "ContinuousRowsModel" "triples" "[I" ∈ zz_G := zz_in (List.mem_append_right _ (List.mem_append_right _ (List.mem_append_left _ (List.mem_of_getElem? (i := 176) (by decide +kernel))))) rfl
theorem fl_M_7 : Cond.fieldLink "ContinuousRowsModel" 7 "ContinuousRowsModel" "when" "[I" ∈ zz_G := zz_in (List.mem_append_right _ (List.mem_append_right _ (List.mem_append_left _ (List.mem_of_getElem? (i := 175) (by decide +kernel))))) rfl
theorem ml_M_62 : Cond.methodLink "ContinuousRowsModel" 62 y_M_last ∈ zz_G := zz_in (List.mem_append_right _ (List.mem_append_right _ (List.mem_append_left _ (List.mem_of_getElem? (i := 237) (by decide +kernel))))) rfl
theorem im_M_last : Cond.instanceMethod y_M_last ∈ zz_G := zz_in (List.mem_append_right _ (List.mem_append_right _ (List.mem_append_left _ (List.mem_of_getElem? (i := 239) (by decide +kernel))))) rfl
theorem se_M_last : Cond.selects "ContinuousRowsModel" y_M_last y_M_last ∈ zz_G := zz_in (List.mem_append_left _ (List.mem_of_getElem? (i := 16) (by decide +kernel))) rfl
theorem in_M : Cond.initialized "ContinuousRowsModel" ∈ zz_G := zz_in (List.mem_append_right _ (List.mem_append_left _ (List.mem_of_getElem? (i := 7) (by decide +kernel)))) rfl
theorem co_M_last : Cond.code y_M_last b_M_last 5 (some .int) ∈ zz_G := zz_in (List.mem_append_right _ (List.mem_append_right _ (List.mem_append_right _ (List.mem_of_getElem? (i := 0) rfl)))) rfl
theorem hd_M_last : y_M_last.cls ≠ "java/lang/invoke/MethodHandle" ∧ y_M_last.cls ≠ "java/lang/invoke/VarHandle" ∧ (parseMethodDescriptor y_M_last.desc).map (fun d => d.parameters.length) = some 2 := by decide +kernel
theorem fl_M_16 : Cond.fieldLink "ContinuousRowsModel" 16 "ContinuousRowsModel" "comes" "[Z" ∈ zz_G := zz_in (List.mem_append_right _ (List.mem_append_right _ (List.mem_append_left _ (List.mem_of_getElem? (i := 177) (by decide +kernel))))) rfl
theorem fl_M_34 : Cond.fieldLink "ContinuousRowsModel" 34 "ContinuousRowsModel" "known" "[Z" ∈ zz_G := zz_in (List.mem_append_right _ (List.mem_append_right _ (List.mem_append_left _ (List.mem_of_getElem? (i := 184) (by decide +kernel))))) rfl
theorem ml_M_66 : Cond.methodLink "ContinuousRowsModel" 66 y_M_isTriple ∈ zz_G := zz_in (List.mem_append_right _ (List.mem_append_right _ (List.mem_append_left _ (List.mem_of_getElem? (i := 227) (by decide +kernel))))) rfl
theorem st_M_isTriple : Cond.static y_M_isTriple ∈ zz_G := zz_in (List.mem_append_right _ (List.mem_append_right _ (List.mem_append_left _ (List.mem_of_getElem? (i := 228) (by decide +kernel))))) rfl
theorem co_M_isTriple : Cond.code y_M_isTriple b_M_isTriple 3 (some .boolean) ∈ zz_G := zz_in (List.mem_append_right _ (List.mem_append_right _ (List.mem_append_left _ (List.mem_of_getElem? (i := 229) rfl)))) rfl
theorem hd_M_isTriple : y_M_isTriple.cls ≠ "java/lang/invoke/MethodHandle" ∧ y_M_isTriple.cls ≠ "java/lang/invoke/VarHandle" ∧ (parseMethodDescriptor y_M_isTriple.desc).map (fun d => d.parameters.length) = some 3 := by decide +kernel
theorem ml_M_70 : Cond.methodLink "ContinuousRowsModel" 70 y_M_triple ∈ zz_G := zz_in (List.mem_append_right _ (List.mem_append_right _ (List.mem_append_left _ (List.mem_of_getElem? (i := 230) (by decide +kernel))))) rfl
theorem st_M_triple : Cond.static y_M_triple ∈ zz_G := zz_in (List.mem_append_right _ (List.mem_append_right _ (List.mem_append_left _ (List.mem_of_getElem? (i := 231) (by decide +kernel))))) rfl
theorem co_M_triple : Cond.code y_M_triple b_M_triple 3 (some .int) ∈ zz_G := zz_in (List.mem_append_right _ (List.mem_append_right _ (List.mem_append_left _ (List.mem_of_getElem? (i := 232) rfl)))) rfl
theorem hd_M_triple : y_M_triple.cls ≠ "java/lang/invoke/MethodHandle" ∧ y_M_triple.cls ≠ "java/lang/invoke/VarHandle" ∧ (parseMethodDescriptor y_M_triple.desc).map (fun d => d.parameters.length) = some 3 := by decide +kernel
theorem ml_M_74 : Cond.methodLink "ContinuousRowsModel" 74 y_M_isThere ∈ zz_G := zz_in (List.mem_append_right _ (List.mem_append_right _ (List.mem_append_left _ (List.mem_of_getElem? (i := 233) (by decide +kernel))))) rfl
theorem im_M_isThere : Cond.instanceMethod y_M_isThere ∈ zz_G := zz_in (List.mem_append_right _ (List.mem_append_right _ (List.mem_append_left _ (List.mem_of_getElem? (i := 235) (by decide +kernel))))) rfl
theorem se_M_isThere : Cond.selects "ContinuousRowsModel" y_M_isThere y_M_isThere ∈ zz_G := zz_in (List.mem_append_left _ (List.mem_of_getElem? (i := 15) (by decide +kernel))) rfl
theorem co_M_isThere : Cond.code y_M_isThere b_M_isThere 4 (some .boolean) ∈ zz_G := zz_in (List.mem_append_right _ (List.mem_append_right _ (List.mem_append_left _ (List.mem_of_getElem? (i := 236) rfl)))) rfl
theorem hd_M_isThere : y_M_isThere.cls ≠ "java/lang/invoke/MethodHandle" ∧ y_M_isThere.cls ≠ "java/lang/invoke/VarHandle" ∧ (parseMethodDescriptor y_M_isThere.desc).map (fun d => d.parameters.length) = some 2 := by decide +kernel
theorem ml_M_78 : Cond.methodLink "ContinuousRowsModel" 78 y_M_say ∈ zz_G := zz_in (List.mem_append_right _ (List.mem_append_right _ (List.mem_append_right _ (List.mem_of_getElem? (i := 1) (by decide +kernel))))) rfl
theorem im_M_say : Cond.instanceMethod y_M_say ∈ zz_G := zz_in (List.mem_append_right _ (List.mem_append_right _ (List.mem_append_right _ (List.mem_of_getElem? (i := 3) (by decide +kernel))))) rfl
theorem se_M_say : Cond.selects "ContinuousRowsModel" y_M_say y_M_say ∈ zz_G := zz_in (List.mem_append_left _ (List.mem_of_getElem? (i := 17) (by decide +kernel))) rfl
theorem co_M_say : Cond.code y_M_say b_M_say 4 none ∈ zz_G := zz_in (List.mem_append_right _ (List.mem_append_right _ (List.mem_append_right _ (List.mem_of_getElem? (i := 4) rfl)))) rfl
theorem hd_M_say : y_M_say.cls ≠ "java/lang/invoke/MethodHandle" ∧ y_M_say.cls ≠ "java/lang/invoke/VarHandle" ∧ (parseMethodDescriptor y_M_say.desc).map (fun d => d.parameters.length) = some 3 := by decide +kernel
theorem ml_M_82 : Cond.methodLink "ContinuousRowsModel" 82 y_M_forget ∈ zz_G := zz_in (List.mem_append_right _ (List.mem_append_right _ (List.mem_append_right _ (List.mem_of_getElem? (i := 5) (by decide +kernel))))) rfl
theorem im_M_forget : Cond.instanceMethod y_M_forget ∈ zz_G := zz_in (List.mem_append_right _ (List.mem_append_right _ (List.mem_append_right _ (List.mem_of_getElem? (i := 7) (by decide +kernel))))) rfl
theorem se_M_forget : Cond.selects "ContinuousRowsModel" y_M_forget y_M_forget ∈ zz_G := zz_in (List.mem_append_left _ (List.mem_of_getElem? (i := 18) (by decide +kernel))) rfl
theorem co_M_forget : Cond.code y_M_forget b_M_forget 4 none ∈ zz_G := zz_in (List.mem_append_right _ (List.mem_append_right _ (List.mem_append_right _ (List.mem_of_getElem? (i := 8) rfl)))) rfl
theorem hd_M_forget : y_M_forget.cls ≠ "java/lang/invoke/MethodHandle" ∧ y_M_forget.cls ≠ "java/lang/invoke/VarHandle" ∧ (parseMethodDescriptor y_M_forget.desc).map (fun d => d.parameters.length) = some 2 := by decide +kernel
theorem fl_M_49 : Cond.fieldLink "ContinuousRowsModel" 49 "ContinuousRowsModel" "numbers" "I" ∈ zz_G := zz_in (List.mem_append_right _ (List.mem_append_right _ (List.mem_append_left _ (List.mem_of_getElem? (i := 173) (by decide +kernel))))) rfl
theorem ml_M_86 : Cond.methodLink "ContinuousRowsModel" 86 y_M_isNumber ∈ zz_G := zz_in (List.mem_append_right _ (List.mem_append_right _ (List.mem_append_right _ (List.mem_of_getElem? (i := 21) (by decide +kernel))))) rfl
theorem im_M_isNumber : Cond.instanceMethod y_M_isNumber ∈ zz_G := zz_in (List.mem_append_right _ (List.mem_append_right _ (List.mem_append_right _ (List.mem_of_getElem? (i := 23) (by decide +kernel))))) rfl
theorem se_M_isNumber : Cond.selects "ContinuousRowsModel" y_M_isNumber y_M_isNumber ∈ zz_G := zz_in (List.mem_append_left _ (List.mem_of_getElem? (i := 19) (by decide +kernel))) rfl
theorem co_M_isNumber : Cond.code y_M_isNumber b_M_isNumber 2 (some .boolean) ∈ zz_G := zz_in (List.mem_append_right _ (List.mem_append_right _ (List.mem_append_right _ (List.mem_of_getElem? (i := 24) rfl)))) rfl
theorem hd_M_isNumber : y_M_isNumber.cls ≠ "java/lang/invoke/MethodHandle" ∧ y_M_isNumber.cls ≠ "java/lang/invoke/VarHandle" ∧ (parseMethodDescriptor y_M_isNumber.desc).map (fun d => d.parameters.length) = some 1 := by decide +kernel
theorem fl_M_20 : Cond.fieldLink "ContinuousRowsModel" 20 "ContinuousRowsModel" "windows" "[I" ∈ zz_G := zz_in (List.mem_append_right _ (List.mem_append_right _ (List.mem_append_left _ (List.mem_of_getElem? (i := 179) (by decide +kernel))))) rfl
theorem fl_M_23 : Cond.fieldLink "ContinuousRowsModel" 23 "ContinuousRowsModel" "patternCounts" "[I" ∈ zz_G := zz_in (List.mem_append_right _ (List.mem_append_right _ (List.mem_append_left _ (List.mem_of_getElem? (i := 180) (by decide +kernel))))) rfl
theorem ml_M_90 : Cond.methodLink "ContinuousRowsModel" 90 y_M_isQuestion ∈ zz_G := zz_in (List.mem_append_right _ (List.mem_append_right _ (List.mem_append_right _ (List.mem_of_getElem? (i := 37) (by decide +kernel))))) rfl
theorem im_M_isQuestion : Cond.instanceMethod y_M_isQuestion ∈ zz_G := zz_in (List.mem_append_right _ (List.mem_append_right _ (List.mem_append_right _ (List.mem_of_getElem? (i := 39) (by decide +kernel))))) rfl
theorem se_M_isQuestion : Cond.selects "ContinuousRowsModel" y_M_isQuestion y_M_isQuestion ∈ zz_G := zz_in (List.mem_append_left _ (List.mem_of_getElem? (i := 20) (by decide +kernel))) rfl
theorem co_M_isQuestion : Cond.code y_M_isQuestion b_M_isQuestion 2 (some .boolean) ∈ zz_G := zz_in (List.mem_append_right _ (List.mem_append_right _ (List.mem_append_right _ (List.mem_of_getElem? (i := 40) rfl)))) rfl
theorem hd_M_isQuestion : y_M_isQuestion.cls ≠ "java/lang/invoke/MethodHandle" ∧ y_M_isQuestion.cls ≠ "java/lang/invoke/VarHandle" ∧ (parseMethodDescriptor y_M_isQuestion.desc).map (fun d => d.parameters.length) = some 1 := by decide +kernel
theorem ml_M_93 : Cond.methodLink "ContinuousRowsModel" 93 y_M_isItem ∈ zz_G := zz_in (List.mem_append_right _ (List.mem_append_right _ (List.mem_append_right _ (List.mem_of_getElem? (i := 41) (by decide +kernel))))) rfl
theorem st_M_isItem : Cond.static y_M_isItem ∈ zz_G := zz_in (List.mem_append_right _ (List.mem_append_right _ (List.mem_append_right _ (List.mem_of_getElem? (i := 42) (by decide +kernel))))) rfl
theorem co_M_isItem : Cond.code y_M_isItem b_M_isItem 2 (some .boolean) ∈ zz_G := zz_in (List.mem_append_right _ (List.mem_append_right _ (List.mem_append_right _ (List.mem_of_getElem? (i := 43) rfl)))) rfl
theorem hd_M_isItem : y_M_isItem.cls ≠ "java/lang/invoke/MethodHandle" ∧ y_M_isItem.cls ≠ "java/lang/invoke/VarHandle" ∧ (parseMethodDescriptor y_M_isItem.desc).map (fun d => d.parameters.length) = some 2 := by decide +kernel
theorem fl_M_26 : Cond.fieldLink "ContinuousRowsModel" 26 "ContinuousRowsModel" "items" "[I" ∈ zz_G := zz_in (List.mem_append_right _ (List.mem_append_right _ (List.mem_append_left _ (List.mem_of_getElem? (i := 181) (by decide +kernel))))) rfl
theorem fl_M_46 : Cond.fieldLink "ContinuousRowsModel" 46 "ContinuousRowsModel" "lasts" "[I" ∈ zz_G := zz_in (List.mem_append_right _ (List.mem_append_right _ (List.mem_append_left _ (List.mem_of_getElem? (i := 188) (by decide +kernel))))) rfl
theorem fl_M_40 : Cond.fieldLink "ContinuousRowsModel" 40 "ContinuousRowsModel" "seen" "[Z" ∈ zz_G := zz_in (List.mem_append_right _ (List.mem_append_right _ (List.mem_append_left _ (List.mem_of_getElem? (i := 186) (by decide +kernel))))) rfl
theorem fl_M_43 : Cond.fieldLink "ContinuousRowsModel" 43 "ContinuousRowsModel" "values" "[I" ∈ zz_G := zz_in (List.mem_append_right _ (List.mem_append_right _ (List.mem_append_left _ (List.mem_of_getElem? (i := 187) (by decide +kernel))))) rfl
theorem ml_M_96 : Cond.methodLink "ContinuousRowsModel" 96 y_M_valueOf ∈ zz_G := zz_in (List.mem_append_right _ (List.mem_append_right _ (List.mem_append_right _ (List.mem_of_getElem? (i := 88) (by decide +kernel))))) rfl
theorem im_M_valueOf : Cond.instanceMethod y_M_valueOf ∈ zz_G := zz_in (List.mem_append_right _ (List.mem_append_right _ (List.mem_append_right _ (List.mem_of_getElem? (i := 90) (by decide +kernel))))) rfl
theorem se_M_valueOf : Cond.selects "ContinuousRowsModel" y_M_valueOf y_M_valueOf ∈ zz_G := zz_in (List.mem_append_left _ (List.mem_of_getElem? (i := 30) (by decide +kernel))) rfl
theorem co_M_valueOf : Cond.code y_M_valueOf b_M_valueOf 2 (some .int) ∈ zz_G := zz_in (List.mem_append_right _ (List.mem_append_right _ (List.mem_append_right _ (List.mem_of_getElem? (i := 91) rfl)))) rfl
theorem hd_M_valueOf : y_M_valueOf.cls ≠ "java/lang/invoke/MethodHandle" ∧ y_M_valueOf.cls ≠ "java/lang/invoke/VarHandle" ∧ (parseMethodDescriptor y_M_valueOf.desc).map (fun d => d.parameters.length) = some 1 := by decide +kernel
theorem ml_M_100 : Cond.methodLink "ContinuousRowsModel" 100 y_M_see ∈ zz_G := zz_in (List.mem_append_right _ (List.mem_append_right _ (List.mem_append_right _ (List.mem_of_getElem? (i := 72) (by decide +kernel))))) rfl
theorem im_M_see : Cond.instanceMethod y_M_see ∈ zz_G := zz_in (List.mem_append_right _ (List.mem_append_right _ (List.mem_append_right _ (List.mem_of_getElem? (i := 74) (by decide +kernel))))) rfl
theorem se_M_see : Cond.selects "ContinuousRowsModel" y_M_see y_M_see ∈ zz_G := zz_in (List.mem_append_left _ (List.mem_of_getElem? (i := 26) (by decide +kernel))) rfl
theorem co_M_see : Cond.code y_M_see b_M_see 5 none ∈ zz_G := zz_in (List.mem_append_right _ (List.mem_append_right _ (List.mem_append_right _ (List.mem_of_getElem? (i := 75) rfl)))) rfl
theorem hd_M_see : y_M_see.cls ≠ "java/lang/invoke/MethodHandle" ∧ y_M_see.cls ≠ "java/lang/invoke/VarHandle" ∧ (parseMethodDescriptor y_M_see.desc).map (fun d => d.parameters.length) = some 2 := by decide +kernel
theorem fl_M_37 : Cond.fieldLink "ContinuousRowsModel" 37 "ContinuousRowsModel" "next" "[J" ∈ zz_G := zz_in (List.mem_append_right _ (List.mem_append_right _ (List.mem_append_left _ (List.mem_of_getElem? (i := 185) (by decide +kernel))))) rfl
theorem ml_M_103 : Cond.methodLink "ContinuousRowsModel" 103 y_M_stands ∈ zz_G := zz_in (List.mem_append_right _ (List.mem_append_right _ (List.mem_append_right _ (List.mem_of_getElem? (i := 76) (by decide +kernel))))) rfl
theorem im_M_stands : Cond.instanceMethod y_M_stands ∈ zz_G := zz_in (List.mem_append_right _ (List.mem_append_right _ (List.mem_append_right _ (List.mem_of_getElem? (i := 78) (by decide +kernel))))) rfl
theorem se_M_stands : Cond.selects "ContinuousRowsModel" y_M_stands y_M_stands ∈ zz_G := zz_in (List.mem_append_left _ (List.mem_of_getElem? (i := 27) (by decide +kernel))) rfl
theorem co_M_stands : Cond.code y_M_stands b_M_stands 5 (some .boolean) ∈ zz_G := zz_in (List.mem_append_right _ (List.mem_append_right _ (List.mem_append_right _ (List.mem_of_getElem? (i := 79) rfl)))) rfl
theorem hd_M_stands : y_M_stands.cls ≠ "java/lang/invoke/MethodHandle" ∧ y_M_stands.cls ≠ "java/lang/invoke/VarHandle" ∧ (parseMethodDescriptor y_M_stands.desc).map (fun d => d.parameters.length) = some 2 := by decide +kernel
theorem ml_M_110 : Cond.methodLink "ContinuousRowsModel" 110 y_M_isRow ∈ zz_G := zz_in (List.mem_append_right _ (List.mem_append_right _ (List.mem_append_right _ (List.mem_of_getElem? (i := 84) (by decide +kernel))))) rfl
theorem im_M_isRow : Cond.instanceMethod y_M_isRow ∈ zz_G := zz_in (List.mem_append_right _ (List.mem_append_right _ (List.mem_append_right _ (List.mem_of_getElem? (i := 86) (by decide +kernel))))) rfl
theorem se_M_isRow : Cond.selects "ContinuousRowsModel" y_M_isRow y_M_isRow ∈ zz_G := zz_in (List.mem_append_left _ (List.mem_of_getElem? (i := 29) (by decide +kernel))) rfl
theorem co_M_isRow : Cond.code y_M_isRow b_M_isRow 5 (some .boolean) ∈ zz_G := zz_in (List.mem_append_right _ (List.mem_append_right _ (List.mem_append_right _ (List.mem_of_getElem? (i := 87) rfl)))) rfl
theorem hd_M_isRow : y_M_isRow.cls ≠ "java/lang/invoke/MethodHandle" ∧ y_M_isRow.cls ≠ "java/lang/invoke/VarHandle" ∧ (parseMethodDescriptor y_M_isRow.desc).map (fun d => d.parameters.length) = some 1 := by decide +kernel
theorem ml_M_113 : Cond.methodLink "ContinuousRowsModel" 113 y_M_at ∈ zz_G := zz_in (List.mem_append_right _ (List.mem_append_right _ (List.mem_append_right _ (List.mem_of_getElem? (i := 64) (by decide +kernel))))) rfl
theorem im_M_at : Cond.instanceMethod y_M_at ∈ zz_G := zz_in (List.mem_append_right _ (List.mem_append_right _ (List.mem_append_right _ (List.mem_of_getElem? (i := 66) (by decide +kernel))))) rfl
theorem se_M_at : Cond.selects "ContinuousRowsModel" y_M_at y_M_at ∈ zz_G := zz_in (List.mem_append_left _ (List.mem_of_getElem? (i := 24) (by decide +kernel))) rfl
theorem co_M_at : Cond.code y_M_at b_M_at 3 (some .int) ∈ zz_G := zz_in (List.mem_append_right _ (List.mem_append_right _ (List.mem_append_right _ (List.mem_of_getElem? (i := 67) rfl)))) rfl
theorem hd_M_at : y_M_at.cls ≠ "java/lang/invoke/MethodHandle" ∧ y_M_at.cls ≠ "java/lang/invoke/VarHandle" ∧ (parseMethodDescriptor y_M_at.desc).map (fun d => d.parameters.length) = some 2 := by decide +kernel
theorem fl_M_30 : Cond.fieldLink "ContinuousRowsModel" 30 "ContinuousRowsModel" "rows" "[J" ∈ zz_G := zz_in (List.mem_append_right _ (List.mem_append_right _ (List.mem_append_left _ (List.mem_of_getElem? (i := 183) (by decide +kernel))))) rfl
theorem kn_Ji_265 : Cond.constant "java/lang/Integer" 265 (1431655765) ∈ zz_G := zz_in (List.mem_append_right _ (List.mem_append_right _ (List.mem_append_left _ (List.mem_of_getElem? (i := 76) (by decide +kernel))))) rfl
theorem kn_Ji_266 : Cond.constant "java/lang/Integer" 266 (858993459) ∈ zz_G := zz_in (List.mem_append_right _ (List.mem_append_right _ (List.mem_append_left _ (List.mem_of_getElem? (i := 77) (by decide +kernel))))) rfl
theorem kn_Ji_267 : Cond.constant "java/lang/Integer" 267 (252645135) ∈ zz_G := zz_in (List.mem_append_right _ (List.mem_append_right _ (List.mem_append_left _ (List.mem_of_getElem? (i := 78) (by decide +kernel))))) rfl
theorem ml_Lg_30 : Cond.methodLink "ContinuousRows$Log" 30 y_Lg_isPlace ∈ zz_G := zz_in (List.mem_append_right _ (List.mem_append_left _ (List.mem_of_getElem? (i := 144) (by decide +kernel)))) rfl
theorem im_Lg_isPlace : Cond.instanceMethod y_Lg_isPlace ∈ zz_G := zz_in (List.mem_append_right _ (List.mem_append_left _ (List.mem_of_getElem? (i := 146) (by decide +kernel)))) rfl
theorem se_Lg_isPlace : Cond.selects "ContinuousRows$Log" y_Lg_isPlace y_Lg_isPlace ∈ zz_G := zz_in (List.mem_append_left _ (List.mem_of_getElem? (i := 0) (by decide +kernel))) rfl
theorem co_Lg_isPlace : Cond.code y_Lg_isPlace b_Lg_isPlace 2 (some .boolean) ∈ zz_G := zz_in (List.mem_append_right _ (List.mem_append_left _ (List.mem_of_getElem? (i := 147) rfl))) rfl
theorem hd_Lg_isPlace : y_Lg_isPlace.cls ≠ "java/lang/invoke/MethodHandle" ∧ y_Lg_isPlace.cls ≠ "java/lang/invoke/VarHandle" ∧ (parseMethodDescriptor y_Lg_isPlace.desc).map (fun d => d.parameters.length) = some 1 := by decide +kernel
theorem ml_Qu_25 : Cond.methodLink "ContinuousRows$Question" 25 y_Jm_min ∈ zz_G := zz_in (List.mem_append_right _ (List.mem_append_left _ (List.mem_of_getElem? (i := 204) (by decide +kernel)))) rfl
theorem st_Jm_min : Cond.static y_Jm_min ∈ zz_G := zz_in (List.mem_append_right _ (List.mem_append_left _ (List.mem_of_getElem? (i := 205) (by decide +kernel)))) rfl
theorem in_Jm : Cond.initialized "java/lang/Math" ∈ zz_G := zz_in (List.mem_append_right _ (List.mem_append_left _ (List.mem_of_getElem? (i := 6) (by decide +kernel)))) rfl
theorem co_Jm_min : Cond.code y_Jm_min b_Jm_min 2 (some .int) ∈ zz_G := zz_in (List.mem_append_right _ (List.mem_append_left _ (List.mem_of_getElem? (i := 206) rfl))) rfl
theorem hd_Jm_min : y_Jm_min.cls ≠ "java/lang/invoke/MethodHandle" ∧ y_Jm_min.cls ≠ "java/lang/invoke/VarHandle" ∧ (parseMethodDescriptor y_Jm_min.desc).map (fun d => d.parameters.length) = some 2 := by decide +kernel
theorem ml_Qu_31 : Cond.methodLink "ContinuousRows$Question" 31 y_Qu_use ∈ zz_G := zz_in (List.mem_append_right _ (List.mem_append_left _ (List.mem_of_getElem? (i := 207) (by decide +kernel)))) rfl
theorem im_Qu_use : Cond.instanceMethod y_Qu_use ∈ zz_G := zz_in (List.mem_append_right _ (List.mem_append_left _ (List.mem_of_getElem? (i := 209) (by decide +kernel)))) rfl
theorem se_Qu_use : Cond.selects "ContinuousRows$Question" y_Qu_use y_Qu_use ∈ zz_G := zz_in (List.mem_append_left _ (List.mem_of_getElem? (i := 2) (by decide +kernel))) rfl
theorem co_Qu_use : Cond.code y_Qu_use b_Qu_use 2 none ∈ zz_G := zz_in (List.mem_append_right _ (List.mem_append_left _ (List.mem_of_getElem? (i := 210) rfl))) rfl
theorem hd_Qu_use : y_Qu_use.cls ≠ "java/lang/invoke/MethodHandle" ∧ y_Qu_use.cls ≠ "java/lang/invoke/VarHandle" ∧ (parseMethodDescriptor y_Qu_use.desc).map (fun d => d.parameters.length) = some 1 := by decide +kernel
theorem ml_Rs_30 : Cond.methodLink "ContinuousRows$RowSet" 30 y_Ji_bitCount ∈ zz_G := zz_in (List.mem_append_right _ (List.mem_append_right _ (List.mem_append_left _ (List.mem_of_getElem? (i := 73) (by decide +kernel))))) rfl
theorem st_Ji_bitCount : Cond.static y_Ji_bitCount ∈ zz_G := zz_in (List.mem_append_right _ (List.mem_append_right _ (List.mem_append_left _ (List.mem_of_getElem? (i := 74) (by decide +kernel))))) rfl
theorem in_Ji : Cond.initialized "java/lang/Integer" ∈ zz_G := zz_in (List.mem_append_right _ (List.mem_append_left _ (List.mem_of_getElem? (i := 10) (by decide +kernel)))) rfl
theorem co_Ji_bitCount : Cond.code y_Ji_bitCount b_Ji_bitCount 1 (some .int) ∈ zz_G := zz_in (List.mem_append_right _ (List.mem_append_right _ (List.mem_append_left _ (List.mem_of_getElem? (i := 75) rfl)))) rfl
theorem hd_Ji_bitCount : y_Ji_bitCount.cls ≠ "java/lang/invoke/MethodHandle" ∧ y_Ji_bitCount.cls ≠ "java/lang/invoke/VarHandle" ∧ (parseMethodDescriptor y_Ji_bitCount.desc).map (fun d => d.parameters.length) = some 1 := by decide +kernel
theorem ml_Rs_36 : Cond.methodLink "ContinuousRows$RowSet" 36 y_Rs_bitAt ∈ zz_G := zz_in (List.mem_append_right _ (List.mem_append_right _ (List.mem_append_left _ (List.mem_of_getElem? (i := 91) (by decide +kernel))))) rfl
theorem st_Rs_bitAt : Cond.static y_Rs_bitAt ∈ zz_G := zz_in (List.mem_append_right _ (List.mem_append_right _ (List.mem_append_left _ (List.mem_of_getElem? (i := 92) (by decide +kernel))))) rfl
theorem co_Rs_bitAt : Cond.code y_Rs_bitAt b_Rs_bitAt 4 (some .int) ∈ zz_G := zz_in (List.mem_append_right _ (List.mem_append_right _ (List.mem_append_left _ (List.mem_of_getElem? (i := 93) rfl)))) rfl
theorem hd_Rs_bitAt : y_Rs_bitAt.cls ≠ "java/lang/invoke/MethodHandle" ∧ y_Rs_bitAt.cls ≠ "java/lang/invoke/VarHandle" ∧ (parseMethodDescriptor y_Rs_bitAt.desc).map (fun d => d.parameters.length) = some 2 := by decide +kernel
theorem ml_Rs_39 : Cond.methodLink "ContinuousRows$RowSet" 39 y_Rs_valuesOf ∈ zz_G := zz_in (List.mem_append_right _ (List.mem_append_right _ (List.mem_append_left _ (List.mem_of_getElem? (i := 102) (by decide +kernel))))) rfl
theorem st_Rs_valuesOf : Cond.static y_Rs_valuesOf ∈ zz_G := zz_in (List.mem_append_right _ (List.mem_append_right _ (List.mem_append_left _ (List.mem_of_getElem? (i := 103) (by decide +kernel))))) rfl
theorem co_Rs_valuesOf : Cond.code y_Rs_valuesOf b_Rs_valuesOf 3 (some .int) ∈ zz_G := zz_in (List.mem_append_right _ (List.mem_append_right _ (List.mem_append_left _ (List.mem_of_getElem? (i := 104) rfl)))) rfl
theorem hd_Rs_valuesOf : y_Rs_valuesOf.cls ≠ "java/lang/invoke/MethodHandle" ∧ y_Rs_valuesOf.cls ≠ "java/lang/invoke/VarHandle" ∧ (parseMethodDescriptor y_Rs_valuesOf.desc).map (fun d => d.parameters.length) = some 2 := by decide +kernel
theorem ml_Sr_33 : Cond.methodLink "ContinuousRows$Search" 33 y_Sr_keep ∈ zz_G := zz_in (List.mem_append_right _ (List.mem_append_right _ (List.mem_append_left _ (List.mem_of_getElem? (i := 39) (by decide +kernel))))) rfl
theorem im_Sr_keep : Cond.instanceMethod y_Sr_keep ∈ zz_G := zz_in (List.mem_append_right _ (List.mem_append_right _ (List.mem_append_left _ (List.mem_of_getElem? (i := 41) (by decide +kernel))))) rfl
theorem se_Sr_keep : Cond.selects "ContinuousRows$Search" y_Sr_keep y_Sr_keep ∈ zz_G := zz_in (List.mem_append_left _ (List.mem_of_getElem? (i := 8) (by decide +kernel))) rfl
theorem co_Sr_keep : Cond.code y_Sr_keep b_Sr_keep 4 (some .boolean) ∈ zz_G := zz_in (List.mem_append_right _ (List.mem_append_right _ (List.mem_append_left _ (List.mem_of_getElem? (i := 42) rfl)))) rfl
theorem hd_Sr_keep : y_Sr_keep.cls ≠ "java/lang/invoke/MethodHandle" ∧ y_Sr_keep.cls ≠ "java/lang/invoke/VarHandle" ∧ (parseMethodDescriptor y_Sr_keep.desc).map (fun d => d.parameters.length) = some 2 := by decide +kernel
theorem ml_Sr_53 : Cond.methodLink "ContinuousRows$Search" 53 y_Se_objectsOf ∈ zz_G := zz_in (List.mem_append_right _ (List.mem_append_right _ (List.mem_append_left _ (List.mem_of_getElem? (i := 35) (by decide +kernel))))) rfl
theorem im_Se_objectsOf : Cond.instanceMethod y_Se_objectsOf ∈ zz_G := zz_in (List.mem_append_right _ (List.mem_append_right _ (List.mem_append_left _ (List.mem_of_getElem? (i := 36) (by decide +kernel))))) rfl
theorem se_Se_objectsOf : Cond.selects "ContinuousRows$Seen" y_Se_objectsOf y_Se_objectsOf ∈ zz_G := zz_in (List.mem_append_right _ (List.mem_append_right _ (List.mem_append_left _ (List.mem_of_getElem? (i := 37) (by decide +kernel))))) rfl
theorem in_Se : Cond.initialized "ContinuousRows$Seen" ∈ zz_G := zz_in (List.mem_append_right _ (List.mem_append_left _ (List.mem_of_getElem? (i := 3) (by decide +kernel)))) rfl
theorem co_Se_objectsOf : Cond.code y_Se_objectsOf b_Se_objectsOf 3 (some .int) ∈ zz_G := zz_in (List.mem_append_right _ (List.mem_append_right _ (List.mem_append_left _ (List.mem_of_getElem? (i := 38) rfl)))) rfl
theorem hd_Se_objectsOf : y_Se_objectsOf.cls ≠ "java/lang/invoke/MethodHandle" ∧ y_Se_objectsOf.cls ≠ "java/lang/invoke/VarHandle" ∧ (parseMethodDescriptor y_Se_objectsOf.desc).map (fun d => d.parameters.length) = some 2 := by decide +kernel
theorem ml_Sr_75 : Cond.methodLink "ContinuousRows$Search" 75 y_Sr_valueOf ∈ zz_G := zz_in (List.mem_append_right _ (List.mem_append_right _ (List.mem_append_left _ (List.mem_of_getElem? (i := 51) (by decide +kernel))))) rfl
theorem im_Sr_valueOf : Cond.instanceMethod y_Sr_valueOf ∈ zz_G := zz_in (List.mem_append_right _ (List.mem_append_right _ (List.mem_append_left _ (List.mem_of_getElem? (i := 53) (by decide +kernel))))) rfl
theorem se_Sr_valueOf : Cond.selects "ContinuousRows$Search" y_Sr_valueOf y_Sr_valueOf ∈ zz_G := zz_in (List.mem_append_left _ (List.mem_of_getElem? (i := 11) (by decide +kernel))) rfl
theorem co_Sr_valueOf : Cond.code y_Sr_valueOf b_Sr_valueOf 3 (some .int) ∈ zz_G := zz_in (List.mem_append_right _ (List.mem_append_right _ (List.mem_append_left _ (List.mem_of_getElem? (i := 54) rfl)))) rfl
theorem hd_Sr_valueOf : y_Sr_valueOf.cls ≠ "java/lang/invoke/MethodHandle" ∧ y_Sr_valueOf.cls ≠ "java/lang/invoke/VarHandle" ∧ (parseMethodDescriptor y_Sr_valueOf.desc).map (fun d => d.parameters.length) = some 1 := by decide +kernel
theorem ml_Se_15 : Cond.methodLink "ContinuousRows$Seen" 15 y_Ja_fill ∈ zz_G := zz_in (List.mem_append_right _ (List.mem_append_left _ (List.mem_of_getElem? (i := 239) (by decide +kernel)))) rfl
theorem st_Ja_fill : Cond.static y_Ja_fill ∈ zz_G := zz_in (List.mem_append_right _ (List.mem_append_right _ (List.mem_append_left _ (List.mem_of_getElem? (i := 0) (by decide +kernel))))) rfl
theorem in_Ja : Cond.initialized "java/util/Arrays" ∈ zz_G := zz_in (List.mem_append_right _ (List.mem_append_left _ (List.mem_of_getElem? (i := 9) (by decide +kernel)))) rfl
theorem co_Ja_fill : Cond.code y_Ja_fill b_Ja_fill 4 none ∈ zz_G := zz_in (List.mem_append_right _ (List.mem_append_right _ (List.mem_append_left _ (List.mem_of_getElem? (i := 1) rfl)))) rfl
theorem hd_Ja_fill : y_Ja_fill.cls ≠ "java/lang/invoke/MethodHandle" ∧ y_Ja_fill.cls ≠ "java/lang/invoke/VarHandle" ∧ (parseMethodDescriptor y_Ja_fill.desc).map (fun d => d.parameters.length) = some 2 := by decide +kernel
theorem fl_Se_21 : Cond.fieldLink "ContinuousRows$Seen" 21 "ContinuousRows$Log" "size" "I" ∈ zz_G := zz_in (List.mem_append_right _ (List.mem_append_left _ (List.mem_of_getElem? (i := 31) (by decide +kernel)))) rfl
theorem fl_Se_27 : Cond.fieldLink "ContinuousRows$Seen" 27 "ContinuousRows$Log" "saidAt" "[I" ∈ zz_G := zz_in (List.mem_append_right _ (List.mem_append_left _ (List.mem_of_getElem? (i := 26) (by decide +kernel)))) rfl
theorem fl_Se_30 : Cond.fieldLink "ContinuousRows$Seen" 30 "ContinuousRows$Log" "triples" "[I" ∈ zz_G := zz_in (List.mem_append_right _ (List.mem_append_left _ (List.mem_of_getElem? (i := 28) (by decide +kernel)))) rfl
theorem ml_Se_33 : Cond.methodLink "ContinuousRows$Seen" 33 y_Lg_shows ∈ zz_G := zz_in (List.mem_append_right _ (List.mem_append_right _ (List.mem_append_left _ (List.mem_of_getElem? (i := 2) (by decide +kernel))))) rfl
theorem im_Lg_shows : Cond.instanceMethod y_Lg_shows ∈ zz_G := zz_in (List.mem_append_right _ (List.mem_append_right _ (List.mem_append_left _ (List.mem_of_getElem? (i := 3) (by decide +kernel))))) rfl
theorem se_Lg_shows : Cond.selects "ContinuousRows$Log" y_Lg_shows y_Lg_shows ∈ zz_G := zz_in (List.mem_append_right _ (List.mem_append_right _ (List.mem_append_left _ (List.mem_of_getElem? (i := 4) (by decide +kernel))))) rfl
theorem co_Lg_shows : Cond.code y_Lg_shows b_Lg_shows 4 (some .boolean) ∈ zz_G := zz_in (List.mem_append_right _ (List.mem_append_right _ (List.mem_append_left _ (List.mem_of_getElem? (i := 5) rfl)))) rfl
theorem hd_Lg_shows : y_Lg_shows.cls ≠ "java/lang/invoke/MethodHandle" ∧ y_Lg_shows.cls ≠ "java/lang/invoke/VarHandle" ∧ (parseMethodDescriptor y_Lg_shows.desc).map (fun d => d.parameters.length) = some 3 := by decide +kernel
theorem ml_Se_37 : Cond.methodLink "ContinuousRows$Seen" 37 y_Se_put ∈ zz_G := zz_in (List.mem_append_right _ (List.mem_append_right _ (List.mem_append_left _ (List.mem_of_getElem? (i := 6) (by decide +kernel))))) rfl
theorem im_Se_put : Cond.instanceMethod y_Se_put ∈ zz_G := zz_in (List.mem_append_right _ (List.mem_append_right _ (List.mem_append_left _ (List.mem_of_getElem? (i := 7) (by decide +kernel))))) rfl
theorem se_Se_put : Cond.selects "ContinuousRows$Seen" y_Se_put y_Se_put ∈ zz_G := zz_in (List.mem_append_right _ (List.mem_append_right _ (List.mem_append_left _ (List.mem_of_getElem? (i := 8) (by decide +kernel))))) rfl
theorem co_Se_put : Cond.code y_Se_put b_Se_put 5 none ∈ zz_G := zz_in (List.mem_append_right _ (List.mem_append_right _ (List.mem_append_left _ (List.mem_of_getElem? (i := 9) rfl)))) rfl
theorem hd_Se_put : y_Se_put.cls ≠ "java/lang/invoke/MethodHandle" ∧ y_Se_put.cls ≠ "java/lang/invoke/VarHandle" ∧ (parseMethodDescriptor y_Se_put.desc).map (fun d => d.parameters.length) = some 2 := by decide +kernel
theorem ml_C_63 : Cond.methodLink "ContinuousRows" 63 y_C_isTriple ∈ zz_G := zz_in (List.mem_append_right _ (List.mem_append_left _ (List.mem_of_getElem? (i := 126) (by decide +kernel)))) rfl
theorem st_C_isTriple : Cond.static y_C_isTriple ∈ zz_G := zz_in (List.mem_append_right _ (List.mem_append_left _ (List.mem_of_getElem? (i := 127) (by decide +kernel)))) rfl
theorem in_C : Cond.initialized "ContinuousRows" ∈ zz_G := zz_in (List.mem_append_right _ (List.mem_append_left _ (List.mem_of_getElem? (i := 1) (by decide +kernel)))) rfl
theorem co_C_isTriple : Cond.code y_C_isTriple b_C_isTriple 3 (some .boolean) ∈ zz_G := zz_in (List.mem_append_right _ (List.mem_append_left _ (List.mem_of_getElem? (i := 128) rfl))) rfl
theorem hd_C_isTriple : y_C_isTriple.cls ≠ "java/lang/invoke/MethodHandle" ∧ y_C_isTriple.cls ≠ "java/lang/invoke/VarHandle" ∧ (parseMethodDescriptor y_C_isTriple.desc).map (fun d => d.parameters.length) = some 3 := by decide +kernel
theorem ml_C_67 : Cond.methodLink "ContinuousRows" 67 y_Lg_isFull ∈ zz_G := zz_in (List.mem_append_right _ (List.mem_append_left _ (List.mem_of_getElem? (i := 129) (by decide +kernel)))) rfl
theorem ml_C_71 : Cond.methodLink "ContinuousRows" 71 y_C_tripleOf ∈ zz_G := zz_in (List.mem_append_right _ (List.mem_append_left _ (List.mem_of_getElem? (i := 133) (by decide +kernel)))) rfl
theorem st_C_tripleOf : Cond.static y_C_tripleOf ∈ zz_G := zz_in (List.mem_append_right _ (List.mem_append_left _ (List.mem_of_getElem? (i := 134) (by decide +kernel)))) rfl
theorem co_C_tripleOf : Cond.code y_C_tripleOf b_C_tripleOf 3 (some .int) ∈ zz_G := zz_in (List.mem_append_right _ (List.mem_append_left _ (List.mem_of_getElem? (i := 135) rfl))) rfl
theorem hd_C_tripleOf : y_C_tripleOf.cls ≠ "java/lang/invoke/MethodHandle" ∧ y_C_tripleOf.cls ≠ "java/lang/invoke/VarHandle" ∧ (parseMethodDescriptor y_C_tripleOf.desc).map (fun d => d.parameters.length) = some 3 := by decide +kernel
theorem ml_C_78 : Cond.methodLink "ContinuousRows" 78 y_Lg_lastOf ∈ zz_G := zz_in (List.mem_append_right _ (List.mem_append_left _ (List.mem_of_getElem? (i := 136) (by decide +kernel)))) rfl
theorem im_Lg_lastOf : Cond.instanceMethod y_Lg_lastOf ∈ zz_G := zz_in (List.mem_append_right _ (List.mem_append_left _ (List.mem_of_getElem? (i := 137) (by decide +kernel)))) rfl
theorem se_Lg_lastOf : Cond.selects "ContinuousRows$Log" y_Lg_lastOf y_Lg_lastOf ∈ zz_G := zz_in (List.mem_append_right _ (List.mem_append_left _ (List.mem_of_getElem? (i := 138) (by decide +kernel)))) rfl
theorem co_Lg_lastOf : Cond.code y_Lg_lastOf b_Lg_lastOf 4 (some .int) ∈ zz_G := zz_in (List.mem_append_right _ (List.mem_append_left _ (List.mem_of_getElem? (i := 139) rfl))) rfl
theorem hd_Lg_lastOf : y_Lg_lastOf.cls ≠ "java/lang/invoke/MethodHandle" ∧ y_Lg_lastOf.cls ≠ "java/lang/invoke/VarHandle" ∧ (parseMethodDescriptor y_Lg_lastOf.desc).map (fun d => d.parameters.length) = some 2 := by decide +kernel
theorem ml_C_81 : Cond.methodLink "ContinuousRows" 81 y_Lg_comesAt ∈ zz_G := zz_in (List.mem_append_right _ (List.mem_append_left _ (List.mem_of_getElem? (i := 140) (by decide +kernel)))) rfl
theorem im_Lg_comesAt : Cond.instanceMethod y_Lg_comesAt ∈ zz_G := zz_in (List.mem_append_right _ (List.mem_append_left _ (List.mem_of_getElem? (i := 141) (by decide +kernel)))) rfl
theorem se_Lg_comesAt : Cond.selects "ContinuousRows$Log" y_Lg_comesAt y_Lg_comesAt ∈ zz_G := zz_in (List.mem_append_right _ (List.mem_append_left _ (List.mem_of_getElem? (i := 142) (by decide +kernel)))) rfl
theorem co_Lg_comesAt : Cond.code y_Lg_comesAt b_Lg_comesAt 2 (some .boolean) ∈ zz_G := zz_in (List.mem_append_right _ (List.mem_append_left _ (List.mem_of_getElem? (i := 143) rfl))) rfl
theorem hd_Lg_comesAt : y_Lg_comesAt.cls ≠ "java/lang/invoke/MethodHandle" ∧ y_Lg_comesAt.cls ≠ "java/lang/invoke/VarHandle" ∧ (parseMethodDescriptor y_Lg_comesAt.desc).map (fun d => d.parameters.length) = some 1 := by decide +kernel
theorem ml_C_85 : Cond.methodLink "ContinuousRows" 85 y_Lg_say ∈ zz_G := zz_in (List.mem_append_right _ (List.mem_append_left _ (List.mem_of_getElem? (i := 148) (by decide +kernel)))) rfl
theorem im_Lg_say : Cond.instanceMethod y_Lg_say ∈ zz_G := zz_in (List.mem_append_right _ (List.mem_append_left _ (List.mem_of_getElem? (i := 149) (by decide +kernel)))) rfl
theorem se_Lg_say : Cond.selects "ContinuousRows$Log" y_Lg_say y_Lg_say ∈ zz_G := zz_in (List.mem_append_right _ (List.mem_append_left _ (List.mem_of_getElem? (i := 150) (by decide +kernel)))) rfl
theorem co_Lg_say : Cond.code y_Lg_say b_Lg_say 5 (some .int) ∈ zz_G := zz_in (List.mem_append_right _ (List.mem_append_left _ (List.mem_of_getElem? (i := 151) rfl))) rfl
theorem hd_Lg_say : y_Lg_say.cls ≠ "java/lang/invoke/MethodHandle" ∧ y_Lg_say.cls ≠ "java/lang/invoke/VarHandle" ∧ (parseMethodDescriptor y_Lg_say.desc).map (fun d => d.parameters.length) = some 3 := by decide +kernel
theorem ml_C_96 : Cond.methodLink "ContinuousRows" 96 y_C_find ∈ zz_G := zz_in (List.mem_append_right _ (List.mem_append_left _ (List.mem_of_getElem? (i := 193) (by decide +kernel)))) rfl
theorem im_C_find : Cond.instanceMethod y_C_find ∈ zz_G := zz_in (List.mem_append_right _ (List.mem_append_left _ (List.mem_of_getElem? (i := 195) (by decide +kernel)))) rfl
theorem se_C_find : Cond.selects "ContinuousRows" y_C_find y_C_find ∈ zz_G := zz_in (List.mem_append_left _ (List.mem_of_getElem? (i := 1) (by decide +kernel))) rfl
theorem co_C_find : Cond.code y_C_find b_C_find 2 (some (.object "ContinuousRows$Question")) ∈ zz_G := zz_in (List.mem_append_right _ (List.mem_append_left _ (List.mem_of_getElem? (i := 196) rfl))) rfl
theorem hd_C_find : y_C_find.cls ≠ "java/lang/invoke/MethodHandle" ∧ y_C_find.cls ≠ "java/lang/invoke/VarHandle" ∧ (parseMethodDescriptor y_C_find.desc).map (fun d => d.parameters.length) = some 1 := by decide +kernel
theorem ml_C_100 : Cond.methodLink "ContinuousRows" 100 y_C_isItem ∈ zz_G := zz_in (List.mem_append_right _ (List.mem_append_left _ (List.mem_of_getElem? (i := 197) (by decide +kernel)))) rfl
theorem st_C_isItem : Cond.static y_C_isItem ∈ zz_G := zz_in (List.mem_append_right _ (List.mem_append_left _ (List.mem_of_getElem? (i := 198) (by decide +kernel)))) rfl
theorem co_C_isItem : Cond.code y_C_isItem b_C_isItem 2 (some .boolean) ∈ zz_G := zz_in (List.mem_append_right _ (List.mem_append_left _ (List.mem_of_getElem? (i := 199) rfl))) rfl
theorem hd_C_isItem : y_C_isItem.cls ≠ "java/lang/invoke/MethodHandle" ∧ y_C_isItem.cls ≠ "java/lang/invoke/VarHandle" ∧ (parseMethodDescriptor y_C_isItem.desc).map (fun d => d.parameters.length) = some 2 := by decide +kernel
theorem ml_C_104 : Cond.methodLink "ContinuousRows" 104 y_Qu_add ∈ zz_G := zz_in (List.mem_append_right _ (List.mem_append_left _ (List.mem_of_getElem? (i := 200) (by decide +kernel)))) rfl
theorem im_Qu_add : Cond.instanceMethod y_Qu_add ∈ zz_G := zz_in (List.mem_append_right _ (List.mem_append_left _ (List.mem_of_getElem? (i := 201) (by decide +kernel)))) rfl
theorem se_Qu_add : Cond.selects "ContinuousRows$Question" y_Qu_add y_Qu_add ∈ zz_G := zz_in (List.mem_append_right _ (List.mem_append_left _ (List.mem_of_getElem? (i := 202) (by decide +kernel)))) rfl
theorem co_Qu_add : Cond.code y_Qu_add b_Qu_add 4 (some .boolean) ∈ zz_G := zz_in (List.mem_append_right _ (List.mem_append_left _ (List.mem_of_getElem? (i := 203) rfl))) rfl
theorem hd_Qu_add : y_Qu_add.cls ≠ "java/lang/invoke/MethodHandle" ∧ y_Qu_add.cls ≠ "java/lang/invoke/VarHandle" ∧ (parseMethodDescriptor y_Qu_add.desc).map (fun d => d.parameters.length) = some 3 := by decide +kernel
theorem ml_C_89 : Cond.methodLink "ContinuousRows" 89 y_C_isWindow ∈ zz_G := zz_in (List.mem_append_right _ (List.mem_append_left _ (List.mem_of_getElem? (i := 161) (by decide +kernel)))) rfl
theorem st_C_isWindow : Cond.static y_C_isWindow ∈ zz_G := zz_in (List.mem_append_right _ (List.mem_append_left _ (List.mem_of_getElem? (i := 162) (by decide +kernel)))) rfl
theorem co_C_isWindow : Cond.code y_C_isWindow b_C_isWindow 1 (some .boolean) ∈ zz_G := zz_in (List.mem_append_right _ (List.mem_append_left _ (List.mem_of_getElem? (i := 163) rfl))) rfl
theorem hd_C_isWindow : y_C_isWindow.cls ≠ "java/lang/invoke/MethodHandle" ∧ y_C_isWindow.cls ≠ "java/lang/invoke/VarHandle" ∧ (parseMethodDescriptor y_C_isWindow.desc).map (fun d => d.parameters.length) = some 1 := by decide +kernel
theorem ml_C_113 : Cond.methodLink "ContinuousRows" 113 y_C_isPast ∈ zz_G := zz_in (List.mem_append_right _ (List.mem_append_left _ (List.mem_of_getElem? (i := 219) (by decide +kernel)))) rfl
theorem im_C_isPast : Cond.instanceMethod y_C_isPast ∈ zz_G := zz_in (List.mem_append_right _ (List.mem_append_left _ (List.mem_of_getElem? (i := 221) (by decide +kernel)))) rfl
theorem se_C_isPast : Cond.selects "ContinuousRows" y_C_isPast y_C_isPast ∈ zz_G := zz_in (List.mem_append_left _ (List.mem_of_getElem? (i := 3) (by decide +kernel))) rfl
theorem co_C_isPast : Cond.code y_C_isPast b_C_isPast 2 (some .boolean) ∈ zz_G := zz_in (List.mem_append_right _ (List.mem_append_left _ (List.mem_of_getElem? (i := 222) rfl))) rfl
theorem hd_C_isPast : y_C_isPast.cls ≠ "java/lang/invoke/MethodHandle" ∧ y_C_isPast.cls ≠ "java/lang/invoke/VarHandle" ∧ (parseMethodDescriptor y_C_isPast.desc).map (fun d => d.parameters.length) = some 1 := by decide +kernel
theorem ml_C_137 : Cond.methodLink "ContinuousRows" 137 y_Lg_heldUntil ∈ zz_G := zz_in (List.mem_append_right _ (List.mem_append_right _ (List.mem_append_left _ (List.mem_of_getElem? (i := 121) (by decide +kernel))))) rfl
theorem im_Lg_heldUntil : Cond.instanceMethod y_Lg_heldUntil ∈ zz_G := zz_in (List.mem_append_right _ (List.mem_append_right _ (List.mem_append_left _ (List.mem_of_getElem? (i := 122) (by decide +kernel))))) rfl
theorem se_Lg_heldUntil : Cond.selects "ContinuousRows$Log" y_Lg_heldUntil y_Lg_heldUntil ∈ zz_G := zz_in (List.mem_append_right _ (List.mem_append_right _ (List.mem_append_left _ (List.mem_of_getElem? (i := 123) (by decide +kernel))))) rfl
theorem co_Lg_heldUntil : Cond.code y_Lg_heldUntil b_Lg_heldUntil 3 (some .int) ∈ zz_G := zz_in (List.mem_append_right _ (List.mem_append_right _ (List.mem_append_left _ (List.mem_of_getElem? (i := 124) rfl)))) rfl
theorem hd_Lg_heldUntil : y_Lg_heldUntil.cls ≠ "java/lang/invoke/MethodHandle" ∧ y_Lg_heldUntil.cls ≠ "java/lang/invoke/VarHandle" ∧ (parseMethodDescriptor y_Lg_heldUntil.desc).map (fun d => d.parameters.length) = some 1 := by decide +kernel
theorem ml_C_152 : Cond.methodLink "ContinuousRows" 152 y_Lg_numberAt ∈ zz_G := zz_in (List.mem_append_right _ (List.mem_append_right _ (List.mem_append_left _ (List.mem_of_getElem? (i := 155) (by decide +kernel))))) rfl
theorem im_Lg_numberAt : Cond.instanceMethod y_Lg_numberAt ∈ zz_G := zz_in (List.mem_append_right _ (List.mem_append_right _ (List.mem_append_left _ (List.mem_of_getElem? (i := 156) (by decide +kernel))))) rfl
theorem se_Lg_numberAt : Cond.selects "ContinuousRows$Log" y_Lg_numberAt y_Lg_numberAt ∈ zz_G := zz_in (List.mem_append_right _ (List.mem_append_right _ (List.mem_append_left _ (List.mem_of_getElem? (i := 157) (by decide +kernel))))) rfl
theorem co_Lg_numberAt : Cond.code y_Lg_numberAt b_Lg_numberAt 2 (some .int) ∈ zz_G := zz_in (List.mem_append_right _ (List.mem_append_right _ (List.mem_append_left _ (List.mem_of_getElem? (i := 158) rfl)))) rfl
theorem hd_Lg_numberAt : y_Lg_numberAt.cls ≠ "java/lang/invoke/MethodHandle" ∧ y_Lg_numberAt.cls ≠ "java/lang/invoke/VarHandle" ∧ (parseMethodDescriptor y_Lg_numberAt.desc).map (fun d => d.parameters.length) = some 1 := by decide +kernel
theorem ml_C_158 : Cond.methodLink "ContinuousRows" 158 y_Se_read ∈ zz_G := zz_in (List.mem_append_right _ (List.mem_append_left _ (List.mem_of_getElem? (i := 235) (by decide +kernel)))) rfl
theorem im_Se_read : Cond.instanceMethod y_Se_read ∈ zz_G := zz_in (List.mem_append_right _ (List.mem_append_left _ (List.mem_of_getElem? (i := 236) (by decide +kernel)))) rfl
theorem se_Se_read : Cond.selects "ContinuousRows$Seen" y_Se_read y_Se_read ∈ zz_G := zz_in (List.mem_append_right _ (List.mem_append_left _ (List.mem_of_getElem? (i := 237) (by decide +kernel)))) rfl
theorem co_Se_read : Cond.code y_Se_read b_Se_read 5 none ∈ zz_G := zz_in (List.mem_append_right _ (List.mem_append_left _ (List.mem_of_getElem? (i := 238) rfl))) rfl
theorem hd_Se_read : y_Se_read.cls ≠ "java/lang/invoke/MethodHandle" ∧ y_Se_read.cls ≠ "java/lang/invoke/VarHandle" ∧ (parseMethodDescriptor y_Se_read.desc).map (fun d => d.parameters.length) = some 3 := by decide +kernel
theorem ml_C_174 : Cond.methodLink "ContinuousRows" 174 y_Lg_shows ∈ zz_G := zz_in (List.mem_append_right _ (List.mem_append_right _ (List.mem_append_left _ (List.mem_of_getElem? (i := 129) (by decide +kernel))))) rfl
theorem ml_C_181 : Cond.methodLink "ContinuousRows" 181 y_Sr_bind ∈ zz_G := zz_in (List.mem_append_right _ (List.mem_append_right _ (List.mem_append_left _ (List.mem_of_getElem? (i := 134) (by decide +kernel))))) rfl
theorem im_Sr_bind : Cond.instanceMethod y_Sr_bind ∈ zz_G := zz_in (List.mem_append_right _ (List.mem_append_right _ (List.mem_append_left _ (List.mem_of_getElem? (i := 135) (by decide +kernel))))) rfl
theorem se_Sr_bind : Cond.selects "ContinuousRows$Search" y_Sr_bind y_Sr_bind ∈ zz_G := zz_in (List.mem_append_right _ (List.mem_append_right _ (List.mem_append_left _ (List.mem_of_getElem? (i := 136) (by decide +kernel))))) rfl
theorem co_Sr_bind : Cond.code y_Sr_bind b_Sr_bind 7 (some .boolean) ∈ zz_G := zz_in (List.mem_append_right _ (List.mem_append_right _ (List.mem_append_left _ (List.mem_of_getElem? (i := 137) rfl)))) rfl
theorem hd_Sr_bind : y_Sr_bind.cls ≠ "java/lang/invoke/MethodHandle" ∧ y_Sr_bind.cls ≠ "java/lang/invoke/VarHandle" ∧ (parseMethodDescriptor y_Sr_bind.desc).map (fun d => d.parameters.length) = some 3 := by decide +kernel
theorem fl_C_50 : Cond.fieldLink "ContinuousRows" 50 "ContinuousRows" "oneWord" "LContinuousRows$RowSet;" ∈ zz_G := zz_in (List.mem_append_right _ (List.mem_append_left _ (List.mem_of_getElem? (i := 98) (by decide +kernel)))) rfl
theorem ml_C_184 : Cond.methodLink "ContinuousRows" 184 y_Se_put ∈ zz_G := zz_in (List.mem_append_right _ (List.mem_append_right _ (List.mem_append_left _ (List.mem_of_getElem? (i := 138) (by decide +kernel))))) rfl
theorem ml_M_106 : Cond.methodLink "ContinuousRowsModel" 106 y_M_askLast ∈ zz_G := zz_in (List.mem_append_right _ (List.mem_append_right _ (List.mem_append_right _ (List.mem_of_getElem? (i := 80) (by decide +kernel))))) rfl
theorem im_M_askLast : Cond.instanceMethod y_M_askLast ∈ zz_G := zz_in (List.mem_append_right _ (List.mem_append_right _ (List.mem_append_right _ (List.mem_of_getElem? (i := 82) (by decide +kernel))))) rfl
theorem se_M_askLast : Cond.selects "ContinuousRowsModel" y_M_askLast y_M_askLast ∈ zz_G := zz_in (List.mem_append_left _ (List.mem_of_getElem? (i := 28) (by decide +kernel))) rfl
theorem co_M_askLast : Cond.code y_M_askLast b_M_askLast 8 none ∈ zz_G := zz_in (List.mem_append_right _ (List.mem_append_right _ (List.mem_append_right _ (List.mem_of_getElem? (i := 83) rfl)))) rfl
theorem hd_M_askLast : y_M_askLast.cls ≠ "java/lang/invoke/MethodHandle" ∧ y_M_askLast.cls ≠ "java/lang/invoke/VarHandle" ∧ (parseMethodDescriptor y_M_askLast.desc).map (fun d => d.parameters.length) = some 5 := by decide +kernel
theorem ml_M_116 : Cond.methodLink "ContinuousRowsModel" 116 y_M_ask ∈ zz_G := zz_in (List.mem_append_right _ (List.mem_append_right _ (List.mem_append_right _ (List.mem_of_getElem? (i := 68) (by decide +kernel))))) rfl
theorem im_M_ask : Cond.instanceMethod y_M_ask ∈ zz_G := zz_in (List.mem_append_right _ (List.mem_append_right _ (List.mem_append_right _ (List.mem_of_getElem? (i := 70) (by decide +kernel))))) rfl
theorem se_M_ask : Cond.selects "ContinuousRowsModel" y_M_ask y_M_ask ∈ zz_G := zz_in (List.mem_append_left _ (List.mem_of_getElem? (i := 25) (by decide +kernel))) rfl
theorem co_M_ask : Cond.code y_M_ask b_M_ask 10 none ∈ zz_G := zz_in (List.mem_append_right _ (List.mem_append_right _ (List.mem_append_right _ (List.mem_of_getElem? (i := 71) rfl)))) rfl
theorem hd_M_ask : y_M_ask.cls ≠ "java/lang/invoke/MethodHandle" ∧ y_M_ask.cls ≠ "java/lang/invoke/VarHandle" ∧ (parseMethodDescriptor y_M_ask.desc).map (fun d => d.parameters.length) = some 2 := by decide +kernel
theorem ml_M_119 : Cond.methodLink "ContinuousRowsModel" 119 y_M_rowsOf ∈ zz_G := zz_in (List.mem_append_right _ (List.mem_append_right _ (List.mem_append_right _ (List.mem_of_getElem? (i := 60) (by decide +kernel))))) rfl
theorem im_M_rowsOf : Cond.instanceMethod y_M_rowsOf ∈ zz_G := zz_in (List.mem_append_right _ (List.mem_append_right _ (List.mem_append_right _ (List.mem_of_getElem? (i := 62) (by decide +kernel))))) rfl
theorem se_M_rowsOf : Cond.selects "ContinuousRowsModel" y_M_rowsOf y_M_rowsOf ∈ zz_G := zz_in (List.mem_append_left _ (List.mem_of_getElem? (i := 23) (by decide +kernel))) rfl
theorem co_M_rowsOf : Cond.code y_M_rowsOf b_M_rowsOf 5 (some .int) ∈ zz_G := zz_in (List.mem_append_right _ (List.mem_append_right _ (List.mem_append_right _ (List.mem_of_getElem? (i := 63) rfl)))) rfl
theorem hd_M_rowsOf : y_M_rowsOf.cls ≠ "java/lang/invoke/MethodHandle" ∧ y_M_rowsOf.cls ≠ "java/lang/invoke/VarHandle" ∧ (parseMethodDescriptor y_M_rowsOf.desc).map (fun d => d.parameters.length) = some 2 := by decide +kernel
theorem kl_M_122 : Cond.constantLong "ContinuousRowsModel" 122 (-1) ∈ zz_G := zz_in (List.mem_append_right _ (List.mem_append_right _ (List.mem_append_right _ (List.mem_of_getElem? (i := 92) (by decide +kernel))))) rfl
theorem ml_M_124 : Cond.methodLink "ContinuousRowsModel" 124 y_M_bits ∈ zz_G := zz_in (List.mem_append_right _ (List.mem_append_right _ (List.mem_append_right _ (List.mem_of_getElem? (i := 56) (by decide +kernel))))) rfl
theorem im_M_bits : Cond.instanceMethod y_M_bits ∈ zz_G := zz_in (List.mem_append_right _ (List.mem_append_right _ (List.mem_append_right _ (List.mem_of_getElem? (i := 58) (by decide +kernel))))) rfl
theorem se_M_bits : Cond.selects "ContinuousRowsModel" y_M_bits y_M_bits ∈ zz_G := zz_in (List.mem_append_left _ (List.mem_of_getElem? (i := 22) (by decide +kernel))) rfl
theorem co_M_bits : Cond.code y_M_bits b_M_bits 9 (some .long) ∈ zz_G := zz_in (List.mem_append_right _ (List.mem_append_right _ (List.mem_append_right _ (List.mem_of_getElem? (i := 59) rfl)))) rfl
theorem hd_M_bits : y_M_bits.cls ≠ "java/lang/invoke/MethodHandle" ∧ y_M_bits.cls ≠ "java/lang/invoke/VarHandle" ∧ (parseMethodDescriptor y_M_bits.desc).map (fun d => d.parameters.length) = some 4 := by decide +kernel
theorem ml_M_128 : Cond.methodLink "ContinuousRowsModel" 128 y_M_count ∈ zz_G := zz_in (List.mem_append_right _ (List.mem_append_right _ (List.mem_append_right _ (List.mem_of_getElem? (i := 52) (by decide +kernel))))) rfl
theorem im_M_count : Cond.instanceMethod y_M_count ∈ zz_G := zz_in (List.mem_append_right _ (List.mem_append_right _ (List.mem_append_right _ (List.mem_of_getElem? (i := 54) (by decide +kernel))))) rfl
theorem se_M_count : Cond.selects "ContinuousRowsModel" y_M_count y_M_count ∈ zz_G := zz_in (List.mem_append_left _ (List.mem_of_getElem? (i := 21) (by decide +kernel))) rfl
theorem co_M_count : Cond.code y_M_count b_M_count 8 (some .int) ∈ zz_G := zz_in (List.mem_append_right _ (List.mem_append_right _ (List.mem_append_right _ (List.mem_of_getElem? (i := 55) rfl)))) rfl
theorem hd_M_count : y_M_count.cls ≠ "java/lang/invoke/MethodHandle" ∧ y_M_count.cls ≠ "java/lang/invoke/VarHandle" ∧ (parseMethodDescriptor y_M_count.desc).map (fun d => d.parameters.length) = some 3 := by decide +kernel
theorem ml_Rs_42 : Cond.methodLink "ContinuousRows$RowSet" 42 y_Rs_allValuesOf ∈ zz_G := zz_in (List.mem_append_right _ (List.mem_append_right _ (List.mem_append_left _ (List.mem_of_getElem? (i := 109) (by decide +kernel))))) rfl
theorem im_Rs_allValuesOf : Cond.instanceMethod y_Rs_allValuesOf ∈ zz_G := zz_in (List.mem_append_right _ (List.mem_append_right _ (List.mem_append_left _ (List.mem_of_getElem? (i := 111) (by decide +kernel))))) rfl
theorem se_Rs_allValuesOf : Cond.selects "ContinuousRows$RowSet" y_Rs_allValuesOf y_Rs_allValuesOf ∈ zz_G := zz_in (List.mem_append_left _ (List.mem_of_getElem? (i := 12) (by decide +kernel))) rfl
theorem co_Rs_allValuesOf : Cond.code y_Rs_allValuesOf b_Rs_allValuesOf 4 (some .int) ∈ zz_G := zz_in (List.mem_append_right _ (List.mem_append_right _ (List.mem_append_left _ (List.mem_of_getElem? (i := 112) rfl)))) rfl
theorem hd_Rs_allValuesOf : y_Rs_allValuesOf.cls ≠ "java/lang/invoke/MethodHandle" ∧ y_Rs_allValuesOf.cls ≠ "java/lang/invoke/VarHandle" ∧ (parseMethodDescriptor y_Rs_allValuesOf.desc).map (fun d => d.parameters.length) = some 1 := by decide +kernel
theorem ml_Sr_61 : Cond.methodLink "ContinuousRows$Search" 61 y_Sr_filter ∈ zz_G := zz_in (List.mem_append_right _ (List.mem_append_right _ (List.mem_append_left _ (List.mem_of_getElem? (i := 47) (by decide +kernel))))) rfl
theorem im_Sr_filter : Cond.instanceMethod y_Sr_filter ∈ zz_G := zz_in (List.mem_append_right _ (List.mem_append_right _ (List.mem_append_left _ (List.mem_of_getElem? (i := 49) (by decide +kernel))))) rfl
theorem se_Sr_filter : Cond.selects "ContinuousRows$Search" y_Sr_filter y_Sr_filter ∈ zz_G := zz_in (List.mem_append_left _ (List.mem_of_getElem? (i := 10) (by decide +kernel))) rfl
theorem co_Sr_filter : Cond.code y_Sr_filter b_Sr_filter 11 (some .int) ∈ zz_G := zz_in (List.mem_append_right _ (List.mem_append_right _ (List.mem_append_left _ (List.mem_of_getElem? (i := 50) rfl)))) rfl
theorem hd_Sr_filter : y_Sr_filter.cls ≠ "java/lang/invoke/MethodHandle" ∧ y_Sr_filter.cls ≠ "java/lang/invoke/VarHandle" ∧ (parseMethodDescriptor y_Sr_filter.desc).map (fun d => d.parameters.length) = some 4 := by decide +kernel
theorem ml_Sr_71 : Cond.methodLink "ContinuousRows$Search" 71 y_Rs_isFull ∈ zz_G := zz_in (List.mem_append_right _ (List.mem_append_right _ (List.mem_append_left _ (List.mem_of_getElem? (i := 63) (by decide +kernel))))) rfl
theorem ml_Sr_45 : Cond.methodLink "ContinuousRows$Search" 45 y_Sr_extend ∈ zz_G := zz_in (List.mem_append_right _ (List.mem_append_right _ (List.mem_append_left _ (List.mem_of_getElem? (i := 43) (by decide +kernel))))) rfl
theorem im_Sr_extend : Cond.instanceMethod y_Sr_extend ∈ zz_G := zz_in (List.mem_append_right _ (List.mem_append_right _ (List.mem_append_left _ (List.mem_of_getElem? (i := 45) (by decide +kernel))))) rfl
theorem se_Sr_extend : Cond.selects "ContinuousRows$Search" y_Sr_extend y_Sr_extend ∈ zz_G := zz_in (List.mem_append_left _ (List.mem_of_getElem? (i := 9) (by decide +kernel))) rfl
theorem co_Sr_extend : Cond.code y_Sr_extend b_Sr_extend 7 none ∈ zz_G := zz_in (List.mem_append_right _ (List.mem_append_right _ (List.mem_append_left _ (List.mem_of_getElem? (i := 46) rfl)))) rfl
theorem hd_Sr_extend : y_Sr_extend.cls ≠ "java/lang/invoke/MethodHandle" ∧ y_Sr_extend.cls ≠ "java/lang/invoke/VarHandle" ∧ (parseMethodDescriptor y_Sr_extend.desc).map (fun d => d.parameters.length) = some 4 := by decide +kernel
theorem ml_M_131 : Cond.methodLink "ContinuousRowsModel" 131 y_M_again ∈ zz_G := zz_in (List.mem_append_right _ (List.mem_append_right _ (List.mem_append_right _ (List.mem_of_getElem? (i := 109) (by decide +kernel))))) rfl
theorem im_M_again : Cond.instanceMethod y_M_again ∈ zz_G := zz_in (List.mem_append_right _ (List.mem_append_right _ (List.mem_append_right _ (List.mem_of_getElem? (i := 111) (by decide +kernel))))) rfl
theorem se_M_again : Cond.selects "ContinuousRowsModel" y_M_again y_M_again ∈ zz_G := zz_in (List.mem_append_left _ (List.mem_of_getElem? (i := 31) (by decide +kernel))) rfl
theorem co_M_again : Cond.code y_M_again b_M_again 6 (some .boolean) ∈ zz_G := zz_in (List.mem_append_right _ (List.mem_append_right _ (List.mem_append_right _ (List.mem_of_getElem? (i := 112) rfl)))) rfl
theorem hd_M_again : y_M_again.cls ≠ "java/lang/invoke/MethodHandle" ∧ y_M_again.cls ≠ "java/lang/invoke/VarHandle" ∧ (parseMethodDescriptor y_M_again.desc).map (fun d => d.parameters.length) = some 2 := by decide +kernel
theorem ml_Sr_41 : Cond.methodLink "ContinuousRows$Search" 41 y_Sr_narrow ∈ zz_G := zz_in (List.mem_append_right _ (List.mem_append_right _ (List.mem_append_left _ (List.mem_of_getElem? (i := 27) (by decide +kernel))))) rfl
theorem im_Sr_narrow : Cond.instanceMethod y_Sr_narrow ∈ zz_G := zz_in (List.mem_append_right _ (List.mem_append_right _ (List.mem_append_left _ (List.mem_of_getElem? (i := 29) (by decide +kernel))))) rfl
theorem se_Sr_narrow : Cond.selects "ContinuousRows$Search" y_Sr_narrow y_Sr_narrow ∈ zz_G := zz_in (List.mem_append_left _ (List.mem_of_getElem? (i := 6) (by decide +kernel))) rfl
theorem co_Sr_narrow : Cond.code y_Sr_narrow b_Sr_narrow 13 (some .boolean) ∈ zz_G := zz_in (List.mem_append_right _ (List.mem_append_right _ (List.mem_append_left _ (List.mem_of_getElem? (i := 30) rfl)))) rfl
theorem hd_Sr_narrow : y_Sr_narrow.cls ≠ "java/lang/invoke/MethodHandle" ∧ y_Sr_narrow.cls ≠ "java/lang/invoke/VarHandle" ∧ (parseMethodDescriptor y_Sr_narrow.desc).map (fun d => d.parameters.length) = some 3 := by decide +kernel
theorem ml_C_166 : Cond.methodLink "ContinuousRows" 166 y_Sr_run ∈ zz_G := zz_in (List.mem_append_right _ (List.mem_append_right _ (List.mem_append_left _ (List.mem_of_getElem? (i := 19) (by decide +kernel))))) rfl
theorem im_Sr_run : Cond.instanceMethod y_Sr_run ∈ zz_G := zz_in (List.mem_append_right _ (List.mem_append_right _ (List.mem_append_left _ (List.mem_of_getElem? (i := 20) (by decide +kernel))))) rfl
theorem se_Sr_run : Cond.selects "ContinuousRows$Search" y_Sr_run y_Sr_run ∈ zz_G := zz_in (List.mem_append_right _ (List.mem_append_right _ (List.mem_append_left _ (List.mem_of_getElem? (i := 21) (by decide +kernel))))) rfl
theorem co_Sr_run : Cond.code y_Sr_run b_Sr_run 4 none ∈ zz_G := zz_in (List.mem_append_right _ (List.mem_append_right _ (List.mem_append_left _ (List.mem_of_getElem? (i := 22) rfl)))) rfl
theorem hd_Sr_run : y_Sr_run.cls ≠ "java/lang/invoke/MethodHandle" ∧ y_Sr_run.cls ≠ "java/lang/invoke/VarHandle" ∧ (parseMethodDescriptor y_Sr_run.desc).map (fun d => d.parameters.length) = some 2 := by decide +kernel
theorem ml_C_144 : Cond.methodLink "ContinuousRows" 144 y_C_fill ∈ zz_G := zz_in (List.mem_append_right _ (List.mem_append_left _ (List.mem_of_getElem? (i := 227) (by decide +kernel)))) rfl
theorem im_C_fill : Cond.instanceMethod y_C_fill ∈ zz_G := zz_in (List.mem_append_right _ (List.mem_append_left _ (List.mem_of_getElem? (i := 229) (by decide +kernel)))) rfl
theorem se_C_fill : Cond.selects "ContinuousRows" y_C_fill y_C_fill ∈ zz_G := zz_in (List.mem_append_left _ (List.mem_of_getElem? (i := 5) (by decide +kernel))) rfl
theorem co_C_fill : Cond.code y_C_fill b_C_fill 4 none ∈ zz_G := zz_in (List.mem_append_right _ (List.mem_append_left _ (List.mem_of_getElem? (i := 230) rfl))) rfl
theorem hd_C_fill : y_C_fill.cls ≠ "java/lang/invoke/MethodHandle" ∧ y_C_fill.cls ≠ "java/lang/invoke/VarHandle" ∧ (parseMethodDescriptor y_C_fill.desc).map (fun d => d.parameters.length) = some 3 := by decide +kernel
theorem fl_C_47 : Cond.fieldLink "ContinuousRows" 47 "ContinuousRows" "rowsBefore" "LContinuousRows$RowSet;" ∈ zz_G := zz_in (List.mem_append_right _ (List.mem_append_left _ (List.mem_of_getElem? (i := 97) (by decide +kernel)))) rfl
theorem ml_C_170 : Cond.methodLink "ContinuousRows" 170 y_Rs_removeAll ∈ zz_G := zz_in (List.mem_append_right _ (List.mem_append_right _ (List.mem_append_left _ (List.mem_of_getElem? (i := 64) (by decide +kernel))))) rfl
theorem im_Rs_removeAll : Cond.instanceMethod y_Rs_removeAll ∈ zz_G := zz_in (List.mem_append_right _ (List.mem_append_right _ (List.mem_append_left _ (List.mem_of_getElem? (i := 65) (by decide +kernel))))) rfl
theorem se_Rs_removeAll : Cond.selects "ContinuousRows$RowSet" y_Rs_removeAll y_Rs_removeAll ∈ zz_G := zz_in (List.mem_append_right _ (List.mem_append_right _ (List.mem_append_left _ (List.mem_of_getElem? (i := 66) (by decide +kernel))))) rfl
theorem co_Rs_removeAll : Cond.code y_Rs_removeAll b_Rs_removeAll 6 none ∈ zz_G := zz_in (List.mem_append_right _ (List.mem_append_right _ (List.mem_append_left _ (List.mem_of_getElem? (i := 67) rfl)))) rfl
theorem hd_Rs_removeAll : y_Rs_removeAll.cls ≠ "java/lang/invoke/MethodHandle" ∧ y_Rs_removeAll.cls ≠ "java/lang/invoke/VarHandle" ∧ (parseMethodDescriptor y_Rs_removeAll.desc).map (fun d => d.parameters.length) = some 1 := by decide +kernel
theorem fl_C_188 : Cond.fieldLink "ContinuousRows" 188 "ContinuousRows$RowSet" "size" "I" ∈ zz_G := zz_in (List.mem_append_right _ (List.mem_append_left _ (List.mem_of_getElem? (i := 82) (by decide +kernel)))) rfl
theorem ml_C_116 : Cond.methodLink "ContinuousRows" 116 y_C_findRows ∈ zz_G := zz_in (List.mem_append_right _ (List.mem_append_left _ (List.mem_of_getElem? (i := 223) (by decide +kernel)))) rfl
theorem im_C_findRows : Cond.instanceMethod y_C_findRows ∈ zz_G := zz_in (List.mem_append_right _ (List.mem_append_left _ (List.mem_of_getElem? (i := 225) (by decide +kernel)))) rfl
theorem se_C_findRows : Cond.selects "ContinuousRows" y_C_findRows y_C_findRows ∈ zz_G := zz_in (List.mem_append_left _ (List.mem_of_getElem? (i := 4) (by decide +kernel))) rfl
theorem co_C_findRows : Cond.code y_C_findRows b_C_findRows 4 (some (.object "ContinuousRows$RowSet")) ∈ zz_G := zz_in (List.mem_append_right _ (List.mem_append_left _ (List.mem_of_getElem? (i := 226) rfl))) rfl
theorem hd_C_findRows : y_C_findRows.cls ≠ "java/lang/invoke/MethodHandle" ∧ y_C_findRows.cls ≠ "java/lang/invoke/VarHandle" ∧ (parseMethodDescriptor y_C_findRows.desc).map (fun d => d.parameters.length) = some 3 := by decide +kernel
theorem ml_C_120 : Cond.methodLink "ContinuousRows" 120 y_Rs_count ∈ zz_G := zz_in (List.mem_append_right _ (List.mem_append_right _ (List.mem_append_left _ (List.mem_of_getElem? (i := 69) (by decide +kernel))))) rfl
theorem im_Rs_count : Cond.instanceMethod y_Rs_count ∈ zz_G := zz_in (List.mem_append_right _ (List.mem_append_right _ (List.mem_append_left _ (List.mem_of_getElem? (i := 70) (by decide +kernel))))) rfl
theorem se_Rs_count : Cond.selects "ContinuousRows$RowSet" y_Rs_count y_Rs_count ∈ zz_G := zz_in (List.mem_append_right _ (List.mem_append_right _ (List.mem_append_left _ (List.mem_of_getElem? (i := 71) (by decide +kernel))))) rfl
theorem co_Rs_count : Cond.code y_Rs_count b_Rs_count 3 (some .int) ∈ zz_G := zz_in (List.mem_append_right _ (List.mem_append_right _ (List.mem_append_left _ (List.mem_of_getElem? (i := 72) rfl)))) rfl
theorem hd_Rs_count : y_Rs_count.cls ≠ "java/lang/invoke/MethodHandle" ∧ y_Rs_count.cls ≠ "java/lang/invoke/VarHandle" ∧ (parseMethodDescriptor y_Rs_count.desc).map (fun d => d.parameters.length) = some 0 := by decide +kernel
theorem ml_C_124 : Cond.methodLink "ContinuousRows" 124 y_Rs_keyAt ∈ zz_G := zz_in (List.mem_append_right _ (List.mem_append_right _ (List.mem_append_left _ (List.mem_of_getElem? (i := 87) (by decide +kernel))))) rfl
theorem im_Rs_keyAt : Cond.instanceMethod y_Rs_keyAt ∈ zz_G := zz_in (List.mem_append_right _ (List.mem_append_right _ (List.mem_append_left _ (List.mem_of_getElem? (i := 88) (by decide +kernel))))) rfl
theorem se_Rs_keyAt : Cond.selects "ContinuousRows$RowSet" y_Rs_keyAt y_Rs_keyAt ∈ zz_G := zz_in (List.mem_append_right _ (List.mem_append_right _ (List.mem_append_left _ (List.mem_of_getElem? (i := 89) (by decide +kernel))))) rfl
theorem co_Rs_keyAt : Cond.code y_Rs_keyAt b_Rs_keyAt 5 (some .int) ∈ zz_G := zz_in (List.mem_append_right _ (List.mem_append_right _ (List.mem_append_left _ (List.mem_of_getElem? (i := 90) rfl)))) rfl
theorem hd_Rs_keyAt : y_Rs_keyAt.cls ≠ "java/lang/invoke/MethodHandle" ∧ y_Rs_keyAt.cls ≠ "java/lang/invoke/VarHandle" ∧ (parseMethodDescriptor y_Rs_keyAt.desc).map (fun d => d.parameters.length) = some 1 := by decide +kernel
theorem ml_C_134 : Cond.methodLink "ContinuousRows" 134 y_Rs_greatestOf ∈ zz_G := zz_in (List.mem_append_right _ (List.mem_append_right _ (List.mem_append_left _ (List.mem_of_getElem? (i := 113) (by decide +kernel))))) rfl
theorem im_Rs_greatestOf : Cond.instanceMethod y_Rs_greatestOf ∈ zz_G := zz_in (List.mem_append_right _ (List.mem_append_right _ (List.mem_append_left _ (List.mem_of_getElem? (i := 114) (by decide +kernel))))) rfl
theorem se_Rs_greatestOf : Cond.selects "ContinuousRows$RowSet" y_Rs_greatestOf y_Rs_greatestOf ∈ zz_G := zz_in (List.mem_append_right _ (List.mem_append_right _ (List.mem_append_left _ (List.mem_of_getElem? (i := 115) (by decide +kernel))))) rfl
theorem co_Rs_greatestOf : Cond.code y_Rs_greatestOf b_Rs_greatestOf 3 (some .int) ∈ zz_G := zz_in (List.mem_append_right _ (List.mem_append_right _ (List.mem_append_left _ (List.mem_of_getElem? (i := 116) rfl)))) rfl
theorem hd_Rs_greatestOf : y_Rs_greatestOf.cls ≠ "java/lang/invoke/MethodHandle" ∧ y_Rs_greatestOf.cls ≠ "java/lang/invoke/VarHandle" ∧ (parseMethodDescriptor y_Rs_greatestOf.desc).map (fun d => d.parameters.length) = some 1 := by decide +kernel
theorem ml_C_131 : Cond.methodLink "ContinuousRows" 131 y_Rs_leastOf ∈ zz_G := zz_in (List.mem_append_right _ (List.mem_append_right _ (List.mem_append_left _ (List.mem_of_getElem? (i := 105) (by decide +kernel))))) rfl
theorem im_Rs_leastOf : Cond.instanceMethod y_Rs_leastOf ∈ zz_G := zz_in (List.mem_append_right _ (List.mem_append_right _ (List.mem_append_left _ (List.mem_of_getElem? (i := 106) (by decide +kernel))))) rfl
theorem se_Rs_leastOf : Cond.selects "ContinuousRows$RowSet" y_Rs_leastOf y_Rs_leastOf ∈ zz_G := zz_in (List.mem_append_right _ (List.mem_append_right _ (List.mem_append_left _ (List.mem_of_getElem? (i := 107) (by decide +kernel))))) rfl
theorem co_Rs_leastOf : Cond.code y_Rs_leastOf b_Rs_leastOf 3 (some .int) ∈ zz_G := zz_in (List.mem_append_right _ (List.mem_append_right _ (List.mem_append_left _ (List.mem_of_getElem? (i := 108) rfl)))) rfl
theorem hd_Rs_leastOf : y_Rs_leastOf.cls ≠ "java/lang/invoke/MethodHandle" ∧ y_Rs_leastOf.cls ≠ "java/lang/invoke/VarHandle" ∧ (parseMethodDescriptor y_Rs_leastOf.desc).map (fun d => d.parameters.length) = some 1 := by decide +kernel
theorem ml_C_128 : Cond.methodLink "ContinuousRows" 128 y_Rs_sumOf ∈ zz_G := zz_in (List.mem_append_right _ (List.mem_append_right _ (List.mem_append_left _ (List.mem_of_getElem? (i := 98) (by decide +kernel))))) rfl
theorem im_Rs_sumOf : Cond.instanceMethod y_Rs_sumOf ∈ zz_G := zz_in (List.mem_append_right _ (List.mem_append_right _ (List.mem_append_left _ (List.mem_of_getElem? (i := 99) (by decide +kernel))))) rfl
theorem se_Rs_sumOf : Cond.selects "ContinuousRows$RowSet" y_Rs_sumOf y_Rs_sumOf ∈ zz_G := zz_in (List.mem_append_right _ (List.mem_append_right _ (List.mem_append_left _ (List.mem_of_getElem? (i := 100) (by decide +kernel))))) rfl
theorem co_Rs_sumOf : Cond.code y_Rs_sumOf b_Rs_sumOf 7 (some .int) ∈ zz_G := zz_in (List.mem_append_right _ (List.mem_append_right _ (List.mem_append_left _ (List.mem_of_getElem? (i := 101) rfl)))) rfl
theorem hd_Rs_sumOf : y_Rs_sumOf.cls ≠ "java/lang/invoke/MethodHandle" ∧ y_Rs_sumOf.cls ≠ "java/lang/invoke/VarHandle" ∧ (parseMethodDescriptor y_Rs_sumOf.desc).map (fun d => d.parameters.length) = some 1 := by decide +kernel
theorem ml_C_148 : Cond.methodLink "ContinuousRows" 148 y_Rs_isSameAs ∈ zz_G := zz_in (List.mem_append_right _ (List.mem_append_right _ (List.mem_append_left _ (List.mem_of_getElem? (i := 143) (by decide +kernel))))) rfl
theorem im_Rs_isSameAs : Cond.instanceMethod y_Rs_isSameAs ∈ zz_G := zz_in (List.mem_append_right _ (List.mem_append_right _ (List.mem_append_left _ (List.mem_of_getElem? (i := 144) (by decide +kernel))))) rfl
theorem se_Rs_isSameAs : Cond.selects "ContinuousRows$RowSet" y_Rs_isSameAs y_Rs_isSameAs ∈ zz_G := zz_in (List.mem_append_right _ (List.mem_append_right _ (List.mem_append_left _ (List.mem_of_getElem? (i := 145) (by decide +kernel))))) rfl
theorem co_Rs_isSameAs : Cond.code y_Rs_isSameAs b_Rs_isSameAs 3 (some .boolean) ∈ zz_G := zz_in (List.mem_append_right _ (List.mem_append_right _ (List.mem_append_left _ (List.mem_of_getElem? (i := 146) rfl)))) rfl
theorem hd_Rs_isSameAs : y_Rs_isSameAs.cls ≠ "java/lang/invoke/MethodHandle" ∧ y_Rs_isSameAs.cls ≠ "java/lang/invoke/VarHandle" ∧ (parseMethodDescriptor y_Rs_isSameAs.desc).map (fun d => d.parameters.length) = some 1 := by decide +kernel
theorem ml_C_177 : Cond.methodLink "ContinuousRows" 177 y_C_hasRowThrough ∈ zz_G := zz_in (List.mem_append_right _ (List.mem_append_right _ (List.mem_append_left _ (List.mem_of_getElem? (i := 130) (by decide +kernel))))) rfl
theorem im_C_hasRowThrough : Cond.instanceMethod y_C_hasRowThrough ∈ zz_G := zz_in (List.mem_append_right _ (List.mem_append_right _ (List.mem_append_left _ (List.mem_of_getElem? (i := 132) (by decide +kernel))))) rfl
theorem se_C_hasRowThrough : Cond.selects "ContinuousRows" y_C_hasRowThrough y_C_hasRowThrough ∈ zz_G := zz_in (List.mem_append_left _ (List.mem_of_getElem? (i := 14) (by decide +kernel))) rfl
theorem co_C_hasRowThrough : Cond.code y_C_hasRowThrough b_C_hasRowThrough 5 (some .boolean) ∈ zz_G := zz_in (List.mem_append_right _ (List.mem_append_right _ (List.mem_append_left _ (List.mem_of_getElem? (i := 133) rfl)))) rfl
theorem hd_C_hasRowThrough : y_C_hasRowThrough.cls ≠ "java/lang/invoke/MethodHandle" ∧ y_C_hasRowThrough.cls ≠ "java/lang/invoke/VarHandle" ∧ (parseMethodDescriptor y_C_hasRowThrough.desc).map (fun d => d.parameters.length) = some 3 := by decide +kernel
theorem ml_C_140 : Cond.methodLink "ContinuousRows" 140 y_C_areRowsOthers ∈ zz_G := zz_in (List.mem_append_right _ (List.mem_append_right _ (List.mem_append_left _ (List.mem_of_getElem? (i := 125) (by decide +kernel))))) rfl
theorem im_C_areRowsOthers : Cond.instanceMethod y_C_areRowsOthers ∈ zz_G := zz_in (List.mem_append_right _ (List.mem_append_right _ (List.mem_append_left _ (List.mem_of_getElem? (i := 127) (by decide +kernel))))) rfl
theorem se_C_areRowsOthers : Cond.selects "ContinuousRows" y_C_areRowsOthers y_C_areRowsOthers ∈ zz_G := zz_in (List.mem_append_left _ (List.mem_of_getElem? (i := 13) (by decide +kernel))) rfl
theorem co_C_areRowsOthers : Cond.code y_C_areRowsOthers b_C_areRowsOthers 7 (some .boolean) ∈ zz_G := zz_in (List.mem_append_right _ (List.mem_append_right _ (List.mem_append_left _ (List.mem_of_getElem? (i := 128) rfl)))) rfl
theorem hd_C_areRowsOthers : y_C_areRowsOthers.cls ≠ "java/lang/invoke/MethodHandle" ∧ y_C_areRowsOthers.cls ≠ "java/lang/invoke/VarHandle" ∧ (parseMethodDescriptor y_C_areRowsOthers.desc).map (fun d => d.parameters.length) = some 4 := by decide +kernel
end
section
/-! MY OWN BASE ROWS. Pure helpers (fn_): a method of the program is read as a function into Option; 'none' is a wrong index or no fuel. -/
theorem fn_t {α : Type} {c : Prop} [Decidable c] {a b r : α} (hc : c) (h : (if c then a else b) = r) : a = r := by rw [if_pos hc] at h; exact h
theorem fn_f {α : Type} {c : Prop} [Decidable c] {a b r : α} (hc : ¬ c) (h : (if c then a else b) = r) : b = r := by rw [if_neg hc] at h; exact h
theorem fn_g {α : Type} {c : Prop} [Decidable c] {a : Option α} {r : α} (h : (if c then a else none) = some r) : c := by
  by_cases hc : c
  · exact hc
  · rw [if_neg hc] at h; cases h
theorem fn_0 {α : Type} {P : Prop} {r : α} (h : (none : Option α) = some r) : P := by cases h
def fn_in (i : Int32) (n : Nat) : Bool := decide (0 ≤ i.toInt ∧ i.toInt < n)
theorem fn_v {i : Int32} {n : Nat} (h : fn_in i n = true) : vp_in i n := vp_in_iff.mpr (of_decide_eq_true h)
def fn_b1 {α β : Type} (o : Option α) (k : α → Option β) : Option β := match o with
  | none => none
  | some a => k a
def fn_b2 {α1 α2 β : Type} (o : Option (α1 × α2)) (k : α1 → α2 → Option β) : Option β := match o with
  | none => none
  | some (a, b) => k a b
def fn_b3 {α1 α2 α3 β : Type} (o : Option (α1 × α2 × α3)) (k : α1 → α2 → α3 → Option β) : Option β := match o with
  | none => none
  | some (a, b, c) => k a b c
def fn_b4 {α1 α2 α3 α4 β : Type} (o : Option (α1 × α2 × α3 × α4)) (k : α1 → α2 → α3 → α4 → Option β) : Option β := match o with
  | none => none
  | some (a, b, c, d) => k a b c d
def fn_b5 {α1 α2 α3 α4 α5 β : Type} (o : Option (α1 × α2 × α3 × α4 × α5)) (k : α1 → α2 → α3 → α4 → α5 → Option β) : Option β := match o with
  | none => none
  | some (a, b, c, d, e) => k a b c d e
def fn_b6 {α1 α2 α3 α4 α5 α6 β : Type} (o : Option (α1 × α2 × α3 × α4 × α5 × α6)) (k : α1 → α2 → α3 → α4 → α5 → α6 → Option β) : Option β := match o with
  | none => none
  | some (a, b, c, d, e, f) => k a b c d e f
def fn_b7 {α1 α2 α3 α4 α5 α6 α7 β : Type} (o : Option (α1 × α2 × α3 × α4 × α5 × α6 × α7)) (k : α1 → α2 → α3 → α4 → α5 → α6 → α7 → Option β) : Option β := match o with
  | none => none
  | some (a, b, c, d, e, f, g) => k a b c d e f g
def fn_b8 {α1 α2 α3 α4 α5 α6 α7 α8 β : Type} (o : Option (α1 × α2 × α3 × α4 × α5 × α6 × α7 × α8)) (k : α1 → α2 → α3 → α4 → α5 → α6 → α7 → α8 → Option β) : Option β := match o with
  | none => none
  | some (a, b, c, d, e, f, g, h) => k a b c d e f g h
theorem fn_e1 {α β : Type} {o : Option α} {k : α → Option β} {r : β} (h : fn_b1 o k = some r) : ∃ a, o = some a ∧ k a = some r := by
  cases o with
  | none => cases h
  | some a => exact ⟨a, rfl, h⟩
theorem fn_e2 {α1 α2 β : Type} {o : Option (α1 × α2)} {k : α1 → α2 → Option β} {r : β} (h : fn_b2 o k = some r) : ∃ a b, o = some (a, b) ∧ k a b = some r := by
  cases o with
  | none => cases h
  | some a => exact ⟨a.1, a.2, rfl, h⟩
theorem fn_e3 {α1 α2 α3 β : Type} {o : Option (α1 × α2 × α3)} {k : α1 → α2 → α3 → Option β} {r : β} (h : fn_b3 o k = some r) : ∃ a b c, o = some (a, b, c) ∧ k a b c = some r := by
  cases o with
  | none => cases h
  | some a => exact ⟨a.1, a.2.1, a.2.2, rfl, h⟩
theorem fn_e4 {α1 α2 α3 α4 β : Type} {o : Option (α1 × α2 × α3 × α4)} {k : α1 → α2 → α3 → α4 → Option β} {r : β} (h : fn_b4 o k = some r) : ∃ a b c d, o = some (a, b, c, d) ∧ k a b c d = some r := by
  cases o with
  | none => cases h
  | some a => exact ⟨a.1, a.2.1, a.2.2.1, a.2.2.2, rfl, h⟩
theorem fn_e5 {α1 α2 α3 α4 α5 β : Type} {o : Option (α1 × α2 × α3 × α4 × α5)} {k : α1 → α2 → α3 → α4 → α5 → Option β} {r : β} (h : fn_b5 o k = some r) : ∃ a b c d e, o = some (a, b, c, d, e) ∧ k a b c d e = some r := by
  cases o with
  | none => cases h
  | some a => exact ⟨a.1, a.2.1, a.2.2.1, a.2.2.2.1, a.2.2.2.2, rfl, h⟩
theorem fn_e6 {α1 α2 α3 α4 α5 α6 β : Type} {o : Option (α1 × α2 × α3 × α4 × α5 × α6)} {k : α1 → α2 → α3 → α4 → α5 → α6 → Option β} {r : β} (h : fn_b6 o k = some r) : ∃ a b c d e f, o = some (a, b, c, d, e, f) ∧ k a b c d e f = some r := by
  cases o with
  | none => cases h
  | some a => exact ⟨a.1, a.2.1, a.2.2.1, a.2.2.2.1, a.2.2.2.2.1, a.2.2.2.2.2, rfl, h⟩
theorem fn_e7 {α1 α2 α3 α4 α5 α6 α7 β : Type} {o : Option (α1 × α2 × α3 × α4 × α5 × α6 × α7)} {k : α1 → α2 → α3 → α4 → α5 → α6 → α7 → Option β} {r : β} (h : fn_b7 o k = some r) : ∃ a b c d e f g, o = some (a, b, c, d, e, f, g) ∧ k a b c d e f g = some r := by
  cases o with
  | none => cases h
  | some a => exact ⟨a.1, a.2.1, a.2.2.1, a.2.2.2.1, a.2.2.2.2.1, a.2.2.2.2.2.1, a.2.2.2.2.2.2, rfl, h⟩
theorem fn_e8 {α1 α2 α3 α4 α5 α6 α7 α8 β : Type} {o : Option (α1 × α2 × α3 × α4 × α5 × α6 × α7 × α8)} {k : α1 → α2 → α3 → α4 → α5 → α6 → α7 → α8 → Option β} {r : β} (h : fn_b8 o k = some r) : ∃ a b c d e f g i, o = some (a, b, c, d, e, f, g, i) ∧ k a b c d e f g i = some r := by
  cases o with
  | none => cases h
  | some a => exact ⟨a.1, a.2.1, a.2.2.1, a.2.2.2.1, a.2.2.2.2.1, a.2.2.2.2.2.1, a.2.2.2.2.2.2.1, a.2.2.2.2.2.2.2, rfl, h⟩
/-- a reference that may be null -/
def fn_o {α : Type} (r : Option Nat) (x : α) (k : Nat → α) : α := match r with
  | none => x
  | some a => k a
theorem fn_oN {α : Type} {x z : α} {k : Nat → α} (h : fn_o none x k = z) : x = z := h
theorem fn_oS {α : Type} {x z : α} {k : Nat → α} {a : Nat} (h : fn_o (some a) x k = z) : k a = z := h
/-- a boolean's value -/
def fn_z (x : Int32) : Bool := decide (x = 0 ∨ x = 1)
theorem fn_zn {x : Int32} (h : fn_z x = true) : narrow .boolean (.int x) = .int x := by
  rcases of_decide_eq_true h with rfl | rfl <;> rfl
/-! THE MACHINE: contracts of a fixed form (mt_), their makers (mk_) and their calls (cv_ virtual, cs_ static). -/
abbrev mt_ty (cK : Nat → ClassId) (Q : String) : List (ClassId × FieldType) := [(cK 0, .int), (cK 1, .boolean), (cK 2, .long), (cK 3, .object Q)]
def mt_r (D : va_G) (cl : List vw_C) (tys : List (ClassId × FieldType)) (w : va_W) (U : State) : Prop := va_P D cl w U.heap ∧ va_K D cl tys U
def mt_q (D : va_G) (cl : List vw_C) (tys : List (ClassId × FieldType)) (w : va_W) (sz : Nat) (U : State) : Prop := U.heap.size = sz ∧ va_P D cl w U.heap ∧ va_K D cl tys U ∧ va_D (fun _ => True) w
def mt_e (D : va_G) (cl : List vw_C) (tys : List (ClassId × FieldType)) (A : Nat → Prop) (w : va_W) (t : State) : Prop := va_P D cl w t.heap ∧ va_K D cl tys t ∧ va_D A w
/-- reads only, answers the int r -/
def RdI (l : Launch) (y : MethodName) (ws : List Cond) (rm : Room) (D : va_G) (cl : List vw_C) (tys : List (ClassId × FieldType)) (av : List Value) (w : va_W) (r : Int32) : Prop :=
  Met l y ws rm (va_Pc av (mt_r D cl tys w)) (vp_Si (fun x => x = r)) 0 0 (fun _ => False)
/-- reads only, answers a reference or null -/
def RdQ (l : Launch) (y : MethodName) (ws : List Cond) (rm : Room) (D : va_G) (cl : List vw_C) (tys : List (ClassId × FieldType)) (av : List Value) (w : va_W) (r : Option Nat) : Prop :=
  Met l y ws rm (va_Pc av (mt_r D cl tys w)) (va_Sq (fun x => x = r)) 0 0 (fun _ => False)
/-- the cells w1 become w2; answers the int r -/
def WrI (l : Launch) (y : MethodName) (ws : List Cond) (rm : Room) (D : va_G) (cl : List vw_C) (tys : List (ClassId × FieldType)) (av : List Value) (w1 w2 : va_W) (r : Int32) : Prop :=
  ∀ sz : Nat, Met l y ws rm (va_Pc av (mt_q D cl tys w1 sz)) (va_Qi (fun (x : Int32) (_ : Unit) => x = r) (fun _ t => mt_e D cl tys (va_A w1 sz) w2 t) (va_A w1 sz)) 0 0 (va_A w1 sz)
def WrL (l : Launch) (y : MethodName) (ws : List Cond) (rm : Room) (D : va_G) (cl : List vw_C) (tys : List (ClassId × FieldType)) (av : List Value) (w1 w2 : va_W) (r : Int64) : Prop :=
  ∀ sz : Nat, Met l y ws rm (va_Pc av (mt_q D cl tys w1 sz)) (va_Ql (fun (x : Int64) (_ : Unit) => x = r) (fun _ t => mt_e D cl tys (va_A w1 sz) w2 t) (va_A w1 sz)) 0 0 (va_A w1 sz)
def WrV (l : Launch) (y : MethodName) (ws : List Cond) (rm : Room) (D : va_G) (cl : List vw_C) (tys : List (ClassId × FieldType)) (av : List Value) (w1 w2 : va_W) : Prop :=
  ∀ sz : Nat, Met l y ws rm (va_Pc av (mt_q D cl tys w1 sz)) (va_Qv (fun (_ : Unit) => True) (fun _ t => mt_e D cl tys (va_A w1 sz) w2 t) (va_A w1 sz)) 0 0 (va_A w1 sz)
/-- the same, answers the reference r -/
def WrR (l : Launch) (y : MethodName) (ws : List Cond) (rm : Room) (D : va_G) (cl : List vw_C) (tys : List (ClassId × FieldType)) (av : List Value) (w1 w2 : va_W) (r : Nat) : Prop :=
  ∀ sz : Nat, Met l y ws rm (va_Pc av (mt_q D cl tys w1 sz)) (va_Qr (fun (_ : Unit) => True) (fun _ a t => a = r ∧ mt_e D cl tys (va_A w1 sz) w2 t) (va_A w1 sz)) 0 0 (va_A w1 sz)
theorem mt_r_blind {D : va_G} {cl : List vw_C} {tys : List (ClassId × FieldType)} {av : List Value} {w : va_W} : FrameBlind (va_Pc av (mt_r D cl tys w)) := fun a U g mk q => by
  obtain ⟨q0, qP, qK⟩ := q
  exact ⟨q0, qP, va_K.moved (u := U) (U := U.calling g mk a) (Vm.Alike.refl U.vm) qK⟩
theorem mt_q_blind {D : va_G} {cl : List vw_C} {tys : List (ClassId × FieldType)} {av : List Value} {w : va_W} {sz : Nat} : FrameBlind (va_Pc av (mt_q D cl tys w sz)) := fun a U g mk q => by
  obtain ⟨q0, q1, qP, qK, qD⟩ := q
  exact ⟨q0, q1, qP, va_K.moved (u := U) (U := U.calling g mk a) (Vm.Alike.refl U.vm) qK, qD⟩
theorem mt_fm {α β : Type} {f : α → Option β} : ∀ {is : List α} {w : List β}, is.map f = w.map some → is.filterMap f = w
  | [], [], _ => rfl
  | [], _ :: _, h => by cases h
  | _ :: _, [], h => by cases h
  | a :: is, b :: w, h => by
    simp only [List.map_cons, List.cons.injEq] at h
    rw [List.filterMap_cons_some h.1, mt_fm h.2]
section MK
variable {l : Launch} {y : MethodName} {ws ws' : List Cond} {rm : Room} {D : va_G} {cl : List vw_C} {tys : List (ClassId × FieldType)} {av : List Value} {w w1 w2 : va_W} {cc : ByteArray} {maxL : Nat}
theorem mk_RdI {r : Int32} {ty : FieldType} (hy : plainFor y = true) (hw : ws = Cond.code y cc maxL (some ty) :: ws') (hav : (lg_sl av).length ≤ maxL)
    (body : ∀ (p : Program) (e : Env) (s : State) (m : MethodId) (below : List Frame) (meth : Method) (c : Code) (args : Array Value) (Q : State → Prop) (ls : Array Slot),
      p.tables.exec = Jvm.exec → c.code = cc → c.maxLocals = maxL → s.vm.findClass y.cls = some m.cls → (∀ w ∈ ws', w.before args s = true) → va_K D cl tys s → va_P D cl w s.heap →
      (∀ (pc : Nat) (ls : Array Slot), narrow ty (.int r) = .int r → decode cc pc = .ok (.ireturn, 1) → W p l e rm s m args below meth c s.heap [] 0 0 Q (F0 m pc ls [.int r])) →
      lv_has ls maxL (lv_args 0 av) → W p l e rm s m args below meth c s.heap [] 0 0 Q (F0 m 0 ls [])) : RdI l y ws rm D cl tys av w r := by
  refine va_MetF (cc := cc) (maxL := maxL) (ret := some ty) hy hw ?_
  intro p e s m args below meth c s₁ B hml hv
  obtain ⟨rfl, hP, hK⟩ := hv
  have hlocks := B.notSynchronized
  have hl := lv_entry av (n := maxL) hav
  rw [lg_entry_eq]
  generalize (lg_sl av ++ List.replicate (maxL - (lg_sl av).length) Slot.unset).toArray = ls at hl ⊢
  refine body p e s m below meth c _ _ ls B.exec B.bytes hml (findClass_of_methodNamed B.named) (fun w h => atoms_spec (ws := ws) B.pre w (by rw [hw]; exact List.mem_cons_of_mem _ h)) hK hP ?_ hl
  intro pc ls hn hd
  exact W.zret B.exec B.bytes B.returns hn (fun t ht hW => ⟨r, rfl, rfl, ht⟩) (fun q hq => by cases hq) hd
theorem mk_RdQ {r : Option Nat} {ty : FieldType} (hty : (∃ n, ty = .object n) ∨ ∃ t, ty = .array t) (hy : plainFor y = true) (hw : ws = Cond.code y cc maxL (some ty) :: ws') (hav : (lg_sl av).length ≤ maxL)
    (body : ∀ (p : Program) (e : Env) (s : State) (m : MethodId) (below : List Frame) (meth : Method) (c : Code) (args : Array Value) (Q : State → Prop) (ls : Array Slot),
      p.tables.exec = Jvm.exec → c.code = cc → c.maxLocals = maxL → s.vm.findClass y.cls = some m.cls → (∀ w ∈ ws', w.before args s = true) → va_K D cl tys s → va_P D cl w s.heap →
      (∀ (pc : Nat) (ls : Array Slot), decode cc pc = .ok (.areturn, 1) → W p l e rm s m args below meth c s.heap [] 0 0 Q (F0 m pc ls [va_rf r])) →
      lv_has ls maxL (lv_args 0 av) → W p l e rm s m args below meth c s.heap [] 0 0 Q (F0 m 0 ls [])) : RdQ l y ws rm D cl tys av w r := by
  refine va_MetF (cc := cc) (maxL := maxL) (ret := some ty) hy hw ?_
  intro p e s m args below meth c s₁ B hml hv
  obtain ⟨rfl, hP, hK⟩ := hv
  have hlocks := B.notSynchronized
  have hl := lv_entry av (n := maxL) hav
  rw [lg_entry_eq]
  generalize (lg_sl av ++ List.replicate (maxL - (lg_sl av).length) Slot.unset).toArray = ls at hl ⊢
  refine body p e s m below meth c _ _ ls B.exec B.bytes hml (findClass_of_methodNamed B.named) (fun w h => atoms_spec (ws := ws) B.pre w (by rw [hw]; exact List.mem_cons_of_mem _ h)) hK hP ?_ hl
  intro pc ls hd
  exact W.aret B.exec B.bytes B.returns hty (va_rf_or r) (fun t ht hW => ⟨r, rfl, rfl, ht⟩) (fun q hq => by cases hq) hd
theorem mk_WrI {r : Int32} {ty : FieldType} (hy : plainFor y = true) (hw : ws = Cond.code y cc maxL (some ty) :: ws') (hav : (lg_sl av).length ≤ maxL)
    (body : ∀ (p : Program) (e : Env) (s : State) (m : MethodId) (below : List Frame) (meth : Method) (c : Code) (args : Array Value) (Q : State → Prop) (A : Nat → Prop) (ls : Array Slot),
      p.tables.exec = Jvm.exec → c.code = cc → c.maxLocals = maxL → s.vm.findClass y.cls = some m.cls → (∀ w ∈ ws', w.before args s = true) → (∀ q : Nat, s.heap.size ≤ q → A q) → va_K D cl tys s → va_P D cl w1 s.heap → va_D A w1 →
      (∀ (H : Heap) (locs : List Loc) (pc : Nat) (ls : Array Slot), va_P D cl w2 H → va_D A w2 → va_S A s.heap H locs → narrow ty (.int r) = .int r → decode cc pc = .ok (.ireturn, 1) → W p l e rm s m args below meth c H locs 0 0 Q (F0 m pc ls [.int r])) →
      lv_has ls maxL (lv_args 0 av) → W p l e rm s m args below meth c s.heap [] 0 0 Q (F0 m 0 ls [])) : WrI l y ws rm D cl tys av w1 w2 r := by
  intro sz
  refine va_MetF (cc := cc) (maxL := maxL) (ret := some ty) hy hw ?_
  intro p e s m args below meth c s₁ B hml hv
  obtain ⟨rfl, hsz, hP, hK, hD0⟩ := hv
  have hlocks := B.notSynchronized
  subst hsz
  have hl := lv_entry av (n := maxL) hav
  rw [lg_entry_eq]
  generalize (lg_sl av ++ List.replicate (maxL - (lg_sl av).length) Slot.unset).toArray = ls at hl ⊢
  refine body p e s m below meth c _ _ (va_A w1 s.heap.size) ls B.exec B.bytes hml (findClass_of_methodNamed B.named) (fun w h => atoms_spec (ws := ws) B.pre w (by rw [hw]; exact List.mem_cons_of_mem _ h)) (fun q h => Or.inr h) hK hP hD0.self ?_ hl
  intro H locs pc ls hP2 hD2 hS hn hd
  exact W.zret B.exec B.bytes B.returns hn (fun t ht hW => ⟨⟨r, (), rfl, rfl, by rw [ht]; exact hP2, va_K.moved hW.alike hK, hD2⟩, hS.F ht⟩) hS.2.2 hd
theorem mk_WrL {r : Int64} (hy : plainFor y = true) (hw : ws = Cond.code y cc maxL (some .long) :: ws') (hav : (lg_sl av).length ≤ maxL)
    (body : ∀ (p : Program) (e : Env) (s : State) (m : MethodId) (below : List Frame) (meth : Method) (c : Code) (args : Array Value) (Q : State → Prop) (A : Nat → Prop) (ls : Array Slot),
      p.tables.exec = Jvm.exec → c.code = cc → c.maxLocals = maxL → s.vm.findClass y.cls = some m.cls → (∀ w ∈ ws', w.before args s = true) → (∀ q : Nat, s.heap.size ≤ q → A q) → va_K D cl tys s → va_P D cl w1 s.heap → va_D A w1 →
      (∀ (H : Heap) (locs : List Loc) (pc : Nat) (ls : Array Slot), va_P D cl w2 H → va_D A w2 → va_S A s.heap H locs → decode cc pc = .ok (.lreturn, 1) → W p l e rm s m args below meth c H locs 0 0 Q (F0 m pc ls [.long r])) →
      lv_has ls maxL (lv_args 0 av) → W p l e rm s m args below meth c s.heap [] 0 0 Q (F0 m 0 ls [])) : WrL l y ws rm D cl tys av w1 w2 r := by
  intro sz
  refine va_MetF (cc := cc) (maxL := maxL) (ret := some .long) hy hw ?_
  intro p e s m args below meth c s₁ B hml hv
  obtain ⟨rfl, hsz, hP, hK, hD0⟩ := hv
  have hlocks := B.notSynchronized
  subst hsz
  have hl := lv_entry av (n := maxL) hav
  rw [lg_entry_eq]
  generalize (lg_sl av ++ List.replicate (maxL - (lg_sl av).length) Slot.unset).toArray = ls at hl ⊢
  refine body p e s m below meth c _ _ (va_A w1 s.heap.size) ls B.exec B.bytes hml (findClass_of_methodNamed B.named) (fun w h => atoms_spec (ws := ws) B.pre w (by rw [hw]; exact List.mem_cons_of_mem _ h)) (fun q h => Or.inr h) hK hP hD0.self ?_ hl
  intro H locs pc ls hP2 hD2 hS hd
  exact W.lret B.exec B.bytes B.returns (fun t ht hW => ⟨⟨r, (), rfl, rfl, by rw [ht]; exact hP2, va_K.moved hW.alike hK, hD2⟩, hS.F ht⟩) hS.2.2 hd
theorem mk_WrV (hy : plainFor y = true) (hw : ws = Cond.code y cc maxL none :: ws') (hav : (lg_sl av).length ≤ maxL)
    (body : ∀ (p : Program) (e : Env) (s : State) (m : MethodId) (below : List Frame) (meth : Method) (c : Code) (args : Array Value) (Q : State → Prop) (A : Nat → Prop) (ls : Array Slot),
      p.tables.exec = Jvm.exec → c.code = cc → c.maxLocals = maxL → s.vm.findClass y.cls = some m.cls → (∀ w ∈ ws', w.before args s = true) → (∀ q : Nat, s.heap.size ≤ q → A q) → va_K D cl tys s → va_P D cl w1 s.heap → va_D A w1 →
      (∀ (H : Heap) (locs : List Loc) (pc : Nat) (ls : Array Slot), va_P D cl w2 H → va_D A w2 → va_S A s.heap H locs → decode cc pc = .ok (.return_, 1) → W p l e rm s m args below meth c H locs 0 0 Q (F0 m pc ls [])) →
      lv_has ls maxL (lv_args 0 av) → W p l e rm s m args below meth c s.heap [] 0 0 Q (F0 m 0 ls [])) : WrV l y ws rm D cl tys av w1 w2 := by
  intro sz
  refine va_MetF (cc := cc) (maxL := maxL) (ret := none) hy hw ?_
  intro p e s m args below meth c s₁ B hml hv
  obtain ⟨rfl, hsz, hP, hK, hD0⟩ := hv
  have hlocks := B.notSynchronized
  subst hsz
  have hl := lv_entry av (n := maxL) hav
  rw [lg_entry_eq]
  generalize (lg_sl av ++ List.replicate (maxL - (lg_sl av).length) Slot.unset).toArray = ls at hl ⊢
  refine body p e s m below meth c _ _ (va_A w1 s.heap.size) ls B.exec B.bytes hml (findClass_of_methodNamed B.named) (fun w h => atoms_spec (ws := ws) B.pre w (by rw [hw]; exact List.mem_cons_of_mem _ h)) (fun q h => Or.inr h) hK hP hD0.self ?_ hl
  intro H locs pc ls hP2 hD2 hS hd
  exact W.vret B.exec B.bytes B.returns (fun t ht hW => ⟨⟨(), rfl, trivial, by rw [ht]; exact hP2, va_K.moved hW.alike hK, hD2⟩, hS.F ht⟩) hS.2.2 hd
theorem mk_WrR {r : Nat} {ty : FieldType} (hty : (∃ n, ty = .object n) ∨ ∃ t, ty = .array t) (hy : plainFor y = true) (hw : ws = Cond.code y cc maxL (some ty) :: ws') (hav : (lg_sl av).length ≤ maxL)
    (body : ∀ (p : Program) (e : Env) (s : State) (m : MethodId) (below : List Frame) (meth : Method) (c : Code) (args : Array Value) (Q : State → Prop) (A : Nat → Prop) (ls : Array Slot),
      p.tables.exec = Jvm.exec → c.code = cc → c.maxLocals = maxL → s.vm.findClass y.cls = some m.cls → (∀ w ∈ ws', w.before args s = true) → (∀ q : Nat, s.heap.size ≤ q → A q) → va_K D cl tys s → va_P D cl w1 s.heap → va_D A w1 →
      (∀ (H : Heap) (locs : List Loc) (pc : Nat) (ls : Array Slot), va_P D cl w2 H → va_D A w2 → va_S A s.heap H locs → decode cc pc = .ok (.areturn, 1) → W p l e rm s m args below meth c H locs 0 0 Q (F0 m pc ls [.ref r])) →
      lv_has ls maxL (lv_args 0 av) → W p l e rm s m args below meth c s.heap [] 0 0 Q (F0 m 0 ls [])) : WrR l y ws rm D cl tys av w1 w2 r := by
  intro sz
  refine va_MetF (cc := cc) (maxL := maxL) (ret := some ty) hy hw ?_
  intro p e s m args below meth c s₁ B hml hv
  obtain ⟨rfl, hsz, hP, hK, hD0⟩ := hv
  have hlocks := B.notSynchronized
  subst hsz
  have hl := lv_entry av (n := maxL) hav
  rw [lg_entry_eq]
  generalize (lg_sl av ++ List.replicate (maxL - (lg_sl av).length) Slot.unset).toArray = ls at hl ⊢
  refine body p e s m below meth c _ _ (va_A w1 s.heap.size) ls B.exec B.bytes hml (findClass_of_methodNamed B.named) (fun w h => atoms_spec (ws := ws) B.pre w (by rw [hw]; exact List.mem_cons_of_mem _ h)) (fun q h => Or.inr h) hK hP hD0.self ?_ hl
  intro H locs pc ls hP2 hD2 hS hd
  exact W.aret B.exec B.bytes B.returns hty (Or.inr ⟨r, rfl⟩) (fun t ht hW => ⟨⟨(), r, rfl, trivial, rfl, by rw [ht]; exact hP2, va_K.moved hW.alike hK, hD2⟩, hS.F ht⟩) hS.2.2 hd
end MK
section CV
variable {p : Program} {l : Launch} {e : Env} {R : Room} {s : State} {m : MethodId} {args : Array Value} {below : List Frame} {meth : Method} {c : Code} {H : Heap} {locs : List Loc} {cells slots : Nat} {Q : State → Prop}
variable {cc : ByteArray} {nL pc n index maxL : Nat} {Ts ws : List Cond} {own C : String} {ls : Array Slot} {rest st0 As : List Value} {y : MethodName} {rm : Room} {D : va_G} {cl : List vw_C} {tys : List (ClassId × FieldType)} {b : Nat} {w w1 w2 wsx wr w' : va_W} {bytes : ByteArray} {ret : Option FieldType} {ci : Nat} {fs : List Value} {q : vw_C} {A : Nat → Prop} {H0 : Heap}
theorem cv_RdI {r : Int32} (S : CallFix p m c cc nL s args Ts own) (hM : RdI l y ws rm D cl tys (.ref b :: As) w r) (cw : CallW R s args own C index y bytes maxL ret ws rm 0 0 n)
    (hK : va_K D cl tys s) (hP : va_P D cl wsx H) (is : List Nat) (his : is.filterMap (fun i => wsx[i]?) = w) (q0 : Nat) (he : wsx[q0]? = some (b, .inr (ci, fs))) (hc : cl[ci]? = some q) (hC : q.1 = C) (hn : As.length = n) (hsz : ls.size = nL) (hst : st0 = As.reverse ++ .ref b :: rest) (hW : (rest.map fun v => v.category).sum ≤ 8) (hdg : decode cc pc = .ok (.invokevirtual index, 3)) (hR : cells ≤ R.cells ∧ slots ≤ R.slots)
    (kk : W p l e R s m args below meth c H locs cells slots Q (F0 m (pc + 3) ls (.int r :: rest))) : W p l e R s m args below meth c H locs cells slots Q (F0 m pc ls st0) := by
  subst hC
  exact vp_callSi (W.runV S hM cw ⟨mt_r_blind, va_recv hK hP hc he, fun U hU hW => ⟨rfl, by rw [hU]; exact hP.sub is his, va_K.moved hW.alike hK⟩⟩ rfl hn hsz hst (lv_room hW) hdg hR) (fun x hx => by have hx : x = r := hx; subst hx; exact kk)
theorem cs_RdI {r : Int32} (S : CallFix p m c cc nL s args Ts own) (hM : RdI l y ws rm D cl tys As w r) (cw : CallB R s args own index y bytes maxL ret ws rm 0 0 n ∧ (Cond.static y).before args s = true)
    (hK : va_K D cl tys s) (hP : va_P D cl wsx H) (is : List Nat) (his : is.filterMap (fun i => wsx[i]?) = w) (hn : As.length = n) (hsz : ls.size = nL) (hst : st0 = As.reverse ++ rest) (hW : (rest.map fun v => v.category).sum ≤ 8) (hdg : decode cc pc = .ok (.invokestatic index, 3)) (hR : cells ≤ R.cells ∧ slots ≤ R.slots)
    (kk : W p l e R s m args below meth c H locs cells slots Q (F0 m (pc + 3) ls (.int r :: rest))) : W p l e R s m args below meth c H locs cells slots Q (F0 m pc ls st0) := by
  exact vp_callSi (W.runS S hM cw ⟨mt_r_blind, fun U hU hW => ⟨rfl, by rw [hU]; exact hP.sub is his, va_K.moved hW.alike hK⟩⟩ rfl hn hsz hst (lv_room hW) hdg hR) (fun x hx => by have hx : x = r := hx; subst hx; exact kk)
theorem cv_RdQ {r : Option Nat} (S : CallFix p m c cc nL s args Ts own) (hM : RdQ l y ws rm D cl tys (.ref b :: As) w r) (cw : CallW R s args own C index y bytes maxL ret ws rm 0 0 n)
    (hK : va_K D cl tys s) (hP : va_P D cl wsx H) (is : List Nat) (his : is.filterMap (fun i => wsx[i]?) = w) (q0 : Nat) (he : wsx[q0]? = some (b, .inr (ci, fs))) (hc : cl[ci]? = some q) (hC : q.1 = C) (hn : As.length = n) (hsz : ls.size = nL) (hst : st0 = As.reverse ++ .ref b :: rest) (hW : (rest.map fun v => v.category).sum ≤ 8) (hdg : decode cc pc = .ok (.invokevirtual index, 3)) (hR : cells ≤ R.cells ∧ slots ≤ R.slots)
    (kk : W p l e R s m args below meth c H locs cells slots Q (F0 m (pc + 3) ls (va_rf r :: rest))) : W p l e R s m args below meth c H locs cells slots Q (F0 m pc ls st0) := by
  subst hC
  exact va_csq (W.runV S hM cw ⟨mt_r_blind, va_recv hK hP hc he, fun U hU hW => ⟨rfl, by rw [hU]; exact hP.sub is his, va_K.moved hW.alike hK⟩⟩ rfl hn hsz hst (lv_room hW) hdg hR) (fun x hx => by have hx : x = r := hx; subst hx; exact kk)
theorem cs_RdQ {r : Option Nat} (S : CallFix p m c cc nL s args Ts own) (hM : RdQ l y ws rm D cl tys As w r) (cw : CallB R s args own index y bytes maxL ret ws rm 0 0 n ∧ (Cond.static y).before args s = true)
    (hK : va_K D cl tys s) (hP : va_P D cl wsx H) (is : List Nat) (his : is.filterMap (fun i => wsx[i]?) = w) (hn : As.length = n) (hsz : ls.size = nL) (hst : st0 = As.reverse ++ rest) (hW : (rest.map fun v => v.category).sum ≤ 8) (hdg : decode cc pc = .ok (.invokestatic index, 3)) (hR : cells ≤ R.cells ∧ slots ≤ R.slots)
    (kk : W p l e R s m args below meth c H locs cells slots Q (F0 m (pc + 3) ls (va_rf r :: rest))) : W p l e R s m args below meth c H locs cells slots Q (F0 m pc ls st0) := by
  exact va_csq (W.runS S hM cw ⟨mt_r_blind, fun U hU hW => ⟨rfl, by rw [hU]; exact hP.sub is his, va_K.moved hW.alike hK⟩⟩ rfl hn hsz hst (lv_room hW) hdg hR) (fun x hx => by have hx : x = r := hx; subst hx; exact kk)
theorem cv_WrI {r : Int32} (S : CallFix p m c cc nL s args Ts own) (hM : WrI l y ws rm D cl tys (.ref b :: As) w1 w2 r) (cw : CallW R s args own C index y bytes maxL ret ws rm 0 0 n)
    (hK : va_K D cl tys s) (hP : va_P D cl wsx H) (hD : va_D A wsx) (hS : va_S A H0 H locs) (hA : ∀ q : Nat, H0.size ≤ q → A q) (isC isR pm : List Nat) (hC : isC.map (fun i => wsx[i]?) = w1.map some) (hcn : va_nd isC = true) (hR : isR.map (fun i => wsx[i]?) = wr.map some) (hrn : va_nd isR = true) (hdis : ∀ i ∈ isR, i ∉ isC) (hpm : pm.map (fun i => (wr ++ w2)[i]?) = w'.map some) (hpn : va_nd pm = true) (q0 : Nat) (he : wsx[q0]? = some (b, .inr (ci, fs))) (hc : cl[ci]? = some q) (hCC : q.1 = C) (hn : As.length = n) (hsz : ls.size = nL) (hst : st0 = As.reverse ++ .ref b :: rest) (hW : (rest.map fun v => v.category).sum ≤ 8) (hdg : decode cc pc = .ok (.invokevirtual index, 3)) (hRm : cells ≤ R.cells ∧ slots ≤ R.slots)
    (kk : ∀ (H1 : Heap) (locs1 : List Loc), va_P D cl w' H1 → va_D A w' → va_S A H0 H1 locs1 → W p l e R s m args below meth c H1 locs1 cells slots Q (F0 m (pc + 3) ls (.int r :: rest))) : W p l e R s m args below meth c H locs cells slots Q (F0 m pc ls st0) := by
  subst hCC
  have hPc := hP.sub (ws' := w1) isC (mt_fm hC)
  have hDc := hD.sub (ws' := w1) isC hcn hC
  have hFc := va_free (wc := w1) hD hS hA isC hC
  refine va_calli (va_runV S (hM H.size) cw ⟨mt_q_blind, va_recv hK hP hc he, fun U hU hW => ⟨rfl, by rw [hU], by rw [hU]; exact hPc, va_K.moved hW.alike hK, hDc.weaken (fun _ _ _ _ => trivial)⟩⟩ rfl hn hsz hst (lv_room hW) hdg hRm) hS (fun q _ h => hFc q h) hFc (fun r1 u t H1 locs1 ht hvm hw hB hz1 hk1 hS1 => ?_)
  have hw : r1 = r := hw
  subst hw
  obtain ⟨hP1, hK1, hD1⟩ := hB
  rw [ht] at hP1
  obtain ⟨hP2, hD2⟩ := va_join (wr := wr) (w1 := w2) hP hD isC isR hC hR hrn hdis hk1 hFc hP1 hD1
  exact kk H1 locs1 (hP2.sub pm (mt_fm hpm)) (hD2.sub pm hpn hpm) hS1
theorem cs_WrI {r : Int32} (S : CallFix p m c cc nL s args Ts own) (hM : WrI l y ws rm D cl tys As w1 w2 r) (cw : CallB R s args own index y bytes maxL ret ws rm 0 0 n ∧ (Cond.static y).before args s = true)
    (hK : va_K D cl tys s) (hP : va_P D cl wsx H) (hD : va_D A wsx) (hS : va_S A H0 H locs) (hA : ∀ q : Nat, H0.size ≤ q → A q) (isC isR pm : List Nat) (hC : isC.map (fun i => wsx[i]?) = w1.map some) (hcn : va_nd isC = true) (hR : isR.map (fun i => wsx[i]?) = wr.map some) (hrn : va_nd isR = true) (hdis : ∀ i ∈ isR, i ∉ isC) (hpm : pm.map (fun i => (wr ++ w2)[i]?) = w'.map some) (hpn : va_nd pm = true) (hn : As.length = n) (hsz : ls.size = nL) (hst : st0 = As.reverse ++ rest) (hW : (rest.map fun v => v.category).sum ≤ 8) (hdg : decode cc pc = .ok (.invokestatic index, 3)) (hRm : cells ≤ R.cells ∧ slots ≤ R.slots)
    (kk : ∀ (H1 : Heap) (locs1 : List Loc), va_P D cl w' H1 → va_D A w' → va_S A H0 H1 locs1 → W p l e R s m args below meth c H1 locs1 cells slots Q (F0 m (pc + 3) ls (.int r :: rest))) : W p l e R s m args below meth c H locs cells slots Q (F0 m pc ls st0) := by
  have hPc := hP.sub (ws' := w1) isC (mt_fm hC)
  have hDc := hD.sub (ws' := w1) isC hcn hC
  have hFc := va_free (wc := w1) hD hS hA isC hC
  refine va_calli (va_runS S (hM H.size) cw ⟨mt_q_blind, fun U hU hW => ⟨rfl, by rw [hU], by rw [hU]; exact hPc, va_K.moved hW.alike hK, hDc.weaken (fun _ _ _ _ => trivial)⟩⟩ rfl hn hsz hst (lv_room hW) hdg hRm) hS (fun q _ h => hFc q h) hFc (fun r1 u t H1 locs1 ht hvm hw hB hz1 hk1 hS1 => ?_)
  have hw : r1 = r := hw
  subst hw
  obtain ⟨hP1, hK1, hD1⟩ := hB
  rw [ht] at hP1
  obtain ⟨hP2, hD2⟩ := va_join (wr := wr) (w1 := w2) hP hD isC isR hC hR hrn hdis hk1 hFc hP1 hD1
  exact kk H1 locs1 (hP2.sub pm (mt_fm hpm)) (hD2.sub pm hpn hpm) hS1
theorem cv_WrL {r : Int64} (S : CallFix p m c cc nL s args Ts own) (hM : WrL l y ws rm D cl tys (.ref b :: As) w1 w2 r) (cw : CallW R s args own C index y bytes maxL ret ws rm 0 0 n)
    (hK : va_K D cl tys s) (hP : va_P D cl wsx H) (hD : va_D A wsx) (hS : va_S A H0 H locs) (hA : ∀ q : Nat, H0.size ≤ q → A q) (isC isR pm : List Nat) (hC : isC.map (fun i => wsx[i]?) = w1.map some) (hcn : va_nd isC = true) (hR : isR.map (fun i => wsx[i]?) = wr.map some) (hrn : va_nd isR = true) (hdis : ∀ i ∈ isR, i ∉ isC) (hpm : pm.map (fun i => (wr ++ w2)[i]?) = w'.map some) (hpn : va_nd pm = true) (q0 : Nat) (he : wsx[q0]? = some (b, .inr (ci, fs))) (hc : cl[ci]? = some q) (hCC : q.1 = C) (hn : As.length = n) (hsz : ls.size = nL) (hst : st0 = As.reverse ++ .ref b :: rest) (hW : (rest.map fun v => v.category).sum ≤ 8) (hdg : decode cc pc = .ok (.invokevirtual index, 3)) (hRm : cells ≤ R.cells ∧ slots ≤ R.slots)
    (kk : ∀ (H1 : Heap) (locs1 : List Loc), va_P D cl w' H1 → va_D A w' → va_S A H0 H1 locs1 → W p l e R s m args below meth c H1 locs1 cells slots Q (F0 m (pc + 3) ls (.long r :: rest))) : W p l e R s m args below meth c H locs cells slots Q (F0 m pc ls st0) := by
  subst hCC
  have hPc := hP.sub (ws' := w1) isC (mt_fm hC)
  have hDc := hD.sub (ws' := w1) isC hcn hC
  have hFc := va_free (wc := w1) hD hS hA isC hC
  refine va_calll (va_runV S (hM H.size) cw ⟨mt_q_blind, va_recv hK hP hc he, fun U hU hW => ⟨rfl, by rw [hU], by rw [hU]; exact hPc, va_K.moved hW.alike hK, hDc.weaken (fun _ _ _ _ => trivial)⟩⟩ rfl hn hsz hst (lv_room hW) hdg hRm) hS (fun q _ h => hFc q h) hFc (fun r1 u t H1 locs1 ht hvm hw hB hz1 hk1 hS1 => ?_)
  have hw : r1 = r := hw
  subst hw
  obtain ⟨hP1, hK1, hD1⟩ := hB
  rw [ht] at hP1
  obtain ⟨hP2, hD2⟩ := va_join (wr := wr) (w1 := w2) hP hD isC isR hC hR hrn hdis hk1 hFc hP1 hD1
  exact kk H1 locs1 (hP2.sub pm (mt_fm hpm)) (hD2.sub pm hpn hpm) hS1
theorem cs_WrL {r : Int64} (S : CallFix p m c cc nL s args Ts own) (hM : WrL l y ws rm D cl tys As w1 w2 r) (cw : CallB R s args own index y bytes maxL ret ws rm 0 0 n ∧ (Cond.static y).before args s = true)
    (hK : va_K D cl tys s) (hP : va_P D cl wsx H) (hD : va_D A wsx) (hS : va_S A H0 H locs) (hA : ∀ q : Nat, H0.size ≤ q → A q) (isC isR pm : List Nat) (hC : isC.map (fun i => wsx[i]?) = w1.map some) (hcn : va_nd isC = true) (hR : isR.map (fun i => wsx[i]?) = wr.map some) (hrn : va_nd isR = true) (hdis : ∀ i ∈ isR, i ∉ isC) (hpm : pm.map (fun i => (wr ++ w2)[i]?) = w'.map some) (hpn : va_nd pm = true) (hn : As.length = n) (hsz : ls.size = nL) (hst : st0 = As.reverse ++ rest) (hW : (rest.map fun v => v.category).sum ≤ 8) (hdg : decode cc pc = .ok (.invokestatic index, 3)) (hRm : cells ≤ R.cells ∧ slots ≤ R.slots)
    (kk : ∀ (H1 : Heap) (locs1 : List Loc), va_P D cl w' H1 → va_D A w' → va_S A H0 H1 locs1 → W p l e R s m args below meth c H1 locs1 cells slots Q (F0 m (pc + 3) ls (.long r :: rest))) : W p l e R s m args below meth c H locs cells slots Q (F0 m pc ls st0) := by
  have hPc := hP.sub (ws' := w1) isC (mt_fm hC)
  have hDc := hD.sub (ws' := w1) isC hcn hC
  have hFc := va_free (wc := w1) hD hS hA isC hC
  refine va_calll (va_runS S (hM H.size) cw ⟨mt_q_blind, fun U hU hW => ⟨rfl, by rw [hU], by rw [hU]; exact hPc, va_K.moved hW.alike hK, hDc.weaken (fun _ _ _ _ => trivial)⟩⟩ rfl hn hsz hst (lv_room hW) hdg hRm) hS (fun q _ h => hFc q h) hFc (fun r1 u t H1 locs1 ht hvm hw hB hz1 hk1 hS1 => ?_)
  have hw : r1 = r := hw
  subst hw
  obtain ⟨hP1, hK1, hD1⟩ := hB
  rw [ht] at hP1
  obtain ⟨hP2, hD2⟩ := va_join (wr := wr) (w1 := w2) hP hD isC isR hC hR hrn hdis hk1 hFc hP1 hD1
  exact kk H1 locs1 (hP2.sub pm (mt_fm hpm)) (hD2.sub pm hpn hpm) hS1
theorem cv_WrV (S : CallFix p m c cc nL s args Ts own) (hM : WrV l y ws rm D cl tys (.ref b :: As) w1 w2) (cw : CallW R s args own C index y bytes maxL ret ws rm 0 0 n)
    (hK : va_K D cl tys s) (hP : va_P D cl wsx H) (hD : va_D A wsx) (hS : va_S A H0 H locs) (hA : ∀ q : Nat, H0.size ≤ q → A q) (isC isR pm : List Nat) (hC : isC.map (fun i => wsx[i]?) = w1.map some) (hcn : va_nd isC = true) (hR : isR.map (fun i => wsx[i]?) = wr.map some) (hrn : va_nd isR = true) (hdis : ∀ i ∈ isR, i ∉ isC) (hpm : pm.map (fun i => (wr ++ w2)[i]?) = w'.map some) (hpn : va_nd pm = true) (q0 : Nat) (he : wsx[q0]? = some (b, .inr (ci, fs))) (hc : cl[ci]? = some q) (hCC : q.1 = C) (hn : As.length = n) (hsz : ls.size = nL) (hst : st0 = As.reverse ++ .ref b :: rest) (hW : (rest.map fun v => v.category).sum ≤ 8) (hdg : decode cc pc = .ok (.invokevirtual index, 3)) (hRm : cells ≤ R.cells ∧ slots ≤ R.slots)
    (kk : ∀ (H1 : Heap) (locs1 : List Loc), va_P D cl w' H1 → va_D A w' → va_S A H0 H1 locs1 → W p l e R s m args below meth c H1 locs1 cells slots Q (F0 m (pc + 3) ls rest)) : W p l e R s m args below meth c H locs cells slots Q (F0 m pc ls st0) := by
  subst hCC
  have hPc := hP.sub (ws' := w1) isC (mt_fm hC)
  have hDc := hD.sub (ws' := w1) isC hcn hC
  have hFc := va_free (wc := w1) hD hS hA isC hC
  refine va_callv (va_runV S (hM H.size) cw ⟨mt_q_blind, va_recv hK hP hc he, fun U hU hW => ⟨rfl, by rw [hU], by rw [hU]; exact hPc, va_K.moved hW.alike hK, hDc.weaken (fun _ _ _ _ => trivial)⟩⟩ rfl hn hsz hst (lv_room hW) hdg hRm) hS (fun q _ h => hFc q h) hFc (fun u t H1 locs1 ht hvm hw hB hz1 hk1 hS1 => ?_)
  obtain ⟨hP1, hK1, hD1⟩ := hB
  rw [ht] at hP1
  obtain ⟨hP2, hD2⟩ := va_join (wr := wr) (w1 := w2) hP hD isC isR hC hR hrn hdis hk1 hFc hP1 hD1
  exact kk H1 locs1 (hP2.sub pm (mt_fm hpm)) (hD2.sub pm hpn hpm) hS1
theorem cs_WrV (S : CallFix p m c cc nL s args Ts own) (hM : WrV l y ws rm D cl tys As w1 w2) (cw : CallB R s args own index y bytes maxL ret ws rm 0 0 n ∧ (Cond.static y).before args s = true)
    (hK : va_K D cl tys s) (hP : va_P D cl wsx H) (hD : va_D A wsx) (hS : va_S A H0 H locs) (hA : ∀ q : Nat, H0.size ≤ q → A q) (isC isR pm : List Nat) (hC : isC.map (fun i => wsx[i]?) = w1.map some) (hcn : va_nd isC = true) (hR : isR.map (fun i => wsx[i]?) = wr.map some) (hrn : va_nd isR = true) (hdis : ∀ i ∈ isR, i ∉ isC) (hpm : pm.map (fun i => (wr ++ w2)[i]?) = w'.map some) (hpn : va_nd pm = true) (hn : As.length = n) (hsz : ls.size = nL) (hst : st0 = As.reverse ++ rest) (hW : (rest.map fun v => v.category).sum ≤ 8) (hdg : decode cc pc = .ok (.invokestatic index, 3)) (hRm : cells ≤ R.cells ∧ slots ≤ R.slots)
    (kk : ∀ (H1 : Heap) (locs1 : List Loc), va_P D cl w' H1 → va_D A w' → va_S A H0 H1 locs1 → W p l e R s m args below meth c H1 locs1 cells slots Q (F0 m (pc + 3) ls rest)) : W p l e R s m args below meth c H locs cells slots Q (F0 m pc ls st0) := by
  have hPc := hP.sub (ws' := w1) isC (mt_fm hC)
  have hDc := hD.sub (ws' := w1) isC hcn hC
  have hFc := va_free (wc := w1) hD hS hA isC hC
  refine va_callv (va_runS S (hM H.size) cw ⟨mt_q_blind, fun U hU hW => ⟨rfl, by rw [hU], by rw [hU]; exact hPc, va_K.moved hW.alike hK, hDc.weaken (fun _ _ _ _ => trivial)⟩⟩ rfl hn hsz hst (lv_room hW) hdg hRm) hS (fun q _ h => hFc q h) hFc (fun u t H1 locs1 ht hvm hw hB hz1 hk1 hS1 => ?_)
  obtain ⟨hP1, hK1, hD1⟩ := hB
  rw [ht] at hP1
  obtain ⟨hP2, hD2⟩ := va_join (wr := wr) (w1 := w2) hP hD isC isR hC hR hrn hdis hk1 hFc hP1 hD1
  exact kk H1 locs1 (hP2.sub pm (mt_fm hpm)) (hD2.sub pm hpn hpm) hS1
theorem cv_WrR {r : Nat} (S : CallFix p m c cc nL s args Ts own) (hM : WrR l y ws rm D cl tys (.ref b :: As) w1 w2 r) (cw : CallW R s args own C index y bytes maxL ret ws rm 0 0 n)
    (hK : va_K D cl tys s) (hP : va_P D cl wsx H) (hD : va_D A wsx) (hS : va_S A H0 H locs) (hA : ∀ q : Nat, H0.size ≤ q → A q) (isC isR pm : List Nat) (hC : isC.map (fun i => wsx[i]?) = w1.map some) (hcn : va_nd isC = true) (hR : isR.map (fun i => wsx[i]?) = wr.map some) (hrn : va_nd isR = true) (hdis : ∀ i ∈ isR, i ∉ isC) (hpm : pm.map (fun i => (wr ++ w2)[i]?) = w'.map some) (hpn : va_nd pm = true) (q0 : Nat) (he : wsx[q0]? = some (b, .inr (ci, fs))) (hc : cl[ci]? = some q) (hCC : q.1 = C) (hn : As.length = n) (hsz : ls.size = nL) (hst : st0 = As.reverse ++ .ref b :: rest) (hW : (rest.map fun v => v.category).sum ≤ 8) (hdg : decode cc pc = .ok (.invokevirtual index, 3)) (hRm : cells ≤ R.cells ∧ slots ≤ R.slots)
    (kk : ∀ (H1 : Heap) (locs1 : List Loc), va_P D cl w' H1 → va_D A w' → va_S A H0 H1 locs1 → W p l e R s m args below meth c H1 locs1 cells slots Q (F0 m (pc + 3) ls (.ref r :: rest))) : W p l e R s m args below meth c H locs cells slots Q (F0 m pc ls st0) := by
  subst hCC
  have hPc := hP.sub (ws' := w1) isC (mt_fm hC)
  have hDc := hD.sub (ws' := w1) isC hcn hC
  have hFc := va_free (wc := w1) hD hS hA isC hC
  refine va_callr (va_runV S (hM H.size) cw ⟨mt_q_blind, va_recv hK hP hc he, fun U hU hW => ⟨rfl, by rw [hU], by rw [hU]; exact hPc, va_K.moved hW.alike hK, hDc.weaken (fun _ _ _ _ => trivial)⟩⟩ rfl hn hsz hst (lv_room hW) hdg hRm) hS (fun q _ h => hFc q h) hFc (fun u r1 t H1 locs1 ht hvm hw hB hz1 hk1 hS1 => ?_)
  obtain ⟨hw2, hP1, hK1, hD1⟩ := hB
  subst hw2
  rw [ht] at hP1
  obtain ⟨hP2, hD2⟩ := va_join (wr := wr) (w1 := w2) hP hD isC isR hC hR hrn hdis hk1 hFc hP1 hD1
  exact kk H1 locs1 (hP2.sub pm (mt_fm hpm)) (hD2.sub pm hpn hpm) hS1
end CV
/-! MORE BASE ROWS: worlds up to order; calls beside a tail of cells; the questions as a pool; new arrays; constructors. -/
theorem mt_P_iff {D : va_G} {cl : List vw_C} {w : va_W} {H : Heap} : va_P D cl w H ↔ ∀ q ∈ w, va_at D cl q H :=
  ⟨fun h q hq => by obtain ⟨k, hk⟩ := List.getElem?_of_mem hq; exact h k q hk, fun h k q hk => h q (List.mem_of_getElem? hk)⟩
theorem mt_P_perm {D : va_G} {cl : List vw_C} {w w' : va_W} {H : Heap} (hp : w.Perm w') (h : va_P D cl w H) : va_P D cl w' H :=
  mt_P_iff.mpr fun q hq => mt_P_iff.mp h q (hp.mem_iff.mpr hq)
theorem mt_D_iff {A : Nat → Prop} {w : va_W} : va_D A w ↔ (w.map Prod.fst).Nodup ∧ ∀ q ∈ w, A q.1 := by
  constructor
  · intro h
    refine ⟨?_, fun q hq => ?_⟩
    · rw [List.nodup_iff_pairwise_ne, List.pairwise_iff_getElem]
      intro i j hi hj hij he
      rw [List.length_map] at hi hj
      rw [List.getElem_map, List.getElem_map] at he
      have := h.1 i j w[i] w[j] (List.getElem?_eq_getElem hi) (List.getElem?_eq_getElem hj) he
      omega
    · obtain ⟨k, hk⟩ := List.getElem?_of_mem hq
      exact h.2 k q hk
  · intro h
    refine ⟨fun i j x y hx hy hxy => ?_, fun k q hk => h.2 q (List.mem_of_getElem? hk)⟩
    have hn := h.1
    rw [List.nodup_iff_pairwise_ne, List.pairwise_iff_getElem] at hn
    obtain ⟨hi, ei⟩ := List.getElem?_eq_some_iff.mp hx
    obtain ⟨hj, ej⟩ := List.getElem?_eq_some_iff.mp hy
    rcases Nat.lt_trichotomy i j with h1 | h1 | h1
    · exact absurd (by rw [List.getElem_map, List.getElem_map, ei, ej]; exact hxy) (hn i j (by rw [List.length_map]; exact hi) (by rw [List.length_map]; exact hj) h1)
    · exact h1
    · exact absurd (by rw [List.getElem_map, List.getElem_map, ei, ej]; exact hxy.symm) (hn j i (by rw [List.length_map]; exact hj) (by rw [List.length_map]; exact hi) h1)
theorem mt_D_perm {A : Nat → Prop} {w w' : va_W} (hp : w.Perm w') (h : va_D A w) : va_D A w' := by
  rw [mt_D_iff] at h ⊢
  exact ⟨(hp.map Prod.fst).nodup_iff.mp h.1, fun q hq => h.2 q (hp.mem_iff.mpr hq)⟩
/-- a question of the pool: its three addresses, its three numbers, its two arrays -/
abbrev mt_Q : Type := (Nat × Nat × Nat) × (Int32 × Int32 × Int32) × (Nat → Int32) × (Nat → Int32)
def fn_q {α : Type} (L : List mt_Q) (i : Nat) (k : Nat → Nat → Nat → Int32 → Int32 → Int32 → (Nat → Int32) → (Nat → Int32) → Option α) : Option α := match L[i]? with
  | none => none
  | some ((a, b, c), (x, y, z), f, g) => k a b c x y z f g
theorem fn_qe {α : Type} {L : List mt_Q} {i : Nat} {k : Nat → Nat → Nat → Int32 → Int32 → Int32 → (Nat → Int32) → (Nat → Int32) → Option α} {r : α} (h : fn_q L i k = some r) :
    ∃ a b c x y z f g, L[i]? = some ((a, b, c), (x, y, z), f, g) ∧ k a b c x y z f g = some r := by
  unfold fn_q at h
  split at h
  · cases h
  · exact ⟨_, _, _, _, _, _, _, _, by assumption, h⟩
/-- its cells -/
def mt_qc (ci : Nat) (cA : ClassId) (u : mt_Q) : va_W := [(u.1.1, .inr (ci, [.ref u.1.2.1, .ref u.1.2.2, .int u.2.1.1, .int u.2.1.2.1, .int u.2.1.2.2])), (u.1.2.1, .inl (cA, 9, .inl u.2.2.1)), (u.1.2.2, .inl (cA, 3, .inl u.2.2.2))]
def mt_pool (ci : Nat) (cA : ClassId) (L : List mt_Q) : va_W := L.flatMap (mt_qc ci cA)
def mt_rest (ci : Nat) (cA : ClassId) (L : List mt_Q) (i : Nat) : va_W := mt_pool ci cA (L.take i ++ L.drop (i + 1))
theorem mt_cut {L : List mt_Q} {i : Nat} {u : mt_Q} (h : L[i]? = some u) : L = L.take i ++ u :: L.drop (i + 1) := by
  obtain ⟨hi, he⟩ := List.getElem?_eq_some_iff.mp h
  rw [← he, List.getElem_cons_drop]
  exact (List.take_append_drop i L).symm
/-- one question out of the pool; another state of it back -/
theorem mt_pool_set {ci : Nat} {cA : ClassId} {L : List mt_Q} {i : Nat} {u : mt_Q} (hi : i < L.length) : (mt_pool ci cA (L.set i u)).Perm (mt_qc ci cA u ++ mt_rest ci cA L i) := by
  have e : L.set i u = L.take i ++ u :: L.drop (i + 1) := by rw [List.set_eq_take_append_cons_drop, if_pos hi]
  unfold mt_rest mt_pool
  rw [e, List.flatMap_append, List.flatMap_cons, List.flatMap_append]
  refine (List.perm_append_comm_assoc _ _ _).trans ?_
  exact List.Perm.refl _
theorem mt_pool_at {ci : Nat} {cA : ClassId} {L : List mt_Q} {i : Nat} {u : mt_Q} (h : L[i]? = some u) : (mt_pool ci cA L).Perm (mt_qc ci cA u ++ mt_rest ci cA L i) := by
  obtain ⟨hi, he⟩ := List.getElem?_eq_some_iff.mp h
  have := mt_pool_set (ci := ci) (cA := cA) (u := u) hi
  rwa [show L.set i u = L by rw [← he, List.set_getElem_self]] at this
theorem mt_open {X : va_W} {ci : Nat} {cA : ClassId} {L : List mt_Q} {i : Nat} {u : mt_Q} (h : L[i]? = some u) : (X ++ mt_pool ci cA L).Perm ((X ++ mt_qc ci cA u) ++ mt_rest ci cA L i) := by
  rw [List.append_assoc]
  exact List.Perm.append_left X (mt_pool_at h)
theorem mt_close {X : va_W} {ci : Nat} {cA : ClassId} {L : List mt_Q} {i : Nat} {u : mt_Q} (hi : i < L.length) : ((X ++ mt_qc ci cA u) ++ mt_rest ci cA L i).Perm (X ++ mt_pool ci cA (L.set i u)) := by
  rw [List.append_assoc]
  exact List.Perm.append_left X (mt_pool_set hi).symm
section CT
variable {p : Program} {l : Launch} {e : Env} {R : Room} {s : State} {m : MethodId} {args : Array Value} {below : List Frame} {meth : Method} {c : Code} {H : Heap} {locs : List Loc} {cells slots : Nat} {Q : State → Prop}
variable {cc : ByteArray} {nL pc n index maxL : Nat} {Ts ws : List Cond} {own C : String} {ls : Array Slot} {rest st0 As : List Value} {y : MethodName} {rm : Room} {D : va_G} {cl : List vw_C} {tys : List (ClassId × FieldType)} {b : Nat} {w w1 w2 wsx wr w' tl tl2 : va_W} {bytes : ByteArray} {ret : Option FieldType} {ci : Nat} {fs : List Value} {q : vw_C} {A : Nat → Prop} {H0 : Heap}
theorem cv_WrIT {r : Int32} (S : CallFix p m c cc nL s args Ts own) (hM : WrI l y ws rm D cl tys (.ref b :: As) w1 w2 r) (cw : CallW R s args own C index y bytes maxL ret ws rm 0 0 n)
    (hK : va_K D cl tys s) (hP : va_P D cl (wsx ++ tl) H) (hD : va_D A (wsx ++ tl)) (hS : va_S A H0 H locs) (hA : ∀ q : Nat, H0.size ≤ q → A q) (isC isR pm : List Nat) (hC : isC.map (fun i => wsx[i]?) = w1.map some) (hcn : va_nd isC = true) (hR : isR.map (fun i => wsx[i]?) = wr.map some) (hrn : va_nd isR = true) (hdis : ∀ i ∈ isR, i ∉ isC) (hpm : pm.map (fun i => (wr ++ w2)[i]?) = w'.map some) (hpn : va_nd pm = true) (q0 : Nat) (he : (wsx ++ tl)[q0]? = some (b, .inr (ci, fs))) (hc : cl[ci]? = some q) (hCC : q.1 = C) (hn : As.length = n) (hsz : ls.size = nL) (hst : st0 = As.reverse ++ .ref b :: rest) (hW : (rest.map fun v => v.category).sum ≤ 8) (hdg : decode cc pc = .ok (.invokevirtual index, 3)) (hRm : cells ≤ R.cells ∧ slots ≤ R.slots)
    (kk : ∀ (H1 : Heap) (locs1 : List Loc), va_P D cl (w' ++ tl) H1 → va_D A (w' ++ tl) → va_S A H0 H1 locs1 → W p l e R s m args below meth c H1 locs1 cells slots Q (F0 m (pc + 3) ls (.int r :: rest))) : W p l e R s m args below meth c H locs cells slots Q (F0 m pc ls st0) := by
  subst hCC
  have hP0 : va_P D cl w1 H := (hP.part (cx := w1) isC hC).by id (fun k q hk => by show (w1 ++ tl)[k]? = some q; rw [List.getElem?_append_left (List.getElem?_eq_some_iff.mp hk).1]; exact hk)
  have hPc := hP0
  have hDc : va_D A w1 := (hD.part (cx := w1) isC hcn hC).by id (fun k q hk => by show (w1 ++ tl)[k]? = some q; rw [List.getElem?_append_left (List.getElem?_eq_some_iff.mp hk).1]; exact hk) (fun i j _ _ e => e)
  have hFc : ∀ q, va_A w1 H.size q → A q := by
    intro q h
    rcases h with ⟨k, e, h⟩ | h
    · exact hDc.2 k (q, e) h
    · exact hA q (Nat.le_trans hS.1 h)
  refine va_calli (va_runV S (hM H.size) cw ⟨mt_q_blind, va_recv hK hP hc he, fun U hU hW => ⟨rfl, by rw [hU], by rw [hU]; exact hPc, va_K.moved hW.alike hK, hDc.weaken (fun _ _ _ _ => trivial)⟩⟩ rfl hn hsz hst (lv_room hW) hdg hRm) hS (fun q _ h => hFc q h) hFc (fun r1 u t H1 locs1 ht hvm hw hB hz1 hk1 hS1 => ?_)
  have hw : r1 = r := hw
  subst hw
  obtain ⟨hP1, hK1, hD1⟩ := hB
  rw [ht] at hP1
  obtain ⟨hP2, hD2⟩ := va_joinQ (wr := wr) (w1 := w2) hP hD isC isR hC hR hrn hdis hk1 hFc hP1 hD1
  exact kk H1 locs1 (hP2.part pm hpm) (hD2.part pm hpn hpm) hS1
theorem cv_WrLT {r : Int64} (S : CallFix p m c cc nL s args Ts own) (hM : WrL l y ws rm D cl tys (.ref b :: As) w1 w2 r) (cw : CallW R s args own C index y bytes maxL ret ws rm 0 0 n)
    (hK : va_K D cl tys s) (hP : va_P D cl (wsx ++ tl) H) (hD : va_D A (wsx ++ tl)) (hS : va_S A H0 H locs) (hA : ∀ q : Nat, H0.size ≤ q → A q) (isC isR pm : List Nat) (hC : isC.map (fun i => wsx[i]?) = w1.map some) (hcn : va_nd isC = true) (hR : isR.map (fun i => wsx[i]?) = wr.map some) (hrn : va_nd isR = true) (hdis : ∀ i ∈ isR, i ∉ isC) (hpm : pm.map (fun i => (wr ++ w2)[i]?) = w'.map some) (hpn : va_nd pm = true) (q0 : Nat) (he : (wsx ++ tl)[q0]? = some (b, .inr (ci, fs))) (hc : cl[ci]? = some q) (hCC : q.1 = C) (hn : As.length = n) (hsz : ls.size = nL) (hst : st0 = As.reverse ++ .ref b :: rest) (hW : (rest.map fun v => v.category).sum ≤ 8) (hdg : decode cc pc = .ok (.invokevirtual index, 3)) (hRm : cells ≤ R.cells ∧ slots ≤ R.slots)
    (kk : ∀ (H1 : Heap) (locs1 : List Loc), va_P D cl (w' ++ tl) H1 → va_D A (w' ++ tl) → va_S A H0 H1 locs1 → W p l e R s m args below meth c H1 locs1 cells slots Q (F0 m (pc + 3) ls (.long r :: rest))) : W p l e R s m args below meth c H locs cells slots Q (F0 m pc ls st0) := by
  subst hCC
  have hP0 : va_P D cl w1 H := (hP.part (cx := w1) isC hC).by id (fun k q hk => by show (w1 ++ tl)[k]? = some q; rw [List.getElem?_append_left (List.getElem?_eq_some_iff.mp hk).1]; exact hk)
  have hPc := hP0
  have hDc : va_D A w1 := (hD.part (cx := w1) isC hcn hC).by id (fun k q hk => by show (w1 ++ tl)[k]? = some q; rw [List.getElem?_append_left (List.getElem?_eq_some_iff.mp hk).1]; exact hk) (fun i j _ _ e => e)
  have hFc : ∀ q, va_A w1 H.size q → A q := by
    intro q h
    rcases h with ⟨k, e, h⟩ | h
    · exact hDc.2 k (q, e) h
    · exact hA q (Nat.le_trans hS.1 h)
  refine va_calll (va_runV S (hM H.size) cw ⟨mt_q_blind, va_recv hK hP hc he, fun U hU hW => ⟨rfl, by rw [hU], by rw [hU]; exact hPc, va_K.moved hW.alike hK, hDc.weaken (fun _ _ _ _ => trivial)⟩⟩ rfl hn hsz hst (lv_room hW) hdg hRm) hS (fun q _ h => hFc q h) hFc (fun r1 u t H1 locs1 ht hvm hw hB hz1 hk1 hS1 => ?_)
  have hw : r1 = r := hw
  subst hw
  obtain ⟨hP1, hK1, hD1⟩ := hB
  rw [ht] at hP1
  obtain ⟨hP2, hD2⟩ := va_joinQ (wr := wr) (w1 := w2) hP hD isC isR hC hR hrn hdis hk1 hFc hP1 hD1
  exact kk H1 locs1 (hP2.part pm hpm) (hD2.part pm hpn hpm) hS1
theorem cv_WrVT (S : CallFix p m c cc nL s args Ts own) (hM : WrV l y ws rm D cl tys (.ref b :: As) w1 w2) (cw : CallW R s args own C index y bytes maxL ret ws rm 0 0 n)
    (hK : va_K D cl tys s) (hP : va_P D cl (wsx ++ tl) H) (hD : va_D A (wsx ++ tl)) (hS : va_S A H0 H locs) (hA : ∀ q : Nat, H0.size ≤ q → A q) (isC isR pm : List Nat) (hC : isC.map (fun i => wsx[i]?) = w1.map some) (hcn : va_nd isC = true) (hR : isR.map (fun i => wsx[i]?) = wr.map some) (hrn : va_nd isR = true) (hdis : ∀ i ∈ isR, i ∉ isC) (hpm : pm.map (fun i => (wr ++ w2)[i]?) = w'.map some) (hpn : va_nd pm = true) (q0 : Nat) (he : (wsx ++ tl)[q0]? = some (b, .inr (ci, fs))) (hc : cl[ci]? = some q) (hCC : q.1 = C) (hn : As.length = n) (hsz : ls.size = nL) (hst : st0 = As.reverse ++ .ref b :: rest) (hW : (rest.map fun v => v.category).sum ≤ 8) (hdg : decode cc pc = .ok (.invokevirtual index, 3)) (hRm : cells ≤ R.cells ∧ slots ≤ R.slots)
    (kk : ∀ (H1 : Heap) (locs1 : List Loc), va_P D cl (w' ++ tl) H1 → va_D A (w' ++ tl) → va_S A H0 H1 locs1 → W p l e R s m args below meth c H1 locs1 cells slots Q (F0 m (pc + 3) ls rest)) : W p l e R s m args below meth c H locs cells slots Q (F0 m pc ls st0) := by
  subst hCC
  have hP0 : va_P D cl w1 H := (hP.part (cx := w1) isC hC).by id (fun k q hk => by show (w1 ++ tl)[k]? = some q; rw [List.getElem?_append_left (List.getElem?_eq_some_iff.mp hk).1]; exact hk)
  have hPc := hP0
  have hDc : va_D A w1 := (hD.part (cx := w1) isC hcn hC).by id (fun k q hk => by show (w1 ++ tl)[k]? = some q; rw [List.getElem?_append_left (List.getElem?_eq_some_iff.mp hk).1]; exact hk) (fun i j _ _ e => e)
  have hFc : ∀ q, va_A w1 H.size q → A q := by
    intro q h
    rcases h with ⟨k, e, h⟩ | h
    · exact hDc.2 k (q, e) h
    · exact hA q (Nat.le_trans hS.1 h)
  refine va_callv (va_runV S (hM H.size) cw ⟨mt_q_blind, va_recv hK hP hc he, fun U hU hW => ⟨rfl, by rw [hU], by rw [hU]; exact hPc, va_K.moved hW.alike hK, hDc.weaken (fun _ _ _ _ => trivial)⟩⟩ rfl hn hsz hst (lv_room hW) hdg hRm) hS (fun q _ h => hFc q h) hFc (fun u t H1 locs1 ht hvm hw hB hz1 hk1 hS1 => ?_)
  obtain ⟨hP1, hK1, hD1⟩ := hB
  rw [ht] at hP1
  obtain ⟨hP2, hD2⟩ := va_joinQ (wr := wr) (w1 := w2) hP hD isC isR hC hR hrn hdis hk1 hFc hP1 hD1
  exact kk H1 locs1 (hP2.part pm hpm) (hD2.part pm hpn hpm) hS1
theorem cv_WrIP {r : Int32} (S : CallFix p m c cc nL s args Ts own) (hM : WrI l y ws rm D cl tys (.ref b :: As) (w1 ++ tl) (w2 ++ tl2) r) (cw : CallW R s args own C index y bytes maxL ret ws rm 0 0 n)
    (hK : va_K D cl tys s) (hP : va_P D cl (wsx ++ tl) H) (hD : va_D A (wsx ++ tl)) (hS : va_S A H0 H locs) (hA : ∀ q : Nat, H0.size ≤ q → A q) (isC isR pm : List Nat) (hC : isC.map (fun i => wsx[i]?) = w1.map some) (hcn : va_nd isC = true) (hR : isR.map (fun i => wsx[i]?) = wr.map some) (hrn : va_nd isR = true) (hdis : ∀ i ∈ isR, i ∉ isC) (hpm : pm.map (fun i => (wr ++ w2)[i]?) = w'.map some) (hpn : va_nd pm = true) (q0 : Nat) (he : (wsx ++ tl)[q0]? = some (b, .inr (ci, fs))) (hc : cl[ci]? = some q) (hCC : q.1 = C) (hn : As.length = n) (hsz : ls.size = nL) (hst : st0 = As.reverse ++ .ref b :: rest) (hW : (rest.map fun v => v.category).sum ≤ 8) (hdg : decode cc pc = .ok (.invokevirtual index, 3)) (hRm : cells ≤ R.cells ∧ slots ≤ R.slots)
    (kk : ∀ (H1 : Heap) (locs1 : List Loc), va_P D cl (w' ++ tl2) H1 → va_D A (w' ++ tl2) → va_S A H0 H1 locs1 → W p l e R s m args below meth c H1 locs1 cells slots Q (F0 m (pc + 3) ls (.int r :: rest))) : W p l e R s m args below meth c H locs cells slots Q (F0 m pc ls st0) := by
  subst hCC
  have hPc := hP.part (cx := w1) isC hC
  have hDc := hD.part (cx := w1) isC hcn hC
  have hFc := va_freeP (cx := w1) hD hS hA isC hC
  refine va_calli (va_runV S (hM H.size) cw ⟨mt_q_blind, va_recv hK hP hc he, fun U hU hW => ⟨rfl, by rw [hU], by rw [hU]; exact hPc, va_K.moved hW.alike hK, hDc.weaken (fun _ _ _ _ => trivial)⟩⟩ rfl hn hsz hst (lv_room hW) hdg hRm) hS (fun q _ h => hFc q h) hFc (fun r1 u t H1 locs1 ht hvm hw hB hz1 hk1 hS1 => ?_)
  have hw : r1 = r := hw
  subst hw
  obtain ⟨hP1, hK1, hD1⟩ := hB
  rw [ht] at hP1
  obtain ⟨hP2, hD2⟩ := va_joinP (wr := wr) (rx := w2) hP hD isC isR hC hR hrn hdis hk1 hFc hP1 hD1
  exact kk H1 locs1 (hP2.part pm hpm) (hD2.part pm hpn hpm) hS1
end CT
/-! BASE ROWS FOR WHAT MAKES OBJECTS -/
/-- the cells w1 become w2 u, where u names the made addresses; mc cells of ms slots are made -/
def AlV {S : Type} (l : Launch) (y : MethodName) (ws : List Cond) (rm : Room) (D : va_G) (cl : List vw_C) (tys : List (ClassId × FieldType)) (av : List Value) (w1 : va_W) (w2 : S → va_W) (mc ms : Nat) : Prop :=
  ∀ sz : Nat, Met l y ws rm (va_Pc av (mt_q D cl tys w1 sz)) (va_Qv (fun (_ : S) => True) (fun u t => mt_e D cl tys (va_A w1 sz) (w2 u) t) (va_A w1 sz)) mc ms (va_A w1 sz)
def AlI {S : Type} (l : Launch) (y : MethodName) (ws : List Cond) (rm : Room) (D : va_G) (cl : List vw_C) (tys : List (ClassId × FieldType)) (av : List Value) (w1 : va_W) (w2 : S → va_W) (mc ms : Nat) (r : Int32) : Prop :=
  ∀ sz : Nat, Met l y ws rm (va_Pc av (mt_q D cl tys w1 sz)) (va_Qi (fun (x : Int32) (_ : S) => x = r) (fun u t => mt_e D cl tys (va_A w1 sz) (w2 u) t) (va_A w1 sz)) mc ms (va_A w1 sz)
section MA
variable {S : Type} {l : Launch} {y : MethodName} {ws ws' : List Cond} {rm : Room} {D : va_G} {cl : List vw_C} {tys : List (ClassId × FieldType)} {av : List Value} {w1 : va_W} {w2 : S → va_W} {mc ms : Nat} {cc : ByteArray} {maxL : Nat}
theorem mk_AlV (hy : plainFor y = true) (hw : ws = Cond.code y cc maxL none :: ws') (hav : (lg_sl av).length ≤ maxL)
    (body : ∀ (p : Program) (e : Env) (s : State) (m : MethodId) (below : List Frame) (meth : Method) (c : Code) (args : Array Value) (Q : State → Prop) (A : Nat → Prop) (ls : Array Slot),
      p.tables.exec = Jvm.exec → c.code = cc → c.maxLocals = maxL → s.vm.findClass y.cls = some m.cls → (∀ w ∈ ws', w.before args s = true) → (∀ q : Nat, s.heap.size ≤ q → A q) → va_K D cl tys s → va_P D cl w1 s.heap → va_D A w1 → meth.name = y.name →
      (∀ (u : S) (H : Heap) (locs : List Loc) (pc : Nat) (ls : Array Slot), va_P D cl (w2 u) H → va_D A (w2 u) → va_S A s.heap H locs → decode cc pc = .ok (.return_, 1) → W p l e rm s m args below meth c H locs mc ms Q (F0 m pc ls [])) →
      lv_has ls maxL (lv_args 0 av) → W p l e rm s m args below meth c s.heap [] 0 0 Q (F0 m 0 ls [])) : AlV l y ws rm D cl tys av w1 w2 mc ms := by
  intro sz
  refine va_MetF (cc := cc) (maxL := maxL) (ret := none) hy hw ?_
  intro p e s m args below meth c s₁ B hml hv
  obtain ⟨rfl, hsz, hP, hK, hD0⟩ := hv
  have hlocks := B.notSynchronized
  subst hsz
  have hl := lv_entry av (n := maxL) hav
  rw [lg_entry_eq]
  generalize (lg_sl av ++ List.replicate (maxL - (lg_sl av).length) Slot.unset).toArray = ls at hl ⊢
  refine body p e s m below meth c _ _ (va_A w1 s.heap.size) ls B.exec B.bytes hml (findClass_of_methodNamed B.named) (fun w h => atoms_spec (ws := ws) B.pre w (by rw [hw]; exact List.mem_cons_of_mem _ h)) (fun q h => Or.inr h) hK hP hD0.self (name_of_methodNamed B.named B.method).1 ?_ hl
  intro u H locs pc ls hP2 hD2 hS hd
  exact W.vret B.exec B.bytes B.returns (fun t ht hW => ⟨⟨u, rfl, trivial, by rw [ht]; exact hP2, va_K.moved hW.alike hK, hD2⟩, hS.F ht⟩) hS.2.2 hd
theorem mk_AlI {r : Int32} (hy : plainFor y = true) (hw : ws = Cond.code y cc maxL (some .int) :: ws') (hav : (lg_sl av).length ≤ maxL)
    (body : ∀ (p : Program) (e : Env) (s : State) (m : MethodId) (below : List Frame) (meth : Method) (c : Code) (args : Array Value) (Q : State → Prop) (A : Nat → Prop) (ls : Array Slot),
      p.tables.exec = Jvm.exec → c.code = cc → c.maxLocals = maxL → s.vm.findClass y.cls = some m.cls → (∀ w ∈ ws', w.before args s = true) → (∀ q : Nat, s.heap.size ≤ q → A q) → va_K D cl tys s → va_P D cl w1 s.heap → va_D A w1 → meth.name = y.name →
      (∀ (u : S) (H : Heap) (locs : List Loc) (pc : Nat) (ls : Array Slot), va_P D cl (w2 u) H → va_D A (w2 u) → va_S A s.heap H locs → narrow .int (.int r) = .int r → decode cc pc = .ok (.ireturn, 1) → W p l e rm s m args below meth c H locs mc ms Q (F0 m pc ls [.int r])) →
      lv_has ls maxL (lv_args 0 av) → W p l e rm s m args below meth c s.heap [] 0 0 Q (F0 m 0 ls [])) : AlI l y ws rm D cl tys av w1 w2 mc ms r := by
  intro sz
  refine va_MetF (cc := cc) (maxL := maxL) (ret := some .int) hy hw ?_
  intro p e s m args below meth c s₁ B hml hv
  obtain ⟨rfl, hsz, hP, hK, hD0⟩ := hv
  have hlocks := B.notSynchronized
  subst hsz
  have hl := lv_entry av (n := maxL) hav
  rw [lg_entry_eq]
  generalize (lg_sl av ++ List.replicate (maxL - (lg_sl av).length) Slot.unset).toArray = ls at hl ⊢
  refine body p e s m below meth c _ _ (va_A w1 s.heap.size) ls B.exec B.bytes hml (findClass_of_methodNamed B.named) (fun w h => atoms_spec (ws := ws) B.pre w (by rw [hw]; exact List.mem_cons_of_mem _ h)) (fun q h => Or.inr h) hK hP hD0.self (name_of_methodNamed B.named B.method).1 ?_ hl
  intro u H locs pc ls hP2 hD2 hS hn hd
  exact W.iret B.exec B.bytes B.returns (fun t ht hW => ⟨⟨r, u, rfl, rfl, by rw [ht]; exact hP2, va_K.moved hW.alike hK, hD2⟩, hS.F ht⟩) hS.2.2 hd
end MA
section NA
variable {p : Program} {l : Launch} {e : Env} {R : Room} {s : State} {m : MethodId} {args : Array Value} {below : List Frame} {meth : Method} {c : Code} {H : Heap} {locs : List Loc} {cells slots : Nat} {Q : State → Prop}
variable {cc : ByteArray} {pc : Nat} {ls : Array Slot} {rest : List Value} {D : va_G} {cl : List vw_C} {A : Nat → Prop} {tys : List (ClassId × FieldType)} {ws : va_W} {H0 : Heap}
theorem mt_newa (hexec : p.tables.exec = Jvm.exec) (hb : c.code = cc) {atype : ArrayType} (harr : (Cond.arrayClass (newarray.typeOf atype)).before args s = true) {ty : FieldType} (hty : newarray.typeOf atype = ty) (hK : va_K D cl tys s) (t0 : Nat) {cA : ClassId} (ht : tys[t0]? = some (cA, ty)) (hP : va_P D cl ws H) (hD : va_D A ws) (hS : va_S A H0 H locs) (hA : ∀ q, H0.size ≤ q → A q)
    {n : Int32} {N' : Nat} {a0 : vp_A} (ha : ∀ cA : ClassId, vp_cell cA a0 = arrV cA N' (fun _ => defaultValue ty)) (hn : ¬ n < 0) (hN : n.toNatClampNeg = N') (hbytes : N' * componentBytes ty ≤ 536870912) (hcells : cells + 1 ≤ R.cells) (hslots : slots + N' ≤ R.slots) (hdg : decode cc pc = .ok (.newarray atype, 2))
    (kk : ∀ (q : Nat) (H1 : Heap), va_P D cl (ws ++ [(q, .inl (cA, a0))]) H1 → va_D A (ws ++ [(q, .inl (cA, a0))]) → va_S A H0 H1 locs → W p l e R s m args below meth c H1 locs (cells + 1) (slots + N') Q (F0 m (pc + 2) ls (.ref q :: rest))) : W p l e R s m args below meth c H locs cells slots Q (F0 m pc ls (.int n :: rest)) := by
  refine va_newa hexec hb harr hty hK hP hD hS hA ha hn hN hbytes hcells hslots hdg (fun q cB H1 hK1 hP1 hD1 hS1 => ?_)
  have h1 := (hK.2 t0 _ ht).2
  have h2 := (hK1.2 tys.length (cB, ty) (by simp)).2
  have hc : cB = cA := by
    subst hty
    cases atype <;> exact Option.some.inj (h2.symm.trans h1)
  subst hc
  exact kk q H1 hP1 hD1 hS1
theorem mt_newq (hexec : p.tables.exec = Jvm.exec) (hb : c.code = cc) {own C : String} {index : Nat} (hown : s.vm.findClass own = some m.cls) (hclink : (Cond.classLink own index C).before args s = true) (hover : va_AO C s) (hK : va_K D cl tys s) (t0 : Nat) {cA : ClassId} (ht : tys[t0]? = some (cA, .object C)) (hP : va_P D cl ws H) (hD : va_D A ws) (hS : va_S A H0 H locs) (hA : ∀ q, H0.size ≤ q → A q)
    {n : Int32} {N' : Nat} (hn : ¬ n < 0) (hN : n.toNatClampNeg = N') (hbytes : N' * 4 ≤ 536870912) (hcells : cells + 1 ≤ R.cells) (hslots : slots + N' ≤ R.slots) (hdg : decode cc pc = .ok (.anewarray index, 3))
    (kk : ∀ (q : Nat) (H1 : Heap), va_P D cl (ws ++ [(q, .inl (cA, N', .inr (.inr (.inr (.inr (fun _ => none))))))]) H1 → va_D A (ws ++ [(q, .inl (cA, N', .inr (.inr (.inr (.inr (fun _ => none))))))]) → va_S A H0 H1 locs →
      W p l e R s m args below meth c H1 locs (cells + 1) (slots + N') Q (F0 m (pc + 3) ls (.ref q :: rest))) : W p l e R s m args below meth c H locs cells slots Q (F0 m pc ls (.int n :: rest)) := by
  refine va_newq hexec hb hown hclink hover hK hP hD hS hA hn hN hbytes hcells hslots hdg (fun q cB H1 hK1 hP1 hD1 hS1 => ?_)
  obtain ⟨_, _, _, _, _, h1⟩ := (hK.2 t0 _ ht).2
  obtain ⟨_, _, _, _, _, h2⟩ := (hK1.2 tys.length (cB, .object C) (by simp)).2
  have hc : cB = cA := Option.some.inj (h2.symm.trans h1)
  subst hc
  exact kk q H1 hP1 hD1 hS1
variable {S : Type} {nL n index maxL mc ms : Nat} {Ts ws0 : List Cond} {own host : String} {st0 As : List Value} {y : MethodName} {rm : Room} {b : Nat} {w1 wsx wr : va_W} {w2 w' : S → va_W} {bytes : ByteArray}
theorem ci_AlV (X : CallFix p m c cc nL s args Ts own) (hM : AlV l y ws0 rm D cl tys (.ref b :: As) w1 w2 mc ms) (cw : CallB R s args own index y bytes maxL none ws0 rm mc ms n ∧ y.name = "<init>" ∧ (Cond.instanceMethod y).before args s = true)
    (hK : va_K D cl tys s) (hP : va_P D cl wsx H) (hD : va_D A wsx) (hS : va_S A H0 H locs) (hA : ∀ q : Nat, H0.size ≤ q → A q) (isC isR pm : List Nat) (hC : isC.map (fun i => wsx[i]?) = w1.map some) (hcn : va_nd isC = true) (hR : isR.map (fun i => wsx[i]?) = wr.map some) (hrn : va_nd isR = true) (hdis : ∀ i ∈ isR, i ∉ isC) (hpm : ∀ u, pm.map (fun i => (wr ++ w2 u)[i]?) = (w' u).map some) (hpn : va_nd pm = true) (hn : As.length = n) (hsz : ls.size = nL) (hst : st0 = As.reverse ++ .ref b :: rest) (hW : (rest.map fun v => v.category).sum ≤ 8) (hdg : decode cc pc = .ok (.invokespecial index, 3)) (hRm : cells + mc ≤ R.cells ∧ slots + ms ≤ R.slots)
    (kk : ∀ (u : S) (H1 : Heap) (locs1 : List Loc), va_P D cl (w' u) H1 → va_D A (w' u) → va_S A H0 H1 locs1 → W p l e R s m args below meth c H1 locs1 (cells + mc) (slots + ms) Q (F0 m (pc + 3) ls rest)) : W p l e R s m args below meth c H locs cells slots Q (F0 m pc ls st0) := by
  have hPc := hP.sub (ws' := w1) isC (mt_fm hC)
  have hDc := hD.sub (ws' := w1) isC hcn hC
  have hFc := va_free (wc := w1) hD hS hA isC hC
  refine va_callv (va_runI X (hM H.size) cw ⟨mt_q_blind, fun U hU hW => ⟨rfl, by rw [hU], by rw [hU]; exact hPc, va_K.moved hW.alike hK, hDc.weaken (fun _ _ _ _ => trivial)⟩⟩ rfl hn hsz hst (lv_room hW) hdg hRm) hS (fun q _ h => hFc q h) hFc (fun u t H1 locs1 ht hvm hw hB hz1 hk1 hS1 => ?_)
  obtain ⟨hP1, hK1, hD1⟩ := hB
  rw [ht] at hP1
  obtain ⟨hP2, hD2⟩ := va_join (wr := wr) (w1 := w2 u) hP hD isC isR hC hR hrn hdis hk1 hFc hP1 hD1
  exact kk u H1 locs1 (hP2.sub pm (mt_fm (hpm u))) (hD2.sub pm hpn (hpm u)) hS1
theorem cn_AlV (X : CallFix p m c cc nL s args Ts own) (hM : AlV l y ws0 rm D cl tys (.ref b :: As) w1 w2 mc ms) (cw : va_CN R s args own index y host bytes maxL none ws0 rm mc ms n ∧ y.name = "<init>" ∧ (Cond.instanceMethod y).before args s = true)
    (hK : va_K D cl tys s) (hP : va_P D cl wsx H) (hD : va_D A wsx) (hS : va_S A H0 H locs) (hA : ∀ q : Nat, H0.size ≤ q → A q) (isC isR pm : List Nat) (hC : isC.map (fun i => wsx[i]?) = w1.map some) (hcn : va_nd isC = true) (hR : isR.map (fun i => wsx[i]?) = wr.map some) (hrn : va_nd isR = true) (hdis : ∀ i ∈ isR, i ∉ isC) (hpm : ∀ u, pm.map (fun i => (wr ++ w2 u)[i]?) = (w' u).map some) (hpn : va_nd pm = true) (hn : As.length = n) (hsz : ls.size = nL) (hst : st0 = As.reverse ++ .ref b :: rest) (hW : (rest.map fun v => v.category).sum ≤ 8) (hdg : decode cc pc = .ok (.invokespecial index, 3)) (hRm : cells + mc ≤ R.cells ∧ slots + ms ≤ R.slots)
    (kk : ∀ (u : S) (H1 : Heap) (locs1 : List Loc), va_P D cl (w' u) H1 → va_D A (w' u) → va_S A H0 H1 locs1 → W p l e R s m args below meth c H1 locs1 (cells + mc) (slots + ms) Q (F0 m (pc + 3) ls rest)) : W p l e R s m args below meth c H locs cells slots Q (F0 m pc ls st0) := by
  have hPc := hP.sub (ws' := w1) isC (mt_fm hC)
  have hDc := hD.sub (ws' := w1) isC hcn hC
  have hFc := va_free (wc := w1) hD hS hA isC hC
  refine va_callv (va_runIN X (hM H.size) cw ⟨mt_q_blind, fun U hU hW => ⟨rfl, by rw [hU], by rw [hU]; exact hPc, va_K.moved hW.alike hK, hDc.weaken (fun _ _ _ _ => trivial)⟩⟩ rfl hn hsz hst (lv_room hW) hdg hRm) hS (fun q _ h => hFc q h) hFc (fun u t H1 locs1 ht hvm hw hB hz1 hk1 hS1 => ?_)
  obtain ⟨hP1, hK1, hD1⟩ := hB
  rw [ht] at hP1
  obtain ⟨hP2, hD2⟩ := va_join (wr := wr) (w1 := w2 u) hP hD isC isR hC hR hrn hdis hk1 hFc hP1 hD1
  exact kk u H1 locs1 (hP2.sub pm (mt_fm (hpm u))) (hD2.sub pm hpn (hpm u)) hS1
end NA
end
section
/-! the program, read as functions (by my program out of the listing) -/
def f_Lg_isFull  (lgS : Int32)  : Option (Int32) := if lgS < 400 then (some 0) else (some 1)
def f_Lg_say_87 (N : Nat)    (lgS : Int32) (lgAf : Nat → Int32) (lgTf : Nat → Int32) (lgCf : Nat → Int32) (v1 : Int32) (v2 : Int32) (v3 : Int32) (v4 : Int32) : Option (Int32 × Int32 × (Nat → Int32) × (Nat → Int32) × (Nat → Int32)) := if fn_in v4 400 = true then (if fn_in v4 400 = true then (if fn_in v4 400 = true then (some (v4, (lgS + 1), (upd lgAf (Int32.toNatClampNeg v4) v1), (upd lgTf (Int32.toNatClampNeg v4) v2), (upd lgCf (Int32.toNatClampNeg v4) (vp_nar .boolean v3)))) else none) else none) else none
def f_Lg_say_15 (N : Nat)    (v1 : Int32) (v2 : Int32) (v3 : Int32) : Nat → Int32 → (Nat → Int32) → (Nat → Int32) → (Nat → Int32) → Int32 → Option (Int32 × Int32 × (Nat → Int32) × (Nat → Int32) × (Nat → Int32))
  | 0, _, _, _, _, _ => none
  | n_15 + 1, lgS, lgAf, lgTf, lgCf, v4 => if v4 ≤ 0 then (f_Lg_say_87 N lgS lgAf lgTf lgCf v1 v2 v3 v4) else (if fn_in (v4 - 1) 400 = true then (if (lgAf (Int32.toNatClampNeg (v4 - 1))) ≤ v1 then (f_Lg_say_87 N lgS lgAf lgTf lgCf v1 v2 v3 v4) else (if fn_in (v4 - 1) 400 = true then (if fn_in v4 400 = true then (if fn_in (v4 - 1) 400 = true then (if fn_in v4 400 = true then (if fn_in (v4 - 1) 400 = true then (if fn_in v4 400 = true then ((f_Lg_say_15 N v1 v2 v3 n_15) lgS (upd lgAf (Int32.toNatClampNeg v4) (lgAf (Int32.toNatClampNeg (v4 - 1)))) (upd lgTf (Int32.toNatClampNeg v4) (lgTf (Int32.toNatClampNeg (v4 - 1)))) (upd lgCf (Int32.toNatClampNeg v4) (vp_nar .boolean (lgCf (Int32.toNatClampNeg (v4 - 1))))) (v4 + (-1))) else none) else none) else none) else none) else none) else none)) else none)
def f_Lg_say (N : Nat)  (lgS : Int32) (lgAf : Nat → Int32) (lgTf : Nat → Int32) (lgCf : Nat → Int32) (v1 : Int32) (v2 : Int32) (v3 : Int32) : Option (Int32 × Int32 × (Nat → Int32) × (Nat → Int32) × (Nat → Int32)) := fn_b1 (f_Lg_isFull lgS) (fun r_1 => if r_1 = 0 then (f_Lg_say_15 N v1 v2 v3 N lgS lgAf lgTf lgCf lgS) else (some ((-1), lgS, lgAf, lgTf, lgCf)))
def f_Lg_lastOf_7 (N : Nat)  (lgS : Int32) (lgAf : Nat → Int32) (lgTf : Nat → Int32)  (v1 : Int32) (v2 : Int32) : Nat → Int32 → Option (Int32)
  | 0, _ => none
  | n_7 + 1, v3 => if v3 < 0 then (some (-1)) else (if fn_in v3 400 = true then (if v2 < (lgAf (Int32.toNatClampNeg v3)) then ((f_Lg_lastOf_7 N lgS lgAf lgTf v1 v2 n_7) (v3 + (-1))) else (if fn_in v3 400 = true then (if (lgTf (Int32.toNatClampNeg v3)) = v1 then (some v3) else ((f_Lg_lastOf_7 N lgS lgAf lgTf v1 v2 n_7) (v3 + (-1)))) else none)) else none)
def f_Lg_lastOf (N : Nat)  (lgS : Int32) (lgAf : Nat → Int32) (lgTf : Nat → Int32) (v1 : Int32) (v2 : Int32) : Option (Int32) := f_Lg_lastOf_7 N lgS lgAf lgTf v1 v2 N (lgS - 1)
def f_Lg_isPlace  (lgS : Int32) (v1 : Int32) : Option (Int32) := if v1 < 0 then (some 0) else (if lgS ≤ v1 then (some 0) else (some 1))
def f_Qu_itemAt  (qIf : Nat → Int32) (v1 : Int32) (v2 : Int32) : Option (Int32) := if ((v1 * 3) + v2) < 0 then (some 0) else (if (Int32.ofNat 9) ≤ ((v1 * 3) + v2) then (some 0) else (if fn_in ((v1 * 3) + v2) 9 = true then (some (qIf (Int32.toNatClampNeg ((v1 * 3) + v2)))) else none))
def f_Qu_uses  (qV : Int32) (v1 : Int32) : Option (Int32) := if ((qV >>> (v1 &&& 31)) &&& 1) = 0 then (some 0) else (some 1)
def f_Qu_use  (qV : Int32) (v1 : Int32) : Option (Int32) := if 0 ≤ v1 then (some qV) else (some (qV ||| ((1 : Int32) <<< (((-1) - v1) &&& 31))))
def f_Rs_clear  (xS : Int32)  : Option (Int32) := some 0
def f_Rs_isFull  (xS : Int32) (xM : Nat)  : Option (Int32) := if xS < (Int32.ofNat xM) then (some 0) else (some 1)
def f_Rs_add  (xS : Int32) (xM : Nat) (xWf : Nat → Int32) (v1 : Int32) (v2 : Int32) : Option (Int32 × (Nat → Int32)) := if v2 = 0 then (some (xS, xWf)) else (fn_b1 (f_Rs_isFull xS xM) (fun r_5 => if r_5 = 0 then (if fn_in xS xM = true then (some ((xS + 1), (upd xWf (Int32.toNatClampNeg xS) ((v1 <<< (16 &&& 31)) ||| v2)))) else none) else (some (xS, xWf))))
def f_Rs_removeAll_97 (N : Nat)  (xM : Nat) (zS : Int32) (zM : Nat) (zWf : Nat → Int32) (r7 : Int32 → (Nat → Int32) → Int32 → Int32 → Int32 → Option (Int32 × (Nat → Int32))) (xS : Int32) (xWf : Nat → Int32) (v2 : Int32) (v3 : Int32) (v4 : Int32) (v5 : Int32) : Option (Int32 × (Nat → Int32)) := if (v5 &&& 65535) = 0 then ((r7) xS xWf v2 v3 (v4 + 1)) else (if fn_in v2 xM = true then ((r7) xS (upd xWf (Int32.toNatClampNeg v2) v5) (v2 + 1) v3 (v4 + 1)) else none)
def f_Rs_removeAll_56 (N : Nat)  (xM : Nat) (zS : Int32) (zM : Nat) (zWf : Nat → Int32) (r7 : Int32 → (Nat → Int32) → Int32 → Int32 → Int32 → Option (Int32 × (Nat → Int32))) (xS : Int32) (xWf : Nat → Int32) (v2 : Int32) (v3 : Int32) (v4 : Int32) (v5 : Int32) : Option (Int32 × (Nat → Int32)) := if zS ≤ v3 then (f_Rs_removeAll_97 N xM zS zM zWf r7 xS xWf v2 v3 v4 v5) else (if fn_in v3 zM = true then (if ((zWf (Int32.toNatClampNeg v3)) >>> (16 &&& 31)) = (v5 >>> (16 &&& 31)) then (if fn_in v3 zM = true then (f_Rs_removeAll_97 N xM zS zM zWf r7 xS xWf v2 v3 v4 (v5 &&& (((zWf (Int32.toNatClampNeg v3)) &&& 65535) ^^^ (-1)))) else none) else (f_Rs_removeAll_97 N xM zS zM zWf r7 xS xWf v2 v3 v4 v5)) else none)
def f_Rs_removeAll_25 (N : Nat)  (xM : Nat) (zS : Int32) (zM : Nat) (zWf : Nat → Int32) (r7 : Int32 → (Nat → Int32) → Int32 → Int32 → Int32 → Option (Int32 × (Nat → Int32))) (v2 : Int32) (v4 : Int32) (v5 : Int32) : Nat → Int32 → (Nat → Int32) → Int32 → Option (Int32 × (Nat → Int32))
  | 0, _, _, _ => none
  | n_25 + 1, xS, xWf, v3 => if zS ≤ v3 then (f_Rs_removeAll_56 N xM zS zM zWf r7 xS xWf v2 v3 v4 v5) else (if fn_in v3 zM = true then (if (v5 >>> (16 &&& 31)) ≤ ((zWf (Int32.toNatClampNeg v3)) >>> (16 &&& 31)) then (f_Rs_removeAll_56 N xM zS zM zWf r7 xS xWf v2 v3 v4 v5) else ((f_Rs_removeAll_25 N xM zS zM zWf r7 v2 v4 v5 n_25) xS xWf (v3 + 1))) else none)
def f_Rs_removeAll_7 (N : Nat)  (xM : Nat) (zS : Int32) (zM : Nat) (zWf : Nat → Int32)   : Nat → Int32 → (Nat → Int32) → Int32 → Int32 → Int32 → Option (Int32 × (Nat → Int32))
  | 0, _, _, _, _, _ => none
  | n_7 + 1, xS, xWf, v2, v3, v4 => if xS ≤ v4 then (some (v2, xWf)) else (if fn_in v4 xM = true then (f_Rs_removeAll_25 N xM zS zM zWf (f_Rs_removeAll_7 N xM zS zM zWf n_7) v2 v4 (xWf (Int32.toNatClampNeg v4)) N xS xWf v3) else none)
def f_Rs_removeAll (N : Nat)  (xS : Int32) (xM : Nat) (xWf : Nat → Int32) (zS : Int32) (zM : Nat) (zWf : Nat → Int32)  : Option (Int32 × (Nat → Int32)) := f_Rs_removeAll_7 N xM zS zM zWf N xS xWf 0 0 0
def f_Rs_isSameAs_15 (N : Nat)  (xS : Int32) (xM : Nat) (xWf : Nat → Int32) (zS : Int32) (zM : Nat) (zWf : Nat → Int32)   : Nat → Int32 → Option (Int32)
  | 0, _ => none
  | n_15 + 1, v2 => if xS ≤ v2 then (some 1) else (if fn_in v2 xM = true then (if fn_in v2 zM = true then (if (xWf (Int32.toNatClampNeg v2)) = (zWf (Int32.toNatClampNeg v2)) then ((f_Rs_isSameAs_15 N xS xM xWf zS zM zWf n_15) (v2 + 1)) else (some 0)) else none) else none)
def f_Rs_isSameAs (N : Nat)  (xS : Int32) (xM : Nat) (xWf : Nat → Int32) (zS : Int32) (zM : Nat) (zWf : Nat → Int32)  : Option (Int32) := if xS = zS then (f_Rs_isSameAs_15 N xS xM xWf zS zM zWf N 0) else (some 0)
def f_Rs_valuesOf   (v0 : Int32) (v1 : Int32) : Option (Int32) := if v1 < 4 then (some ((1 : Int32) <<< ((((v0 >>> (16 &&& 31)) >>> ((4 * (3 - v1)) &&& 31)) &&& 15) &&& 31))) else (some (v0 &&& 65535))
def f_Rs_bitAt_4 (N : Nat)    (v0 : Int32) : Nat → Int32 → Int32 → Option (Int32)
  | 0, _, _ => none
  | n_4 + 1, v2, v3 => if 16 ≤ v3 then (some 0) else (if ((v0 >>> (v3 &&& 31)) &&& 1) = 0 then ((f_Rs_bitAt_4 N v0 n_4) v2 (v3 + 1)) else (if v2 = 0 then (some v3) else ((f_Rs_bitAt_4 N v0 n_4) (v2 + (-1)) (v3 + 1))))
def f_Rs_bitAt (N : Nat)   (v0 : Int32) (v1 : Int32) : Option (Int32) := f_Rs_bitAt_4 N v0 N v1 0
def f_Sr_begin_2 (N : Nat)  (qV : Int32)   : Nat → (Nat → Int32) → Int32 → Option ((Nat → Int32))
  | 0, _, _ => none
  | n_2 + 1, srOf, v2 => if 4 ≤ v2 then (some srOf) else (fn_b1 (f_Qu_uses qV v2) (fun r_14 => if r_14 = 0 then (if fn_in v2 4 = true then ((f_Sr_begin_2 N qV n_2) (upd srOf (Int32.toNatClampNeg v2) 1) (v2 + 1)) else none) else (if fn_in v2 4 = true then ((f_Sr_begin_2 N qV n_2) (upd srOf (Int32.toNatClampNeg v2) 65535) (v2 + 1)) else none)))
def f_Sr_begin (N : Nat)  (srOf : Nat → Int32) (qV : Int32)  : Option ((Nat → Int32)) := f_Sr_begin_2 N qV N srOf 0
def f_Sr_valueOf  (srVf : Nat → Int32) (v1 : Int32) : Option (Int32) := if ((-1) - v1) < 0 then (some v1) else (if 4 ≤ ((-1) - v1) then (some v1) else (if fn_in ((-1) - v1) 4 = true then (some (srVf (Int32.toNatClampNeg ((-1) - v1)))) else none))
def f_Sr_allowed  (srOf : Nat → Int32) (v1 : Int32) : Option (Int32) := if ((-1) - v1) < 0 then (some ((1 : Int32) <<< (v1 &&& 31))) else (if 4 ≤ ((-1) - v1) then (some ((1 : Int32) <<< (v1 &&& 31))) else (if fn_in ((-1) - v1) 4 = true then (some (srOf (Int32.toNatClampNeg ((-1) - v1)))) else none))
def f_Sr_keep  (srOf : Nat → Int32) (v1 : Int32) (v2 : Int32) : Option (Int32 × (Nat → Int32)) := if ((-1) - v1) < 0 then (fn_b1 (f_Sr_allowed srOf v1) (fun r_25 => if (r_25 &&& v2) = 0 then (some (0, srOf)) else (some (1, srOf)))) else (if 4 ≤ ((-1) - v1) then (fn_b1 (f_Sr_allowed srOf v1) (fun r_25 => if (r_25 &&& v2) = 0 then (some (0, srOf)) else (some (1, srOf)))) else (if fn_in ((-1) - v1) 4 = true then (if fn_in ((-1) - v1) 4 = true then (fn_b1 (f_Sr_allowed (upd srOf (Int32.toNatClampNeg ((-1) - v1)) ((srOf (Int32.toNatClampNeg ((-1) - v1))) &&& v2)) v1) (fun r_25 => if (r_25 &&& v2) = 0 then (some (0, (upd srOf (Int32.toNatClampNeg ((-1) - v1)) ((srOf (Int32.toNatClampNeg ((-1) - v1))) &&& v2)))) else (some (1, (upd srOf (Int32.toNatClampNeg ((-1) - v1)) ((srOf (Int32.toNatClampNeg ((-1) - v1))) &&& v2)))))) else none) else none))
def f_Se_put  (seOf : Nat → Int32) (v1 : Int32) (v2 : Int32) : Option ((Nat → Int32)) := if (v1 / 16) < 0 then (some seOf) else (if (v1 / 16) < (Int32.ofNat 128) then (if v2 = 0 then (if fn_in (v1 / 16) 128 = true then (if fn_in (v1 / 16) 128 = true then (some (upd seOf (Int32.toNatClampNeg (v1 / 16)) ((seOf (Int32.toNatClampNeg (v1 / 16))) &&& (((1 : Int32) <<< ((v1 - v1 / 16 * 16) &&& 31)) ^^^ (-1))))) else none) else none) else (if fn_in (v1 / 16) 128 = true then (if fn_in (v1 / 16) 128 = true then (some (upd seOf (Int32.toNatClampNeg (v1 / 16)) ((seOf (Int32.toNatClampNeg (v1 / 16))) ||| ((1 : Int32) <<< ((v1 - v1 / 16 * 16) &&& 31))))) else none) else none)) else (some seOf))
def f_Se_objectsOf  (seOf : Nat → Int32) (v1 : Int32) (v2 : Int32) : Option (Int32) := if v1 < 0 then (some 0) else (if 16 ≤ v1 then (some 0) else (if v2 < 0 then (some 0) else (if v2 < 8 then (if fn_in ((v1 * 8) + v2) 128 = true then (some (seOf (Int32.toNatClampNeg ((v1 * 8) + v2)))) else none) else (some 0))))
def f_C_step  (crN : Int32) (crL : Int32)  : Option (Int32 × Int32) := if crL < (crN - 1) then (some ((crL + 1), (crL + 1))) else (some ((-3), crL))
def f_C_latest  (crL : Int32)  : Option (Int32) := some crL
def f_C_isTriple   (v0 : Int32) (v1 : Int32) (v2 : Int32) : Option (Int32) := if v0 < 0 then (some 0) else (if 16 ≤ v0 then (some 0) else (if v1 < 0 then (some 0) else (if 8 ≤ v1 then (some 0) else (if v2 < 0 then (some 0) else (if 16 ≤ v2 then (some 0) else (some 1))))))
def f_C_tripleOf   (v0 : Int32) (v1 : Int32) (v2 : Int32) : Option (Int32) := some ((((v0 * 8) + v1) * 16) + v2)
def f_C_isItem   (v0 : Int32) (v1 : Int32) : Option (Int32) := if v0 < (-4) then (some 0) else (if v1 ≤ v0 then (some 0) else (some 1))
def f_C_isWindow   (v0 : Int32) : Option (Int32) := if v0 < 0 then (some 0) else (if 62 < v0 then (some 0) else (some 1))
def f_C_isPast  (crL : Int32) (v1 : Int32) : Option (Int32) := if v1 < 0 then (some 0) else (if crL < v1 then (some 0) else (some 1))
def f_C_find  (crQ : Int32) (qsf : Nat → Option Nat) (v1 : Int32) : Option (Option Nat) := if v1 < 0 then (some (none)) else (if crQ ≤ v1 then (some (none)) else (if fn_in v1 12 = true then (some (qsf (Int32.toNatClampNeg v1))) else none))
def f_M_isTriple   (v0 : Int32) (v1 : Int32) (v2 : Int32) : Option (Int32) := if v0 < 0 then (some 0) else (if 16 ≤ v0 then (some 0) else (if v1 < 0 then (some 0) else (if 8 ≤ v1 then (some 0) else (if v2 < 0 then (some 0) else (if 16 ≤ v2 then (some 0) else (some 1))))))
def f_M_triple   (v0 : Int32) (v1 : Int32) (v2 : Int32) : Option (Int32) := some (((128 * v0) + (16 * v1)) + v2)
def f_M_isNumber  (mdL : Int32) (v1 : Int32) : Option (Int32) := if v1 < 0 then (some 0) else (if mdL < v1 then (some 0) else (some 1))
def f_M_isQuestion  (mdQ : Int32) (v1 : Int32) : Option (Int32) := if v1 < 0 then (some 0) else (if mdQ ≤ v1 then (some 0) else (some 1))
def f_M_last_5 (N : Nat)  (mdS : Int32) (mWhf : Nat → Int32) (mTrf : Nat → Int32)  (v1 : Int32) (v2 : Int32) : Nat → Int32 → Int32 → Option (Int32)
  | 0, _, _ => none
  | n_5 + 1, v3, v4 => if mdS ≤ v4 then (some v3) else (if fn_in v4 400 = true then (if (mTrf (Int32.toNatClampNeg v4)) = v2 then (if fn_in v4 400 = true then (if v1 < (mWhf (Int32.toNatClampNeg v4)) then ((f_M_last_5 N mdS mWhf mTrf v1 v2 n_5) v3 (v4 + 1)) else (if v3 < 0 then ((f_M_last_5 N mdS mWhf mTrf v1 v2 n_5) v4 (v4 + 1)) else (if fn_in v4 400 = true then (if fn_in v3 400 = true then (if (mWhf (Int32.toNatClampNeg v4)) < (mWhf (Int32.toNatClampNeg v3)) then ((f_M_last_5 N mdS mWhf mTrf v1 v2 n_5) v3 (v4 + 1)) else ((f_M_last_5 N mdS mWhf mTrf v1 v2 n_5) v4 (v4 + 1))) else none) else none))) else none) else ((f_M_last_5 N mdS mWhf mTrf v1 v2 n_5) v3 (v4 + 1))) else none)
def f_M_last (N : Nat)  (mdS : Int32) (mWhf : Nat → Int32) (mTrf : Nat → Int32) (v1 : Int32) (v2 : Int32) : Option (Int32) := f_M_last_5 N mdS mWhf mTrf v1 v2 N (-1) 0
def f_M_isThere (N : Nat)  (mdS : Int32) (mWhf : Nat → Int32) (mTrf : Nat → Int32) (mCof : Nat → Int32) (v1 : Int32) (v2 : Int32) : Option (Int32) := fn_b1 (f_M_last N mdS mWhf mTrf v1 v2) (fun r_3 => if r_3 < 0 then (some 0) else (if fn_in r_3 400 = true then (if (mCof (Int32.toNatClampNeg r_3)) = 0 then (some 0) else (some 1)) else none))
def f_M_say  (mdS : Int32) (mWhf : Nat → Int32) (mTrf : Nat → Int32) (mCof : Nat → Int32) (v1 : Int32) (v2 : Int32) (v3 : Int32) : Option (Int32 × (Nat → Int32) × (Nat → Int32) × (Nat → Int32)) := if fn_in mdS 400 = true then (if fn_in mdS 400 = true then (if fn_in mdS 400 = true then (some ((mdS + 1), (upd mWhf (Int32.toNatClampNeg mdS) v1), (upd mTrf (Int32.toNatClampNeg mdS) v2), (upd mCof (Int32.toNatClampNeg mdS) (vp_nar .boolean v3)))) else none) else none) else none
def f_M_forget_2 (N : Nat)    (v1 : Int32) : Nat → (Nat → Int32) → Int32 → Option ((Nat → Int32))
  | 0, _, _ => none
  | n_2 + 1, mKnf, v3 => if 62 ≤ v3 then (some mKnf) else (if fn_in ((62 * v1) + v3) 744 = true then ((f_M_forget_2 N v1 n_2) (upd mKnf (Int32.toNatClampNeg ((62 * v1) + v3)) (vp_nar .boolean 0)) (v3 + 1)) else none)
def f_M_forget (N : Nat)  (mKnf : Nat → Int32) (v1 : Int32) (v2 : Int32) : Option ((Nat → Int32)) := f_M_forget_2 N v1 N mKnf v2
def f_M_change_59 (N : Nat)  (mdL : Int32) (mdQ : Int32)  (v4 : Int32) (v5 : Int32) : Nat → Int32 → (Nat → Int32) → (Nat → Int32) → (Nat → Int32) → (Nat → Int32) → Int32 → Option (Int32 × Int32 × (Nat → Int32) × (Nat → Int32) × (Nat → Int32) × (Nat → Int32))
  | 0, _, _, _, _, _, _ => none
  | n_59 + 1, mdS, mWhf, mTrf, mCof, mKnf, v6 => if mdQ ≤ v6 then (if v5 = v4 then (some (0, mdS, mWhf, mTrf, mCof, mKnf)) else (some (1, mdS, mWhf, mTrf, mCof, mKnf))) else (fn_b1 (f_M_forget N mKnf v6 mdL) (fun mKnf_75 => (f_M_change_59 N mdL mdQ v4 v5 n_59) mdS mWhf mTrf mCof mKnf_75 (v6 + 1)))
def f_M_change (N : Nat)  (mdL : Int32) (mdS : Int32) (mdQ : Int32) (mWhf : Nat → Int32) (mTrf : Nat → Int32) (mCof : Nat → Int32) (mKnf : Nat → Int32) (v1 : Int32) (v2 : Int32) (v3 : Int32) (v4 : Int32) : Option (Int32 × Int32 × (Nat → Int32) × (Nat → Int32) × (Nat → Int32) × (Nat → Int32)) := fn_b1 (f_M_isTriple v1 v2 v3) (fun r_3 => if r_3 = 0 then (some ((-1), mdS, mWhf, mTrf, mCof, mKnf)) else (if mdS = 400 then (some ((-3), mdS, mWhf, mTrf, mCof, mKnf)) else (fn_b1 (f_M_triple v1 v2 v3) (fun r_32 => fn_b1 (f_M_isThere N mdS mWhf mTrf mCof mdL r_32) (fun r_35 => fn_b1 (f_M_triple v1 v2 v3) (fun r_48 => fn_b4 (f_M_say mdS mWhf mTrf mCof mdL r_48 v4) (fun mdS_53 mWhf_53 mTrf_53 mCof_53 => f_M_change_59 N mdL mdQ v4 r_35 N mdS_53 mWhf_53 mTrf_53 mCof_53 mKnf 0)))))))
def f_M_step  (mdN : Int32) (mdL : Int32)  : Option (Int32 × Int32) := if (mdL + 1) = mdN then (some ((-3), mdL)) else (some ((mdL + 1), (mdL + 1)))
def f_M_latest  (mdL : Int32)  : Option (Int32) := some mdL
def f_M_there (N : Nat)  (mdL : Int32) (mdS : Int32) (mWhf : Nat → Int32) (mTrf : Nat → Int32) (mCof : Nat → Int32) (v1 : Int32) (v2 : Int32) (v3 : Int32) (v4 : Int32) : Option (Int32) := fn_b1 (f_M_isNumber mdL v1) (fun r_2 => if r_2 = 0 then (some (-1)) else (fn_b1 (f_M_isTriple v2 v3 v4) (fun r_12 => if r_12 = 0 then (some (-1)) else (fn_b1 (f_M_triple v2 v3 v4) (fun r_28 => fn_b1 (f_M_isThere N mdS mWhf mTrf mCof v1 r_28) (fun r_31 => if r_31 = 0 then (some 0) else (some 1)))))))
def f_M_age (N : Nat)  (mdL : Int32) (mdS : Int32) (mWhf : Nat → Int32) (mTrf : Nat → Int32) (mCof : Nat → Int32) (v1 : Int32) (v2 : Int32) (v3 : Int32) (v4 : Int32) : Option (Int32) := fn_b1 (f_M_isNumber mdL v1) (fun r_2 => if r_2 = 0 then (some (-1)) else (fn_b1 (f_M_isTriple v2 v3 v4) (fun r_12 => if r_12 = 0 then (some (-1)) else (fn_b1 (f_M_triple v2 v3 v4) (fun r_26 => fn_b1 (f_M_isThere N mdS mWhf mTrf mCof v1 r_26) (fun r_29 => if r_29 = 0 then (some (-2)) else (fn_b1 (f_M_triple v2 v3 v4) (fun r_46 => fn_b1 (f_M_last N mdS mWhf mTrf v1 r_46) (fun r_49 => if fn_in r_49 400 = true then (some (v1 - (mWhf (Int32.toNatClampNeg r_49)))) else none)))))))))
def f_M_question (N : Nat)  (mdQ : Int32) (mWif : Nat → Int32) (mPcf : Nat → Int32) (mKnf : Nat → Int32) (v1 : Int32) : Option (Int32 × Int32 × (Nat → Int32) × (Nat → Int32) × (Nat → Int32)) := if v1 < 0 then (some ((-1), mdQ, mWif, mPcf, mKnf)) else (if v1 ≤ 62 then (if mdQ = 12 then (some ((-3), mdQ, mWif, mPcf, mKnf)) else (if fn_in mdQ 12 = true then (if fn_in mdQ 12 = true then (fn_b1 (f_M_forget N mKnf mdQ 0) (fun mKnf_50 => some (((mdQ + 1) - 1), (mdQ + 1), (upd mWif (Int32.toNatClampNeg mdQ) v1), (upd mPcf (Int32.toNatClampNeg mdQ) 0), mKnf_50))) else none) else none)) else (some ((-1), mdQ, mWif, mPcf, mKnf)))
def f_M_isItem   (v0 : Int32) (v1 : Int32) : Option (Int32) := if v0 < (-4) then (some 0) else (if v1 ≤ v0 then (some 0) else (some 1))
def f_M_pattern (N : Nat)  (mdQ : Int32) (mPcf : Nat → Int32) (mItf : Nat → Int32) (mKnf : Nat → Int32) (v1 : Int32) (v2 : Int32) (v3 : Int32) (v4 : Int32) : Option (Int32 × (Nat → Int32) × (Nat → Int32) × (Nat → Int32)) := fn_b1 (f_M_isQuestion mdQ v1) (fun r_2 => if r_2 = 0 then (some ((-1), mPcf, mItf, mKnf)) else (fn_b1 (f_M_isItem v2 16) (fun r_11 => if r_11 = 0 then (some ((-1), mPcf, mItf, mKnf)) else (fn_b1 (f_M_isItem v3 8) (fun r_20 => if r_20 = 0 then (some ((-1), mPcf, mItf, mKnf)) else (fn_b1 (f_M_isItem v4 16) (fun r_30 => if r_30 = 0 then (some ((-1), mPcf, mItf, mKnf)) else (if fn_in v1 12 = true then (if (mPcf (Int32.toNatClampNeg v1)) = 3 then (some ((-3), mPcf, mItf, mKnf)) else (if fn_in v1 12 = true then (if fn_in ((9 * v1) + (3 * (mPcf (Int32.toNatClampNeg v1)))) 108 = true then (if fn_in (((9 * v1) + (3 * (mPcf (Int32.toNatClampNeg v1)))) + 1) 108 = true then (if fn_in (((9 * v1) + (3 * (mPcf (Int32.toNatClampNeg v1)))) + 2) 108 = true then (if fn_in v1 12 = true then (if fn_in v1 12 = true then (fn_b1 (f_M_forget N mKnf v1 0) (fun mKnf_108 => if fn_in v1 12 = true then (some (((upd mPcf (Int32.toNatClampNeg v1) ((mPcf (Int32.toNatClampNeg v1)) + 1)) (Int32.toNatClampNeg v1)), (upd mPcf (Int32.toNatClampNeg v1) ((mPcf (Int32.toNatClampNeg v1)) + 1)), (upd (upd (upd mItf (Int32.toNatClampNeg ((9 * v1) + (3 * (mPcf (Int32.toNatClampNeg v1))))) v2) (Int32.toNatClampNeg (((9 * v1) + (3 * (mPcf (Int32.toNatClampNeg v1)))) + 1)) v3) (Int32.toNatClampNeg (((9 * v1) + (3 * (mPcf (Int32.toNatClampNeg v1)))) + 2)) v4), mKnf_108)) else none)) else none) else none) else none) else none) else none) else none)) else none))))))))
def f_M_window (N : Nat)  (mdQ : Int32) (mWif : Nat → Int32) (mKnf : Nat → Int32) (v1 : Int32) (v2 : Int32) : Option (Int32 × (Nat → Int32) × (Nat → Int32)) := fn_b1 (f_M_isQuestion mdQ v1) (fun r_2 => if r_2 = 0 then (some ((-1), mWif, mKnf)) else (if v2 < 0 then (some ((-1), mWif, mKnf)) else (if v2 ≤ 62 then (if fn_in v1 12 = true then (if fn_in v1 12 = true then (fn_b1 (f_M_forget N mKnf v1 0) (fun mKnf_37 => some ((mWif (Int32.toNatClampNeg v1)), (upd mWif (Int32.toNatClampNeg v1) v2), mKnf_37))) else none) else none) else (some ((-1), mWif, mKnf)))))
def f_M_see_97 (N : Nat)  (mdS : Int32) (mWhf : Nat → Int32) (mTrf : Nat → Int32) (mCof : Nat → Int32)  (v1 : Int32) (v2 : Int32) : Nat → (Nat → Int32) → (Nat → Int32) → Int32 → Option ((Nat → Int32) × (Nat → Int32))
  | 0, _, _, _ => none
  | n_97 + 1, mSef, mLaf, v3 => if 2048 ≤ v3 then (some (mSef, mLaf)) else (if fn_in v3 2048 = true then (if (mLaf (Int32.toNatClampNeg v3)) < 0 then (if fn_in v3 2048 = true then ((f_M_see_97 N mdS mWhf mTrf mCof v1 v2 n_97) (upd mSef (Int32.toNatClampNeg v3) (vp_nar .boolean 0)) mLaf (v3 + 1)) else none) else (if fn_in (mLaf (Int32.toNatClampNeg v3)) 400 = true then (if (mCof (Int32.toNatClampNeg (mLaf (Int32.toNatClampNeg v3)))) = 0 then (if fn_in v3 2048 = true then ((f_M_see_97 N mdS mWhf mTrf mCof v1 v2 n_97) (upd mSef (Int32.toNatClampNeg v3) (vp_nar .boolean 0)) mLaf (v3 + 1)) else none) else (if v2 = 0 then (if fn_in v3 2048 = true then ((f_M_see_97 N mdS mWhf mTrf mCof v1 v2 n_97) (upd mSef (Int32.toNatClampNeg v3) (vp_nar .boolean 1)) mLaf (v3 + 1)) else none) else (if fn_in (mLaf (Int32.toNatClampNeg v3)) 400 = true then (if v2 ≤ (v1 - (mWhf (Int32.toNatClampNeg (mLaf (Int32.toNatClampNeg v3))))) then (if fn_in v3 2048 = true then ((f_M_see_97 N mdS mWhf mTrf mCof v1 v2 n_97) (upd mSef (Int32.toNatClampNeg v3) (vp_nar .boolean 0)) mLaf (v3 + 1)) else none) else (if fn_in v3 2048 = true then ((f_M_see_97 N mdS mWhf mTrf mCof v1 v2 n_97) (upd mSef (Int32.toNatClampNeg v3) (vp_nar .boolean 1)) mLaf (v3 + 1)) else none)) else none))) else none)) else none)
def f_M_see_24 (N : Nat)  (mdS : Int32) (mWhf : Nat → Int32) (mTrf : Nat → Int32) (mCof : Nat → Int32)  (v1 : Int32) (v2 : Int32) : Nat → (Nat → Int32) → (Nat → Int32) → Int32 → Option ((Nat → Int32) × (Nat → Int32))
  | 0, _, _, _ => none
  | n_24 + 1, mSef, mLaf, v3 => if mdS ≤ v3 then (f_M_see_97 N mdS mWhf mTrf mCof v1 v2 N mSef mLaf 0) else (if fn_in v3 400 = true then (if fn_in v3 400 = true then (if v1 < (mWhf (Int32.toNatClampNeg v3)) then ((f_M_see_24 N mdS mWhf mTrf mCof v1 v2 n_24) mSef mLaf (v3 + 1)) else (if fn_in (mTrf (Int32.toNatClampNeg v3)) 2048 = true then (if (mLaf (Int32.toNatClampNeg (mTrf (Int32.toNatClampNeg v3)))) < 0 then (if fn_in (mTrf (Int32.toNatClampNeg v3)) 2048 = true then ((f_M_see_24 N mdS mWhf mTrf mCof v1 v2 n_24) mSef (upd mLaf (Int32.toNatClampNeg (mTrf (Int32.toNatClampNeg v3))) v3) (v3 + 1)) else none) else (if fn_in v3 400 = true then (if fn_in (mTrf (Int32.toNatClampNeg v3)) 2048 = true then (if fn_in (mLaf (Int32.toNatClampNeg (mTrf (Int32.toNatClampNeg v3)))) 400 = true then (if (mWhf (Int32.toNatClampNeg v3)) < (mWhf (Int32.toNatClampNeg (mLaf (Int32.toNatClampNeg (mTrf (Int32.toNatClampNeg v3)))))) then ((f_M_see_24 N mdS mWhf mTrf mCof v1 v2 n_24) mSef mLaf (v3 + 1)) else (if fn_in (mTrf (Int32.toNatClampNeg v3)) 2048 = true then ((f_M_see_24 N mdS mWhf mTrf mCof v1 v2 n_24) mSef (upd mLaf (Int32.toNatClampNeg (mTrf (Int32.toNatClampNeg v3))) v3) (v3 + 1)) else none)) else none) else none) else none)) else none)) else none) else none)
def f_M_see_2 (N : Nat)  (mdS : Int32) (mWhf : Nat → Int32) (mTrf : Nat → Int32) (mCof : Nat → Int32)  (v1 : Int32) (v2 : Int32) : Nat → (Nat → Int32) → (Nat → Int32) → Int32 → Option ((Nat → Int32) × (Nat → Int32))
  | 0, _, _, _ => none
  | n_2 + 1, mSef, mLaf, v3 => if 2048 ≤ v3 then (f_M_see_24 N mdS mWhf mTrf mCof v1 v2 N mSef mLaf 0) else (if fn_in v3 2048 = true then ((f_M_see_2 N mdS mWhf mTrf mCof v1 v2 n_2) mSef (upd mLaf (Int32.toNatClampNeg v3) (-1)) (v3 + 1)) else none)
def f_M_see (N : Nat)  (mdS : Int32) (mWhf : Nat → Int32) (mTrf : Nat → Int32) (mCof : Nat → Int32) (mSef : Nat → Int32) (mLaf : Nat → Int32) (v1 : Int32) (v2 : Int32) : Option ((Nat → Int32) × (Nat → Int32)) := f_M_see_2 N mdS mWhf mTrf mCof v1 v2 N mSef mLaf 0
def f_M_valueOf  (mVaf : Nat → Int32) (v1 : Int32) : Option (Int32) := if v1 < 0 then (if fn_in (-v1) 5 = true then (some (mVaf (Int32.toNatClampNeg (-v1)))) else none) else (some v1)
def f_M_isRow_2 (N : Nat)  (mPcf : Nat → Int32) (mItf : Nat → Int32) (mSef : Nat → Int32) (mVaf : Nat → Int32)  (v1 : Int32) : Nat → Int32 → Option (Int32)
  | 0, _ => none
  | n_2 + 1, v2 => if fn_in v1 12 = true then (if (mPcf (Int32.toNatClampNeg v1)) ≤ v2 then (some 1) else (if fn_in (((9 * v1) + (3 * v2)) + 1) 108 = true then (fn_b1 (f_M_valueOf mVaf (mItf (Int32.toNatClampNeg (((9 * v1) + (3 * v2)) + 1)))) (fun r_30 => if 7 < r_30 then (some 0) else (if fn_in ((9 * v1) + (3 * v2)) 108 = true then (fn_b1 (f_M_valueOf mVaf (mItf (Int32.toNatClampNeg ((9 * v1) + (3 * v2))))) (fun r_53 => if fn_in (((9 * v1) + (3 * v2)) + 2) 108 = true then (fn_b1 (f_M_valueOf mVaf (mItf (Int32.toNatClampNeg (((9 * v1) + (3 * v2)) + 2)))) (fun r_67 => fn_b1 (f_M_triple r_53 r_30 r_67) (fun r_70 => if fn_in r_70 2048 = true then (if (mSef (Int32.toNatClampNeg r_70)) = 0 then (some 0) else ((f_M_isRow_2 N mPcf mItf mSef mVaf v1 n_2) (v2 + 1))) else none))) else none)) else none))) else none)) else none
def f_M_isRow (N : Nat)  (mPcf : Nat → Int32) (mItf : Nat → Int32) (mSef : Nat → Int32) (mVaf : Nat → Int32) (v1 : Int32) : Option (Int32) := f_M_isRow_2 N mPcf mItf mSef mVaf v1 N 0
def f_M_stands_5 (N : Nat)  (mPcf : Nat → Int32) (mItf : Nat → Int32)  (v1 : Int32) (v2 : Int32) : Nat → Int32 → Int32 → Option (Int32)
  | 0, _, _ => none
  | n_5 + 1, v3, v4 => if fn_in v1 12 = true then (if (3 * (mPcf (Int32.toNatClampNeg v1))) ≤ v4 then (if fn_z v3 = true then (some v3) else none) else (if v3 = 0 then (if fn_in ((9 * v1) + v4) 108 = true then (if (mItf (Int32.toNatClampNeg ((9 * v1) + v4))) = (-v2) then ((f_M_stands_5 N mPcf mItf v1 v2 n_5) 1 (v4 + 1)) else ((f_M_stands_5 N mPcf mItf v1 v2 n_5) 0 (v4 + 1))) else none) else ((f_M_stands_5 N mPcf mItf v1 v2 n_5) 1 (v4 + 1)))) else none
def f_M_stands (N : Nat)  (mPcf : Nat → Int32) (mItf : Nat → Int32) (v1 : Int32) (v2 : Int32) : Option (Int32) := f_M_stands_5 N mPcf mItf v1 v2 N 0 0
def f_M_askLast_25 (N : Nat)  (mPcf : Nat → Int32) (mItf : Nat → Int32) (mSef : Nat → Int32)  (v1 : Int32) (v2 : Int32) (v3 : Int32) (v4 : Int32) (v5 : Int32) : Nat → (Nat → Int64) → (Nat → Int32) → Int32 → Option ((Nat → Int64) × (Nat → Int32))
  | 0, _, _, _ => none
  | n_25 + 1, mNef, mVaf, v6 => if v5 < v6 then (some (mNef, mVaf)) else (if fn_in 4 5 = true then (fn_b1 (f_M_isRow N mPcf mItf mSef (upd mVaf (Int32.toNatClampNeg 4) v6) v1) (fun r_64 => if r_64 = 0 then ((f_M_askLast_25 N mPcf mItf mSef v1 v2 v3 v4 v5 n_25) mNef (upd mVaf (Int32.toNatClampNeg 4) v6) (v6 + 1)) else (if fn_in (((((4096 * v2) + (256 * v3)) + (16 * v4)) + v6) / 64) 1024 = true then (if fn_in (((((4096 * v2) + (256 * v3)) + (16 * v4)) + v6) / 64) 1024 = true then ((f_M_askLast_25 N mPcf mItf mSef v1 v2 v3 v4 v5 n_25) (vp_updL mNef (Int32.toNatClampNeg (((((4096 * v2) + (256 * v3)) + (16 * v4)) + v6) / 64)) ((mNef (Int32.toNatClampNeg (((((4096 * v2) + (256 * v3)) + (16 * v4)) + v6) / 64))) ||| ((1 : Int64) <<< (Int32.toInt64 (((((4096 * v2) + (256 * v3)) + (16 * v4)) + v6) - ((((4096 * v2) + (256 * v3)) + (16 * v4)) + v6) / 64 * 64) &&& 63)))) (upd mVaf (Int32.toNatClampNeg 4) v6) (v6 + 1)) else none) else none))) else none)
def f_M_askLast (N : Nat)  (mPcf : Nat → Int32) (mItf : Nat → Int32) (mNef : Nat → Int64) (mSef : Nat → Int32) (mVaf : Nat → Int32) (v1 : Int32) (v2 : Int32) (v3 : Int32) (v4 : Int32) (v5 : Int32) : Option ((Nat → Int64) × (Nat → Int32)) := if fn_in 1 5 = true then (if fn_in 2 5 = true then (if fn_in 3 5 = true then (f_M_askLast_25 N mPcf mItf mSef v1 v2 v3 v4 v5 N mNef (upd (upd (upd mVaf (Int32.toNatClampNeg 1) v2) (Int32.toNatClampNeg 2) v3) (Int32.toNatClampNeg 3) v4) 0) else none) else none) else none
def f_M_at   (v1 : Int32) (v2 : Int32) : Option (Int32) := some ((62 * v1) + v2)
def f_Jm_max   (v0 : Int32) (v1 : Int32) : Option (Int32) := if v0 < v1 then (some v1) else (some v0)
def f_Jm_floorMod   (v0 : Int32) (v1 : Int32) : Option (Int32) := if ¬ v1 = 0 then (if 0 ≤ (v0 ^^^ v1) then (some (v0 - v0 / v1 * v1)) else (if (v0 - v0 / v1 * v1) = 0 then (some (v0 - v0 / v1 * v1)) else (some ((v0 - v0 / v1 * v1) + v1)))) else none
def f_Jm_min   (v0 : Int32) (v1 : Int32) : Option (Int32) := if v1 < v0 then (some v1) else (some v0)
def f_Ja_fill_5 (N : Nat)  (arM : Nat)  (v1 : Int32) (v3 : Int32) : Nat → (Nat → Int32) → Int32 → Option ((Nat → Int32))
  | 0, _, _ => none
  | n_5 + 1, arf, v2 => if v3 ≤ v2 then (some arf) else (if fn_in v2 arM = true then ((f_Ja_fill_5 N arM v1 v3 n_5) (upd arf (Int32.toNatClampNeg v2) v1) (v2 + 1)) else none)
def f_Ja_fill (N : Nat)  (arM : Nat) (arf : Nat → Int32) (v1 : Int32) : Option ((Nat → Int32)) := f_Ja_fill_5 N arM v1 (Int32.ofNat arM) N arf 0
def f_Ji_bitCount   (v0 : Int32) : Option (Int32) := some ((((((((v0 - ((Int32.toUInt32 v0 >>> (Int32.toUInt32 1 &&& Int32.toUInt32 31)).toInt32 &&& 1431655765)) &&& 858993459) + ((Int32.toUInt32 (v0 - ((Int32.toUInt32 v0 >>> (Int32.toUInt32 1 &&& Int32.toUInt32 31)).toInt32 &&& 1431655765)) >>> (Int32.toUInt32 2 &&& Int32.toUInt32 31)).toInt32 &&& 858993459)) + (Int32.toUInt32 (((v0 - ((Int32.toUInt32 v0 >>> (Int32.toUInt32 1 &&& Int32.toUInt32 31)).toInt32 &&& 1431655765)) &&& 858993459) + ((Int32.toUInt32 (v0 - ((Int32.toUInt32 v0 >>> (Int32.toUInt32 1 &&& Int32.toUInt32 31)).toInt32 &&& 1431655765)) >>> (Int32.toUInt32 2 &&& Int32.toUInt32 31)).toInt32 &&& 858993459)) >>> (Int32.toUInt32 4 &&& Int32.toUInt32 31)).toInt32) &&& 252645135) + (Int32.toUInt32 (((((v0 - ((Int32.toUInt32 v0 >>> (Int32.toUInt32 1 &&& Int32.toUInt32 31)).toInt32 &&& 1431655765)) &&& 858993459) + ((Int32.toUInt32 (v0 - ((Int32.toUInt32 v0 >>> (Int32.toUInt32 1 &&& Int32.toUInt32 31)).toInt32 &&& 1431655765)) >>> (Int32.toUInt32 2 &&& Int32.toUInt32 31)).toInt32 &&& 858993459)) + (Int32.toUInt32 (((v0 - ((Int32.toUInt32 v0 >>> (Int32.toUInt32 1 &&& Int32.toUInt32 31)).toInt32 &&& 1431655765)) &&& 858993459) + ((Int32.toUInt32 (v0 - ((Int32.toUInt32 v0 >>> (Int32.toUInt32 1 &&& Int32.toUInt32 31)).toInt32 &&& 1431655765)) >>> (Int32.toUInt32 2 &&& Int32.toUInt32 31)).toInt32 &&& 858993459)) >>> (Int32.toUInt32 4 &&& Int32.toUInt32 31)).toInt32) &&& 252645135) >>> (Int32.toUInt32 8 &&& Int32.toUInt32 31)).toInt32) + (Int32.toUInt32 ((((((v0 - ((Int32.toUInt32 v0 >>> (Int32.toUInt32 1 &&& Int32.toUInt32 31)).toInt32 &&& 1431655765)) &&& 858993459) + ((Int32.toUInt32 (v0 - ((Int32.toUInt32 v0 >>> (Int32.toUInt32 1 &&& Int32.toUInt32 31)).toInt32 &&& 1431655765)) >>> (Int32.toUInt32 2 &&& Int32.toUInt32 31)).toInt32 &&& 858993459)) + (Int32.toUInt32 (((v0 - ((Int32.toUInt32 v0 >>> (Int32.toUInt32 1 &&& Int32.toUInt32 31)).toInt32 &&& 1431655765)) &&& 858993459) + ((Int32.toUInt32 (v0 - ((Int32.toUInt32 v0 >>> (Int32.toUInt32 1 &&& Int32.toUInt32 31)).toInt32 &&& 1431655765)) >>> (Int32.toUInt32 2 &&& Int32.toUInt32 31)).toInt32 &&& 858993459)) >>> (Int32.toUInt32 4 &&& Int32.toUInt32 31)).toInt32) &&& 252645135) + (Int32.toUInt32 (((((v0 - ((Int32.toUInt32 v0 >>> (Int32.toUInt32 1 &&& Int32.toUInt32 31)).toInt32 &&& 1431655765)) &&& 858993459) + ((Int32.toUInt32 (v0 - ((Int32.toUInt32 v0 >>> (Int32.toUInt32 1 &&& Int32.toUInt32 31)).toInt32 &&& 1431655765)) >>> (Int32.toUInt32 2 &&& Int32.toUInt32 31)).toInt32 &&& 858993459)) + (Int32.toUInt32 (((v0 - ((Int32.toUInt32 v0 >>> (Int32.toUInt32 1 &&& Int32.toUInt32 31)).toInt32 &&& 1431655765)) &&& 858993459) + ((Int32.toUInt32 (v0 - ((Int32.toUInt32 v0 >>> (Int32.toUInt32 1 &&& Int32.toUInt32 31)).toInt32 &&& 1431655765)) >>> (Int32.toUInt32 2 &&& Int32.toUInt32 31)).toInt32 &&& 858993459)) >>> (Int32.toUInt32 4 &&& Int32.toUInt32 31)).toInt32) &&& 252645135) >>> (Int32.toUInt32 8 &&& Int32.toUInt32 31)).toInt32) >>> (Int32.toUInt32 16 &&& Int32.toUInt32 31)).toInt32) &&& 63)
def f_Lg_heldUntil_14 (N : Nat)  (lgS : Int32) (lgAf : Nat → Int32) (lgTf : Nat → Int32)  (v1 : Int32) : Nat → Int32 → Option (Int32)
  | 0, _ => none
  | n_14 + 1, v2 => if lgS ≤ v2 then (some 62) else (if fn_in v2 400 = true then (if fn_in v1 400 = true then (if (lgTf (Int32.toNatClampNeg v2)) = (lgTf (Int32.toNatClampNeg v1)) then (if fn_in v2 400 = true then (some (lgAf (Int32.toNatClampNeg v2))) else none) else ((f_Lg_heldUntil_14 N lgS lgAf lgTf v1 n_14) (v2 + 1))) else none) else none)
def f_Lg_heldUntil (N : Nat)  (lgS : Int32) (lgAf : Nat → Int32) (lgTf : Nat → Int32) (v1 : Int32) : Option (Int32) := fn_b1 (f_Lg_isPlace lgS v1) (fun r_2 => if r_2 = 0 then (some 0) else (f_Lg_heldUntil_14 N lgS lgAf lgTf v1 N (v1 + 1)))
def f_Lg_comesAt  (lgS : Int32) (lgCf : Nat → Int32) (v1 : Int32) : Option (Int32) := fn_b1 (f_Lg_isPlace lgS v1) (fun r_2 => if r_2 = 0 then (some 0) else (if fn_in v1 400 = true then (if (lgCf (Int32.toNatClampNeg v1)) = 0 then (some 0) else (some 1)) else none))
def f_Lg_numberAt  (lgS : Int32) (lgAf : Nat → Int32) (v1 : Int32) : Option (Int32) := fn_b1 (f_Lg_isPlace lgS v1) (fun r_2 => if r_2 = 0 then (some 0) else (if fn_in v1 400 = true then (some (lgAf (Int32.toNatClampNeg v1))) else none))
def f_Lg_shows  (lgS : Int32) (lgAf : Nat → Int32) (lgCf : Nat → Int32) (v1 : Int32) (v2 : Int32) (v3 : Int32) : Option (Int32) := fn_b1 (f_Lg_isPlace lgS v1) (fun r_2 => if r_2 = 0 then (some 0) else (if fn_in v1 400 = true then (if (lgCf (Int32.toNatClampNeg v1)) = 0 then (some 0) else (if v3 = 0 then (some 1) else (if fn_in v1 400 = true then (if v3 ≤ (v2 - (lgAf (Int32.toNatClampNeg v1))) then (some 0) else (some 1)) else none))) else none))
def f_Qu_add  (qP : Int32) (qV : Int32) (qIf : Nat → Int32) (qLf : Nat → Int32) (v1 : Int32) (v2 : Int32) (v3 : Int32) : Option (Int32 × Int32 × Int32 × (Nat → Int32) × (Nat → Int32)) := if qP < 3 then (if fn_in (qP * 3) 9 = true then (if fn_in ((qP * 3) + 1) 9 = true then (if fn_in ((qP * 3) + 2) 9 = true then (fn_b1 (f_Jm_min v2 v3) (fun r_62 => fn_b1 (f_Jm_min v1 r_62) (fun r_65 => if fn_in qP 3 = true then (fn_b1 (f_Qu_use qV v1) (fun qV_82 => fn_b1 (f_Qu_use qV_82 v2) (fun qV_87 => fn_b1 (f_Qu_use qV_87 v3) (fun qV_92 => some (1, (qP + 1), qV_92, (upd (upd (upd qIf (Int32.toNatClampNeg (qP * 3)) v1) (Int32.toNatClampNeg ((qP * 3) + 1)) v2) (Int32.toNatClampNeg ((qP * 3) + 2)) v3), (upd qLf (Int32.toNatClampNeg qP) ((-1) - r_65))))))) else none))) else none) else none) else none) else (some (0, qP, qV, qIf, qLf))
def f_Rs_count_4 (N : Nat)  (xS : Int32) (xM : Nat) (xWf : Nat → Int32)   : Nat → Int32 → Int32 → Option (Int32)
  | 0, _, _ => none
  | n_4 + 1, v1, v2 => if xS ≤ v2 then (some v1) else (if fn_in v2 xM = true then (fn_b1 (f_Ji_bitCount ((xWf (Int32.toNatClampNeg v2)) &&& 65535)) (fun r_22 => (f_Rs_count_4 N xS xM xWf n_4) (v1 + r_22) (v2 + 1))) else none)
def f_Rs_count (N : Nat)  (xS : Int32) (xM : Nat) (xWf : Nat → Int32)  : Option (Int32) := f_Rs_count_4 N xS xM xWf N 0 0
def f_Rs_keyAt_36 (N : Nat)  (xS : Int32) (xM : Nat) (xWf : Nat → Int32)   (v2 : Int32) (v3 : Int32) : Option (Int32) := if fn_in v3 xM = true then (if fn_in v3 xM = true then (fn_b1 (f_Rs_bitAt N (xWf (Int32.toNatClampNeg v3)) v2) (fun r_55 => some ((((xWf (Int32.toNatClampNeg v3)) >>> (16 &&& 31)) * 16) + r_55))) else none) else none
def f_Rs_keyAt_4 (N : Nat)  (xS : Int32) (xM : Nat) (xWf : Nat → Int32)   : Nat → Int32 → Int32 → Option (Int32)
  | 0, _, _ => none
  | n_4 + 1, v2, v3 => if xS ≤ v3 then (some (-2)) else (if v2 < 0 then (some (-2)) else (if fn_in v3 xM = true then (fn_b1 (f_Ji_bitCount ((xWf (Int32.toNatClampNeg v3)) &&& 65535)) (fun r_25 => if r_25 ≤ v2 then ((f_Rs_keyAt_4 N xS xM xWf n_4) (v2 - r_25) (v3 + 1)) else (f_Rs_keyAt_36 N xS xM xWf v2 v3))) else none))
def f_Rs_keyAt (N : Nat)  (xS : Int32) (xM : Nat) (xWf : Nat → Int32) (v1 : Int32) : Option (Int32) := f_Rs_keyAt_4 N xS xM xWf N v1 0
def f_Rs_sumOf_50 (N : Nat)  (xS : Int32) (xM : Nat) (xWf : Nat → Int32) (r4 : Int32 → Int32 → Option (Int32)) (v1 : Int32) (v3 : Int32) (v4 : Int32) (v5 : Int32) : Nat → Int32 → Int32 → Option (Int32)
  | 0, _, _ => none
  | n_50 + 1, v2, v6 => if 16 ≤ v6 then ((r4) v2 (v3 + 1)) else (if (v4 >>> (v6 &&& 31)) = 0 then ((r4) v2 (v3 + 1)) else ((f_Rs_sumOf_50 N xS xM xWf r4 v1 v3 v4 v5 n_50) (v2 + ((((v4 >>> (v6 &&& 31)) &&& 1) * v6) * v5)) (v6 + 1)))
def f_Rs_sumOf_4 (N : Nat)  (xS : Int32) (xM : Nat) (xWf : Nat → Int32)  (v1 : Int32) : Nat → Int32 → Int32 → Option (Int32)
  | 0, _, _ => none
  | n_4 + 1, v2, v3 => if xS ≤ v3 then (some v2) else (if fn_in v3 xM = true then (fn_b1 (f_Rs_valuesOf (xWf (Int32.toNatClampNeg v3)) v1) (fun r_19 => if 4 ≤ v1 then (f_Rs_sumOf_50 N xS xM xWf (f_Rs_sumOf_4 N xS xM xWf v1 n_4) v1 v3 r_19 1 N v2 0) else (if fn_in v3 xM = true then (fn_b1 (f_Ji_bitCount ((xWf (Int32.toNatClampNeg v3)) &&& 65535)) (fun r_38 => f_Rs_sumOf_50 N xS xM xWf (f_Rs_sumOf_4 N xS xM xWf v1 n_4) v1 v3 r_19 r_38 N v2 0)) else none))) else none)
def f_Rs_sumOf (N : Nat)  (xS : Int32) (xM : Nat) (xWf : Nat → Int32) (v1 : Int32) : Option (Int32) := f_Rs_sumOf_4 N xS xM xWf v1 N 0 0
def f_Rs_allValuesOf_4 (N : Nat)  (xS : Int32) (xM : Nat) (xWf : Nat → Int32)  (v1 : Int32) : Nat → Int32 → Int32 → Option (Int32)
  | 0, _, _ => none
  | n_4 + 1, v2, v3 => if xS ≤ v3 then (some v2) else (if fn_in v3 xM = true then (fn_b1 (f_Rs_valuesOf (xWf (Int32.toNatClampNeg v3)) v1) (fun r_20 => (f_Rs_allValuesOf_4 N xS xM xWf v1 n_4) (v2 ||| r_20) (v3 + 1))) else none)
def f_Rs_allValuesOf (N : Nat)  (xS : Int32) (xM : Nat) (xWf : Nat → Int32) (v1 : Int32) : Option (Int32) := f_Rs_allValuesOf_4 N xS xM xWf v1 N 0 0
def f_Sr_bind  (srOf : Nat → Int32) (qIf : Nat → Int32) (v2 : Int32) (v3 : Int32) : Option (Int32 × (Nat → Int32)) := fn_b1 (f_Qu_itemAt qIf v2 0) (fun r_28 => fn_b2 (f_Sr_keep srOf r_28 ((1 : Int32) <<< (((v3 / 16) / 8) &&& 31))) (fun r_35 srOf_35 => if r_35 = 0 then (some (0, srOf_35)) else (fn_b1 (f_Qu_itemAt qIf v2 1) (fun r_45 => fn_b2 (f_Sr_keep srOf_35 r_45 ((1 : Int32) <<< (((v3 / 16) - (v3 / 16) / 8 * 8) &&& 31))) (fun r_52 srOf_52 => if r_52 = 0 then (some (0, srOf_52)) else (fn_b1 (f_Qu_itemAt qIf v2 2) (fun r_62 => fn_b2 (f_Sr_keep srOf_52 r_62 ((1 : Int32) <<< ((v3 - v3 / 16 * 16) &&& 31))) (fun r_69 srOf_69 => if r_69 = 0 then (some (0, srOf_69)) else (some (1, srOf_69))))))))))
def f_Sr_narrow_135 (N : Nat)  (seOf : Nat → Int32)  (srOf : Nat → Int32) (v1 : Int32) (v2 : Int32) (v3 : Int32) (v7 : Int32) (v8 : Int32) (v9 : Int32) : Option (Int32 × (Nat → Int32)) := fn_b2 (f_Sr_keep srOf v1 v7) (fun r_139 srOf_139 => if r_139 = 0 then (some (0, srOf_139)) else (fn_b2 (f_Sr_keep srOf_139 v2 v8) (fun r_149 srOf_149 => if r_149 = 0 then (some (0, srOf_149)) else (fn_b2 (f_Sr_keep srOf_149 v3 v9) (fun r_159 srOf_159 => if r_159 = 0 then (some (0, srOf_159)) else (some (1, srOf_159)))))))
def f_Sr_narrow_91 (N : Nat)  (seOf : Nat → Int32) (r33 : (Nat → Int32) → Int32 → Int32 → Int32 → Int32 → Option (Int32 × (Nat → Int32))) (r56 : (Nat → Int32) → Int32 → Int32 → Int32 → Int32 → Option (Int32 × (Nat → Int32))) (srOf : Nat → Int32) (v1 : Int32) (v2 : Int32) (v3 : Int32) (v4 : Int32) (v5 : Int32) (v6 : Int32) (v7 : Int32) (v8 : Int32) (v9 : Int32) (v10 : Int32) (v11 : Int32) (s0 : Int32) : Option (Int32 × (Nat → Int32)) := if s0 = 0 then ((r56) srOf v7 v8 v9 (v11 + 1)) else ((r56) srOf (v7 ||| ((1 : Int32) <<< (v10 &&& 31))) (v8 ||| ((1 : Int32) <<< (v11 &&& 31))) (v9 ||| s0) (v11 + 1))
def f_Sr_narrow_56 (N : Nat)  (seOf : Nat → Int32) (r33 : (Nat → Int32) → Int32 → Int32 → Int32 → Int32 → Option (Int32 × (Nat → Int32))) (v1 : Int32) (v2 : Int32) (v3 : Int32) (v4 : Int32) (v5 : Int32) (v6 : Int32) (v10 : Int32) : Nat → (Nat → Int32) → Int32 → Int32 → Int32 → Int32 → Option (Int32 × (Nat → Int32))
  | 0, _, _, _, _, _ => none
  | n_56 + 1, srOf, v7, v8, v9, v11 => if 8 ≤ v11 then ((r33) srOf v7 v8 v9 (v10 + 1)) else (if ((v5 >>> (v11 &&& 31)) &&& 1) = 0 then (f_Sr_narrow_91 N seOf r33 (f_Sr_narrow_56 N seOf r33 v1 v2 v3 v4 v5 v6 v10 n_56) srOf v1 v2 v3 v4 v5 v6 v7 v8 v9 v10 v11 0) else (fn_b1 (f_Se_objectsOf seOf v10 v11) (fun r_85 => f_Sr_narrow_91 N seOf r33 (f_Sr_narrow_56 N seOf r33 v1 v2 v3 v4 v5 v6 v10 n_56) srOf v1 v2 v3 v4 v5 v6 v7 v8 v9 v10 v11 (r_85 &&& v6))))
def f_Sr_narrow_33 (N : Nat)  (seOf : Nat → Int32)  (v1 : Int32) (v2 : Int32) (v3 : Int32) (v4 : Int32) (v5 : Int32) (v6 : Int32) : Nat → (Nat → Int32) → Int32 → Int32 → Int32 → Int32 → Option (Int32 × (Nat → Int32))
  | 0, _, _, _, _, _ => none
  | n_33 + 1, srOf, v7, v8, v9, v10 => if 16 ≤ v10 then (f_Sr_narrow_135 N seOf srOf v1 v2 v3 v7 v8 v9) else (if ((v4 >>> (v10 &&& 31)) &&& 1) = 0 then ((f_Sr_narrow_33 N seOf v1 v2 v3 v4 v5 v6 n_33) srOf v7 v8 v9 (v10 + 1)) else (f_Sr_narrow_56 N seOf (f_Sr_narrow_33 N seOf v1 v2 v3 v4 v5 v6 n_33) v1 v2 v3 v4 v5 v6 v10 N srOf v7 v8 v9 0))
def f_Sr_narrow (N : Nat)  (seOf : Nat → Int32) (srOf : Nat → Int32) (v1 : Int32) (v2 : Int32) (v3 : Int32) : Option (Int32 × (Nat → Int32)) := fn_b1 (f_Sr_allowed srOf v1) (fun r_2 => fn_b1 (f_Sr_allowed srOf v2) (fun r_9 => fn_b1 (f_Sr_allowed srOf v3) (fun r_16 => f_Sr_narrow_33 N seOf v1 v2 v3 r_2 r_9 r_16 N srOf 0 0 0 0)))
def f_Sr_filter_72 (N : Nat)  (seOf : Nat → Int32) (qIf : Nat → Int32)  (v3 : Int32) (v4 : Int32) (v6 : Int32) (v7 : Int32) (v8 : Int32) : Nat → (Nat → Int32) → Int32 → Int32 → Option (Int32 × (Nat → Int32))
  | 0, _, _, _ => none
  | n_72 + 1, srVf, v9, v10 => if 16 ≤ v10 then (some (v9, srVf)) else (if (v4 >>> (v10 &&& 31)) = 0 then (some (v9, srVf)) else (if ((v4 >>> (v10 &&& 31)) &&& 1) = 0 then ((f_Sr_filter_72 N seOf qIf v3 v4 v6 v7 v8 n_72) srVf v9 (v10 + 1)) else (if fn_in v3 4 = true then (fn_b1 (f_Sr_valueOf (upd srVf (Int32.toNatClampNeg v3) v10) v6) (fun r_114 => fn_b1 (f_Sr_valueOf (upd srVf (Int32.toNatClampNeg v3) v10) v7) (fun r_120 => fn_b1 (f_Se_objectsOf seOf r_114 r_120) (fun r_123 => fn_b1 (f_Sr_valueOf (upd srVf (Int32.toNatClampNeg v3) v10) v8) (fun r_129 => (f_Sr_filter_72 N seOf qIf v3 v4 v6 v7 v8 n_72) (upd srVf (Int32.toNatClampNeg v3) v10) (v9 ||| (((r_123 >>> (r_129 &&& 31)) &&& 1) <<< (v10 &&& 31))) (v10 + 1)))))) else none)))
def f_Sr_filter (N : Nat)  (seOf : Nat → Int32) (srVf : Nat → Int32) (qIf : Nat → Int32) (v2 : Int32) (v3 : Int32) (v4 : Int32) : Option (Int32 × (Nat → Int32)) := fn_b1 (f_Qu_itemAt qIf v2 0) (fun r_8 => fn_b1 (f_Qu_itemAt qIf v2 1) (fun r_16 => fn_b1 (f_Qu_itemAt qIf v2 2) (fun r_24 => if r_8 = ((-1) - v3) then (f_Sr_filter_72 N seOf qIf v3 v4 r_8 r_16 r_24 N srVf 0 0) else (if r_16 = ((-1) - v3) then (f_Sr_filter_72 N seOf qIf v3 v4 r_8 r_16 r_24 N srVf 0 0) else (fn_b1 (f_Sr_valueOf srVf r_8) (fun r_52 => fn_b1 (f_Sr_valueOf srVf r_16) (fun r_58 => fn_b1 (f_Se_objectsOf seOf r_52 r_58) (fun r_61 => some ((v4 &&& r_61), srVf)))))))))
def f_Se_read_11 (N : Nat)  (lgS : Int32) (lgAf : Nat → Int32) (lgTf : Nat → Int32) (lgCf : Nat → Int32)  (v2 : Int32) (v3 : Int32) : Nat → (Nat → Int32) → Int32 → Option ((Nat → Int32))
  | 0, _, _ => none
  | n_11 + 1, seOf, v4 => if lgS ≤ v4 then (some seOf) else (if fn_in v4 400 = true then (if v2 < (lgAf (Int32.toNatClampNeg v4)) then (some seOf) else (if fn_in v4 400 = true then (fn_b1 (f_Lg_shows lgS lgAf lgCf v4 v2 v3) (fun r_44 => fn_b1 (f_Se_put seOf (lgTf (Int32.toNatClampNeg v4)) r_44) (fun seOf_47 => (f_Se_read_11 N lgS lgAf lgTf lgCf v2 v3 n_11) seOf_47 (v4 + 1)))) else none)) else none)
def f_Se_read (N : Nat)  (lgS : Int32) (lgAf : Nat → Int32) (lgTf : Nat → Int32) (lgCf : Nat → Int32) (seOf : Nat → Int32) (v2 : Int32) (v3 : Int32) : Option ((Nat → Int32)) := fn_b1 (f_Ja_fill N 128 seOf 0) (fun seOf_5 => f_Se_read_11 N lgS lgAf lgTf lgCf v2 v3 N seOf_5 0)
def f_C_change (N : Nat)  (crL : Int32) (lgS : Int32) (lgAf : Nat → Int32) (lgTf : Nat → Int32) (lgCf : Nat → Int32) (v1 : Int32) (v2 : Int32) (v3 : Int32) (v4 : Int32) : Option (Int32 × Int32 × (Nat → Int32) × (Nat → Int32) × (Nat → Int32)) := fn_b1 (f_C_isTriple v1 v2 v3) (fun r_3 => if r_3 = 0 then (some ((-1), lgS, lgAf, lgTf, lgCf)) else (fn_b1 (f_Lg_isFull lgS) (fun r_15 => if r_15 = 0 then (fn_b1 (f_C_tripleOf v1 v2 v3) (fun r_27 => fn_b1 (f_Lg_lastOf N lgS lgAf lgTf r_27 crL) (fun r_46 => fn_b1 (f_Lg_comesAt lgS lgCf r_46) (fun r_49 => fn_b5 (f_Lg_say N lgS lgAf lgTf lgCf crL r_27 v4) (fun r_66 lgS_66 lgAf_66 lgTf_66 lgCf_66 => if r_49 = v4 then (some (0, lgS_66, lgAf_66, lgTf_66, lgCf_66)) else (some (1, lgS_66, lgAf_66, lgTf_66, lgCf_66))))))) else (some ((-3), lgS, lgAf, lgTf, lgCf)))))
def f_C_pattern  (crQ : Int32) (qsf : Nat → Option Nat) (v1 : Int32) (v2 : Int32) (v3 : Int32) (v4 : Int32) : Option (Int32) := fn_b1 (f_C_find crQ qsf v1) (fun r_2 => fn_o r_2 (some (-1)) (fun _ => none))
def f_C_patternq (q : Nat) (crQ : Int32) (qsf : Nat → Option Nat) (qP : Int32) (qV : Int32) (qIf : Nat → Int32) (qLf : Nat → Int32) (v1 : Int32) (v2 : Int32) (v3 : Int32) (v4 : Int32) : Option (Int32 × Int32 × Int32 × (Nat → Int32) × (Nat → Int32)) := fn_b1 (f_C_find crQ qsf v1) (fun r_2 => fn_o r_2 (some ((-1), qP, qV, qIf, qLf)) (fun aq => if aq = q then (fn_b1 (f_C_isItem v2 16) (fun r_15 => if r_15 = 0 then (some ((-1), qP, qV, qIf, qLf)) else (fn_b1 (f_C_isItem v3 8) (fun r_24 => if r_24 = 0 then (some ((-1), qP, qV, qIf, qLf)) else (fn_b1 (f_C_isItem v4 16) (fun r_34 => if r_34 = 0 then (some ((-1), qP, qV, qIf, qLf)) else (fn_b5 (f_Qu_add qP qV qIf qLf v2 v3 v4) (fun r_48 qP_48 qV_48 qIf_48 qLf_48 => if r_48 = 0 then (some ((-3), qP_48, qV_48, qIf_48, qLf_48)) else (some (qP_48, qP_48, qV_48, qIf_48, qLf_48)))))))))) else none))
def f_C_window  (crQ : Int32) (qsf : Nat → Option Nat) (v1 : Int32) (v2 : Int32) : Option (Int32) := fn_b1 (f_C_find crQ qsf v1) (fun r_2 => fn_o r_2 (some (-1)) (fun _ => none))
def f_C_windowq (q : Nat) (crQ : Int32) (qsf : Nat → Option Nat) (qW : Int32) (v1 : Int32) (v2 : Int32) : Option (Int32 × Int32) := fn_b1 (f_C_find crQ qsf v1) (fun r_2 => fn_o r_2 (some ((-1), qW)) (fun aq => if aq = q then (fn_b1 (f_C_isWindow v2) (fun r_11 => if r_11 = 0 then (some ((-1), qW)) else (some (qW, v2)))) else none))
def f_C_there (N : Nat)  (crL : Int32) (lgS : Int32) (lgAf : Nat → Int32) (lgTf : Nat → Int32) (lgCf : Nat → Int32) (v1 : Int32) (v2 : Int32) (v3 : Int32) (v4 : Int32) : Option (Int32) := fn_b1 (f_C_isPast crL v1) (fun r_2 => if r_2 = 0 then (some (-1)) else (fn_b1 (f_C_isTriple v2 v3 v4) (fun r_12 => if r_12 = 0 then (some (-1)) else (fn_b1 (f_C_tripleOf v2 v3 v4) (fun r_32 => fn_b1 (f_Lg_lastOf N lgS lgAf lgTf r_32 v1) (fun r_36 => fn_b1 (f_Lg_comesAt lgS lgCf r_36) (fun r_39 => if r_39 = 0 then (some 0) else (some 1))))))))
def f_C_age (N : Nat)  (crL : Int32) (lgS : Int32) (lgAf : Nat → Int32) (lgTf : Nat → Int32) (lgCf : Nat → Int32) (v1 : Int32) (v2 : Int32) (v3 : Int32) (v4 : Int32) : Option (Int32) := fn_b1 (f_C_isPast crL v1) (fun r_2 => if r_2 = 0 then (some (-1)) else (fn_b1 (f_C_isTriple v2 v3 v4) (fun r_12 => if r_12 = 0 then (some (-1)) else (fn_b1 (f_C_tripleOf v2 v3 v4) (fun r_28 => fn_b1 (f_Lg_lastOf N lgS lgAf lgTf r_28 v1) (fun r_32 => fn_b1 (f_Lg_comesAt lgS lgCf r_32) (fun r_43 => if r_43 = 0 then (some (-2)) else (fn_b1 (f_Lg_numberAt lgS lgAf r_32) (fun r_56 => some (v1 - r_56))))))))))
def f_M_ask_122 (N : Nat)  (mdS : Int32) (mWhf : Nat → Int32) (mTrf : Nat → Int32) (mCof : Nat → Int32) (mWif : Nat → Int32) (mPcf : Nat → Int32) (mItf : Nat → Int32) (r103 : (Nat → Int64) → (Nat → Int32) → (Nat → Int32) → (Nat → Int32) → Int32 → Option ((Nat → Int64) × (Nat → Int32) × (Nat → Int32) × (Nat → Int32))) (r112 : (Nat → Int64) → (Nat → Int32) → (Nat → Int32) → (Nat → Int32) → Int32 → Option ((Nat → Int64) × (Nat → Int32) × (Nat → Int32) × (Nat → Int32))) (v1 : Int32) (v3 : Int32) (v4 : Int32) (v5 : Int32) (v6 : Int32) (v7 : Int32) (v8 : Int32) : Nat → (Nat → Int64) → (Nat → Int32) → (Nat → Int32) → (Nat → Int32) → Int32 → Option ((Nat → Int64) × (Nat → Int32) × (Nat → Int32) × (Nat → Int32))
  | 0, _, _, _, _, _ => none
  | n_122 + 1, mNef, mSef, mVaf, mLaf, v9 => if v5 < v9 then ((r112) mNef mSef mVaf mLaf (v8 + 1)) else (fn_b2 (f_M_askLast N mPcf mItf mNef mSef mVaf v1 v7 v8 v9 v6) (fun mNef_139 mVaf_139 => (f_M_ask_122 N mdS mWhf mTrf mCof mWif mPcf mItf r103 r112 v1 v3 v4 v5 v6 v7 v8 n_122) mNef_139 mSef mVaf_139 mLaf (v9 + 1)))
def f_M_ask_112 (N : Nat)  (mdS : Int32) (mWhf : Nat → Int32) (mTrf : Nat → Int32) (mCof : Nat → Int32) (mWif : Nat → Int32) (mPcf : Nat → Int32) (mItf : Nat → Int32) (r103 : (Nat → Int64) → (Nat → Int32) → (Nat → Int32) → (Nat → Int32) → Int32 → Option ((Nat → Int64) × (Nat → Int32) × (Nat → Int32) × (Nat → Int32))) (v1 : Int32) (v3 : Int32) (v4 : Int32) (v5 : Int32) (v6 : Int32) (v7 : Int32) : Nat → (Nat → Int64) → (Nat → Int32) → (Nat → Int32) → (Nat → Int32) → Int32 → Option ((Nat → Int64) × (Nat → Int32) × (Nat → Int32) × (Nat → Int32))
  | 0, _, _, _, _, _ => none
  | n_112 + 1, mNef, mSef, mVaf, mLaf, v8 => if v4 < v8 then ((r103) mNef mSef mVaf mLaf (v7 + 1)) else (f_M_ask_122 N mdS mWhf mTrf mCof mWif mPcf mItf r103 (f_M_ask_112 N mdS mWhf mTrf mCof mWif mPcf mItf r103 v1 v3 v4 v5 v6 v7 n_112) v1 v3 v4 v5 v6 v7 v8 N mNef mSef mVaf mLaf 0)
def f_M_ask_103 (N : Nat)  (mdS : Int32) (mWhf : Nat → Int32) (mTrf : Nat → Int32) (mCof : Nat → Int32) (mWif : Nat → Int32) (mPcf : Nat → Int32) (mItf : Nat → Int32)  (v1 : Int32) (v3 : Int32) (v4 : Int32) (v5 : Int32) (v6 : Int32) : Nat → (Nat → Int64) → (Nat → Int32) → (Nat → Int32) → (Nat → Int32) → Int32 → Option ((Nat → Int64) × (Nat → Int32) × (Nat → Int32) × (Nat → Int32))
  | 0, _, _, _, _, _ => none
  | n_103 + 1, mNef, mSef, mVaf, mLaf, v7 => if v3 < v7 then (some (mNef, mSef, mVaf, mLaf)) else (f_M_ask_112 N mdS mWhf mTrf mCof mWif mPcf mItf (f_M_ask_103 N mdS mWhf mTrf mCof mWif mPcf mItf v1 v3 v4 v5 v6 n_103) v1 v3 v4 v5 v6 v7 N mNef mSef mVaf mLaf 0)
def f_M_ask_81 (N : Nat)  (mdS : Int32) (mWhf : Nat → Int32) (mTrf : Nat → Int32) (mCof : Nat → Int32) (mWif : Nat → Int32) (mPcf : Nat → Int32) (mItf : Nat → Int32)  (mNef : Nat → Int64) (mSef : Nat → Int32) (mVaf : Nat → Int32) (mLaf : Nat → Int32) (v1 : Int32) (v3 : Int32) (v4 : Int32) (s0 : Int32) : Option ((Nat → Int64) × (Nat → Int32) × (Nat → Int32) × (Nat → Int32)) := fn_b1 (f_M_stands N mPcf mItf v1 4) (fun r_86 => if r_86 = 0 then (f_M_ask_103 N mdS mWhf mTrf mCof mWif mPcf mItf v1 v3 v4 s0 0 N mNef mSef mVaf mLaf 0) else (f_M_ask_103 N mdS mWhf mTrf mCof mWif mPcf mItf v1 v3 v4 s0 15 N mNef mSef mVaf mLaf 0))
def f_M_ask_64 (N : Nat)  (mdS : Int32) (mWhf : Nat → Int32) (mTrf : Nat → Int32) (mCof : Nat → Int32) (mWif : Nat → Int32) (mPcf : Nat → Int32) (mItf : Nat → Int32)  (mNef : Nat → Int64) (mSef : Nat → Int32) (mVaf : Nat → Int32) (mLaf : Nat → Int32) (v1 : Int32) (v3 : Int32) (s0 : Int32) : Option ((Nat → Int64) × (Nat → Int32) × (Nat → Int32) × (Nat → Int32)) := fn_b1 (f_M_stands N mPcf mItf v1 3) (fun r_69 => if r_69 = 0 then (f_M_ask_81 N mdS mWhf mTrf mCof mWif mPcf mItf mNef mSef mVaf mLaf v1 v3 s0 0) else (f_M_ask_81 N mdS mWhf mTrf mCof mWif mPcf mItf mNef mSef mVaf mLaf v1 v3 s0 15))
def f_M_ask_48 (N : Nat)  (mdS : Int32) (mWhf : Nat → Int32) (mTrf : Nat → Int32) (mCof : Nat → Int32) (mWif : Nat → Int32) (mPcf : Nat → Int32) (mItf : Nat → Int32)  (mNef : Nat → Int64) (mSef : Nat → Int32) (mVaf : Nat → Int32) (mLaf : Nat → Int32) (v1 : Int32) (s0 : Int32) : Option ((Nat → Int64) × (Nat → Int32) × (Nat → Int32) × (Nat → Int32)) := fn_b1 (f_M_stands N mPcf mItf v1 2) (fun r_52 => if r_52 = 0 then (f_M_ask_64 N mdS mWhf mTrf mCof mWif mPcf mItf mNef mSef mVaf mLaf v1 s0 0) else (f_M_ask_64 N mdS mWhf mTrf mCof mWif mPcf mItf mNef mSef mVaf mLaf v1 s0 15))
def f_M_ask_33 (N : Nat)  (mdS : Int32) (mWhf : Nat → Int32) (mTrf : Nat → Int32) (mCof : Nat → Int32) (mWif : Nat → Int32) (mPcf : Nat → Int32) (mItf : Nat → Int32)  (mNef : Nat → Int64) (mSef : Nat → Int32) (mVaf : Nat → Int32) (mLaf : Nat → Int32) (v1 : Int32) : Option ((Nat → Int64) × (Nat → Int32) × (Nat → Int32) × (Nat → Int32)) := fn_b1 (f_M_stands N mPcf mItf v1 1) (fun r_36 => if r_36 = 0 then (f_M_ask_48 N mdS mWhf mTrf mCof mWif mPcf mItf mNef mSef mVaf mLaf v1 0) else (f_M_ask_48 N mdS mWhf mTrf mCof mWif mPcf mItf mNef mSef mVaf mLaf v1 15))
def f_M_ask_13 (N : Nat)  (mdS : Int32) (mWhf : Nat → Int32) (mTrf : Nat → Int32) (mCof : Nat → Int32) (mWif : Nat → Int32) (mPcf : Nat → Int32) (mItf : Nat → Int32)  (v1 : Int32) : Nat → (Nat → Int64) → (Nat → Int32) → (Nat → Int32) → (Nat → Int32) → Int32 → Option ((Nat → Int64) × (Nat → Int32) × (Nat → Int32) × (Nat → Int32))
  | 0, _, _, _, _, _ => none
  | n_13 + 1, mNef, mSef, mVaf, mLaf, v3 => if 1024 ≤ v3 then (f_M_ask_33 N mdS mWhf mTrf mCof mWif mPcf mItf mNef mSef mVaf mLaf v1) else (if fn_in v3 1024 = true then ((f_M_ask_13 N mdS mWhf mTrf mCof mWif mPcf mItf v1 n_13) (vp_updL mNef (Int32.toNatClampNeg v3) 0) mSef mVaf mLaf (v3 + 1)) else none)
def f_M_ask (N : Nat)  (mdS : Int32) (mWhf : Nat → Int32) (mTrf : Nat → Int32) (mCof : Nat → Int32) (mWif : Nat → Int32) (mPcf : Nat → Int32) (mItf : Nat → Int32) (mNef : Nat → Int64) (mSef : Nat → Int32) (mVaf : Nat → Int32) (mLaf : Nat → Int32) (v1 : Int32) (v2 : Int32) : Option ((Nat → Int64) × (Nat → Int32) × (Nat → Int32) × (Nat → Int32)) := if fn_in v1 12 = true then (fn_b2 (f_M_see N mdS mWhf mTrf mCof mSef mLaf v2 (mWif (Int32.toNatClampNeg v1))) (fun mSef_8 mLaf_8 => f_M_ask_13 N mdS mWhf mTrf mCof mWif mPcf mItf v1 N mNef mSef_8 mVaf mLaf_8 0)) else none
def f_M_rowsOf_25 (N : Nat)  (mdS : Int32) (mWhf : Nat → Int32) (mTrf : Nat → Int32) (mCof : Nat → Int32) (mWif : Nat → Int32) (mPcf : Nat → Int32) (mItf : Nat → Int32)  (v3 : Int32) : Nat → (Nat → Int64) → (Nat → Int32) → (Nat → Int64) → (Nat → Int32) → (Nat → Int32) → (Nat → Int32) → Int32 → Option (Int32 × (Nat → Int64) × (Nat → Int32) × (Nat → Int64) × (Nat → Int32) × (Nat → Int32) × (Nat → Int32))
  | 0, _, _, _, _, _, _, _ => none
  | n_25 + 1, mRof, mKnf, mNef, mSef, mVaf, mLaf, v4 => if 1024 ≤ v4 then (if fn_in v3 744 = true then (some ((1024 * v3), mRof, (upd mKnf (Int32.toNatClampNeg v3) (vp_nar .boolean 1)), mNef, mSef, mVaf, mLaf)) else none) else (if fn_in v4 1024 = true then (if fn_in ((1024 * v3) + v4) 761856 = true then ((f_M_rowsOf_25 N mdS mWhf mTrf mCof mWif mPcf mItf v3 n_25) (vp_updL mRof (Int32.toNatClampNeg ((1024 * v3) + v4)) (mNef (Int32.toNatClampNeg v4))) mKnf mNef mSef mVaf mLaf (v4 + 1)) else none) else none)
def f_M_rowsOf (N : Nat)  (mdS : Int32) (mWhf : Nat → Int32) (mTrf : Nat → Int32) (mCof : Nat → Int32) (mWif : Nat → Int32) (mPcf : Nat → Int32) (mItf : Nat → Int32) (mRof : Nat → Int64) (mKnf : Nat → Int32) (mNef : Nat → Int64) (mSef : Nat → Int32) (mVaf : Nat → Int32) (mLaf : Nat → Int32) (v1 : Int32) (v2 : Int32) : Option (Int32 × (Nat → Int64) × (Nat → Int32) × (Nat → Int64) × (Nat → Int32) × (Nat → Int32) × (Nat → Int32)) := fn_b1 (f_M_at v1 v2) (fun r_3 => if fn_in r_3 744 = true then (if (mKnf (Int32.toNatClampNeg r_3)) = 0 then (fn_b4 (f_M_ask N mdS mWhf mTrf mCof mWif mPcf mItf mNef mSef mVaf mLaf v1 v2) (fun mNef_19 mSef_19 mVaf_19 mLaf_19 => f_M_rowsOf_25 N mdS mWhf mTrf mCof mWif mPcf mItf r_3 N mRof mKnf mNef_19 mSef_19 mVaf_19 mLaf_19 0)) else (some ((1024 * r_3), mRof, mKnf, mNef, mSef, mVaf, mLaf))) else none)
def f_M_bits_47 (N : Nat)  (mdS : Int32) (mWhf : Nat → Int32) (mTrf : Nat → Int32) (mCof : Nat → Int32) (mWif : Nat → Int32) (mPcf : Nat → Int32) (mItf : Nat → Int32)  (mRof : Nat → Int64) (mKnf : Nat → Int32) (mNef : Nat → Int64) (mSef : Nat → Int32) (mVaf : Nat → Int32) (mLaf : Nat → Int32) (v3 : Int32) (v5 : Int64) (s0 : Int64) : Option (Int64 × (Nat → Int64) × (Nat → Int32) × (Nat → Int64) × (Nat → Int32) × (Nat → Int32) × (Nat → Int32)) := if v3 = 1 then (some ((v5 &&& (s0 ^^^ (-1))), mRof, mKnf, mNef, mSef, mVaf, mLaf)) else (some ((s0 &&& (v5 ^^^ (-1))), mRof, mKnf, mNef, mSef, mVaf, mLaf))
def f_M_bits (N : Nat)  (mdS : Int32) (mWhf : Nat → Int32) (mTrf : Nat → Int32) (mCof : Nat → Int32) (mWif : Nat → Int32) (mPcf : Nat → Int32) (mItf : Nat → Int32) (mRof : Nat → Int64) (mKnf : Nat → Int32) (mNef : Nat → Int64) (mSef : Nat → Int32) (mVaf : Nat → Int32) (mLaf : Nat → Int32) (v1 : Int32) (v2 : Int32) (v3 : Int32) (v4 : Int32) : Option (Int64 × (Nat → Int64) × (Nat → Int32) × (Nat → Int64) × (Nat → Int32) × (Nat → Int32) × (Nat → Int32)) := fn_b7 (f_M_rowsOf N mdS mWhf mTrf mCof mWif mPcf mItf mRof mKnf mNef mSef mVaf mLaf v1 v2) (fun r_7 mRof_7 mKnf_7 mNef_7 mSef_7 mVaf_7 mLaf_7 => if fn_in (r_7 + v4) 761856 = true then (if v3 = 0 then (some ((mRof_7 (Int32.toNatClampNeg (r_7 + v4))), mRof_7, mKnf_7, mNef_7, mSef_7, mVaf_7, mLaf_7)) else (if v2 ≤ 0 then (f_M_bits_47 N mdS mWhf mTrf mCof mWif mPcf mItf mRof_7 mKnf_7 mNef_7 mSef_7 mVaf_7 mLaf_7 v3 (mRof_7 (Int32.toNatClampNeg (r_7 + v4))) 0) else (fn_b7 (f_M_rowsOf N mdS mWhf mTrf mCof mWif mPcf mItf mRof_7 mKnf_7 mNef_7 mSef_7 mVaf_7 mLaf_7 v1 (v2 - 1)) (fun r_36 mRof_36 mKnf_36 mNef_36 mSef_36 mVaf_36 mLaf_36 => if fn_in (r_36 + v4) 761856 = true then (f_M_bits_47 N mdS mWhf mTrf mCof mWif mPcf mItf mRof_36 mKnf_36 mNef_36 mSef_36 mVaf_36 mLaf_36 v3 (mRof_7 (Int32.toNatClampNeg (r_7 + v4))) (mRof_36 (Int32.toNatClampNeg (r_36 + v4)))) else none)))) else none)
def f_M_count_25 (N : Nat)  (mdS : Int32) (mWhf : Nat → Int32) (mTrf : Nat → Int32) (mCof : Nat → Int32) (mWif : Nat → Int32) (mPcf : Nat → Int32) (mItf : Nat → Int32) (r6 : (Nat → Int64) → (Nat → Int32) → (Nat → Int64) → (Nat → Int32) → (Nat → Int32) → (Nat → Int32) → Int32 → Int32 → Option (Int32 × (Nat → Int64) × (Nat → Int32) × (Nat → Int64) × (Nat → Int32) × (Nat → Int32) × (Nat → Int32))) (v1 : Int32) (v2 : Int32) (v3 : Int32) (v5 : Int32) : Nat → (Nat → Int64) → (Nat → Int32) → (Nat → Int64) → (Nat → Int32) → (Nat → Int32) → (Nat → Int32) → Int32 → Int64 → Option (Int32 × (Nat → Int64) × (Nat → Int32) × (Nat → Int64) × (Nat → Int32) × (Nat → Int32) × (Nat → Int32))
  | 0, _, _, _, _, _, _, _, _ => none
  | n_25 + 1, mRof, mKnf, mNef, mSef, mVaf, mLaf, v4, v6 => if (lg_cmp v6 0) = 0 then ((r6) mRof mKnf mNef mSef mVaf mLaf v4 (v5 + 1)) else ((f_M_count_25 N mdS mWhf mTrf mCof mWif mPcf mItf r6 v1 v2 v3 v5 n_25) mRof mKnf mNef mSef mVaf mLaf (v4 + 1) (v6 &&& (v6 - 1)))
def f_M_count_6 (N : Nat)  (mdS : Int32) (mWhf : Nat → Int32) (mTrf : Nat → Int32) (mCof : Nat → Int32) (mWif : Nat → Int32) (mPcf : Nat → Int32) (mItf : Nat → Int32)  (v1 : Int32) (v2 : Int32) (v3 : Int32) : Nat → (Nat → Int64) → (Nat → Int32) → (Nat → Int64) → (Nat → Int32) → (Nat → Int32) → (Nat → Int32) → Int32 → Int32 → Option (Int32 × (Nat → Int64) × (Nat → Int32) × (Nat → Int64) × (Nat → Int32) × (Nat → Int32) × (Nat → Int32))
  | 0, _, _, _, _, _, _, _, _ => none
  | n_6 + 1, mRof, mKnf, mNef, mSef, mVaf, mLaf, v4, v5 => if 1024 ≤ v5 then (some (v4, mRof, mKnf, mNef, mSef, mVaf, mLaf)) else (fn_b7 (f_M_bits N mdS mWhf mTrf mCof mWif mPcf mItf mRof mKnf mNef mSef mVaf mLaf v1 v2 v3 v5) (fun r_20 mRof_20 mKnf_20 mNef_20 mSef_20 mVaf_20 mLaf_20 => f_M_count_25 N mdS mWhf mTrf mCof mWif mPcf mItf (f_M_count_6 N mdS mWhf mTrf mCof mWif mPcf mItf v1 v2 v3 n_6) v1 v2 v3 v5 N mRof_20 mKnf_20 mNef_20 mSef_20 mVaf_20 mLaf_20 v4 r_20))
def f_M_count (N : Nat)  (mdS : Int32) (mWhf : Nat → Int32) (mTrf : Nat → Int32) (mCof : Nat → Int32) (mWif : Nat → Int32) (mPcf : Nat → Int32) (mItf : Nat → Int32) (mRof : Nat → Int64) (mKnf : Nat → Int32) (mNef : Nat → Int64) (mSef : Nat → Int32) (mVaf : Nat → Int32) (mLaf : Nat → Int32) (v1 : Int32) (v2 : Int32) (v3 : Int32) : Option (Int32 × (Nat → Int64) × (Nat → Int32) × (Nat → Int64) × (Nat → Int32) × (Nat → Int32) × (Nat → Int32)) := f_M_count_6 N mdS mWhf mTrf mCof mWif mPcf mItf v1 v2 v3 N mRof mKnf mNef mSef mVaf mLaf 0 0
def f_M_rows (N : Nat)  (mdL : Int32) (mdS : Int32) (mdQ : Int32) (mWhf : Nat → Int32) (mTrf : Nat → Int32) (mCof : Nat → Int32) (mWif : Nat → Int32) (mPcf : Nat → Int32) (mItf : Nat → Int32) (mRof : Nat → Int64) (mKnf : Nat → Int32) (mNef : Nat → Int64) (mSef : Nat → Int32) (mVaf : Nat → Int32) (mLaf : Nat → Int32) (v1 : Int32) (v2 : Int32) : Option (Int32 × (Nat → Int64) × (Nat → Int32) × (Nat → Int64) × (Nat → Int32) × (Nat → Int32) × (Nat → Int32)) := fn_b1 (f_M_isQuestion mdQ v1) (fun r_2 => if r_2 = 0 then (some ((-1), mRof, mKnf, mNef, mSef, mVaf, mLaf)) else (fn_b1 (f_M_isNumber mdL v2) (fun r_10 => if r_10 = 0 then (some ((-1), mRof, mKnf, mNef, mSef, mVaf, mLaf)) else (fn_b7 (f_M_count N mdS mWhf mTrf mCof mWif mPcf mItf mRof mKnf mNef mSef mVaf mLaf v1 v2 0) (fun r_20 mRof_20 mKnf_20 mNef_20 mSef_20 mVaf_20 mLaf_20 => some (r_20, mRof_20, mKnf_20, mNef_20, mSef_20, mVaf_20, mLaf_20))))))
def f_M_changed (N : Nat)  (mdL : Int32) (mdS : Int32) (mdQ : Int32) (mWhf : Nat → Int32) (mTrf : Nat → Int32) (mCof : Nat → Int32) (mWif : Nat → Int32) (mPcf : Nat → Int32) (mItf : Nat → Int32) (mRof : Nat → Int64) (mKnf : Nat → Int32) (mNef : Nat → Int64) (mSef : Nat → Int32) (mVaf : Nat → Int32) (mLaf : Nat → Int32) (v1 : Int32) (v2 : Int32) (v3 : Int32) : Option (Int32 × (Nat → Int64) × (Nat → Int32) × (Nat → Int64) × (Nat → Int32) × (Nat → Int32) × (Nat → Int32)) := fn_b1 (f_M_isQuestion mdQ v1) (fun r_2 => if r_2 = 0 then (some ((-1), mRof, mKnf, mNef, mSef, mVaf, mLaf)) else (fn_b1 (f_M_isNumber mdL v2) (fun r_10 => if r_10 = 0 then (some ((-1), mRof, mKnf, mNef, mSef, mVaf, mLaf)) else (if v3 = 0 then (fn_b7 (f_M_count N mdS mWhf mTrf mCof mWif mPcf mItf mRof mKnf mNef mSef mVaf mLaf v1 v2 2) (fun r_28 mRof_28 mKnf_28 mNef_28 mSef_28 mVaf_28 mLaf_28 => some (r_28, mRof_28, mKnf_28, mNef_28, mSef_28, mVaf_28, mLaf_28))) else (fn_b7 (f_M_count N mdS mWhf mTrf mCof mWif mPcf mItf mRof mKnf mNef mSef mVaf mLaf v1 v2 1) (fun r_28 mRof_28 mKnf_28 mNef_28 mSef_28 mVaf_28 mLaf_28 => some (r_28, mRof_28, mKnf_28, mNef_28, mSef_28, mVaf_28, mLaf_28)))))))
def f_M_row_61 (N : Nat)  (mdL : Int32) (mdS : Int32) (mdQ : Int32) (mWhf : Nat → Int32) (mTrf : Nat → Int32) (mCof : Nat → Int32) (mWif : Nat → Int32) (mPcf : Nat → Int32) (mItf : Nat → Int32) (r34 : (Nat → Int64) → (Nat → Int32) → (Nat → Int64) → (Nat → Int32) → (Nat → Int32) → (Nat → Int32) → Int32 → Int32 → Option (Int32 × (Nat → Int64) × (Nat → Int32) × (Nat → Int64) × (Nat → Int32) × (Nat → Int32) × (Nat → Int32))) (v1 : Int32) (v2 : Int32) (v3 : Int32) (v4 : Int32) (v6 : Int32) (v7 : Int64) : Nat → (Nat → Int64) → (Nat → Int32) → (Nat → Int64) → (Nat → Int32) → (Nat → Int32) → (Nat → Int32) → Int32 → Int32 → Option (Int32 × (Nat → Int64) × (Nat → Int32) × (Nat → Int64) × (Nat → Int32) × (Nat → Int32) × (Nat → Int32))
  | 0, _, _, _, _, _, _, _, _ => none
  | n_61 + 1, mRof, mKnf, mNef, mSef, mVaf, mLaf, v5, v9 => if 64 ≤ v9 then ((r34) mRof mKnf mNef mSef mVaf mLaf v5 (v6 + 1)) else (if (lg_cmp v7 0) = 0 then ((r34) mRof mKnf mNef mSef mVaf mLaf v5 (v6 + 1)) else (if (lg_cmp ((v7 >>> (Int32.toInt64 v9 &&& 63)) &&& 1) 0) = 0 then ((f_M_row_61 N mdL mdS mdQ mWhf mTrf mCof mWif mPcf mItf r34 v1 v2 v3 v4 v6 v7 n_61) mRof mKnf mNef mSef mVaf mLaf v5 (v9 + 1)) else (if v5 = 0 then (some (((64 * v6) + v9), mRof, mKnf, mNef, mSef, mVaf, mLaf)) else ((f_M_row_61 N mdL mdS mdQ mWhf mTrf mCof mWif mPcf mItf r34 v1 v2 v3 v4 v6 v7 n_61) mRof mKnf mNef mSef mVaf mLaf (v5 + (-1)) (v9 + 1)))))
def f_M_row_34 (N : Nat)  (mdL : Int32) (mdS : Int32) (mdQ : Int32) (mWhf : Nat → Int32) (mTrf : Nat → Int32) (mCof : Nat → Int32) (mWif : Nat → Int32) (mPcf : Nat → Int32) (mItf : Nat → Int32)  (v1 : Int32) (v2 : Int32) (v3 : Int32) (v4 : Int32) : Nat → (Nat → Int64) → (Nat → Int32) → (Nat → Int64) → (Nat → Int32) → (Nat → Int32) → (Nat → Int32) → Int32 → Int32 → Option (Int32 × (Nat → Int64) × (Nat → Int32) × (Nat → Int64) × (Nat → Int32) × (Nat → Int32) × (Nat → Int32))
  | 0, _, _, _, _, _, _, _, _ => none
  | n_34 + 1, mRof, mKnf, mNef, mSef, mVaf, mLaf, v5, v6 => if 1024 ≤ v6 then (some ((-2), mRof, mKnf, mNef, mSef, mVaf, mLaf)) else (if v4 < 0 then (some ((-2), mRof, mKnf, mNef, mSef, mVaf, mLaf)) else (fn_b7 (f_M_bits N mdS mWhf mTrf mCof mWif mPcf mItf mRof mKnf mNef mSef mVaf mLaf v1 v2 v3 v6) (fun r_53 mRof_53 mKnf_53 mNef_53 mSef_53 mVaf_53 mLaf_53 => f_M_row_61 N mdL mdS mdQ mWhf mTrf mCof mWif mPcf mItf (f_M_row_34 N mdL mdS mdQ mWhf mTrf mCof mWif mPcf mItf v1 v2 v3 v4 n_34) v1 v2 v3 v4 v6 r_53 N mRof_53 mKnf_53 mNef_53 mSef_53 mVaf_53 mLaf_53 v5 0)))
def f_M_row (N : Nat)  (mdL : Int32) (mdS : Int32) (mdQ : Int32) (mWhf : Nat → Int32) (mTrf : Nat → Int32) (mCof : Nat → Int32) (mWif : Nat → Int32) (mPcf : Nat → Int32) (mItf : Nat → Int32) (mRof : Nat → Int64) (mKnf : Nat → Int32) (mNef : Nat → Int64) (mSef : Nat → Int32) (mVaf : Nat → Int32) (mLaf : Nat → Int32) (v1 : Int32) (v2 : Int32) (v3 : Int32) (v4 : Int32) : Option (Int32 × (Nat → Int64) × (Nat → Int32) × (Nat → Int64) × (Nat → Int32) × (Nat → Int32) × (Nat → Int32)) := fn_b1 (f_M_isQuestion mdQ v1) (fun r_2 => if r_2 = 0 then (some ((-1), mRof, mKnf, mNef, mSef, mVaf, mLaf)) else (fn_b1 (f_M_isNumber mdL v2) (fun r_10 => if r_10 = 0 then (some ((-1), mRof, mKnf, mNef, mSef, mVaf, mLaf)) else (if v3 < 0 then (some ((-1), mRof, mKnf, mNef, mSef, mVaf, mLaf)) else (if v3 ≤ 2 then (f_M_row_34 N mdL mdS mdQ mWhf mTrf mCof mWif mPcf mItf v1 v2 v3 v4 N mRof mKnf mNef mSef mVaf mLaf v4 0) else (some ((-1), mRof, mKnf, mNef, mSef, mVaf, mLaf)))))))
def f_M_aggregate_175 (N : Nat)  (mdL : Int32) (mdS : Int32) (mdQ : Int32) (mWhf : Nat → Int32) (mTrf : Nat → Int32) (mCof : Nat → Int32) (mWif : Nat → Int32) (mPcf : Nat → Int32) (mItf : Nat → Int32)  (mRof : Nat → Int64) (mKnf : Nat → Int32) (mNef : Nat → Int64) (mSef : Nat → Int32) (mVaf : Nat → Int32) (mLaf : Nat → Int32) (v3 : Int32) (v5 : Int32) (v6 : Int32) (v7 : Int32) : Option (Int32 × (Nat → Int64) × (Nat → Int32) × (Nat → Int64) × (Nat → Int32) × (Nat → Int32) × (Nat → Int32)) := if v3 = 0 then (some (v5, mRof, mKnf, mNef, mSef, mVaf, mLaf)) else (if 0 ≤ v7 then (if v3 = 1 then (some (v6, mRof, mKnf, mNef, mSef, mVaf, mLaf)) else (some (v7, mRof, mKnf, mNef, mSef, mVaf, mLaf))) else (some ((-2), mRof, mKnf, mNef, mSef, mVaf, mLaf)))
def f_M_aggregate_74 (N : Nat)  (mdL : Int32) (mdS : Int32) (mdQ : Int32) (mWhf : Nat → Int32) (mTrf : Nat → Int32) (mCof : Nat → Int32) (mWif : Nat → Int32) (mPcf : Nat → Int32) (mItf : Nat → Int32) (r52 : (Nat → Int64) → (Nat → Int32) → (Nat → Int64) → (Nat → Int32) → (Nat → Int32) → (Nat → Int32) → Int32 → Int32 → Int32 → Int32 → Option (Int32 × (Nat → Int64) × (Nat → Int32) × (Nat → Int64) × (Nat → Int32) × (Nat → Int32) × (Nat → Int32))) (v1 : Int32) (v2 : Int32) (v3 : Int32) (v4 : Int32) (v8 : Int32) (v9 : Int64) : Nat → (Nat → Int64) → (Nat → Int32) → (Nat → Int64) → (Nat → Int32) → (Nat → Int32) → (Nat → Int32) → Int32 → Int32 → Int32 → Int32 → Option (Int32 × (Nat → Int64) × (Nat → Int32) × (Nat → Int64) × (Nat → Int32) × (Nat → Int32) × (Nat → Int32))
  | 0, _, _, _, _, _, _, _, _, _, _ => none
  | n_74 + 1, mRof, mKnf, mNef, mSef, mVaf, mLaf, v5, v6, v7, v11 => if 64 ≤ v11 then ((r52) mRof mKnf mNef mSef mVaf mLaf v5 v6 v7 (v8 + 1)) else (if (lg_cmp v9 0) = 0 then ((r52) mRof mKnf mNef mSef mVaf mLaf v5 v6 v7 (v8 + 1)) else (if (lg_cmp ((v9 >>> (Int32.toInt64 v11 &&& 63)) &&& 1) 0) = 0 then ((f_M_aggregate_74 N mdL mdS mdQ mWhf mTrf mCof mWif mPcf mItf r52 v1 v2 v3 v4 v8 v9 n_74) mRof mKnf mNef mSef mVaf mLaf v5 v6 v7 (v11 + 1)) else (if v6 ≤ ((((64 * v8) + v11) >>> ((16 - (4 * v4)) &&& 31)) &&& 15) then (if ((((64 * v8) + v11) >>> ((16 - (4 * v4)) &&& 31)) &&& 15) ≤ v7 then ((f_M_aggregate_74 N mdL mdS mdQ mWhf mTrf mCof mWif mPcf mItf r52 v1 v2 v3 v4 v8 v9 n_74) mRof mKnf mNef mSef mVaf mLaf (v5 + ((((64 * v8) + v11) >>> ((16 - (4 * v4)) &&& 31)) &&& 15)) v6 v7 (v11 + 1)) else ((f_M_aggregate_74 N mdL mdS mdQ mWhf mTrf mCof mWif mPcf mItf r52 v1 v2 v3 v4 v8 v9 n_74) mRof mKnf mNef mSef mVaf mLaf (v5 + ((((64 * v8) + v11) >>> ((16 - (4 * v4)) &&& 31)) &&& 15)) v6 ((((64 * v8) + v11) >>> ((16 - (4 * v4)) &&& 31)) &&& 15) (v11 + 1))) else (if ((((64 * v8) + v11) >>> ((16 - (4 * v4)) &&& 31)) &&& 15) ≤ v7 then ((f_M_aggregate_74 N mdL mdS mdQ mWhf mTrf mCof mWif mPcf mItf r52 v1 v2 v3 v4 v8 v9 n_74) mRof mKnf mNef mSef mVaf mLaf (v5 + ((((64 * v8) + v11) >>> ((16 - (4 * v4)) &&& 31)) &&& 15)) ((((64 * v8) + v11) >>> ((16 - (4 * v4)) &&& 31)) &&& 15) v7 (v11 + 1)) else ((f_M_aggregate_74 N mdL mdS mdQ mWhf mTrf mCof mWif mPcf mItf r52 v1 v2 v3 v4 v8 v9 n_74) mRof mKnf mNef mSef mVaf mLaf (v5 + ((((64 * v8) + v11) >>> ((16 - (4 * v4)) &&& 31)) &&& 15)) ((((64 * v8) + v11) >>> ((16 - (4 * v4)) &&& 31)) &&& 15) ((((64 * v8) + v11) >>> ((16 - (4 * v4)) &&& 31)) &&& 15) (v11 + 1))))))
def f_M_aggregate_52 (N : Nat)  (mdL : Int32) (mdS : Int32) (mdQ : Int32) (mWhf : Nat → Int32) (mTrf : Nat → Int32) (mCof : Nat → Int32) (mWif : Nat → Int32) (mPcf : Nat → Int32) (mItf : Nat → Int32)  (v1 : Int32) (v2 : Int32) (v3 : Int32) (v4 : Int32) : Nat → (Nat → Int64) → (Nat → Int32) → (Nat → Int64) → (Nat → Int32) → (Nat → Int32) → (Nat → Int32) → Int32 → Int32 → Int32 → Int32 → Option (Int32 × (Nat → Int64) × (Nat → Int32) × (Nat → Int64) × (Nat → Int32) × (Nat → Int32) × (Nat → Int32))
  | 0, _, _, _, _, _, _, _, _, _, _ => none
  | n_52 + 1, mRof, mKnf, mNef, mSef, mVaf, mLaf, v5, v6, v7, v8 => if 1024 ≤ v8 then (f_M_aggregate_175 N mdL mdS mdQ mWhf mTrf mCof mWif mPcf mItf mRof mKnf mNef mSef mVaf mLaf v3 v5 v6 v7) else (fn_b7 (f_M_bits N mdS mWhf mTrf mCof mWif mPcf mItf mRof mKnf mNef mSef mVaf mLaf v1 v2 0 v8) (fun r_66 mRof_66 mKnf_66 mNef_66 mSef_66 mVaf_66 mLaf_66 => f_M_aggregate_74 N mdL mdS mdQ mWhf mTrf mCof mWif mPcf mItf (f_M_aggregate_52 N mdL mdS mdQ mWhf mTrf mCof mWif mPcf mItf v1 v2 v3 v4 n_52) v1 v2 v3 v4 v8 r_66 N mRof_66 mKnf_66 mNef_66 mSef_66 mVaf_66 mLaf_66 v5 v6 v7 0))
def f_M_aggregate (N : Nat)  (mdL : Int32) (mdS : Int32) (mdQ : Int32) (mWhf : Nat → Int32) (mTrf : Nat → Int32) (mCof : Nat → Int32) (mWif : Nat → Int32) (mPcf : Nat → Int32) (mItf : Nat → Int32) (mRof : Nat → Int64) (mKnf : Nat → Int32) (mNef : Nat → Int64) (mSef : Nat → Int32) (mVaf : Nat → Int32) (mLaf : Nat → Int32) (v1 : Int32) (v2 : Int32) (v3 : Int32) (v4 : Int32) : Option (Int32 × (Nat → Int64) × (Nat → Int32) × (Nat → Int64) × (Nat → Int32) × (Nat → Int32) × (Nat → Int32)) := fn_b1 (f_M_isQuestion mdQ v1) (fun r_2 => if r_2 = 0 then (some ((-1), mRof, mKnf, mNef, mSef, mVaf, mLaf)) else (fn_b1 (f_M_isNumber mdL v2) (fun r_10 => if r_10 = 0 then (some ((-1), mRof, mKnf, mNef, mSef, mVaf, mLaf)) else (if v3 < 0 then (some ((-1), mRof, mKnf, mNef, mSef, mVaf, mLaf)) else (if 2 < v3 then (some ((-1), mRof, mKnf, mNef, mSef, mVaf, mLaf)) else (if v4 < 1 then (some ((-1), mRof, mKnf, mNef, mSef, mVaf, mLaf)) else (if v4 ≤ 4 then (f_M_aggregate_52 N mdL mdS mdQ mWhf mTrf mCof mWif mPcf mItf v1 v2 v3 v4 N mRof mKnf mNef mSef mVaf mLaf 0 16 (-1) 0) else (some ((-1), mRof, mKnf, mNef, mSef, mVaf, mLaf)))))))))
def f_M_again_61 (N : Nat)  (mdS : Int32) (mWhf : Nat → Int32) (mTrf : Nat → Int32) (mCof : Nat → Int32) (mWif : Nat → Int32) (mPcf : Nat → Int32) (mItf : Nat → Int32) (r23 : (Nat → Int64) → (Nat → Int64) → (Nat → Int32) → (Nat → Int32) → (Nat → Int32) → Int32 → Int32 → Option (Int32 × (Nat → Int64) × (Nat → Int64) × (Nat → Int32) × (Nat → Int32) × (Nat → Int32))) (mRof : Nat → Int64) (mNef : Nat → Int64) (mSef : Nat → Int32) (mVaf : Nat → Int32) (mLaf : Nat → Int32) (v3 : Int32) (v5 : Int32) (s0 : Int32) : Option (Int32 × (Nat → Int64) × (Nat → Int64) × (Nat → Int32) × (Nat → Int32) × (Nat → Int32)) := if fn_in v5 1024 = true then (if fn_in (v3 + v5) 761856 = true then ((r23) (vp_updL mRof (Int32.toNatClampNeg (v3 + v5)) (mNef (Int32.toNatClampNeg v5))) mNef mSef mVaf mLaf s0 (v5 + 1)) else none) else none
def f_M_again_56 (N : Nat)  (mdS : Int32) (mWhf : Nat → Int32) (mTrf : Nat → Int32) (mCof : Nat → Int32) (mWif : Nat → Int32) (mPcf : Nat → Int32) (mItf : Nat → Int32) (r23 : (Nat → Int64) → (Nat → Int64) → (Nat → Int32) → (Nat → Int32) → (Nat → Int32) → Int32 → Int32 → Option (Int32 × (Nat → Int64) × (Nat → Int64) × (Nat → Int32) × (Nat → Int32) × (Nat → Int32))) (mRof : Nat → Int64) (mNef : Nat → Int64) (mSef : Nat → Int32) (mVaf : Nat → Int32) (mLaf : Nat → Int32) (v3 : Int32) (v5 : Int32) : Option (Int32 × (Nat → Int64) × (Nat → Int64) × (Nat → Int32) × (Nat → Int32) × (Nat → Int32)) := f_M_again_61 N mdS mWhf mTrf mCof mWif mPcf mItf r23 mRof mNef mSef mVaf mLaf v3 v5 1
def f_M_again_23 (N : Nat)  (mdS : Int32) (mWhf : Nat → Int32) (mTrf : Nat → Int32) (mCof : Nat → Int32) (mWif : Nat → Int32) (mPcf : Nat → Int32) (mItf : Nat → Int32)  (v3 : Int32) : Nat → (Nat → Int64) → (Nat → Int64) → (Nat → Int32) → (Nat → Int32) → (Nat → Int32) → Int32 → Int32 → Option (Int32 × (Nat → Int64) × (Nat → Int64) × (Nat → Int32) × (Nat → Int32) × (Nat → Int32))
  | 0, _, _, _, _, _, _, _ => none
  | n_23 + 1, mRof, mNef, mSef, mVaf, mLaf, v4, v5 => if 1024 ≤ v5 then (if fn_z v4 = true then (some (v4, mRof, mNef, mSef, mVaf, mLaf)) else none) else (if v4 = 0 then (if fn_in (v3 + v5) 761856 = true then (if fn_in v5 1024 = true then (if (lg_cmp (mRof (Int32.toNatClampNeg (v3 + v5))) (mNef (Int32.toNatClampNeg v5))) = 0 then (f_M_again_61 N mdS mWhf mTrf mCof mWif mPcf mItf (f_M_again_23 N mdS mWhf mTrf mCof mWif mPcf mItf v3 n_23) mRof mNef mSef mVaf mLaf v3 v5 0) else (f_M_again_56 N mdS mWhf mTrf mCof mWif mPcf mItf (f_M_again_23 N mdS mWhf mTrf mCof mWif mPcf mItf v3 n_23) mRof mNef mSef mVaf mLaf v3 v5)) else none) else none) else (f_M_again_56 N mdS mWhf mTrf mCof mWif mPcf mItf (f_M_again_23 N mdS mWhf mTrf mCof mWif mPcf mItf v3 n_23) mRof mNef mSef mVaf mLaf v3 v5))
def f_M_again (N : Nat)  (mdS : Int32) (mWhf : Nat → Int32) (mTrf : Nat → Int32) (mCof : Nat → Int32) (mWif : Nat → Int32) (mPcf : Nat → Int32) (mItf : Nat → Int32) (mRof : Nat → Int64) (mNef : Nat → Int64) (mSef : Nat → Int32) (mVaf : Nat → Int32) (mLaf : Nat → Int32) (v1 : Int32) (v2 : Int32) : Option (Int32 × (Nat → Int64) × (Nat → Int64) × (Nat → Int32) × (Nat → Int32) × (Nat → Int32)) := fn_b1 (f_M_at v1 v2) (fun r_6 => fn_b4 (f_M_ask N mdS mWhf mTrf mCof mWif mPcf mItf mNef mSef mVaf mLaf v1 v2) (fun mNef_14 mSef_14 mVaf_14 mLaf_14 => f_M_again_23 N mdS mWhf mTrf mCof mWif mPcf mItf (1024 * r_6) N mRof mNef_14 mSef_14 mVaf_14 mLaf_14 0 0))
def f_M_still_46 (N : Nat)  (mdL : Int32) (mdS : Int32) (mdQ : Int32) (mWhf : Nat → Int32) (mTrf : Nat → Int32) (mCof : Nat → Int32) (mWif : Nat → Int32) (mPcf : Nat → Int32) (mItf : Nat → Int32) (r17 : (Nat → Int64) → (Nat → Int32) → (Nat → Int64) → (Nat → Int32) → (Nat → Int32) → (Nat → Int32) → Int32 → Int32 → Option (Int32 × (Nat → Int64) × (Nat → Int32) × (Nat → Int64) × (Nat → Int32) × (Nat → Int32) × (Nat → Int32))) (v1 : Int32) (v2 : Int32) (v4 : Int32) (v5 : Int32) : Nat → (Nat → Int64) → (Nat → Int32) → (Nat → Int64) → (Nat → Int32) → (Nat → Int32) → (Nat → Int32) → Int32 → Int32 → Option (Int32 × (Nat → Int64) × (Nat → Int32) × (Nat → Int64) × (Nat → Int32) × (Nat → Int32) × (Nat → Int32))
  | 0, _, _, _, _, _, _, _, _ => none
  | n_46 + 1, mRof, mKnf, mNef, mSef, mVaf, mLaf, v3, v6 => if 1024 ≤ v6 then (if v3 = 0 then ((r17) mRof mKnf mNef mSef mVaf mLaf (v2 - 0) v3) else ((r17) mRof mKnf mNef mSef mVaf mLaf (v2 - 1) v3)) else (if v3 = 0 then (if v3 = 0 then ((r17) mRof mKnf mNef mSef mVaf mLaf (v2 - 0) v3) else ((r17) mRof mKnf mNef mSef mVaf mLaf (v2 - 1) v3)) else (if fn_in (v4 + v6) 761856 = true then (if fn_in (v5 + v6) 761856 = true then (if (lg_cmp (mRof (Int32.toNatClampNeg (v4 + v6))) (mRof (Int32.toNatClampNeg (v5 + v6)))) = 0 then ((f_M_still_46 N mdL mdS mdQ mWhf mTrf mCof mWif mPcf mItf r17 v1 v2 v4 v5 n_46) mRof mKnf mNef mSef mVaf mLaf 1 (v6 + 1)) else ((f_M_still_46 N mdL mdS mdQ mWhf mTrf mCof mWif mPcf mItf r17 v1 v2 v4 v5 n_46) mRof mKnf mNef mSef mVaf mLaf 0 (v6 + 1))) else none) else none))
def f_M_still_17 (N : Nat)  (mdL : Int32) (mdS : Int32) (mdQ : Int32) (mWhf : Nat → Int32) (mTrf : Nat → Int32) (mCof : Nat → Int32) (mWif : Nat → Int32) (mPcf : Nat → Int32) (mItf : Nat → Int32)  (v1 : Int32) : Nat → (Nat → Int64) → (Nat → Int32) → (Nat → Int64) → (Nat → Int32) → (Nat → Int32) → (Nat → Int32) → Int32 → Int32 → Option (Int32 × (Nat → Int64) × (Nat → Int32) × (Nat → Int64) × (Nat → Int32) × (Nat → Int32) × (Nat → Int32))
  | 0, _, _, _, _, _, _, _, _ => none
  | n_17 + 1, mRof, mKnf, mNef, mSef, mVaf, mLaf, v2, v3 => if v2 ≤ 0 then (some (v2, mRof, mKnf, mNef, mSef, mVaf, mLaf)) else (if v3 = 0 then (some (v2, mRof, mKnf, mNef, mSef, mVaf, mLaf)) else (fn_b7 (f_M_rowsOf N mdS mWhf mTrf mCof mWif mPcf mItf mRof mKnf mNef mSef mVaf mLaf v1 v2) (fun r_28 mRof_28 mKnf_28 mNef_28 mSef_28 mVaf_28 mLaf_28 => fn_b7 (f_M_rowsOf N mdS mWhf mTrf mCof mWif mPcf mItf mRof_28 mKnf_28 mNef_28 mSef_28 mVaf_28 mLaf_28 v1 (v2 - 1)) (fun r_38 mRof_38 mKnf_38 mNef_38 mSef_38 mVaf_38 mLaf_38 => f_M_still_46 N mdL mdS mdQ mWhf mTrf mCof mWif mPcf mItf (f_M_still_17 N mdL mdS mdQ mWhf mTrf mCof mWif mPcf mItf v1 n_17) v1 v2 r_28 r_38 N mRof_38 mKnf_38 mNef_38 mSef_38 mVaf_38 mLaf_38 v3 0))))
def f_M_still (N : Nat)  (mdL : Int32) (mdS : Int32) (mdQ : Int32) (mWhf : Nat → Int32) (mTrf : Nat → Int32) (mCof : Nat → Int32) (mWif : Nat → Int32) (mPcf : Nat → Int32) (mItf : Nat → Int32) (mRof : Nat → Int64) (mKnf : Nat → Int32) (mNef : Nat → Int64) (mSef : Nat → Int32) (mVaf : Nat → Int32) (mLaf : Nat → Int32) (v1 : Int32) : Option (Int32 × (Nat → Int64) × (Nat → Int32) × (Nat → Int64) × (Nat → Int32) × (Nat → Int32) × (Nat → Int32)) := fn_b1 (f_M_isQuestion mdQ v1) (fun r_2 => if r_2 = 0 then (some ((-1), mRof, mKnf, mNef, mSef, mVaf, mLaf)) else (f_M_still_17 N mdL mdS mdQ mWhf mTrf mCof mWif mPcf mItf v1 N mRof mKnf mNef mSef mVaf mLaf mdL 1))
def f_Rs_leastOf (N : Nat)  (xS : Int32) (xM : Nat) (xWf : Nat → Int32) (v1 : Int32) : Option (Int32) := fn_b1 (f_Rs_allValuesOf N xS xM xWf v1) (fun r_2 => if r_2 = 0 then (some (-2)) else (fn_b1 (f_Rs_bitAt N r_2 0) (fun r_17 => some r_17)))
def f_Rs_greatestOf (N : Nat)  (xS : Int32) (xM : Nat) (xWf : Nat → Int32) (v1 : Int32) : Option (Int32) := fn_b1 (f_Rs_allValuesOf N xS xM xWf v1) (fun r_2 => if r_2 = 0 then (some (-2)) else (fn_b1 (f_Ji_bitCount r_2) (fun r_17 => fn_b1 (f_Rs_bitAt N r_2 (r_17 - 1)) (fun r_22 => some r_22))))
def f_Sr_extend_81 (N : Nat)  (seOf : Nat → Int32) (srOf : Nat → Int32) (xM : Nat) (qP : Int32) (qIf : Nat → Int32) (qLf : Nat → Int32) (self : (Nat → Int32) → Int32 → (Nat → Int32) → Int32 → Int32 → Option ((Nat → Int32) × Int32 × (Nat → Int32)))  (v3 : Int32) (v4 : Int32) (v5 : Int32) : Nat → (Nat → Int32) → Int32 → (Nat → Int32) → Int32 → Option ((Nat → Int32) × Int32 × (Nat → Int32))
  | 0, _, _, _, _ => none
  | n_81 + 1, srVf, xS, xWf, v6 => if 16 ≤ v6 then (some (srVf, xS, xWf)) else (if (v5 >>> (v6 &&& 31)) = 0 then (some (srVf, xS, xWf)) else (fn_b1 (f_Rs_isFull xS xM) (fun r_97 => if r_97 = 0 then (if ((v5 >>> (v6 &&& 31)) &&& 1) = 0 then ((f_Sr_extend_81 N seOf srOf xM qP qIf qLf self v3 v4 v5 n_81) srVf xS xWf (v6 + 1)) else (if fn_in v3 4 = true then (fn_b3 (self (upd srVf (Int32.toNatClampNeg v3) v6) xS xWf (v3 + 1) ((v4 * 16) + v6)) (fun srVf_135 xS_135 xWf_135 => (f_Sr_extend_81 N seOf srOf xM qP qIf qLf self v3 v4 v5 n_81) srVf_135 xS_135 xWf_135 (v6 + 1))) else none)) else (some (srVf, xS, xWf)))))
def f_Sr_extend_21 (N : Nat)  (seOf : Nat → Int32) (srOf : Nat → Int32) (xM : Nat) (qP : Int32) (qIf : Nat → Int32) (qLf : Nat → Int32) (self : (Nat → Int32) → Int32 → (Nat → Int32) → Int32 → Int32 → Option ((Nat → Int32) × Int32 × (Nat → Int32)))  (v3 : Int32) (v4 : Int32) : Nat → (Nat → Int32) → Int32 → (Nat → Int32) → Int32 → Int32 → Option ((Nat → Int32) × Int32 × (Nat → Int32))
  | 0, _, _, _, _, _ => none
  | n_21 + 1, srVf, xS, xWf, v5, v6 => if qP ≤ v6 then (if v3 = 3 then (fn_b2 (f_Rs_add xS xM xWf v4 v5) (fun xS_74 xWf_74 => some (srVf, xS_74, xWf_74))) else (f_Sr_extend_81 N seOf srOf xM qP qIf qLf self v3 v4 v5 N srVf xS xWf 0)) else (if v5 = 0 then (if v3 = 3 then (fn_b2 (f_Rs_add xS xM xWf v4 v5) (fun xS_74 xWf_74 => some (srVf, xS_74, xWf_74))) else (f_Sr_extend_81 N seOf srOf xM qP qIf qLf self v3 v4 v5 N srVf xS xWf 0)) else (if fn_in v6 3 = true then (if (qLf (Int32.toNatClampNeg v6)) = v3 then (fn_b2 (f_Sr_filter N seOf srVf qIf v6 v3 v5) (fun r_53 srVf_53 => (f_Sr_extend_21 N seOf srOf xM qP qIf qLf self v3 v4 n_21) srVf_53 xS xWf r_53 (v6 + 1))) else ((f_Sr_extend_21 N seOf srOf xM qP qIf qLf self v3 v4 n_21) srVf xS xWf v5 (v6 + 1))) else none))
def f_Sr_extend (N : Nat) (seOf : Nat → Int32) (srOf : Nat → Int32) (xM : Nat) (qP : Int32) (qIf : Nat → Int32) (qLf : Nat → Int32) : Nat → (Nat → Int32) → Int32 → (Nat → Int32) → Int32 → Int32 → Option ((Nat → Int32) × Int32 × (Nat → Int32))
  | 0, _, _, _, _, _ => none
  | d_ + 1, srVf, xS, xWf, v3, v4 => if v3 < 0 then (some (srVf, xS, xWf)) else (if v3 < 4 then (if fn_in v3 4 = true then (f_Sr_extend_21 N seOf srOf xM qP qIf qLf (f_Sr_extend N seOf srOf xM qP qIf qLf d_) v3 v4 N srVf xS xWf (srOf (Int32.toNatClampNeg v3)) 0) else none) else (some (srVf, xS, xWf)))
def f_M_late_117 (N : Nat)  (mdL : Int32) (mdQ : Int32) (mWif : Nat → Int32) (mPcf : Nat → Int32) (mItf : Nat → Int32) (r102 : Int32 → (Nat → Int32) → (Nat → Int32) → (Nat → Int32) → (Nat → Int64) → (Nat → Int32) → (Nat → Int64) → (Nat → Int32) → (Nat → Int32) → (Nat → Int32) → Int32 → Int32 → Option (Int32 × Int32 × (Nat → Int32) × (Nat → Int32) × (Nat → Int32) × (Nat → Int64) × (Nat → Int32) × (Nat → Int64) × (Nat → Int32) × (Nat → Int32) × (Nat → Int32))) (v6 : Int32) (v7 : Int32) : Nat → Int32 → (Nat → Int32) → (Nat → Int32) → (Nat → Int32) → (Nat → Int64) → (Nat → Int32) → (Nat → Int64) → (Nat → Int32) → (Nat → Int32) → (Nat → Int32) → Int32 → Int32 → Option (Int32 × Int32 × (Nat → Int32) × (Nat → Int32) × (Nat → Int32) × (Nat → Int64) × (Nat → Int32) × (Nat → Int64) × (Nat → Int32) × (Nat → Int32) × (Nat → Int32))
  | 0, _, _, _, _, _, _, _, _, _, _, _, _ => none
  | n_117 + 1, mdS, mWhf, mTrf, mCof, mRof, mKnf, mNef, mSef, mVaf, mLaf, v8, v9 => if mdQ ≤ v9 then (if v8 = 0 then ((r102) mdS mWhf mTrf mCof mRof mKnf mNef mSef mVaf mLaf (v6 + 0) (v7 + 1)) else ((r102) mdS mWhf mTrf mCof mRof mKnf mNef mSef mVaf mLaf (v6 + 1) (v7 + 1))) else (fn_b6 (f_M_again N mdS mWhf mTrf mCof mWif mPcf mItf mRof mNef mSef mVaf mLaf v9 v7) (fun r_131 mRof_131 mNef_131 mSef_131 mVaf_131 mLaf_131 => if r_131 = 0 then (if v8 = 0 then ((f_M_late_117 N mdL mdQ mWif mPcf mItf r102 v6 v7 n_117) mdS mWhf mTrf mCof mRof_131 mKnf mNef_131 mSef_131 mVaf_131 mLaf_131 0 (v9 + 1)) else ((f_M_late_117 N mdL mdQ mWif mPcf mItf r102 v6 v7 n_117) mdS mWhf mTrf mCof mRof_131 mKnf mNef_131 mSef_131 mVaf_131 mLaf_131 1 (v9 + 1))) else ((f_M_late_117 N mdL mdQ mWif mPcf mItf r102 v6 v7 n_117) mdS mWhf mTrf mCof mRof_131 mKnf mNef_131 mSef_131 mVaf_131 mLaf_131 1 (v9 + 1))))
def f_M_late_102 (N : Nat)  (mdL : Int32) (mdQ : Int32) (mWif : Nat → Int32) (mPcf : Nat → Int32) (mItf : Nat → Int32)   : Nat → Int32 → (Nat → Int32) → (Nat → Int32) → (Nat → Int32) → (Nat → Int64) → (Nat → Int32) → (Nat → Int64) → (Nat → Int32) → (Nat → Int32) → (Nat → Int32) → Int32 → Int32 → Option (Int32 × Int32 × (Nat → Int32) × (Nat → Int32) × (Nat → Int32) × (Nat → Int64) × (Nat → Int32) × (Nat → Int64) × (Nat → Int32) × (Nat → Int32) × (Nat → Int32))
  | 0, _, _, _, _, _, _, _, _, _, _, _, _ => none
  | n_102 + 1, mdS, mWhf, mTrf, mCof, mRof, mKnf, mNef, mSef, mVaf, mLaf, v6, v7 => if mdL < v7 then (some (v6, mdS, mWhf, mTrf, mCof, mRof, mKnf, mNef, mSef, mVaf, mLaf)) else (f_M_late_117 N mdL mdQ mWif mPcf mItf (f_M_late_102 N mdL mdQ mWif mPcf mItf n_102) v6 v7 N mdS mWhf mTrf mCof mRof mKnf mNef mSef mVaf mLaf 0 0)
def f_M_late_82 (N : Nat)  (mdL : Int32) (mdQ : Int32) (mWif : Nat → Int32) (mPcf : Nat → Int32) (mItf : Nat → Int32)  (mdS : Int32) (mWhf : Nat → Int32) (mTrf : Nat → Int32) (mCof : Nat → Int32) (mRof : Nat → Int64) (mKnf : Nat → Int32) (mNef : Nat → Int64) (mSef : Nat → Int32) (mVaf : Nat → Int32) (mLaf : Nat → Int32) (v1 : Int32) (v2 : Int32) (v3 : Int32) (v4 : Int32) (v5 : Int32) : Option (Int32 × Int32 × (Nat → Int32) × (Nat → Int32) × (Nat → Int32) × (Nat → Int64) × (Nat → Int32) × (Nat → Int64) × (Nat → Int32) × (Nat → Int32) × (Nat → Int32)) := fn_b1 (f_M_triple v2 v3 v4) (fun r_88 => fn_b4 (f_M_say mdS mWhf mTrf mCof v1 r_88 v5) (fun mdS_93 mWhf_93 mTrf_93 mCof_93 => f_M_late_102 N mdL mdQ mWif mPcf mItf N mdS_93 mWhf_93 mTrf_93 mCof_93 mRof mKnf mNef mSef mVaf mLaf 0 v1))
def f_M_late_52 (N : Nat)  (mdL : Int32) (mdQ : Int32) (mWif : Nat → Int32) (mPcf : Nat → Int32) (mItf : Nat → Int32) (r40 : Int32 → (Nat → Int32) → (Nat → Int32) → (Nat → Int32) → (Nat → Int64) → (Nat → Int32) → (Nat → Int64) → (Nat → Int32) → (Nat → Int32) → (Nat → Int32) → Int32 → Option (Int32 × Int32 × (Nat → Int32) × (Nat → Int32) × (Nat → Int32) × (Nat → Int64) × (Nat → Int32) × (Nat → Int64) × (Nat → Int32) × (Nat → Int32) × (Nat → Int32))) (v1 : Int32) (v2 : Int32) (v3 : Int32) (v4 : Int32) (v5 : Int32) (v6 : Int32) : Nat → Int32 → (Nat → Int32) → (Nat → Int32) → (Nat → Int32) → (Nat → Int64) → (Nat → Int32) → (Nat → Int64) → (Nat → Int32) → (Nat → Int32) → (Nat → Int32) → Int32 → Option (Int32 × Int32 × (Nat → Int32) × (Nat → Int32) × (Nat → Int32) × (Nat → Int64) × (Nat → Int32) × (Nat → Int64) × (Nat → Int32) × (Nat → Int32) × (Nat → Int32))
  | 0, _, _, _, _, _, _, _, _, _, _, _ => none
  | n_52 + 1, mdS, mWhf, mTrf, mCof, mRof, mKnf, mNef, mSef, mVaf, mLaf, v7 => if mdL < v7 then ((r40) mdS mWhf mTrf mCof mRof mKnf mNef mSef mVaf mLaf (v6 + 1)) else (fn_b7 (f_M_rowsOf N mdS mWhf mTrf mCof mWif mPcf mItf mRof mKnf mNef mSef mVaf mLaf v6 v7) (fun r_66 mRof_66 mKnf_66 mNef_66 mSef_66 mVaf_66 mLaf_66 => (f_M_late_52 N mdL mdQ mWif mPcf mItf r40 v1 v2 v3 v4 v5 v6 n_52) mdS mWhf mTrf mCof mRof_66 mKnf_66 mNef_66 mSef_66 mVaf_66 mLaf_66 (v7 + 1)))
def f_M_late_40 (N : Nat)  (mdL : Int32) (mdQ : Int32) (mWif : Nat → Int32) (mPcf : Nat → Int32) (mItf : Nat → Int32)  (v1 : Int32) (v2 : Int32) (v3 : Int32) (v4 : Int32) (v5 : Int32) : Nat → Int32 → (Nat → Int32) → (Nat → Int32) → (Nat → Int32) → (Nat → Int64) → (Nat → Int32) → (Nat → Int64) → (Nat → Int32) → (Nat → Int32) → (Nat → Int32) → Int32 → Option (Int32 × Int32 × (Nat → Int32) × (Nat → Int32) × (Nat → Int32) × (Nat → Int64) × (Nat → Int32) × (Nat → Int64) × (Nat → Int32) × (Nat → Int32) × (Nat → Int32))
  | 0, _, _, _, _, _, _, _, _, _, _, _ => none
  | n_40 + 1, mdS, mWhf, mTrf, mCof, mRof, mKnf, mNef, mSef, mVaf, mLaf, v6 => if mdQ ≤ v6 then (f_M_late_82 N mdL mdQ mWif mPcf mItf mdS mWhf mTrf mCof mRof mKnf mNef mSef mVaf mLaf v1 v2 v3 v4 v5) else (f_M_late_52 N mdL mdQ mWif mPcf mItf (f_M_late_40 N mdL mdQ mWif mPcf mItf v1 v2 v3 v4 v5 n_40) v1 v2 v3 v4 v5 v6 N mdS mWhf mTrf mCof mRof mKnf mNef mSef mVaf mLaf v1)
def f_M_late (N : Nat)  (mdL : Int32) (mdS : Int32) (mdQ : Int32) (mWhf : Nat → Int32) (mTrf : Nat → Int32) (mCof : Nat → Int32) (mWif : Nat → Int32) (mPcf : Nat → Int32) (mItf : Nat → Int32) (mRof : Nat → Int64) (mKnf : Nat → Int32) (mNef : Nat → Int64) (mSef : Nat → Int32) (mVaf : Nat → Int32) (mLaf : Nat → Int32) (v1 : Int32) (v2 : Int32) (v3 : Int32) (v4 : Int32) (v5 : Int32) : Option (Int32 × Int32 × (Nat → Int32) × (Nat → Int32) × (Nat → Int32) × (Nat → Int64) × (Nat → Int32) × (Nat → Int64) × (Nat → Int32) × (Nat → Int32) × (Nat → Int32)) := fn_b1 (f_M_isTriple v2 v3 v4) (fun r_4 => if r_4 = 0 then (some ((-1), mdS, mWhf, mTrf, mCof, mRof, mKnf, mNef, mSef, mVaf, mLaf)) else (if v1 < 0 then (some ((-1), mdS, mWhf, mTrf, mCof, mRof, mKnf, mNef, mSef, mVaf, mLaf)) else (if v1 < mdL then (if mdS = 400 then (some ((-3), mdS, mWhf, mTrf, mCof, mRof, mKnf, mNef, mSef, mVaf, mLaf)) else (f_M_late_40 N mdL mdQ mWif mPcf mItf v1 v2 v3 v4 v5 N mdS mWhf mTrf mCof mRof mKnf mNef mSef mVaf mLaf 0)) else (some ((-1), mdS, mWhf, mTrf, mCof, mRof, mKnf, mNef, mSef, mVaf, mLaf)))))
def f_Sr_run_2 (N : Nat)  (seOf : Nat → Int32) (xM : Nat) (qP : Int32) (qIf : Nat → Int32) (qLf : Nat → Int32)   : Nat → (Nat → Int32) → (Nat → Int32) → Int32 → (Nat → Int32) → Int32 → Option ((Nat → Int32) × (Nat → Int32) × Int32 × (Nat → Int32))
  | 0, _, _, _, _, _ => none
  | n_2 + 1, srOf, srVf, xS, xWf, v3 => if qP ≤ v3 then (fn_b3 (f_Sr_extend N seOf srOf xM qP qIf qLf 5 srVf xS xWf 0 0) (fun srVf_47 xS_47 xWf_47 => some (srOf, srVf_47, xS_47, xWf_47))) else (fn_b1 (f_Qu_itemAt qIf v3 0) (fun r_14 => fn_b1 (f_Qu_itemAt qIf v3 1) (fun r_20 => fn_b1 (f_Qu_itemAt qIf v3 2) (fun r_26 => fn_b2 (f_Sr_narrow N seOf srOf r_14 r_20 r_26) (fun r_29 srOf_29 => if r_29 = 0 then (some (srOf_29, srVf, xS, xWf)) else ((f_Sr_run_2 N seOf xM qP qIf qLf n_2) srOf_29 srVf xS xWf (v3 + 1)))))))
def f_Sr_run (N : Nat)  (seOf : Nat → Int32) (srOf : Nat → Int32) (srVf : Nat → Int32) (xS : Int32) (xM : Nat) (xWf : Nat → Int32) (qP : Int32) (qIf : Nat → Int32) (qLf : Nat → Int32)  : Option ((Nat → Int32) × (Nat → Int32) × Int32 × (Nat → Int32)) := f_Sr_run_2 N seOf xM qP qIf qLf N srOf srVf xS xWf 0
def f_C_fill (N : Nat)  (lgS : Int32) (lgAf : Nat → Int32) (lgTf : Nat → Int32) (lgCf : Nat → Int32) (seOf : Nat → Int32) (srOf : Nat → Int32) (srVf : Nat → Int32) (xS : Int32) (xM : Nat) (xWf : Nat → Int32) (qW : Int32) (qP : Int32) (qV : Int32) (qIf : Nat → Int32) (qLf : Nat → Int32) (v3 : Int32) : Option ((Nat → Int32) × (Nat → Int32) × (Nat → Int32) × Int32 × (Nat → Int32)) := fn_b1 (f_Rs_clear xS) (fun xS_1 => fn_b1 (f_Se_read N lgS lgAf lgTf lgCf seOf v3 qW) (fun seOf_17 => fn_b1 (f_Sr_begin N srOf qV) (fun srOf_25 => fn_b4 (f_Sr_run N seOf_17 srOf_25 srVf xS_1 xM xWf qP qIf qLf) (fun srOf_34 srVf_34 xS_34 xWf_34 => some (seOf_17, srOf_34, srVf_34, xS_34, xWf_34)))))
def f_C_findRows_42 (N : Nat) (rt : Nat) (rb : Nat) (lgS : Int32) (lgAf : Nat → Int32) (lgTf : Nat → Int32) (lgCf : Nat → Int32) (qW : Int32) (qP : Int32) (qV : Int32) (qIf : Nat → Int32) (qLf : Nat → Int32)  (seOf : Nat → Int32) (srOf : Nat → Int32) (srVf : Nat → Int32) (rtS : Int32) (rtWf : Nat → Int32) (rbS : Int32) (rbWf : Nat → Int32) (v3 : Int32) : Option (Nat × (Nat → Int32) × (Nat → Int32) × (Nat → Int32) × Int32 × (Nat → Int32) × Int32 × (Nat → Int32)) := if v3 = 1 then (fn_b2 (f_Rs_removeAll N rtS 4096 rtWf rbS 4096 rbWf) (fun rtS_55 rtWf_55 => some (rt, seOf, srOf, srVf, rtS_55, rtWf_55, rbS, rbWf))) else (fn_b2 (f_Rs_removeAll N rbS 4096 rbWf rtS 4096 rtWf) (fun rbS_71 rbWf_71 => some (rb, seOf, srOf, srVf, rtS, rtWf, rbS_71, rbWf_71)))
def f_C_findRows (N : Nat) (rt : Nat) (rb : Nat) (lgS : Int32) (lgAf : Nat → Int32) (lgTf : Nat → Int32) (lgCf : Nat → Int32) (seOf : Nat → Int32) (srOf : Nat → Int32) (srVf : Nat → Int32) (rtS : Int32) (rtWf : Nat → Int32) (rbS : Int32) (rbWf : Nat → Int32) (qW : Int32) (qP : Int32) (qV : Int32) (qIf : Nat → Int32) (qLf : Nat → Int32) (v2 : Int32) (v3 : Int32) : Option (Nat × (Nat → Int32) × (Nat → Int32) × (Nat → Int32) × Int32 × (Nat → Int32) × Int32 × (Nat → Int32)) := fn_b5 (f_C_fill N lgS lgAf lgTf lgCf seOf srOf srVf rtS 4096 rtWf qW qP qV qIf qLf v2) (fun seOf_7 srOf_7 srVf_7 rtS_7 rtWf_7 => if v3 = 0 then (some (rt, seOf_7, srOf_7, srVf_7, rtS_7, rtWf_7, rbS, rbWf)) else (fn_b1 (f_Rs_clear rbS) (fun rbS_23 => if v2 ≤ 0 then (f_C_findRows_42 N rt rb lgS lgAf lgTf lgCf qW qP qV qIf qLf seOf_7 srOf_7 srVf_7 rtS_7 rtWf_7 rbS_23 rbWf v3) else (fn_b5 (f_C_fill N lgS lgAf lgTf lgCf seOf_7 srOf_7 srVf_7 rbS_23 4096 rbWf qW qP qV qIf qLf (v2 - 1)) (fun seOf_39 srOf_39 srVf_39 rbS_39 rbWf_39 => f_C_findRows_42 N rt rb lgS lgAf lgTf lgCf qW qP qV qIf qLf seOf_39 srOf_39 srVf_39 rtS_7 rtWf_7 rbS_39 rbWf_39 v3)))))
def f_C_hasRowThrough_3 (N : Nat)  (lgS : Int32) (lgAf : Nat → Int32) (lgTf : Nat → Int32) (lgCf : Nat → Int32) (qW : Int32) (qP : Int32) (qV : Int32) (qIf : Nat → Int32) (qLf : Nat → Int32)  (v2 : Int32) (v3 : Int32) : Nat → (Nat → Int32) → (Nat → Int32) → (Nat → Int32) → Int32 → (Nat → Int32) → Int32 → Option (Int32 × (Nat → Int32) × (Nat → Int32) × (Nat → Int32) × Int32 × (Nat → Int32))
  | 0, _, _, _, _, _, _ => none
  | n_3 + 1, seOf, srOf, srVf, owS, owWf, v4 => if qP ≤ v4 then (some (0, seOf, srOf, srVf, owS, owWf)) else (fn_b1 (f_Sr_begin N srOf qV) (fun srOf_17 => fn_b2 (f_Sr_bind srOf_17 qIf v4 v3) (fun r_28 srOf_28 => if r_28 = 0 then ((f_C_hasRowThrough_3 N lgS lgAf lgTf lgCf qW qP qV qIf qLf v2 v3 n_3) seOf srOf_28 srVf owS owWf (v4 + 1)) else (fn_b1 (f_Rs_clear owS) (fun owS_38 => fn_b1 (f_Se_read N lgS lgAf lgTf lgCf seOf v2 qW) (fun seOf_54 => fn_b1 (f_Se_put seOf_54 v3 1) (fun seOf_63 => fn_b4 (f_Sr_run N seOf_63 srOf_28 srVf owS_38 1 owWf qP qIf qLf) (fun srOf_75 srVf_75 owS_75 owWf_75 => if owS_75 ≤ 0 then ((f_C_hasRowThrough_3 N lgS lgAf lgTf lgCf qW qP qV qIf qLf v2 v3 n_3) seOf_63 srOf_75 srVf_75 owS_75 owWf_75 (v4 + 1)) else (some (1, seOf_63, srOf_75, srVf_75, owS_75, owWf_75))))))))))
def f_C_hasRowThrough (N : Nat)  (lgS : Int32) (lgAf : Nat → Int32) (lgTf : Nat → Int32) (lgCf : Nat → Int32) (seOf : Nat → Int32) (srOf : Nat → Int32) (srVf : Nat → Int32) (owS : Int32) (owWf : Nat → Int32) (qW : Int32) (qP : Int32) (qV : Int32) (qIf : Nat → Int32) (qLf : Nat → Int32) (v2 : Int32) (v3 : Int32) : Option (Int32 × (Nat → Int32) × (Nat → Int32) × (Nat → Int32) × Int32 × (Nat → Int32)) := f_C_hasRowThrough_3 N lgS lgAf lgTf lgCf qW qP qV qIf qLf v2 v3 N seOf srOf srVf owS owWf 0
def f_C_rows  (crQ : Int32) (qsf : Nat → Option Nat) (v1 : Int32) (v2 : Int32) : Option (Int32) := fn_b1 (f_C_find crQ qsf v1) (fun r_2 => fn_o r_2 (some (-1)) (fun _ => none))
def f_C_rowsq (N : Nat) (rt : Nat) (rb : Nat) (q : Nat) (crL : Int32) (crQ : Int32) (qsf : Nat → Option Nat) (lgS : Int32) (lgAf : Nat → Int32) (lgTf : Nat → Int32) (lgCf : Nat → Int32) (seOf : Nat → Int32) (srOf : Nat → Int32) (srVf : Nat → Int32) (rtS : Int32) (rtWf : Nat → Int32) (rbS : Int32) (rbWf : Nat → Int32) (qW : Int32) (qP : Int32) (qV : Int32) (qIf : Nat → Int32) (qLf : Nat → Int32) (v1 : Int32) (v2 : Int32) : Option (Int32 × (Nat → Int32) × (Nat → Int32) × (Nat → Int32) × Int32 × (Nat → Int32) × Int32 × (Nat → Int32)) := fn_b1 (f_C_find crQ qsf v1) (fun r_2 => fn_o r_2 (some ((-1), seOf, srOf, srVf, rtS, rtWf, rbS, rbWf)) (fun aq => if aq = q then (fn_b1 (f_C_isPast crL v2) (fun r_12 => if r_12 = 0 then (some ((-1), seOf, srOf, srVf, rtS, rtWf, rbS, rbWf)) else (fn_b8 (f_C_findRows N rt rb lgS lgAf lgTf lgCf seOf srOf srVf rtS rtWf rbS rbWf qW qP qV qIf qLf v2 0) (fun r_24 seOf_24 srOf_24 srVf_24 rtS_24 rtWf_24 rbS_24 rbWf_24 => if r_24 = rt then (fn_b1 (f_Rs_count N rtS_24 4096 rtWf_24) (fun r_27 => some (r_27, seOf_24, srOf_24, srVf_24, rtS_24, rtWf_24, rbS_24, rbWf_24))) else (if r_24 = rb then (fn_b1 (f_Rs_count N rbS_24 4096 rbWf_24) (fun r_27 => some (r_27, seOf_24, srOf_24, srVf_24, rtS_24, rtWf_24, rbS_24, rbWf_24))) else (none)))))) else none))
def f_C_changed  (crQ : Int32) (qsf : Nat → Option Nat) (v1 : Int32) (v2 : Int32) (v3 : Int32) : Option (Int32) := fn_b1 (f_C_find crQ qsf v1) (fun r_2 => fn_o r_2 (some (-1)) (fun _ => none))
def f_C_changedq (N : Nat) (rt : Nat) (rb : Nat) (q : Nat) (crL : Int32) (crQ : Int32) (qsf : Nat → Option Nat) (lgS : Int32) (lgAf : Nat → Int32) (lgTf : Nat → Int32) (lgCf : Nat → Int32) (seOf : Nat → Int32) (srOf : Nat → Int32) (srVf : Nat → Int32) (rtS : Int32) (rtWf : Nat → Int32) (rbS : Int32) (rbWf : Nat → Int32) (qW : Int32) (qP : Int32) (qV : Int32) (qIf : Nat → Int32) (qLf : Nat → Int32) (v1 : Int32) (v2 : Int32) (v3 : Int32) : Option (Int32 × (Nat → Int32) × (Nat → Int32) × (Nat → Int32) × Int32 × (Nat → Int32) × Int32 × (Nat → Int32)) := fn_b1 (f_C_find crQ qsf v1) (fun r_2 => fn_o r_2 (some ((-1), seOf, srOf, srVf, rtS, rtWf, rbS, rbWf)) (fun aq => if aq = q then (fn_b1 (f_C_isPast crL v2) (fun r_14 => if r_14 = 0 then (some ((-1), seOf, srOf, srVf, rtS, rtWf, rbS, rbWf)) else (if v3 = 0 then (fn_b8 (f_C_findRows N rt rb lgS lgAf lgTf lgCf seOf srOf srVf rtS rtWf rbS rbWf qW qP qV qIf qLf v2 2) (fun r_35 seOf_35 srOf_35 srVf_35 rtS_35 rtWf_35 rbS_35 rbWf_35 => if r_35 = rt then (fn_b1 (f_Rs_count N rtS_35 4096 rtWf_35) (fun r_38 => some (r_38, seOf_35, srOf_35, srVf_35, rtS_35, rtWf_35, rbS_35, rbWf_35))) else (if r_35 = rb then (fn_b1 (f_Rs_count N rbS_35 4096 rbWf_35) (fun r_38 => some (r_38, seOf_35, srOf_35, srVf_35, rtS_35, rtWf_35, rbS_35, rbWf_35))) else (none)))) else (fn_b8 (f_C_findRows N rt rb lgS lgAf lgTf lgCf seOf srOf srVf rtS rtWf rbS rbWf qW qP qV qIf qLf v2 1) (fun r_35 seOf_35 srOf_35 srVf_35 rtS_35 rtWf_35 rbS_35 rbWf_35 => if r_35 = rt then (fn_b1 (f_Rs_count N rtS_35 4096 rtWf_35) (fun r_38 => some (r_38, seOf_35, srOf_35, srVf_35, rtS_35, rtWf_35, rbS_35, rbWf_35))) else (if r_35 = rb then (fn_b1 (f_Rs_count N rbS_35 4096 rbWf_35) (fun r_38 => some (r_38, seOf_35, srOf_35, srVf_35, rtS_35, rtWf_35, rbS_35, rbWf_35))) else (none))))))) else none))
def f_C_row  (crQ : Int32) (qsf : Nat → Option Nat) (v1 : Int32) (v2 : Int32) (v3 : Int32) (v4 : Int32) : Option (Int32) := fn_b1 (f_C_find crQ qsf v1) (fun r_2 => fn_o r_2 (some (-1)) (fun _ => none))
def f_C_rowq (N : Nat) (rt : Nat) (rb : Nat) (q : Nat) (crL : Int32) (crQ : Int32) (qsf : Nat → Option Nat) (lgS : Int32) (lgAf : Nat → Int32) (lgTf : Nat → Int32) (lgCf : Nat → Int32) (seOf : Nat → Int32) (srOf : Nat → Int32) (srVf : Nat → Int32) (rtS : Int32) (rtWf : Nat → Int32) (rbS : Int32) (rbWf : Nat → Int32) (qW : Int32) (qP : Int32) (qV : Int32) (qIf : Nat → Int32) (qLf : Nat → Int32) (v1 : Int32) (v2 : Int32) (v3 : Int32) (v4 : Int32) : Option (Int32 × (Nat → Int32) × (Nat → Int32) × (Nat → Int32) × Int32 × (Nat → Int32) × Int32 × (Nat → Int32)) := fn_b1 (f_C_find crQ qsf v1) (fun r_2 => fn_o r_2 (some ((-1), seOf, srOf, srVf, rtS, rtWf, rbS, rbWf)) (fun aq => if aq = q then (fn_b1 (f_C_isPast crL v2) (fun r_14 => if r_14 = 0 then (some ((-1), seOf, srOf, srVf, rtS, rtWf, rbS, rbWf)) else (if v3 < 0 then (some ((-1), seOf, srOf, srVf, rtS, rtWf, rbS, rbWf)) else (if v3 ≤ 2 then (fn_b8 (f_C_findRows N rt rb lgS lgAf lgTf lgCf seOf srOf srVf rtS rtWf rbS rbWf qW qP qV qIf qLf v2 v3) (fun r_36 seOf_36 srOf_36 srVf_36 rtS_36 rtWf_36 rbS_36 rbWf_36 => if r_36 = rt then (fn_b1 (f_Rs_keyAt N rtS_36 4096 rtWf_36 v4) (fun r_41 => some (r_41, seOf_36, srOf_36, srVf_36, rtS_36, rtWf_36, rbS_36, rbWf_36))) else (if r_36 = rb then (fn_b1 (f_Rs_keyAt N rbS_36 4096 rbWf_36 v4) (fun r_41 => some (r_41, seOf_36, srOf_36, srVf_36, rtS_36, rtWf_36, rbS_36, rbWf_36))) else (none)))) else (some ((-1), seOf, srOf, srVf, rtS, rtWf, rbS, rbWf)))))) else none))
def f_C_aggregate  (crQ : Int32) (qsf : Nat → Option Nat) (v1 : Int32) (v2 : Int32) (v3 : Int32) (v4 : Int32) : Option (Int32) := fn_b1 (f_C_find crQ qsf v1) (fun r_2 => fn_o r_2 (some (-1)) (fun _ => none))
def f_C_aggregateq (N : Nat) (rt : Nat) (rb : Nat) (q : Nat) (crL : Int32) (crQ : Int32) (qsf : Nat → Option Nat) (lgS : Int32) (lgAf : Nat → Int32) (lgTf : Nat → Int32) (lgCf : Nat → Int32) (seOf : Nat → Int32) (srOf : Nat → Int32) (srVf : Nat → Int32) (rtS : Int32) (rtWf : Nat → Int32) (rbS : Int32) (rbWf : Nat → Int32) (qW : Int32) (qP : Int32) (qV : Int32) (qIf : Nat → Int32) (qLf : Nat → Int32) (v1 : Int32) (v2 : Int32) (v3 : Int32) (v4 : Int32) : Option (Int32 × (Nat → Int32) × (Nat → Int32) × (Nat → Int32) × Int32 × (Nat → Int32) × Int32 × (Nat → Int32)) := fn_b1 (f_C_find crQ qsf v1) (fun r_2 => fn_o r_2 (some ((-1), seOf, srOf, srVf, rtS, rtWf, rbS, rbWf)) (fun aq => if aq = q then (fn_b1 (f_C_isPast crL v2) (fun r_14 => if r_14 = 0 then (some ((-1), seOf, srOf, srVf, rtS, rtWf, rbS, rbWf)) else (if v3 < 0 then (some ((-1), seOf, srOf, srVf, rtS, rtWf, rbS, rbWf)) else (if 2 < v3 then (some ((-1), seOf, srOf, srVf, rtS, rtWf, rbS, rbWf)) else (if v4 < 1 then (some ((-1), seOf, srOf, srVf, rtS, rtWf, rbS, rbWf)) else (if v4 ≤ 4 then (fn_b8 (f_C_findRows N rt rb lgS lgAf lgTf lgCf seOf srOf srVf rtS rtWf rbS rbWf qW qP qV qIf qLf v2 0) (fun r_48 seOf_48 srOf_48 srVf_48 rtS_48 rtWf_48 rbS_48 rbWf_48 => if r_48 = rt then (if v3 = 0 then (fn_b1 (f_Rs_sumOf N rtS_48 4096 rtWf_48 v4) (fun r_61 => some (r_61, seOf_48, srOf_48, srVf_48, rtS_48, rtWf_48, rbS_48, rbWf_48))) else (if v3 = 1 then (fn_b1 (f_Rs_leastOf N rtS_48 4096 rtWf_48 v4) (fun r_74 => some (r_74, seOf_48, srOf_48, srVf_48, rtS_48, rtWf_48, rbS_48, rbWf_48))) else (fn_b1 (f_Rs_greatestOf N rtS_48 4096 rtWf_48 v4) (fun r_84 => some (r_84, seOf_48, srOf_48, srVf_48, rtS_48, rtWf_48, rbS_48, rbWf_48))))) else (if r_48 = rb then (if v3 = 0 then (fn_b1 (f_Rs_sumOf N rbS_48 4096 rbWf_48 v4) (fun r_61 => some (r_61, seOf_48, srOf_48, srVf_48, rtS_48, rtWf_48, rbS_48, rbWf_48))) else (if v3 = 1 then (fn_b1 (f_Rs_leastOf N rbS_48 4096 rbWf_48 v4) (fun r_74 => some (r_74, seOf_48, srOf_48, srVf_48, rtS_48, rtWf_48, rbS_48, rbWf_48))) else (fn_b1 (f_Rs_greatestOf N rbS_48 4096 rbWf_48 v4) (fun r_84 => some (r_84, seOf_48, srOf_48, srVf_48, rtS_48, rtWf_48, rbS_48, rbWf_48))))) else (none)))) else (some ((-1), seOf, srOf, srVf, rtS, rtWf, rbS, rbWf)))))))) else none))
def f_C_still (N : Nat)  (crQ : Int32) (qsf : Nat → Option Nat) (v1 : Int32) : Option (Int32) := fn_b1 (f_C_find crQ qsf v1) (fun r_2 => fn_o r_2 (some (-1)) (fun _ => none))
def f_C_stillq_30 (N : Nat) (q : Nat) (crL : Int32) (crQ : Int32) (qsf : Nat → Option Nat) (lgS : Int32) (lgAf : Nat → Int32) (lgTf : Nat → Int32) (lgCf : Nat → Int32) (qW : Int32) (qP : Int32) (qV : Int32) (qIf : Nat → Int32) (qLf : Nat → Int32)   : Nat → (Nat → Int32) → (Nat → Int32) → (Nat → Int32) → Int32 → (Nat → Int32) → Int32 → (Nat → Int32) → Int32 → Option (Int32 × (Nat → Int32) × (Nat → Int32) × (Nat → Int32) × Int32 × (Nat → Int32) × Int32 × (Nat → Int32))
  | 0, _, _, _, _, _, _, _, _ => none
  | n_30 + 1, seOf, srOf, srVf, rtS, rtWf, rbS, rbWf, v3 => if v3 ≤ 0 then (some (0, seOf, srOf, srVf, rtS, rtWf, rbS, rbWf)) else (fn_b5 (f_C_fill N lgS lgAf lgTf lgCf seOf srOf srVf rbS 4096 rbWf qW qP qV qIf qLf (v3 - 1)) (fun seOf_43 srOf_43 srVf_43 rbS_43 rbWf_43 => fn_b1 (f_Rs_isSameAs N rbS_43 4096 rbWf_43 rtS 4096 rtWf) (fun r_54 => if r_54 = 0 then (some (v3, seOf_43, srOf_43, srVf_43, rtS, rtWf, rbS_43, rbWf_43)) else ((f_C_stillq_30 N q crL crQ qsf lgS lgAf lgTf lgCf qW qP qV qIf qLf n_30) seOf_43 srOf_43 srVf_43 rtS rtWf rbS_43 rbWf_43 (v3 + (-1))))))
def f_C_stillq (N : Nat) (q : Nat) (crL : Int32) (crQ : Int32) (qsf : Nat → Option Nat) (lgS : Int32) (lgAf : Nat → Int32) (lgTf : Nat → Int32) (lgCf : Nat → Int32) (seOf : Nat → Int32) (srOf : Nat → Int32) (srVf : Nat → Int32) (rtS : Int32) (rtWf : Nat → Int32) (rbS : Int32) (rbWf : Nat → Int32) (qW : Int32) (qP : Int32) (qV : Int32) (qIf : Nat → Int32) (qLf : Nat → Int32) (v1 : Int32) : Option (Int32 × (Nat → Int32) × (Nat → Int32) × (Nat → Int32) × Int32 × (Nat → Int32) × Int32 × (Nat → Int32)) := fn_b1 (f_C_find crQ qsf v1) (fun r_2 => fn_o r_2 (some ((-1), seOf, srOf, srVf, rtS, rtWf, rbS, rbWf)) (fun aq => if aq = q then (fn_b5 (f_C_fill N lgS lgAf lgTf lgCf seOf srOf srVf rtS 4096 rtWf qW qP qV qIf qLf crL) (fun seOf_22 srOf_22 srVf_22 rtS_22 rtWf_22 => f_C_stillq_30 N q crL crQ qsf lgS lgAf lgTf lgCf qW qP qV qIf qLf N seOf_22 srOf_22 srVf_22 rtS_22 rtWf_22 rbS rbWf crL)) else none))
def f_C_areRowsOthers_3 (L : List mt_Q) (N : Nat)  (crQ : Int32) (qsf : Nat → Option Nat) (lgS : Int32) (lgAf : Nat → Int32) (lgTf : Nat → Int32) (lgCf : Nat → Int32)  (v1 : Int32) (v2 : Int32) (v3 : Int32) (v4 : Int32) : Nat → (Nat → Int32) → (Nat → Int32) → (Nat → Int32) → Int32 → (Nat → Int32) → Int32 → Option (Int32 × (Nat → Int32) × (Nat → Int32) × (Nat → Int32) × Int32 × (Nat → Int32))
  | 0, _, _, _, _, _, _ => none
  | n_3 + 1, seOf, srOf, srVf, owS, owWf, v5 => if crQ ≤ v5 then (some (0, seOf, srOf, srVf, owS, owWf)) else (if fn_in v5 12 = true then (fn_o (qsf (Int32.toNatClampNeg v5)) ((f_C_areRowsOthers_3 L N crQ qsf lgS lgAf lgTf lgCf v1 v2 v3 v4 n_3) seOf srOf srVf owS owWf (v5 + 1)) (fun aq => fn_q L (Int32.toNatClampNeg v5) (fun q qI qL qW qP qV qIf qLf => if aq = q then (fn_b1 (f_Lg_shows lgS lgAf lgCf v3 v1 qW) (fun r_37 => fn_b1 (f_Lg_shows lgS lgAf lgCf v4 v1 qW) (fun r_52 => if r_37 = r_52 then ((f_C_areRowsOthers_3 L N crQ qsf lgS lgAf lgTf lgCf v1 v2 v3 v4 n_3) seOf srOf srVf owS owWf (v5 + 1)) else (fn_b6 (f_C_hasRowThrough N lgS lgAf lgTf lgCf seOf srOf srVf owS owWf qW qP qV qIf qLf v1 v2) (fun r_63 seOf_63 srOf_63 srVf_63 owS_63 owWf_63 => if r_63 = 0 then ((f_C_areRowsOthers_3 L N crQ qsf lgS lgAf lgTf lgCf v1 v2 v3 v4 n_3) seOf_63 srOf_63 srVf_63 owS_63 owWf_63 (v5 + 1)) else (some (1, seOf_63, srOf_63, srVf_63, owS_63, owWf_63))))))) else none))) else none)
def f_C_areRowsOthers (L : List mt_Q) (N : Nat)  (crQ : Int32) (qsf : Nat → Option Nat) (lgS : Int32) (lgAf : Nat → Int32) (lgTf : Nat → Int32) (lgCf : Nat → Int32) (seOf : Nat → Int32) (srOf : Nat → Int32) (srVf : Nat → Int32) (owS : Int32) (owWf : Nat → Int32) (v1 : Int32) (v2 : Int32) (v3 : Int32) (v4 : Int32) : Option (Int32 × (Nat → Int32) × (Nat → Int32) × (Nat → Int32) × Int32 × (Nat → Int32)) := f_C_areRowsOthers_3 L N crQ qsf lgS lgAf lgTf lgCf v1 v2 v3 v4 N seOf srOf srVf owS owWf 0
def f_C_late_89 (L : List mt_Q) (N : Nat)  (crL : Int32) (crQ : Int32) (qsf : Nat → Option Nat)  (v6 : Int32) (v7 : Int32) (v8 : Int32) (v9 : Int32) : Nat → Int32 → (Nat → Int32) → (Nat → Int32) → (Nat → Int32) → (Nat → Int32) → (Nat → Int32) → (Nat → Int32) → Int32 → (Nat → Int32) → Int32 → Int32 → Option (Int32 × Int32 × (Nat → Int32) × (Nat → Int32) × (Nat → Int32) × (Nat → Int32) × (Nat → Int32) × (Nat → Int32) × Int32 × (Nat → Int32))
  | 0, _, _, _, _, _, _, _, _, _, _, _ => none
  | n_89 + 1, lgS, lgAf, lgTf, lgCf, seOf, srOf, srVf, owS, owWf, v10, v11 => if crL < v11 then (some (v10, lgS, lgAf, lgTf, lgCf, seOf, srOf, srVf, owS, owWf)) else (if v9 ≤ v11 then (some (v10, lgS, lgAf, lgTf, lgCf, seOf, srOf, srVf, owS, owWf)) else (fn_b6 (f_C_areRowsOthers L N crQ qsf lgS lgAf lgTf lgCf seOf srOf srVf owS owWf v11 v6 v7 v8) (fun r_114 seOf_114 srOf_114 srVf_114 owS_114 owWf_114 => if r_114 = 0 then ((f_C_late_89 L N crL crQ qsf v6 v7 v8 v9 n_89) lgS lgAf lgTf lgCf seOf_114 srOf_114 srVf_114 owS_114 owWf_114 v10 (v11 + 1)) else ((f_C_late_89 L N crL crQ qsf v6 v7 v8 v9 n_89) lgS lgAf lgTf lgCf seOf_114 srOf_114 srVf_114 owS_114 owWf_114 (v10 + 1) (v11 + 1)))))
def f_C_late (L : List mt_Q) (N : Nat)  (crL : Int32) (crQ : Int32) (qsf : Nat → Option Nat) (lgS : Int32) (lgAf : Nat → Int32) (lgTf : Nat → Int32) (lgCf : Nat → Int32) (seOf : Nat → Int32) (srOf : Nat → Int32) (srVf : Nat → Int32) (owS : Int32) (owWf : Nat → Int32) (v1 : Int32) (v2 : Int32) (v3 : Int32) (v4 : Int32) (v5 : Int32) : Option (Int32 × Int32 × (Nat → Int32) × (Nat → Int32) × (Nat → Int32) × (Nat → Int32) × (Nat → Int32) × (Nat → Int32) × Int32 × (Nat → Int32)) := fn_b1 (f_C_isTriple v2 v3 v4) (fun r_4 => if r_4 = 0 then (some ((-1), lgS, lgAf, lgTf, lgCf, seOf, srOf, srVf, owS, owWf)) else (if v1 < 0 then (some ((-1), lgS, lgAf, lgTf, lgCf, seOf, srOf, srVf, owS, owWf)) else (if v1 < crL then (fn_b1 (f_Lg_isFull lgS) (fun r_28 => if r_28 = 0 then (fn_b1 (f_C_tripleOf v2 v3 v4) (fun r_41 => fn_b1 (f_Lg_lastOf N lgS lgAf lgTf r_41 v1) (fun r_53 => fn_b5 (f_Lg_say N lgS lgAf lgTf lgCf v1 r_41 v5) (fun r_67 lgS_67 lgAf_67 lgTf_67 lgCf_67 => fn_b1 (f_Lg_heldUntil N lgS_67 lgAf_67 lgTf_67 r_67) (fun r_78 => f_C_late_89 L N crL crQ qsf r_41 r_53 r_67 r_78 N lgS_67 lgAf_67 lgTf_67 lgCf_67 seOf srOf srVf owS owWf 0 v1))))) else (some ((-3), lgS, lgAf, lgTf, lgCf, seOf, srOf, srVf, owS, owWf)))) else (some ((-1), lgS, lgAf, lgTf, lgCf, seOf, srOf, srVf, owS, owWf)))))
end
section
theorem d_Lg_init_0 : decode b_Lg_init 0 = .ok (.aload_n 0, 1) := by decide +kernel
theorem d_Lg_init_1 : decode b_Lg_init 1 = .ok (.invokespecial 3, 3) := by decide +kernel
theorem d_Lg_init_4 : decode b_Lg_init 4 = .ok (.aload_n 0, 1) := by decide +kernel
theorem d_Lg_init_5 : decode b_Lg_init 5 = .ok (.sipush 400, 3) := by decide +kernel
theorem d_Lg_init_8 : decode b_Lg_init 8 = .ok (.newarray .int, 2) := by decide +kernel
theorem d_Lg_init_10 : decode b_Lg_init 10 = .ok (.putfield 9, 3) := by decide +kernel
theorem d_Lg_init_13 : decode b_Lg_init 13 = .ok (.aload_n 0, 1) := by decide +kernel
theorem d_Lg_init_14 : decode b_Lg_init 14 = .ok (.sipush 400, 3) := by decide +kernel
theorem d_Lg_init_17 : decode b_Lg_init 17 = .ok (.newarray .int, 2) := by decide +kernel
theorem d_Lg_init_19 : decode b_Lg_init 19 = .ok (.putfield 15, 3) := by decide +kernel
theorem d_Lg_init_22 : decode b_Lg_init 22 = .ok (.aload_n 0, 1) := by decide +kernel
theorem d_Lg_init_23 : decode b_Lg_init 23 = .ok (.sipush 400, 3) := by decide +kernel
theorem d_Lg_init_26 : decode b_Lg_init 26 = .ok (.newarray .boolean, 2) := by decide +kernel
theorem d_Lg_init_28 : decode b_Lg_init 28 = .ok (.putfield 18, 3) := by decide +kernel
theorem d_Lg_init_31 : decode b_Lg_init 31 = .ok (.return_, 1) := by decide +kernel
theorem d_Lg_isFull_0 : decode b_Lg_isFull 0 = .ok (.aload_n 0, 1) := by decide +kernel
theorem d_Lg_isFull_1 : decode b_Lg_isFull 1 = .ok (.getfield 22, 3) := by decide +kernel
theorem d_Lg_isFull_4 : decode b_Lg_isFull 4 = .ok (.sipush 400, 3) := by decide +kernel
theorem d_Lg_isFull_7 : decode b_Lg_isFull 7 = .ok (.if_icmp .lt 7, 3) := by decide +kernel
theorem d_Lg_isFull_10 : decode b_Lg_isFull 10 = .ok (.iconst 1, 1) := by decide +kernel
theorem d_Lg_isFull_11 : decode b_Lg_isFull 11 = .ok (.goto 4, 3) := by decide +kernel
theorem d_Lg_isFull_14 : decode b_Lg_isFull 14 = .ok (.iconst 0, 1) := by decide +kernel
theorem d_Lg_isFull_15 : decode b_Lg_isFull 15 = .ok (.ireturn, 1) := by decide +kernel
theorem d_Lg_say_0 : decode b_Lg_say 0 = .ok (.aload_n 0, 1) := by decide +kernel
theorem d_Lg_say_1 : decode b_Lg_say 1 = .ok (.invokevirtual 26, 3) := by decide +kernel
theorem d_Lg_say_4 : decode b_Lg_say 4 = .ok (.ifCond .eq 5, 3) := by decide +kernel
theorem d_Lg_say_7 : decode b_Lg_say 7 = .ok (.iconst (-1), 1) := by decide +kernel
theorem d_Lg_say_8 : decode b_Lg_say 8 = .ok (.ireturn, 1) := by decide +kernel
theorem d_Lg_say_9 : decode b_Lg_say 9 = .ok (.aload_n 0, 1) := by decide +kernel
theorem d_Lg_say_10 : decode b_Lg_say 10 = .ok (.getfield 22, 3) := by decide +kernel
theorem d_Lg_say_13 : decode b_Lg_say 13 = .ok (.istore 4, 2) := by decide +kernel
theorem d_Lg_say_15 : decode b_Lg_say 15 = .ok (.iload 4, 2) := by decide +kernel
theorem d_Lg_say_17 : decode b_Lg_say 17 = .ok (.ifCond .le 70, 3) := by decide +kernel
theorem d_Lg_say_20 : decode b_Lg_say 20 = .ok (.aload_n 0, 1) := by decide +kernel
theorem d_Lg_say_21 : decode b_Lg_say 21 = .ok (.getfield 9, 3) := by decide +kernel
theorem d_Lg_say_24 : decode b_Lg_say 24 = .ok (.iload 4, 2) := by decide +kernel
theorem d_Lg_say_26 : decode b_Lg_say 26 = .ok (.iconst 1, 1) := by decide +kernel
theorem d_Lg_say_27 : decode b_Lg_say 27 = .ok (.isub, 1) := by decide +kernel
theorem d_Lg_say_28 : decode b_Lg_say 28 = .ok (.iaload, 1) := by decide +kernel
theorem d_Lg_say_29 : decode b_Lg_say 29 = .ok (.iload_n 1, 1) := by decide +kernel
theorem d_Lg_say_30 : decode b_Lg_say 30 = .ok (.if_icmp .le 57, 3) := by decide +kernel
theorem d_Lg_say_33 : decode b_Lg_say 33 = .ok (.aload_n 0, 1) := by decide +kernel
theorem d_Lg_say_34 : decode b_Lg_say 34 = .ok (.getfield 9, 3) := by decide +kernel
theorem d_Lg_say_37 : decode b_Lg_say 37 = .ok (.iload 4, 2) := by decide +kernel
theorem d_Lg_say_39 : decode b_Lg_say 39 = .ok (.aload_n 0, 1) := by decide +kernel
theorem d_Lg_say_40 : decode b_Lg_say 40 = .ok (.getfield 9, 3) := by decide +kernel
theorem d_Lg_say_43 : decode b_Lg_say 43 = .ok (.iload 4, 2) := by decide +kernel
theorem d_Lg_say_45 : decode b_Lg_say 45 = .ok (.iconst 1, 1) := by decide +kernel
theorem d_Lg_say_46 : decode b_Lg_say 46 = .ok (.isub, 1) := by decide +kernel
theorem d_Lg_say_47 : decode b_Lg_say 47 = .ok (.iaload, 1) := by decide +kernel
theorem d_Lg_say_48 : decode b_Lg_say 48 = .ok (.iastore, 1) := by decide +kernel
theorem d_Lg_say_49 : decode b_Lg_say 49 = .ok (.aload_n 0, 1) := by decide +kernel
theorem d_Lg_say_50 : decode b_Lg_say 50 = .ok (.getfield 15, 3) := by decide +kernel
theorem d_Lg_say_53 : decode b_Lg_say 53 = .ok (.iload 4, 2) := by decide +kernel
theorem d_Lg_say_55 : decode b_Lg_say 55 = .ok (.aload_n 0, 1) := by decide +kernel
theorem d_Lg_say_56 : decode b_Lg_say 56 = .ok (.getfield 15, 3) := by decide +kernel
theorem d_Lg_say_59 : decode b_Lg_say 59 = .ok (.iload 4, 2) := by decide +kernel
theorem d_Lg_say_61 : decode b_Lg_say 61 = .ok (.iconst 1, 1) := by decide +kernel
theorem d_Lg_say_62 : decode b_Lg_say 62 = .ok (.isub, 1) := by decide +kernel
theorem d_Lg_say_63 : decode b_Lg_say 63 = .ok (.iaload, 1) := by decide +kernel
theorem d_Lg_say_64 : decode b_Lg_say 64 = .ok (.iastore, 1) := by decide +kernel
theorem d_Lg_say_65 : decode b_Lg_say 65 = .ok (.aload_n 0, 1) := by decide +kernel
theorem d_Lg_say_66 : decode b_Lg_say 66 = .ok (.getfield 18, 3) := by decide +kernel
theorem d_Lg_say_69 : decode b_Lg_say 69 = .ok (.iload 4, 2) := by decide +kernel
theorem d_Lg_say_71 : decode b_Lg_say 71 = .ok (.aload_n 0, 1) := by decide +kernel
theorem d_Lg_say_72 : decode b_Lg_say 72 = .ok (.getfield 18, 3) := by decide +kernel
theorem d_Lg_say_75 : decode b_Lg_say 75 = .ok (.iload 4, 2) := by decide +kernel
theorem d_Lg_say_77 : decode b_Lg_say 77 = .ok (.iconst 1, 1) := by decide +kernel
theorem d_Lg_say_78 : decode b_Lg_say 78 = .ok (.isub, 1) := by decide +kernel
theorem d_Lg_say_79 : decode b_Lg_say 79 = .ok (.baload, 1) := by decide +kernel
theorem d_Lg_say_80 : decode b_Lg_say 80 = .ok (.bastore, 1) := by decide +kernel
theorem d_Lg_say_81 : decode b_Lg_say 81 = .ok (.iinc 4 (-1), 3) := by decide +kernel
theorem d_Lg_say_84 : decode b_Lg_say 84 = .ok (.goto (-69), 3) := by decide +kernel
theorem d_Lg_say_87 : decode b_Lg_say 87 = .ok (.aload_n 0, 1) := by decide +kernel
theorem d_Lg_say_88 : decode b_Lg_say 88 = .ok (.getfield 9, 3) := by decide +kernel
theorem d_Lg_say_91 : decode b_Lg_say 91 = .ok (.iload 4, 2) := by decide +kernel
theorem d_Lg_say_93 : decode b_Lg_say 93 = .ok (.iload_n 1, 1) := by decide +kernel
theorem d_Lg_say_94 : decode b_Lg_say 94 = .ok (.iastore, 1) := by decide +kernel
theorem d_Lg_say_95 : decode b_Lg_say 95 = .ok (.aload_n 0, 1) := by decide +kernel
theorem d_Lg_say_96 : decode b_Lg_say 96 = .ok (.getfield 15, 3) := by decide +kernel
theorem d_Lg_say_99 : decode b_Lg_say 99 = .ok (.iload 4, 2) := by decide +kernel
theorem d_Lg_say_101 : decode b_Lg_say 101 = .ok (.iload_n 2, 1) := by decide +kernel
theorem d_Lg_say_102 : decode b_Lg_say 102 = .ok (.iastore, 1) := by decide +kernel
theorem d_Lg_say_103 : decode b_Lg_say 103 = .ok (.aload_n 0, 1) := by decide +kernel
theorem d_Lg_say_104 : decode b_Lg_say 104 = .ok (.getfield 18, 3) := by decide +kernel
theorem d_Lg_say_107 : decode b_Lg_say 107 = .ok (.iload 4, 2) := by decide +kernel
theorem d_Lg_say_109 : decode b_Lg_say 109 = .ok (.iload_n 3, 1) := by decide +kernel
theorem d_Lg_say_110 : decode b_Lg_say 110 = .ok (.bastore, 1) := by decide +kernel
theorem d_Lg_say_111 : decode b_Lg_say 111 = .ok (.aload_n 0, 1) := by decide +kernel
theorem d_Lg_say_112 : decode b_Lg_say 112 = .ok (.dup, 1) := by decide +kernel
theorem d_Lg_say_113 : decode b_Lg_say 113 = .ok (.getfield 22, 3) := by decide +kernel
theorem d_Lg_say_116 : decode b_Lg_say 116 = .ok (.iconst 1, 1) := by decide +kernel
theorem d_Lg_say_117 : decode b_Lg_say 117 = .ok (.iadd, 1) := by decide +kernel
theorem d_Lg_say_118 : decode b_Lg_say 118 = .ok (.putfield 22, 3) := by decide +kernel
theorem d_Lg_say_121 : decode b_Lg_say 121 = .ok (.iload 4, 2) := by decide +kernel
theorem d_Lg_say_123 : decode b_Lg_say 123 = .ok (.ireturn, 1) := by decide +kernel
theorem d_Lg_lastOf_0 : decode b_Lg_lastOf 0 = .ok (.aload_n 0, 1) := by decide +kernel
theorem d_Lg_lastOf_1 : decode b_Lg_lastOf 1 = .ok (.getfield 22, 3) := by decide +kernel
theorem d_Lg_lastOf_4 : decode b_Lg_lastOf 4 = .ok (.iconst 1, 1) := by decide +kernel
theorem d_Lg_lastOf_5 : decode b_Lg_lastOf 5 = .ok (.isub, 1) := by decide +kernel
theorem d_Lg_lastOf_6 : decode b_Lg_lastOf 6 = .ok (.istore_n 3, 1) := by decide +kernel
theorem d_Lg_lastOf_7 : decode b_Lg_lastOf 7 = .ok (.iload_n 3, 1) := by decide +kernel
theorem d_Lg_lastOf_8 : decode b_Lg_lastOf 8 = .ok (.ifCond .lt 31, 3) := by decide +kernel
theorem d_Lg_lastOf_11 : decode b_Lg_lastOf 11 = .ok (.aload_n 0, 1) := by decide +kernel
theorem d_Lg_lastOf_12 : decode b_Lg_lastOf 12 = .ok (.getfield 9, 3) := by decide +kernel
theorem d_Lg_lastOf_15 : decode b_Lg_lastOf 15 = .ok (.iload_n 3, 1) := by decide +kernel
theorem d_Lg_lastOf_16 : decode b_Lg_lastOf 16 = .ok (.iaload, 1) := by decide +kernel
theorem d_Lg_lastOf_17 : decode b_Lg_lastOf 17 = .ok (.iload_n 2, 1) := by decide +kernel
theorem d_Lg_lastOf_18 : decode b_Lg_lastOf 18 = .ok (.if_icmp .gt 15, 3) := by decide +kernel
theorem d_Lg_lastOf_21 : decode b_Lg_lastOf 21 = .ok (.aload_n 0, 1) := by decide +kernel
theorem d_Lg_lastOf_22 : decode b_Lg_lastOf 22 = .ok (.getfield 15, 3) := by decide +kernel
theorem d_Lg_lastOf_25 : decode b_Lg_lastOf 25 = .ok (.iload_n 3, 1) := by decide +kernel
theorem d_Lg_lastOf_26 : decode b_Lg_lastOf 26 = .ok (.iaload, 1) := by decide +kernel
theorem d_Lg_lastOf_27 : decode b_Lg_lastOf 27 = .ok (.iload_n 1, 1) := by decide +kernel
theorem d_Lg_lastOf_28 : decode b_Lg_lastOf 28 = .ok (.if_icmp .ne 5, 3) := by decide +kernel
theorem d_Lg_lastOf_31 : decode b_Lg_lastOf 31 = .ok (.iload_n 3, 1) := by decide +kernel
theorem d_Lg_lastOf_32 : decode b_Lg_lastOf 32 = .ok (.ireturn, 1) := by decide +kernel
theorem d_Lg_lastOf_33 : decode b_Lg_lastOf 33 = .ok (.iinc 3 (-1), 3) := by decide +kernel
theorem d_Lg_lastOf_36 : decode b_Lg_lastOf 36 = .ok (.goto (-29), 3) := by decide +kernel
theorem d_Lg_lastOf_39 : decode b_Lg_lastOf 39 = .ok (.iconst (-1), 1) := by decide +kernel
theorem d_Lg_lastOf_40 : decode b_Lg_lastOf 40 = .ok (.ireturn, 1) := by decide +kernel
theorem d_Lg_heldUntil_0 : decode b_Lg_heldUntil 0 = .ok (.aload_n 0, 1) := by decide +kernel
theorem d_Lg_heldUntil_1 : decode b_Lg_heldUntil 1 = .ok (.iload_n 1, 1) := by decide +kernel
theorem d_Lg_heldUntil_2 : decode b_Lg_heldUntil 2 = .ok (.invokevirtual 30, 3) := by decide +kernel
theorem d_Lg_heldUntil_5 : decode b_Lg_heldUntil 5 = .ok (.ifCond .ne 5, 3) := by decide +kernel
theorem d_Lg_heldUntil_8 : decode b_Lg_heldUntil 8 = .ok (.iconst 0, 1) := by decide +kernel
theorem d_Lg_heldUntil_9 : decode b_Lg_heldUntil 9 = .ok (.ireturn, 1) := by decide +kernel
theorem d_Lg_heldUntil_10 : decode b_Lg_heldUntil 10 = .ok (.iload_n 1, 1) := by decide +kernel
theorem d_Lg_heldUntil_11 : decode b_Lg_heldUntil 11 = .ok (.iconst 1, 1) := by decide +kernel
theorem d_Lg_heldUntil_12 : decode b_Lg_heldUntil 12 = .ok (.iadd, 1) := by decide +kernel
theorem d_Lg_heldUntil_13 : decode b_Lg_heldUntil 13 = .ok (.istore_n 2, 1) := by decide +kernel
theorem d_Lg_heldUntil_14 : decode b_Lg_heldUntil 14 = .ok (.iload_n 2, 1) := by decide +kernel
theorem d_Lg_heldUntil_15 : decode b_Lg_heldUntil 15 = .ok (.aload_n 0, 1) := by decide +kernel
theorem d_Lg_heldUntil_16 : decode b_Lg_heldUntil 16 = .ok (.getfield 22, 3) := by decide +kernel
theorem d_Lg_heldUntil_19 : decode b_Lg_heldUntil 19 = .ok (.if_icmp .ge 31, 3) := by decide +kernel
theorem d_Lg_heldUntil_22 : decode b_Lg_heldUntil 22 = .ok (.aload_n 0, 1) := by decide +kernel
theorem d_Lg_heldUntil_23 : decode b_Lg_heldUntil 23 = .ok (.getfield 15, 3) := by decide +kernel
theorem d_Lg_heldUntil_26 : decode b_Lg_heldUntil 26 = .ok (.iload_n 2, 1) := by decide +kernel
theorem d_Lg_heldUntil_27 : decode b_Lg_heldUntil 27 = .ok (.iaload, 1) := by decide +kernel
theorem d_Lg_heldUntil_28 : decode b_Lg_heldUntil 28 = .ok (.aload_n 0, 1) := by decide +kernel
theorem d_Lg_heldUntil_29 : decode b_Lg_heldUntil 29 = .ok (.getfield 15, 3) := by decide +kernel
theorem d_Lg_heldUntil_32 : decode b_Lg_heldUntil 32 = .ok (.iload_n 1, 1) := by decide +kernel
theorem d_Lg_heldUntil_33 : decode b_Lg_heldUntil 33 = .ok (.iaload, 1) := by decide +kernel
theorem d_Lg_heldUntil_34 : decode b_Lg_heldUntil 34 = .ok (.if_icmp .ne 10, 3) := by decide +kernel
theorem d_Lg_heldUntil_37 : decode b_Lg_heldUntil 37 = .ok (.aload_n 0, 1) := by decide +kernel
theorem d_Lg_heldUntil_38 : decode b_Lg_heldUntil 38 = .ok (.getfield 9, 3) := by decide +kernel
theorem d_Lg_heldUntil_41 : decode b_Lg_heldUntil 41 = .ok (.iload_n 2, 1) := by decide +kernel
theorem d_Lg_heldUntil_42 : decode b_Lg_heldUntil 42 = .ok (.iaload, 1) := by decide +kernel
theorem d_Lg_heldUntil_43 : decode b_Lg_heldUntil 43 = .ok (.ireturn, 1) := by decide +kernel
theorem d_Lg_heldUntil_44 : decode b_Lg_heldUntil 44 = .ok (.iinc 2 1, 3) := by decide +kernel
theorem d_Lg_heldUntil_47 : decode b_Lg_heldUntil 47 = .ok (.goto (-33), 3) := by decide +kernel
theorem d_Lg_heldUntil_50 : decode b_Lg_heldUntil 50 = .ok (.bipush 62, 2) := by decide +kernel
theorem d_Lg_heldUntil_52 : decode b_Lg_heldUntil 52 = .ok (.ireturn, 1) := by decide +kernel
theorem d_Lg_comesAt_0 : decode b_Lg_comesAt 0 = .ok (.aload_n 0, 1) := by decide +kernel
theorem d_Lg_comesAt_1 : decode b_Lg_comesAt 1 = .ok (.iload_n 1, 1) := by decide +kernel
theorem d_Lg_comesAt_2 : decode b_Lg_comesAt 2 = .ok (.invokevirtual 30, 3) := by decide +kernel
theorem d_Lg_comesAt_5 : decode b_Lg_comesAt 5 = .ok (.ifCond .eq 16, 3) := by decide +kernel
theorem d_Lg_comesAt_8 : decode b_Lg_comesAt 8 = .ok (.aload_n 0, 1) := by decide +kernel
theorem d_Lg_comesAt_9 : decode b_Lg_comesAt 9 = .ok (.getfield 18, 3) := by decide +kernel
theorem d_Lg_comesAt_12 : decode b_Lg_comesAt 12 = .ok (.iload_n 1, 1) := by decide +kernel
theorem d_Lg_comesAt_13 : decode b_Lg_comesAt 13 = .ok (.baload, 1) := by decide +kernel
theorem d_Lg_comesAt_14 : decode b_Lg_comesAt 14 = .ok (.ifCond .eq 7, 3) := by decide +kernel
theorem d_Lg_comesAt_17 : decode b_Lg_comesAt 17 = .ok (.iconst 1, 1) := by decide +kernel
theorem d_Lg_comesAt_18 : decode b_Lg_comesAt 18 = .ok (.goto 4, 3) := by decide +kernel
theorem d_Lg_comesAt_21 : decode b_Lg_comesAt 21 = .ok (.iconst 0, 1) := by decide +kernel
theorem d_Lg_comesAt_22 : decode b_Lg_comesAt 22 = .ok (.ireturn, 1) := by decide +kernel
theorem d_Lg_numberAt_0 : decode b_Lg_numberAt 0 = .ok (.aload_n 0, 1) := by decide +kernel
theorem d_Lg_numberAt_1 : decode b_Lg_numberAt 1 = .ok (.iload_n 1, 1) := by decide +kernel
theorem d_Lg_numberAt_2 : decode b_Lg_numberAt 2 = .ok (.invokevirtual 30, 3) := by decide +kernel
theorem d_Lg_numberAt_5 : decode b_Lg_numberAt 5 = .ok (.ifCond .eq 12, 3) := by decide +kernel
theorem d_Lg_numberAt_8 : decode b_Lg_numberAt 8 = .ok (.aload_n 0, 1) := by decide +kernel
theorem d_Lg_numberAt_9 : decode b_Lg_numberAt 9 = .ok (.getfield 9, 3) := by decide +kernel
theorem d_Lg_numberAt_12 : decode b_Lg_numberAt 12 = .ok (.iload_n 1, 1) := by decide +kernel
theorem d_Lg_numberAt_13 : decode b_Lg_numberAt 13 = .ok (.iaload, 1) := by decide +kernel
theorem d_Lg_numberAt_14 : decode b_Lg_numberAt 14 = .ok (.goto 4, 3) := by decide +kernel
theorem d_Lg_numberAt_17 : decode b_Lg_numberAt 17 = .ok (.iconst 0, 1) := by decide +kernel
theorem d_Lg_numberAt_18 : decode b_Lg_numberAt 18 = .ok (.ireturn, 1) := by decide +kernel
theorem d_Lg_shows_0 : decode b_Lg_shows 0 = .ok (.aload_n 0, 1) := by decide +kernel
theorem d_Lg_shows_1 : decode b_Lg_shows 1 = .ok (.iload_n 1, 1) := by decide +kernel
theorem d_Lg_shows_2 : decode b_Lg_shows 2 = .ok (.invokevirtual 30, 3) := by decide +kernel
theorem d_Lg_shows_5 : decode b_Lg_shows 5 = .ok (.ifCond .eq 32, 3) := by decide +kernel
theorem d_Lg_shows_8 : decode b_Lg_shows 8 = .ok (.aload_n 0, 1) := by decide +kernel
theorem d_Lg_shows_9 : decode b_Lg_shows 9 = .ok (.getfield 18, 3) := by decide +kernel
theorem d_Lg_shows_12 : decode b_Lg_shows 12 = .ok (.iload_n 1, 1) := by decide +kernel
theorem d_Lg_shows_13 : decode b_Lg_shows 13 = .ok (.baload, 1) := by decide +kernel
theorem d_Lg_shows_14 : decode b_Lg_shows 14 = .ok (.ifCond .eq 23, 3) := by decide +kernel
theorem d_Lg_shows_17 : decode b_Lg_shows 17 = .ok (.iload_n 3, 1) := by decide +kernel
theorem d_Lg_shows_18 : decode b_Lg_shows 18 = .ok (.ifCond .eq 15, 3) := by decide +kernel
theorem d_Lg_shows_21 : decode b_Lg_shows 21 = .ok (.iload_n 2, 1) := by decide +kernel
theorem d_Lg_shows_22 : decode b_Lg_shows 22 = .ok (.aload_n 0, 1) := by decide +kernel
theorem d_Lg_shows_23 : decode b_Lg_shows 23 = .ok (.getfield 9, 3) := by decide +kernel
theorem d_Lg_shows_26 : decode b_Lg_shows 26 = .ok (.iload_n 1, 1) := by decide +kernel
theorem d_Lg_shows_27 : decode b_Lg_shows 27 = .ok (.iaload, 1) := by decide +kernel
theorem d_Lg_shows_28 : decode b_Lg_shows 28 = .ok (.isub, 1) := by decide +kernel
theorem d_Lg_shows_29 : decode b_Lg_shows 29 = .ok (.iload_n 3, 1) := by decide +kernel
theorem d_Lg_shows_30 : decode b_Lg_shows 30 = .ok (.if_icmp .ge 7, 3) := by decide +kernel
theorem d_Lg_shows_33 : decode b_Lg_shows 33 = .ok (.iconst 1, 1) := by decide +kernel
theorem d_Lg_shows_34 : decode b_Lg_shows 34 = .ok (.goto 4, 3) := by decide +kernel
theorem d_Lg_shows_37 : decode b_Lg_shows 37 = .ok (.iconst 0, 1) := by decide +kernel
theorem d_Lg_shows_38 : decode b_Lg_shows 38 = .ok (.ireturn, 1) := by decide +kernel
theorem d_Lg_isPlace_0 : decode b_Lg_isPlace 0 = .ok (.iload_n 1, 1) := by decide +kernel
theorem d_Lg_isPlace_1 : decode b_Lg_isPlace 1 = .ok (.ifCond .lt 15, 3) := by decide +kernel
theorem d_Lg_isPlace_4 : decode b_Lg_isPlace 4 = .ok (.iload_n 1, 1) := by decide +kernel
theorem d_Lg_isPlace_5 : decode b_Lg_isPlace 5 = .ok (.aload_n 0, 1) := by decide +kernel
theorem d_Lg_isPlace_6 : decode b_Lg_isPlace 6 = .ok (.getfield 22, 3) := by decide +kernel
theorem d_Lg_isPlace_9 : decode b_Lg_isPlace 9 = .ok (.if_icmp .ge 7, 3) := by decide +kernel
theorem d_Lg_isPlace_12 : decode b_Lg_isPlace 12 = .ok (.iconst 1, 1) := by decide +kernel
theorem d_Lg_isPlace_13 : decode b_Lg_isPlace 13 = .ok (.goto 4, 3) := by decide +kernel
theorem d_Lg_isPlace_16 : decode b_Lg_isPlace 16 = .ok (.iconst 0, 1) := by decide +kernel
theorem d_Lg_isPlace_17 : decode b_Lg_isPlace 17 = .ok (.ireturn, 1) := by decide +kernel
theorem d_Jm_max_0 : decode b_Jm_max 0 = .ok (.iload_n 0, 1) := by decide +kernel
theorem d_Jm_max_1 : decode b_Jm_max 1 = .ok (.iload_n 1, 1) := by decide +kernel
theorem d_Jm_max_2 : decode b_Jm_max 2 = .ok (.if_icmp .lt 7, 3) := by decide +kernel
theorem d_Jm_max_5 : decode b_Jm_max 5 = .ok (.iload_n 0, 1) := by decide +kernel
theorem d_Jm_max_6 : decode b_Jm_max 6 = .ok (.goto 4, 3) := by decide +kernel
theorem d_Jm_max_9 : decode b_Jm_max 9 = .ok (.iload_n 1, 1) := by decide +kernel
theorem d_Jm_max_10 : decode b_Jm_max 10 = .ok (.ireturn, 1) := by decide +kernel
theorem d_Jm_floorMod_0 : decode b_Jm_floorMod 0 = .ok (.iload_n 0, 1) := by decide +kernel
theorem d_Jm_floorMod_1 : decode b_Jm_floorMod 1 = .ok (.iload_n 1, 1) := by decide +kernel
theorem d_Jm_floorMod_2 : decode b_Jm_floorMod 2 = .ok (.irem, 1) := by decide +kernel
theorem d_Jm_floorMod_3 : decode b_Jm_floorMod 3 = .ok (.istore_n 2, 1) := by decide +kernel
theorem d_Jm_floorMod_4 : decode b_Jm_floorMod 4 = .ok (.iload_n 0, 1) := by decide +kernel
theorem d_Jm_floorMod_5 : decode b_Jm_floorMod 5 = .ok (.iload_n 1, 1) := by decide +kernel
theorem d_Jm_floorMod_6 : decode b_Jm_floorMod 6 = .ok (.ixor, 1) := by decide +kernel
theorem d_Jm_floorMod_7 : decode b_Jm_floorMod 7 = .ok (.ifCond .ge 11, 3) := by decide +kernel
theorem d_Jm_floorMod_10 : decode b_Jm_floorMod 10 = .ok (.iload_n 2, 1) := by decide +kernel
theorem d_Jm_floorMod_11 : decode b_Jm_floorMod 11 = .ok (.ifCond .eq 7, 3) := by decide +kernel
theorem d_Jm_floorMod_14 : decode b_Jm_floorMod 14 = .ok (.iload_n 2, 1) := by decide +kernel
theorem d_Jm_floorMod_15 : decode b_Jm_floorMod 15 = .ok (.iload_n 1, 1) := by decide +kernel
theorem d_Jm_floorMod_16 : decode b_Jm_floorMod 16 = .ok (.iadd, 1) := by decide +kernel
theorem d_Jm_floorMod_17 : decode b_Jm_floorMod 17 = .ok (.ireturn, 1) := by decide +kernel
theorem d_Jm_floorMod_18 : decode b_Jm_floorMod 18 = .ok (.iload_n 2, 1) := by decide +kernel
theorem d_Jm_floorMod_19 : decode b_Jm_floorMod 19 = .ok (.ireturn, 1) := by decide +kernel
theorem d_Jm_min_0 : decode b_Jm_min 0 = .ok (.iload_n 0, 1) := by decide +kernel
theorem d_Jm_min_1 : decode b_Jm_min 1 = .ok (.iload_n 1, 1) := by decide +kernel
theorem d_Jm_min_2 : decode b_Jm_min 2 = .ok (.if_icmp .gt 7, 3) := by decide +kernel
theorem d_Jm_min_5 : decode b_Jm_min 5 = .ok (.iload_n 0, 1) := by decide +kernel
theorem d_Jm_min_6 : decode b_Jm_min 6 = .ok (.goto 4, 3) := by decide +kernel
theorem d_Jm_min_9 : decode b_Jm_min 9 = .ok (.iload_n 1, 1) := by decide +kernel
theorem d_Jm_min_10 : decode b_Jm_min 10 = .ok (.ireturn, 1) := by decide +kernel
theorem d_Ja_fill_0 : decode b_Ja_fill 0 = .ok (.iconst 0, 1) := by decide +kernel
theorem d_Ja_fill_1 : decode b_Ja_fill 1 = .ok (.istore_n 2, 1) := by decide +kernel
theorem d_Ja_fill_2 : decode b_Ja_fill 2 = .ok (.aload_n 0, 1) := by decide +kernel
theorem d_Ja_fill_3 : decode b_Ja_fill 3 = .ok (.arraylength, 1) := by decide +kernel
theorem d_Ja_fill_4 : decode b_Ja_fill 4 = .ok (.istore_n 3, 1) := by decide +kernel
theorem d_Ja_fill_5 : decode b_Ja_fill 5 = .ok (.iload_n 2, 1) := by decide +kernel
theorem d_Ja_fill_6 : decode b_Ja_fill 6 = .ok (.iload_n 3, 1) := by decide +kernel
theorem d_Ja_fill_7 : decode b_Ja_fill 7 = .ok (.if_icmp .ge 13, 3) := by decide +kernel
theorem d_Ja_fill_10 : decode b_Ja_fill 10 = .ok (.aload_n 0, 1) := by decide +kernel
theorem d_Ja_fill_11 : decode b_Ja_fill 11 = .ok (.iload_n 2, 1) := by decide +kernel
theorem d_Ja_fill_12 : decode b_Ja_fill 12 = .ok (.iload_n 1, 1) := by decide +kernel
theorem d_Ja_fill_13 : decode b_Ja_fill 13 = .ok (.iastore, 1) := by decide +kernel
theorem d_Ja_fill_14 : decode b_Ja_fill 14 = .ok (.iinc 2 1, 3) := by decide +kernel
theorem d_Ja_fill_17 : decode b_Ja_fill 17 = .ok (.goto (-12), 3) := by decide +kernel
theorem d_Ja_fill_20 : decode b_Ja_fill 20 = .ok (.return_, 1) := by decide +kernel
theorem d_Ji_bitCount_0 : decode b_Ji_bitCount 0 = .ok (.iload_n 0, 1) := by decide +kernel
theorem d_Ji_bitCount_1 : decode b_Ji_bitCount 1 = .ok (.iload_n 0, 1) := by decide +kernel
theorem d_Ji_bitCount_2 : decode b_Ji_bitCount 2 = .ok (.iconst 1, 1) := by decide +kernel
theorem d_Ji_bitCount_3 : decode b_Ji_bitCount 3 = .ok (.iushr, 1) := by decide +kernel
theorem d_Ji_bitCount_4 : decode b_Ji_bitCount 4 = .ok (.ldc_w 265, 3) := by decide +kernel
theorem d_Ji_bitCount_7 : decode b_Ji_bitCount 7 = .ok (.iand, 1) := by decide +kernel
theorem d_Ji_bitCount_8 : decode b_Ji_bitCount 8 = .ok (.isub, 1) := by decide +kernel
theorem d_Ji_bitCount_9 : decode b_Ji_bitCount 9 = .ok (.istore_n 0, 1) := by decide +kernel
theorem d_Ji_bitCount_10 : decode b_Ji_bitCount 10 = .ok (.iload_n 0, 1) := by decide +kernel
theorem d_Ji_bitCount_11 : decode b_Ji_bitCount 11 = .ok (.ldc_w 266, 3) := by decide +kernel
theorem d_Ji_bitCount_14 : decode b_Ji_bitCount 14 = .ok (.iand, 1) := by decide +kernel
theorem d_Ji_bitCount_15 : decode b_Ji_bitCount 15 = .ok (.iload_n 0, 1) := by decide +kernel
theorem d_Ji_bitCount_16 : decode b_Ji_bitCount 16 = .ok (.iconst 2, 1) := by decide +kernel
theorem d_Ji_bitCount_17 : decode b_Ji_bitCount 17 = .ok (.iushr, 1) := by decide +kernel
theorem d_Ji_bitCount_18 : decode b_Ji_bitCount 18 = .ok (.ldc_w 266, 3) := by decide +kernel
theorem d_Ji_bitCount_21 : decode b_Ji_bitCount 21 = .ok (.iand, 1) := by decide +kernel
theorem d_Ji_bitCount_22 : decode b_Ji_bitCount 22 = .ok (.iadd, 1) := by decide +kernel
theorem d_Ji_bitCount_23 : decode b_Ji_bitCount 23 = .ok (.istore_n 0, 1) := by decide +kernel
theorem d_Ji_bitCount_24 : decode b_Ji_bitCount 24 = .ok (.iload_n 0, 1) := by decide +kernel
theorem d_Ji_bitCount_25 : decode b_Ji_bitCount 25 = .ok (.iload_n 0, 1) := by decide +kernel
theorem d_Ji_bitCount_26 : decode b_Ji_bitCount 26 = .ok (.iconst 4, 1) := by decide +kernel
theorem d_Ji_bitCount_27 : decode b_Ji_bitCount 27 = .ok (.iushr, 1) := by decide +kernel
theorem d_Ji_bitCount_28 : decode b_Ji_bitCount 28 = .ok (.iadd, 1) := by decide +kernel
theorem d_Ji_bitCount_29 : decode b_Ji_bitCount 29 = .ok (.ldc_w 267, 3) := by decide +kernel
theorem d_Ji_bitCount_32 : decode b_Ji_bitCount 32 = .ok (.iand, 1) := by decide +kernel
theorem d_Ji_bitCount_33 : decode b_Ji_bitCount 33 = .ok (.istore_n 0, 1) := by decide +kernel
theorem d_Ji_bitCount_34 : decode b_Ji_bitCount 34 = .ok (.iload_n 0, 1) := by decide +kernel
theorem d_Ji_bitCount_35 : decode b_Ji_bitCount 35 = .ok (.iload_n 0, 1) := by decide +kernel
theorem d_Ji_bitCount_36 : decode b_Ji_bitCount 36 = .ok (.bipush 8, 2) := by decide +kernel
theorem d_Ji_bitCount_38 : decode b_Ji_bitCount 38 = .ok (.iushr, 1) := by decide +kernel
theorem d_Ji_bitCount_39 : decode b_Ji_bitCount 39 = .ok (.iadd, 1) := by decide +kernel
theorem d_Ji_bitCount_40 : decode b_Ji_bitCount 40 = .ok (.istore_n 0, 1) := by decide +kernel
theorem d_Ji_bitCount_41 : decode b_Ji_bitCount 41 = .ok (.iload_n 0, 1) := by decide +kernel
theorem d_Ji_bitCount_42 : decode b_Ji_bitCount 42 = .ok (.iload_n 0, 1) := by decide +kernel
theorem d_Ji_bitCount_43 : decode b_Ji_bitCount 43 = .ok (.bipush 16, 2) := by decide +kernel
theorem d_Ji_bitCount_45 : decode b_Ji_bitCount 45 = .ok (.iushr, 1) := by decide +kernel
theorem d_Ji_bitCount_46 : decode b_Ji_bitCount 46 = .ok (.iadd, 1) := by decide +kernel
theorem d_Ji_bitCount_47 : decode b_Ji_bitCount 47 = .ok (.istore_n 0, 1) := by decide +kernel
theorem d_Ji_bitCount_48 : decode b_Ji_bitCount 48 = .ok (.iload_n 0, 1) := by decide +kernel
theorem d_Ji_bitCount_49 : decode b_Ji_bitCount 49 = .ok (.bipush 63, 2) := by decide +kernel
theorem d_Ji_bitCount_51 : decode b_Ji_bitCount 51 = .ok (.iand, 1) := by decide +kernel
theorem d_Ji_bitCount_52 : decode b_Ji_bitCount 52 = .ok (.ireturn, 1) := by decide +kernel
end
section
theorem d_Qu_init_0 : decode b_Qu_init 0 = .ok (.aload_n 0, 1) := by decide +kernel
theorem d_Qu_init_1 : decode b_Qu_init 1 = .ok (.invokespecial 3, 3) := by decide +kernel
theorem d_Qu_init_4 : decode b_Qu_init 4 = .ok (.aload_n 0, 1) := by decide +kernel
theorem d_Qu_init_5 : decode b_Qu_init 5 = .ok (.bipush 9, 2) := by decide +kernel
theorem d_Qu_init_7 : decode b_Qu_init 7 = .ok (.newarray .int, 2) := by decide +kernel
theorem d_Qu_init_9 : decode b_Qu_init 9 = .ok (.putfield 9, 3) := by decide +kernel
theorem d_Qu_init_12 : decode b_Qu_init 12 = .ok (.aload_n 0, 1) := by decide +kernel
theorem d_Qu_init_13 : decode b_Qu_init 13 = .ok (.iconst 3, 1) := by decide +kernel
theorem d_Qu_init_14 : decode b_Qu_init 14 = .ok (.newarray .int, 2) := by decide +kernel
theorem d_Qu_init_16 : decode b_Qu_init 16 = .ok (.putfield 15, 3) := by decide +kernel
theorem d_Qu_init_19 : decode b_Qu_init 19 = .ok (.aload_n 0, 1) := by decide +kernel
theorem d_Qu_init_20 : decode b_Qu_init 20 = .ok (.iload_n 1, 1) := by decide +kernel
theorem d_Qu_init_21 : decode b_Qu_init 21 = .ok (.putfield 18, 3) := by decide +kernel
theorem d_Qu_init_24 : decode b_Qu_init 24 = .ok (.return_, 1) := by decide +kernel
theorem d_Qu_add_0 : decode b_Qu_add 0 = .ok (.aload_n 0, 1) := by decide +kernel
theorem d_Qu_add_1 : decode b_Qu_add 1 = .ok (.getfield 22, 3) := by decide +kernel
theorem d_Qu_add_4 : decode b_Qu_add 4 = .ok (.iconst 3, 1) := by decide +kernel
theorem d_Qu_add_5 : decode b_Qu_add 5 = .ok (.if_icmp .lt 5, 3) := by decide +kernel
theorem d_Qu_add_8 : decode b_Qu_add 8 = .ok (.iconst 0, 1) := by decide +kernel
theorem d_Qu_add_9 : decode b_Qu_add 9 = .ok (.ireturn, 1) := by decide +kernel
theorem d_Qu_add_10 : decode b_Qu_add 10 = .ok (.aload_n 0, 1) := by decide +kernel
theorem d_Qu_add_11 : decode b_Qu_add 11 = .ok (.getfield 9, 3) := by decide +kernel
theorem d_Qu_add_14 : decode b_Qu_add 14 = .ok (.aload_n 0, 1) := by decide +kernel
theorem d_Qu_add_15 : decode b_Qu_add 15 = .ok (.getfield 22, 3) := by decide +kernel
theorem d_Qu_add_18 : decode b_Qu_add 18 = .ok (.iconst 3, 1) := by decide +kernel
theorem d_Qu_add_19 : decode b_Qu_add 19 = .ok (.imul, 1) := by decide +kernel
theorem d_Qu_add_20 : decode b_Qu_add 20 = .ok (.iload_n 1, 1) := by decide +kernel
theorem d_Qu_add_21 : decode b_Qu_add 21 = .ok (.iastore, 1) := by decide +kernel
theorem d_Qu_add_22 : decode b_Qu_add 22 = .ok (.aload_n 0, 1) := by decide +kernel
theorem d_Qu_add_23 : decode b_Qu_add 23 = .ok (.getfield 9, 3) := by decide +kernel
theorem d_Qu_add_26 : decode b_Qu_add 26 = .ok (.aload_n 0, 1) := by decide +kernel
theorem d_Qu_add_27 : decode b_Qu_add 27 = .ok (.getfield 22, 3) := by decide +kernel
theorem d_Qu_add_30 : decode b_Qu_add 30 = .ok (.iconst 3, 1) := by decide +kernel
theorem d_Qu_add_31 : decode b_Qu_add 31 = .ok (.imul, 1) := by decide +kernel
theorem d_Qu_add_32 : decode b_Qu_add 32 = .ok (.iconst 1, 1) := by decide +kernel
theorem d_Qu_add_33 : decode b_Qu_add 33 = .ok (.iadd, 1) := by decide +kernel
theorem d_Qu_add_34 : decode b_Qu_add 34 = .ok (.iload_n 2, 1) := by decide +kernel
theorem d_Qu_add_35 : decode b_Qu_add 35 = .ok (.iastore, 1) := by decide +kernel
theorem d_Qu_add_36 : decode b_Qu_add 36 = .ok (.aload_n 0, 1) := by decide +kernel
theorem d_Qu_add_37 : decode b_Qu_add 37 = .ok (.getfield 9, 3) := by decide +kernel
theorem d_Qu_add_40 : decode b_Qu_add 40 = .ok (.aload_n 0, 1) := by decide +kernel
theorem d_Qu_add_41 : decode b_Qu_add 41 = .ok (.getfield 22, 3) := by decide +kernel
theorem d_Qu_add_44 : decode b_Qu_add 44 = .ok (.iconst 3, 1) := by decide +kernel
theorem d_Qu_add_45 : decode b_Qu_add 45 = .ok (.imul, 1) := by decide +kernel
theorem d_Qu_add_46 : decode b_Qu_add 46 = .ok (.iconst 2, 1) := by decide +kernel
theorem d_Qu_add_47 : decode b_Qu_add 47 = .ok (.iadd, 1) := by decide +kernel
theorem d_Qu_add_48 : decode b_Qu_add 48 = .ok (.iload_n 3, 1) := by decide +kernel
theorem d_Qu_add_49 : decode b_Qu_add 49 = .ok (.iastore, 1) := by decide +kernel
theorem d_Qu_add_50 : decode b_Qu_add 50 = .ok (.aload_n 0, 1) := by decide +kernel
theorem d_Qu_add_51 : decode b_Qu_add 51 = .ok (.getfield 15, 3) := by decide +kernel
theorem d_Qu_add_54 : decode b_Qu_add 54 = .ok (.aload_n 0, 1) := by decide +kernel
theorem d_Qu_add_55 : decode b_Qu_add 55 = .ok (.getfield 22, 3) := by decide +kernel
theorem d_Qu_add_58 : decode b_Qu_add 58 = .ok (.iconst (-1), 1) := by decide +kernel
theorem d_Qu_add_59 : decode b_Qu_add 59 = .ok (.iload_n 1, 1) := by decide +kernel
theorem d_Qu_add_60 : decode b_Qu_add 60 = .ok (.iload_n 2, 1) := by decide +kernel
theorem d_Qu_add_61 : decode b_Qu_add 61 = .ok (.iload_n 3, 1) := by decide +kernel
theorem d_Qu_add_62 : decode b_Qu_add 62 = .ok (.invokestatic 25, 3) := by decide +kernel
theorem d_Qu_add_65 : decode b_Qu_add 65 = .ok (.invokestatic 25, 3) := by decide +kernel
theorem d_Qu_add_68 : decode b_Qu_add 68 = .ok (.isub, 1) := by decide +kernel
theorem d_Qu_add_69 : decode b_Qu_add 69 = .ok (.iastore, 1) := by decide +kernel
theorem d_Qu_add_70 : decode b_Qu_add 70 = .ok (.aload_n 0, 1) := by decide +kernel
theorem d_Qu_add_71 : decode b_Qu_add 71 = .ok (.dup, 1) := by decide +kernel
theorem d_Qu_add_72 : decode b_Qu_add 72 = .ok (.getfield 22, 3) := by decide +kernel
theorem d_Qu_add_75 : decode b_Qu_add 75 = .ok (.iconst 1, 1) := by decide +kernel
theorem d_Qu_add_76 : decode b_Qu_add 76 = .ok (.iadd, 1) := by decide +kernel
theorem d_Qu_add_77 : decode b_Qu_add 77 = .ok (.putfield 22, 3) := by decide +kernel
theorem d_Qu_add_80 : decode b_Qu_add 80 = .ok (.aload_n 0, 1) := by decide +kernel
theorem d_Qu_add_81 : decode b_Qu_add 81 = .ok (.iload_n 1, 1) := by decide +kernel
theorem d_Qu_add_82 : decode b_Qu_add 82 = .ok (.invokevirtual 31, 3) := by decide +kernel
theorem d_Qu_add_85 : decode b_Qu_add 85 = .ok (.aload_n 0, 1) := by decide +kernel
theorem d_Qu_add_86 : decode b_Qu_add 86 = .ok (.iload_n 2, 1) := by decide +kernel
theorem d_Qu_add_87 : decode b_Qu_add 87 = .ok (.invokevirtual 31, 3) := by decide +kernel
theorem d_Qu_add_90 : decode b_Qu_add 90 = .ok (.aload_n 0, 1) := by decide +kernel
theorem d_Qu_add_91 : decode b_Qu_add 91 = .ok (.iload_n 3, 1) := by decide +kernel
theorem d_Qu_add_92 : decode b_Qu_add 92 = .ok (.invokevirtual 31, 3) := by decide +kernel
theorem d_Qu_add_95 : decode b_Qu_add 95 = .ok (.iconst 1, 1) := by decide +kernel
theorem d_Qu_add_96 : decode b_Qu_add 96 = .ok (.ireturn, 1) := by decide +kernel
theorem d_Qu_itemAt_0 : decode b_Qu_itemAt 0 = .ok (.iload_n 1, 1) := by decide +kernel
theorem d_Qu_itemAt_1 : decode b_Qu_itemAt 1 = .ok (.iconst 3, 1) := by decide +kernel
theorem d_Qu_itemAt_2 : decode b_Qu_itemAt 2 = .ok (.imul, 1) := by decide +kernel
theorem d_Qu_itemAt_3 : decode b_Qu_itemAt 3 = .ok (.iload_n 2, 1) := by decide +kernel
theorem d_Qu_itemAt_4 : decode b_Qu_itemAt 4 = .ok (.iadd, 1) := by decide +kernel
theorem d_Qu_itemAt_5 : decode b_Qu_itemAt 5 = .ok (.istore_n 3, 1) := by decide +kernel
theorem d_Qu_itemAt_6 : decode b_Qu_itemAt 6 = .ok (.iload_n 3, 1) := by decide +kernel
theorem d_Qu_itemAt_7 : decode b_Qu_itemAt 7 = .ok (.ifCond .lt 21, 3) := by decide +kernel
theorem d_Qu_itemAt_10 : decode b_Qu_itemAt 10 = .ok (.iload_n 3, 1) := by decide +kernel
theorem d_Qu_itemAt_11 : decode b_Qu_itemAt 11 = .ok (.aload_n 0, 1) := by decide +kernel
theorem d_Qu_itemAt_12 : decode b_Qu_itemAt 12 = .ok (.getfield 9, 3) := by decide +kernel
theorem d_Qu_itemAt_15 : decode b_Qu_itemAt 15 = .ok (.arraylength, 1) := by decide +kernel
theorem d_Qu_itemAt_16 : decode b_Qu_itemAt 16 = .ok (.if_icmp .ge 12, 3) := by decide +kernel
theorem d_Qu_itemAt_19 : decode b_Qu_itemAt 19 = .ok (.aload_n 0, 1) := by decide +kernel
theorem d_Qu_itemAt_20 : decode b_Qu_itemAt 20 = .ok (.getfield 9, 3) := by decide +kernel
theorem d_Qu_itemAt_23 : decode b_Qu_itemAt 23 = .ok (.iload_n 3, 1) := by decide +kernel
theorem d_Qu_itemAt_24 : decode b_Qu_itemAt 24 = .ok (.iaload, 1) := by decide +kernel
theorem d_Qu_itemAt_25 : decode b_Qu_itemAt 25 = .ok (.goto 4, 3) := by decide +kernel
theorem d_Qu_itemAt_28 : decode b_Qu_itemAt 28 = .ok (.iconst 0, 1) := by decide +kernel
theorem d_Qu_itemAt_29 : decode b_Qu_itemAt 29 = .ok (.ireturn, 1) := by decide +kernel
theorem d_Qu_uses_0 : decode b_Qu_uses 0 = .ok (.aload_n 0, 1) := by decide +kernel
theorem d_Qu_uses_1 : decode b_Qu_uses 1 = .ok (.getfield 35, 3) := by decide +kernel
theorem d_Qu_uses_4 : decode b_Qu_uses 4 = .ok (.iload_n 1, 1) := by decide +kernel
theorem d_Qu_uses_5 : decode b_Qu_uses 5 = .ok (.ishr, 1) := by decide +kernel
theorem d_Qu_uses_6 : decode b_Qu_uses 6 = .ok (.iconst 1, 1) := by decide +kernel
theorem d_Qu_uses_7 : decode b_Qu_uses 7 = .ok (.iand, 1) := by decide +kernel
theorem d_Qu_uses_8 : decode b_Qu_uses 8 = .ok (.ifCond .eq 7, 3) := by decide +kernel
theorem d_Qu_uses_11 : decode b_Qu_uses 11 = .ok (.iconst 1, 1) := by decide +kernel
theorem d_Qu_uses_12 : decode b_Qu_uses 12 = .ok (.goto 4, 3) := by decide +kernel
theorem d_Qu_uses_15 : decode b_Qu_uses 15 = .ok (.iconst 0, 1) := by decide +kernel
theorem d_Qu_uses_16 : decode b_Qu_uses 16 = .ok (.ireturn, 1) := by decide +kernel
theorem d_Qu_use_0 : decode b_Qu_use 0 = .ok (.iload_n 1, 1) := by decide +kernel
theorem d_Qu_use_1 : decode b_Qu_use 1 = .ok (.ifCond .ge 17, 3) := by decide +kernel
theorem d_Qu_use_4 : decode b_Qu_use 4 = .ok (.aload_n 0, 1) := by decide +kernel
theorem d_Qu_use_5 : decode b_Qu_use 5 = .ok (.dup, 1) := by decide +kernel
theorem d_Qu_use_6 : decode b_Qu_use 6 = .ok (.getfield 35, 3) := by decide +kernel
theorem d_Qu_use_9 : decode b_Qu_use 9 = .ok (.iconst 1, 1) := by decide +kernel
theorem d_Qu_use_10 : decode b_Qu_use 10 = .ok (.iconst (-1), 1) := by decide +kernel
theorem d_Qu_use_11 : decode b_Qu_use 11 = .ok (.iload_n 1, 1) := by decide +kernel
theorem d_Qu_use_12 : decode b_Qu_use 12 = .ok (.isub, 1) := by decide +kernel
theorem d_Qu_use_13 : decode b_Qu_use 13 = .ok (.ishl, 1) := by decide +kernel
theorem d_Qu_use_14 : decode b_Qu_use 14 = .ok (.ior, 1) := by decide +kernel
theorem d_Qu_use_15 : decode b_Qu_use 15 = .ok (.putfield 35, 3) := by decide +kernel
theorem d_Qu_use_18 : decode b_Qu_use 18 = .ok (.return_, 1) := by decide +kernel
theorem d_Rs_init_0 : decode b_Rs_init 0 = .ok (.aload_n 0, 1) := by decide +kernel
theorem d_Rs_init_1 : decode b_Rs_init 1 = .ok (.invokespecial 3, 3) := by decide +kernel
theorem d_Rs_init_4 : decode b_Rs_init 4 = .ok (.aload_n 0, 1) := by decide +kernel
theorem d_Rs_init_5 : decode b_Rs_init 5 = .ok (.iload_n 1, 1) := by decide +kernel
theorem d_Rs_init_6 : decode b_Rs_init 6 = .ok (.iconst 0, 1) := by decide +kernel
theorem d_Rs_init_7 : decode b_Rs_init 7 = .ok (.invokestatic 9, 3) := by decide +kernel
theorem d_Rs_init_10 : decode b_Rs_init 10 = .ok (.newarray .int, 2) := by decide +kernel
theorem d_Rs_init_12 : decode b_Rs_init 12 = .ok (.putfield 15, 3) := by decide +kernel
theorem d_Rs_init_15 : decode b_Rs_init 15 = .ok (.return_, 1) := by decide +kernel
theorem d_Rs_clear_0 : decode b_Rs_clear 0 = .ok (.aload_n 0, 1) := by decide +kernel
theorem d_Rs_clear_1 : decode b_Rs_clear 1 = .ok (.iconst 0, 1) := by decide +kernel
theorem d_Rs_clear_2 : decode b_Rs_clear 2 = .ok (.putfield 21, 3) := by decide +kernel
theorem d_Rs_clear_5 : decode b_Rs_clear 5 = .ok (.return_, 1) := by decide +kernel
theorem d_Rs_isFull_0 : decode b_Rs_isFull 0 = .ok (.aload_n 0, 1) := by decide +kernel
theorem d_Rs_isFull_1 : decode b_Rs_isFull 1 = .ok (.getfield 21, 3) := by decide +kernel
theorem d_Rs_isFull_4 : decode b_Rs_isFull 4 = .ok (.aload_n 0, 1) := by decide +kernel
theorem d_Rs_isFull_5 : decode b_Rs_isFull 5 = .ok (.getfield 15, 3) := by decide +kernel
theorem d_Rs_isFull_8 : decode b_Rs_isFull 8 = .ok (.arraylength, 1) := by decide +kernel
theorem d_Rs_isFull_9 : decode b_Rs_isFull 9 = .ok (.if_icmp .lt 7, 3) := by decide +kernel
theorem d_Rs_isFull_12 : decode b_Rs_isFull 12 = .ok (.iconst 1, 1) := by decide +kernel
theorem d_Rs_isFull_13 : decode b_Rs_isFull 13 = .ok (.goto 4, 3) := by decide +kernel
theorem d_Rs_isFull_16 : decode b_Rs_isFull 16 = .ok (.iconst 0, 1) := by decide +kernel
theorem d_Rs_isFull_17 : decode b_Rs_isFull 17 = .ok (.ireturn, 1) := by decide +kernel
theorem d_Rs_add_0 : decode b_Rs_add 0 = .ok (.iload_n 2, 1) := by decide +kernel
theorem d_Rs_add_1 : decode b_Rs_add 1 = .ok (.ifCond .eq 35, 3) := by decide +kernel
theorem d_Rs_add_4 : decode b_Rs_add 4 = .ok (.aload_n 0, 1) := by decide +kernel
theorem d_Rs_add_5 : decode b_Rs_add 5 = .ok (.invokevirtual 25, 3) := by decide +kernel
theorem d_Rs_add_8 : decode b_Rs_add 8 = .ok (.ifCond .ne 28, 3) := by decide +kernel
theorem d_Rs_add_11 : decode b_Rs_add 11 = .ok (.aload_n 0, 1) := by decide +kernel
theorem d_Rs_add_12 : decode b_Rs_add 12 = .ok (.getfield 15, 3) := by decide +kernel
theorem d_Rs_add_15 : decode b_Rs_add 15 = .ok (.aload_n 0, 1) := by decide +kernel
theorem d_Rs_add_16 : decode b_Rs_add 16 = .ok (.getfield 21, 3) := by decide +kernel
theorem d_Rs_add_19 : decode b_Rs_add 19 = .ok (.iload_n 1, 1) := by decide +kernel
theorem d_Rs_add_20 : decode b_Rs_add 20 = .ok (.bipush 16, 2) := by decide +kernel
theorem d_Rs_add_22 : decode b_Rs_add 22 = .ok (.ishl, 1) := by decide +kernel
theorem d_Rs_add_23 : decode b_Rs_add 23 = .ok (.iload_n 2, 1) := by decide +kernel
theorem d_Rs_add_24 : decode b_Rs_add 24 = .ok (.ior, 1) := by decide +kernel
theorem d_Rs_add_25 : decode b_Rs_add 25 = .ok (.iastore, 1) := by decide +kernel
theorem d_Rs_add_26 : decode b_Rs_add 26 = .ok (.aload_n 0, 1) := by decide +kernel
theorem d_Rs_add_27 : decode b_Rs_add 27 = .ok (.dup, 1) := by decide +kernel
theorem d_Rs_add_28 : decode b_Rs_add 28 = .ok (.getfield 21, 3) := by decide +kernel
theorem d_Rs_add_31 : decode b_Rs_add 31 = .ok (.iconst 1, 1) := by decide +kernel
theorem d_Rs_add_32 : decode b_Rs_add 32 = .ok (.iadd, 1) := by decide +kernel
theorem d_Rs_add_33 : decode b_Rs_add 33 = .ok (.putfield 21, 3) := by decide +kernel
theorem d_Rs_add_36 : decode b_Rs_add 36 = .ok (.return_, 1) := by decide +kernel
theorem d_Rs_removeAll_0 : decode b_Rs_removeAll 0 = .ok (.iconst 0, 1) := by decide +kernel
theorem d_Rs_removeAll_1 : decode b_Rs_removeAll 1 = .ok (.istore_n 2, 1) := by decide +kernel
theorem d_Rs_removeAll_2 : decode b_Rs_removeAll 2 = .ok (.iconst 0, 1) := by decide +kernel
theorem d_Rs_removeAll_3 : decode b_Rs_removeAll 3 = .ok (.istore_n 3, 1) := by decide +kernel
theorem d_Rs_removeAll_4 : decode b_Rs_removeAll 4 = .ok (.iconst 0, 1) := by decide +kernel
theorem d_Rs_removeAll_5 : decode b_Rs_removeAll 5 = .ok (.istore 4, 2) := by decide +kernel
theorem d_Rs_removeAll_7 : decode b_Rs_removeAll 7 = .ok (.iload 4, 2) := by decide +kernel
theorem d_Rs_removeAll_9 : decode b_Rs_removeAll 9 = .ok (.aload_n 0, 1) := by decide +kernel
theorem d_Rs_removeAll_10 : decode b_Rs_removeAll 10 = .ok (.getfield 21, 3) := by decide +kernel
theorem d_Rs_removeAll_13 : decode b_Rs_removeAll 13 = .ok (.if_icmp .ge 109, 3) := by decide +kernel
theorem d_Rs_removeAll_16 : decode b_Rs_removeAll 16 = .ok (.aload_n 0, 1) := by decide +kernel
theorem d_Rs_removeAll_17 : decode b_Rs_removeAll 17 = .ok (.getfield 15, 3) := by decide +kernel
theorem d_Rs_removeAll_20 : decode b_Rs_removeAll 20 = .ok (.iload 4, 2) := by decide +kernel
theorem d_Rs_removeAll_22 : decode b_Rs_removeAll 22 = .ok (.iaload, 1) := by decide +kernel
theorem d_Rs_removeAll_23 : decode b_Rs_removeAll 23 = .ok (.istore 5, 2) := by decide +kernel
theorem d_Rs_removeAll_25 : decode b_Rs_removeAll 25 = .ok (.iload_n 3, 1) := by decide +kernel
theorem d_Rs_removeAll_26 : decode b_Rs_removeAll 26 = .ok (.aload_n 1, 1) := by decide +kernel
theorem d_Rs_removeAll_27 : decode b_Rs_removeAll 27 = .ok (.getfield 21, 3) := by decide +kernel
theorem d_Rs_removeAll_30 : decode b_Rs_removeAll 30 = .ok (.if_icmp .ge 26, 3) := by decide +kernel
theorem d_Rs_removeAll_33 : decode b_Rs_removeAll 33 = .ok (.aload_n 1, 1) := by decide +kernel
theorem d_Rs_removeAll_34 : decode b_Rs_removeAll 34 = .ok (.getfield 15, 3) := by decide +kernel
theorem d_Rs_removeAll_37 : decode b_Rs_removeAll 37 = .ok (.iload_n 3, 1) := by decide +kernel
theorem d_Rs_removeAll_38 : decode b_Rs_removeAll 38 = .ok (.iaload, 1) := by decide +kernel
theorem d_Rs_removeAll_39 : decode b_Rs_removeAll 39 = .ok (.bipush 16, 2) := by decide +kernel
theorem d_Rs_removeAll_41 : decode b_Rs_removeAll 41 = .ok (.ishr, 1) := by decide +kernel
theorem d_Rs_removeAll_42 : decode b_Rs_removeAll 42 = .ok (.iload 5, 2) := by decide +kernel
theorem d_Rs_removeAll_44 : decode b_Rs_removeAll 44 = .ok (.bipush 16, 2) := by decide +kernel
theorem d_Rs_removeAll_46 : decode b_Rs_removeAll 46 = .ok (.ishr, 1) := by decide +kernel
theorem d_Rs_removeAll_47 : decode b_Rs_removeAll 47 = .ok (.if_icmp .ge 9, 3) := by decide +kernel
theorem d_Rs_removeAll_50 : decode b_Rs_removeAll 50 = .ok (.iinc 3 1, 3) := by decide +kernel
theorem d_Rs_removeAll_53 : decode b_Rs_removeAll 53 = .ok (.goto (-28), 3) := by decide +kernel
theorem d_Rs_removeAll_56 : decode b_Rs_removeAll 56 = .ok (.iload_n 3, 1) := by decide +kernel
theorem d_Rs_removeAll_57 : decode b_Rs_removeAll 57 = .ok (.aload_n 1, 1) := by decide +kernel
theorem d_Rs_removeAll_58 : decode b_Rs_removeAll 58 = .ok (.getfield 21, 3) := by decide +kernel
theorem d_Rs_removeAll_61 : decode b_Rs_removeAll 61 = .ok (.if_icmp .ge 36, 3) := by decide +kernel
theorem d_Rs_removeAll_64 : decode b_Rs_removeAll 64 = .ok (.aload_n 1, 1) := by decide +kernel
theorem d_Rs_removeAll_65 : decode b_Rs_removeAll 65 = .ok (.getfield 15, 3) := by decide +kernel
theorem d_Rs_removeAll_68 : decode b_Rs_removeAll 68 = .ok (.iload_n 3, 1) := by decide +kernel
theorem d_Rs_removeAll_69 : decode b_Rs_removeAll 69 = .ok (.iaload, 1) := by decide +kernel
theorem d_Rs_removeAll_70 : decode b_Rs_removeAll 70 = .ok (.bipush 16, 2) := by decide +kernel
theorem d_Rs_removeAll_72 : decode b_Rs_removeAll 72 = .ok (.ishr, 1) := by decide +kernel
theorem d_Rs_removeAll_73 : decode b_Rs_removeAll 73 = .ok (.iload 5, 2) := by decide +kernel
theorem d_Rs_removeAll_75 : decode b_Rs_removeAll 75 = .ok (.bipush 16, 2) := by decide +kernel
theorem d_Rs_removeAll_77 : decode b_Rs_removeAll 77 = .ok (.ishr, 1) := by decide +kernel
theorem d_Rs_removeAll_78 : decode b_Rs_removeAll 78 = .ok (.if_icmp .ne 19, 3) := by decide +kernel
theorem d_Rs_removeAll_81 : decode b_Rs_removeAll 81 = .ok (.iload 5, 2) := by decide +kernel
theorem d_Rs_removeAll_83 : decode b_Rs_removeAll 83 = .ok (.aload_n 1, 1) := by decide +kernel
theorem d_Rs_removeAll_84 : decode b_Rs_removeAll 84 = .ok (.getfield 15, 3) := by decide +kernel
theorem d_Rs_removeAll_87 : decode b_Rs_removeAll 87 = .ok (.iload_n 3, 1) := by decide +kernel
theorem d_Rs_removeAll_88 : decode b_Rs_removeAll 88 = .ok (.iaload, 1) := by decide +kernel
theorem d_Rs_removeAll_89 : decode b_Rs_removeAll 89 = .ok (.ldc 29, 2) := by decide +kernel
theorem d_Rs_removeAll_91 : decode b_Rs_removeAll 91 = .ok (.iand, 1) := by decide +kernel
theorem d_Rs_removeAll_92 : decode b_Rs_removeAll 92 = .ok (.iconst (-1), 1) := by decide +kernel
theorem d_Rs_removeAll_93 : decode b_Rs_removeAll 93 = .ok (.ixor, 1) := by decide +kernel
theorem d_Rs_removeAll_94 : decode b_Rs_removeAll 94 = .ok (.iand, 1) := by decide +kernel
theorem d_Rs_removeAll_95 : decode b_Rs_removeAll 95 = .ok (.istore 5, 2) := by decide +kernel
theorem d_Rs_removeAll_97 : decode b_Rs_removeAll 97 = .ok (.iload 5, 2) := by decide +kernel
theorem d_Rs_removeAll_99 : decode b_Rs_removeAll 99 = .ok (.ldc 29, 2) := by decide +kernel
theorem d_Rs_removeAll_101 : decode b_Rs_removeAll 101 = .ok (.iand, 1) := by decide +kernel
theorem d_Rs_removeAll_102 : decode b_Rs_removeAll 102 = .ok (.ifCond .eq 14, 3) := by decide +kernel
theorem d_Rs_removeAll_105 : decode b_Rs_removeAll 105 = .ok (.aload_n 0, 1) := by decide +kernel
theorem d_Rs_removeAll_106 : decode b_Rs_removeAll 106 = .ok (.getfield 15, 3) := by decide +kernel
theorem d_Rs_removeAll_109 : decode b_Rs_removeAll 109 = .ok (.iload_n 2, 1) := by decide +kernel
theorem d_Rs_removeAll_110 : decode b_Rs_removeAll 110 = .ok (.iload 5, 2) := by decide +kernel
theorem d_Rs_removeAll_112 : decode b_Rs_removeAll 112 = .ok (.iastore, 1) := by decide +kernel
theorem d_Rs_removeAll_113 : decode b_Rs_removeAll 113 = .ok (.iinc 2 1, 3) := by decide +kernel
theorem d_Rs_removeAll_116 : decode b_Rs_removeAll 116 = .ok (.iinc 4 1, 3) := by decide +kernel
theorem d_Rs_removeAll_119 : decode b_Rs_removeAll 119 = .ok (.goto (-112), 3) := by decide +kernel
theorem d_Rs_removeAll_122 : decode b_Rs_removeAll 122 = .ok (.aload_n 0, 1) := by decide +kernel
theorem d_Rs_removeAll_123 : decode b_Rs_removeAll 123 = .ok (.iload_n 2, 1) := by decide +kernel
theorem d_Rs_removeAll_124 : decode b_Rs_removeAll 124 = .ok (.putfield 21, 3) := by decide +kernel
theorem d_Rs_removeAll_127 : decode b_Rs_removeAll 127 = .ok (.return_, 1) := by decide +kernel
theorem d_Rs_isSameAs_0 : decode b_Rs_isSameAs 0 = .ok (.aload_n 0, 1) := by decide +kernel
theorem d_Rs_isSameAs_1 : decode b_Rs_isSameAs 1 = .ok (.getfield 21, 3) := by decide +kernel
theorem d_Rs_isSameAs_4 : decode b_Rs_isSameAs 4 = .ok (.aload_n 1, 1) := by decide +kernel
theorem d_Rs_isSameAs_5 : decode b_Rs_isSameAs 5 = .ok (.getfield 21, 3) := by decide +kernel
theorem d_Rs_isSameAs_8 : decode b_Rs_isSameAs 8 = .ok (.if_icmp .eq 5, 3) := by decide +kernel
theorem d_Rs_isSameAs_11 : decode b_Rs_isSameAs 11 = .ok (.iconst 0, 1) := by decide +kernel
theorem d_Rs_isSameAs_12 : decode b_Rs_isSameAs 12 = .ok (.ireturn, 1) := by decide +kernel
theorem d_Rs_isSameAs_13 : decode b_Rs_isSameAs 13 = .ok (.iconst 0, 1) := by decide +kernel
theorem d_Rs_isSameAs_14 : decode b_Rs_isSameAs 14 = .ok (.istore_n 2, 1) := by decide +kernel
theorem d_Rs_isSameAs_15 : decode b_Rs_isSameAs 15 = .ok (.iload_n 2, 1) := by decide +kernel
theorem d_Rs_isSameAs_16 : decode b_Rs_isSameAs 16 = .ok (.aload_n 0, 1) := by decide +kernel
theorem d_Rs_isSameAs_17 : decode b_Rs_isSameAs 17 = .ok (.getfield 21, 3) := by decide +kernel
theorem d_Rs_isSameAs_20 : decode b_Rs_isSameAs 20 = .ok (.if_icmp .ge 26, 3) := by decide +kernel
theorem d_Rs_isSameAs_23 : decode b_Rs_isSameAs 23 = .ok (.aload_n 0, 1) := by decide +kernel
theorem d_Rs_isSameAs_24 : decode b_Rs_isSameAs 24 = .ok (.getfield 15, 3) := by decide +kernel
theorem d_Rs_isSameAs_27 : decode b_Rs_isSameAs 27 = .ok (.iload_n 2, 1) := by decide +kernel
theorem d_Rs_isSameAs_28 : decode b_Rs_isSameAs 28 = .ok (.iaload, 1) := by decide +kernel
theorem d_Rs_isSameAs_29 : decode b_Rs_isSameAs 29 = .ok (.aload_n 1, 1) := by decide +kernel
theorem d_Rs_isSameAs_30 : decode b_Rs_isSameAs 30 = .ok (.getfield 15, 3) := by decide +kernel
theorem d_Rs_isSameAs_33 : decode b_Rs_isSameAs 33 = .ok (.iload_n 2, 1) := by decide +kernel
theorem d_Rs_isSameAs_34 : decode b_Rs_isSameAs 34 = .ok (.iaload, 1) := by decide +kernel
theorem d_Rs_isSameAs_35 : decode b_Rs_isSameAs 35 = .ok (.if_icmp .eq 5, 3) := by decide +kernel
theorem d_Rs_isSameAs_38 : decode b_Rs_isSameAs 38 = .ok (.iconst 0, 1) := by decide +kernel
theorem d_Rs_isSameAs_39 : decode b_Rs_isSameAs 39 = .ok (.ireturn, 1) := by decide +kernel
theorem d_Rs_isSameAs_40 : decode b_Rs_isSameAs 40 = .ok (.iinc 2 1, 3) := by decide +kernel
theorem d_Rs_isSameAs_43 : decode b_Rs_isSameAs 43 = .ok (.goto (-28), 3) := by decide +kernel
theorem d_Rs_isSameAs_46 : decode b_Rs_isSameAs 46 = .ok (.iconst 1, 1) := by decide +kernel
theorem d_Rs_isSameAs_47 : decode b_Rs_isSameAs 47 = .ok (.ireturn, 1) := by decide +kernel
theorem d_Rs_count_0 : decode b_Rs_count 0 = .ok (.iconst 0, 1) := by decide +kernel
theorem d_Rs_count_1 : decode b_Rs_count 1 = .ok (.istore_n 1, 1) := by decide +kernel
theorem d_Rs_count_2 : decode b_Rs_count 2 = .ok (.iconst 0, 1) := by decide +kernel
theorem d_Rs_count_3 : decode b_Rs_count 3 = .ok (.istore_n 2, 1) := by decide +kernel
theorem d_Rs_count_4 : decode b_Rs_count 4 = .ok (.iload_n 2, 1) := by decide +kernel
theorem d_Rs_count_5 : decode b_Rs_count 5 = .ok (.aload_n 0, 1) := by decide +kernel
theorem d_Rs_count_6 : decode b_Rs_count 6 = .ok (.getfield 21, 3) := by decide +kernel
theorem d_Rs_count_9 : decode b_Rs_count 9 = .ok (.if_icmp .ge 24, 3) := by decide +kernel
theorem d_Rs_count_12 : decode b_Rs_count 12 = .ok (.iload_n 1, 1) := by decide +kernel
theorem d_Rs_count_13 : decode b_Rs_count 13 = .ok (.aload_n 0, 1) := by decide +kernel
theorem d_Rs_count_14 : decode b_Rs_count 14 = .ok (.getfield 15, 3) := by decide +kernel
theorem d_Rs_count_17 : decode b_Rs_count 17 = .ok (.iload_n 2, 1) := by decide +kernel
theorem d_Rs_count_18 : decode b_Rs_count 18 = .ok (.iaload, 1) := by decide +kernel
theorem d_Rs_count_19 : decode b_Rs_count 19 = .ok (.ldc 29, 2) := by decide +kernel
theorem d_Rs_count_21 : decode b_Rs_count 21 = .ok (.iand, 1) := by decide +kernel
theorem d_Rs_count_22 : decode b_Rs_count 22 = .ok (.invokestatic 30, 3) := by decide +kernel
theorem d_Rs_count_25 : decode b_Rs_count 25 = .ok (.iadd, 1) := by decide +kernel
theorem d_Rs_count_26 : decode b_Rs_count 26 = .ok (.istore_n 1, 1) := by decide +kernel
theorem d_Rs_count_27 : decode b_Rs_count 27 = .ok (.iinc 2 1, 3) := by decide +kernel
theorem d_Rs_count_30 : decode b_Rs_count 30 = .ok (.goto (-26), 3) := by decide +kernel
theorem d_Rs_count_33 : decode b_Rs_count 33 = .ok (.iload_n 1, 1) := by decide +kernel
theorem d_Rs_count_34 : decode b_Rs_count 34 = .ok (.ireturn, 1) := by decide +kernel
theorem d_Rs_keyAt_0 : decode b_Rs_keyAt 0 = .ok (.iload_n 1, 1) := by decide +kernel
theorem d_Rs_keyAt_1 : decode b_Rs_keyAt 1 = .ok (.istore_n 2, 1) := by decide +kernel
theorem d_Rs_keyAt_2 : decode b_Rs_keyAt 2 = .ok (.iconst 0, 1) := by decide +kernel
theorem d_Rs_keyAt_3 : decode b_Rs_keyAt 3 = .ok (.istore_n 3, 1) := by decide +kernel
theorem d_Rs_keyAt_4 : decode b_Rs_keyAt 4 = .ok (.iload_n 3, 1) := by decide +kernel
theorem d_Rs_keyAt_5 : decode b_Rs_keyAt 5 = .ok (.aload_n 0, 1) := by decide +kernel
theorem d_Rs_keyAt_6 : decode b_Rs_keyAt 6 = .ok (.getfield 21, 3) := by decide +kernel
theorem d_Rs_keyAt_9 : decode b_Rs_keyAt 9 = .ok (.if_icmp .ge 62, 3) := by decide +kernel
theorem d_Rs_keyAt_12 : decode b_Rs_keyAt 12 = .ok (.iload_n 2, 1) := by decide +kernel
theorem d_Rs_keyAt_13 : decode b_Rs_keyAt 13 = .ok (.ifCond .lt 58, 3) := by decide +kernel
theorem d_Rs_keyAt_16 : decode b_Rs_keyAt 16 = .ok (.aload_n 0, 1) := by decide +kernel
theorem d_Rs_keyAt_17 : decode b_Rs_keyAt 17 = .ok (.getfield 15, 3) := by decide +kernel
theorem d_Rs_keyAt_20 : decode b_Rs_keyAt 20 = .ok (.iload_n 3, 1) := by decide +kernel
theorem d_Rs_keyAt_21 : decode b_Rs_keyAt 21 = .ok (.iaload, 1) := by decide +kernel
theorem d_Rs_keyAt_22 : decode b_Rs_keyAt 22 = .ok (.ldc 29, 2) := by decide +kernel
theorem d_Rs_keyAt_24 : decode b_Rs_keyAt 24 = .ok (.iand, 1) := by decide +kernel
theorem d_Rs_keyAt_25 : decode b_Rs_keyAt 25 = .ok (.invokestatic 30, 3) := by decide +kernel
theorem d_Rs_keyAt_28 : decode b_Rs_keyAt 28 = .ok (.istore 4, 2) := by decide +kernel
theorem d_Rs_keyAt_30 : decode b_Rs_keyAt 30 = .ok (.iload_n 2, 1) := by decide +kernel
theorem d_Rs_keyAt_31 : decode b_Rs_keyAt 31 = .ok (.iload 4, 2) := by decide +kernel
theorem d_Rs_keyAt_33 : decode b_Rs_keyAt 33 = .ok (.if_icmp .ge 27, 3) := by decide +kernel
theorem d_Rs_keyAt_36 : decode b_Rs_keyAt 36 = .ok (.aload_n 0, 1) := by decide +kernel
theorem d_Rs_keyAt_37 : decode b_Rs_keyAt 37 = .ok (.getfield 15, 3) := by decide +kernel
theorem d_Rs_keyAt_40 : decode b_Rs_keyAt 40 = .ok (.iload_n 3, 1) := by decide +kernel
theorem d_Rs_keyAt_41 : decode b_Rs_keyAt 41 = .ok (.iaload, 1) := by decide +kernel
theorem d_Rs_keyAt_42 : decode b_Rs_keyAt 42 = .ok (.bipush 16, 2) := by decide +kernel
theorem d_Rs_keyAt_44 : decode b_Rs_keyAt 44 = .ok (.ishr, 1) := by decide +kernel
theorem d_Rs_keyAt_45 : decode b_Rs_keyAt 45 = .ok (.bipush 16, 2) := by decide +kernel
theorem d_Rs_keyAt_47 : decode b_Rs_keyAt 47 = .ok (.imul, 1) := by decide +kernel
theorem d_Rs_keyAt_48 : decode b_Rs_keyAt 48 = .ok (.aload_n 0, 1) := by decide +kernel
theorem d_Rs_keyAt_49 : decode b_Rs_keyAt 49 = .ok (.getfield 15, 3) := by decide +kernel
theorem d_Rs_keyAt_52 : decode b_Rs_keyAt 52 = .ok (.iload_n 3, 1) := by decide +kernel
theorem d_Rs_keyAt_53 : decode b_Rs_keyAt 53 = .ok (.iaload, 1) := by decide +kernel
theorem d_Rs_keyAt_54 : decode b_Rs_keyAt 54 = .ok (.iload_n 2, 1) := by decide +kernel
theorem d_Rs_keyAt_55 : decode b_Rs_keyAt 55 = .ok (.invokestatic 36, 3) := by decide +kernel
theorem d_Rs_keyAt_58 : decode b_Rs_keyAt 58 = .ok (.iadd, 1) := by decide +kernel
theorem d_Rs_keyAt_59 : decode b_Rs_keyAt 59 = .ok (.ireturn, 1) := by decide +kernel
theorem d_Rs_keyAt_60 : decode b_Rs_keyAt 60 = .ok (.iload_n 2, 1) := by decide +kernel
theorem d_Rs_keyAt_61 : decode b_Rs_keyAt 61 = .ok (.iload 4, 2) := by decide +kernel
theorem d_Rs_keyAt_63 : decode b_Rs_keyAt 63 = .ok (.isub, 1) := by decide +kernel
theorem d_Rs_keyAt_64 : decode b_Rs_keyAt 64 = .ok (.istore_n 2, 1) := by decide +kernel
theorem d_Rs_keyAt_65 : decode b_Rs_keyAt 65 = .ok (.iinc 3 1, 3) := by decide +kernel
theorem d_Rs_keyAt_68 : decode b_Rs_keyAt 68 = .ok (.goto (-64), 3) := by decide +kernel
theorem d_Rs_keyAt_71 : decode b_Rs_keyAt 71 = .ok (.bipush (-2), 2) := by decide +kernel
theorem d_Rs_keyAt_73 : decode b_Rs_keyAt 73 = .ok (.ireturn, 1) := by decide +kernel
theorem d_Rs_sumOf_0 : decode b_Rs_sumOf 0 = .ok (.iconst 0, 1) := by decide +kernel
theorem d_Rs_sumOf_1 : decode b_Rs_sumOf 1 = .ok (.istore_n 2, 1) := by decide +kernel
theorem d_Rs_sumOf_2 : decode b_Rs_sumOf 2 = .ok (.iconst 0, 1) := by decide +kernel
theorem d_Rs_sumOf_3 : decode b_Rs_sumOf 3 = .ok (.istore_n 3, 1) := by decide +kernel
theorem d_Rs_sumOf_4 : decode b_Rs_sumOf 4 = .ok (.iload_n 3, 1) := by decide +kernel
theorem d_Rs_sumOf_5 : decode b_Rs_sumOf 5 = .ok (.aload_n 0, 1) := by decide +kernel
theorem d_Rs_sumOf_6 : decode b_Rs_sumOf 6 = .ok (.getfield 21, 3) := by decide +kernel
theorem d_Rs_sumOf_9 : decode b_Rs_sumOf 9 = .ok (.if_icmp .ge 84, 3) := by decide +kernel
theorem d_Rs_sumOf_12 : decode b_Rs_sumOf 12 = .ok (.aload_n 0, 1) := by decide +kernel
theorem d_Rs_sumOf_13 : decode b_Rs_sumOf 13 = .ok (.getfield 15, 3) := by decide +kernel
theorem d_Rs_sumOf_16 : decode b_Rs_sumOf 16 = .ok (.iload_n 3, 1) := by decide +kernel
theorem d_Rs_sumOf_17 : decode b_Rs_sumOf 17 = .ok (.iaload, 1) := by decide +kernel
theorem d_Rs_sumOf_18 : decode b_Rs_sumOf 18 = .ok (.iload_n 1, 1) := by decide +kernel
theorem d_Rs_sumOf_19 : decode b_Rs_sumOf 19 = .ok (.invokestatic 39, 3) := by decide +kernel
theorem d_Rs_sumOf_22 : decode b_Rs_sumOf 22 = .ok (.istore 4, 2) := by decide +kernel
theorem d_Rs_sumOf_24 : decode b_Rs_sumOf 24 = .ok (.iload_n 1, 1) := by decide +kernel
theorem d_Rs_sumOf_25 : decode b_Rs_sumOf 25 = .ok (.iconst 4, 1) := by decide +kernel
theorem d_Rs_sumOf_26 : decode b_Rs_sumOf 26 = .ok (.if_icmp .ge 18, 3) := by decide +kernel
theorem d_Rs_sumOf_29 : decode b_Rs_sumOf 29 = .ok (.aload_n 0, 1) := by decide +kernel
theorem d_Rs_sumOf_30 : decode b_Rs_sumOf 30 = .ok (.getfield 15, 3) := by decide +kernel
theorem d_Rs_sumOf_33 : decode b_Rs_sumOf 33 = .ok (.iload_n 3, 1) := by decide +kernel
theorem d_Rs_sumOf_34 : decode b_Rs_sumOf 34 = .ok (.iaload, 1) := by decide +kernel
theorem d_Rs_sumOf_35 : decode b_Rs_sumOf 35 = .ok (.ldc 29, 2) := by decide +kernel
theorem d_Rs_sumOf_37 : decode b_Rs_sumOf 37 = .ok (.iand, 1) := by decide +kernel
theorem d_Rs_sumOf_38 : decode b_Rs_sumOf 38 = .ok (.invokestatic 30, 3) := by decide +kernel
theorem d_Rs_sumOf_41 : decode b_Rs_sumOf 41 = .ok (.goto 4, 3) := by decide +kernel
theorem d_Rs_sumOf_44 : decode b_Rs_sumOf 44 = .ok (.iconst 1, 1) := by decide +kernel
theorem d_Rs_sumOf_45 : decode b_Rs_sumOf 45 = .ok (.istore 5, 2) := by decide +kernel
theorem d_Rs_sumOf_47 : decode b_Rs_sumOf 47 = .ok (.iconst 0, 1) := by decide +kernel
theorem d_Rs_sumOf_48 : decode b_Rs_sumOf 48 = .ok (.istore 6, 2) := by decide +kernel
theorem d_Rs_sumOf_50 : decode b_Rs_sumOf 50 = .ok (.iload 6, 2) := by decide +kernel
theorem d_Rs_sumOf_52 : decode b_Rs_sumOf 52 = .ok (.bipush 16, 2) := by decide +kernel
theorem d_Rs_sumOf_54 : decode b_Rs_sumOf 54 = .ok (.if_icmp .ge 33, 3) := by decide +kernel
theorem d_Rs_sumOf_57 : decode b_Rs_sumOf 57 = .ok (.iload 4, 2) := by decide +kernel
theorem d_Rs_sumOf_59 : decode b_Rs_sumOf 59 = .ok (.iload 6, 2) := by decide +kernel
theorem d_Rs_sumOf_61 : decode b_Rs_sumOf 61 = .ok (.ishr, 1) := by decide +kernel
theorem d_Rs_sumOf_62 : decode b_Rs_sumOf 62 = .ok (.ifCond .eq 25, 3) := by decide +kernel
theorem d_Rs_sumOf_65 : decode b_Rs_sumOf 65 = .ok (.iload_n 2, 1) := by decide +kernel
theorem d_Rs_sumOf_66 : decode b_Rs_sumOf 66 = .ok (.iload 4, 2) := by decide +kernel
theorem d_Rs_sumOf_68 : decode b_Rs_sumOf 68 = .ok (.iload 6, 2) := by decide +kernel
theorem d_Rs_sumOf_70 : decode b_Rs_sumOf 70 = .ok (.ishr, 1) := by decide +kernel
theorem d_Rs_sumOf_71 : decode b_Rs_sumOf 71 = .ok (.iconst 1, 1) := by decide +kernel
theorem d_Rs_sumOf_72 : decode b_Rs_sumOf 72 = .ok (.iand, 1) := by decide +kernel
theorem d_Rs_sumOf_73 : decode b_Rs_sumOf 73 = .ok (.iload 6, 2) := by decide +kernel
theorem d_Rs_sumOf_75 : decode b_Rs_sumOf 75 = .ok (.imul, 1) := by decide +kernel
theorem d_Rs_sumOf_76 : decode b_Rs_sumOf 76 = .ok (.iload 5, 2) := by decide +kernel
theorem d_Rs_sumOf_78 : decode b_Rs_sumOf 78 = .ok (.imul, 1) := by decide +kernel
theorem d_Rs_sumOf_79 : decode b_Rs_sumOf 79 = .ok (.iadd, 1) := by decide +kernel
theorem d_Rs_sumOf_80 : decode b_Rs_sumOf 80 = .ok (.istore_n 2, 1) := by decide +kernel
theorem d_Rs_sumOf_81 : decode b_Rs_sumOf 81 = .ok (.iinc 6 1, 3) := by decide +kernel
theorem d_Rs_sumOf_84 : decode b_Rs_sumOf 84 = .ok (.goto (-34), 3) := by decide +kernel
theorem d_Rs_sumOf_87 : decode b_Rs_sumOf 87 = .ok (.iinc 3 1, 3) := by decide +kernel
theorem d_Rs_sumOf_90 : decode b_Rs_sumOf 90 = .ok (.goto (-86), 3) := by decide +kernel
theorem d_Rs_sumOf_93 : decode b_Rs_sumOf 93 = .ok (.iload_n 2, 1) := by decide +kernel
theorem d_Rs_sumOf_94 : decode b_Rs_sumOf 94 = .ok (.ireturn, 1) := by decide +kernel
theorem d_Rs_leastOf_0 : decode b_Rs_leastOf 0 = .ok (.aload_n 0, 1) := by decide +kernel
theorem d_Rs_leastOf_1 : decode b_Rs_leastOf 1 = .ok (.iload_n 1, 1) := by decide +kernel
theorem d_Rs_leastOf_2 : decode b_Rs_leastOf 2 = .ok (.invokevirtual 42, 3) := by decide +kernel
theorem d_Rs_leastOf_5 : decode b_Rs_leastOf 5 = .ok (.istore_n 2, 1) := by decide +kernel
theorem d_Rs_leastOf_6 : decode b_Rs_leastOf 6 = .ok (.iload_n 2, 1) := by decide +kernel
theorem d_Rs_leastOf_7 : decode b_Rs_leastOf 7 = .ok (.ifCond .ne 8, 3) := by decide +kernel
theorem d_Rs_leastOf_10 : decode b_Rs_leastOf 10 = .ok (.bipush (-2), 2) := by decide +kernel
theorem d_Rs_leastOf_12 : decode b_Rs_leastOf 12 = .ok (.goto 8, 3) := by decide +kernel
theorem d_Rs_leastOf_15 : decode b_Rs_leastOf 15 = .ok (.iload_n 2, 1) := by decide +kernel
theorem d_Rs_leastOf_16 : decode b_Rs_leastOf 16 = .ok (.iconst 0, 1) := by decide +kernel
theorem d_Rs_leastOf_17 : decode b_Rs_leastOf 17 = .ok (.invokestatic 36, 3) := by decide +kernel
theorem d_Rs_leastOf_20 : decode b_Rs_leastOf 20 = .ok (.ireturn, 1) := by decide +kernel
theorem d_Rs_greatestOf_0 : decode b_Rs_greatestOf 0 = .ok (.aload_n 0, 1) := by decide +kernel
theorem d_Rs_greatestOf_1 : decode b_Rs_greatestOf 1 = .ok (.iload_n 1, 1) := by decide +kernel
theorem d_Rs_greatestOf_2 : decode b_Rs_greatestOf 2 = .ok (.invokevirtual 42, 3) := by decide +kernel
theorem d_Rs_greatestOf_5 : decode b_Rs_greatestOf 5 = .ok (.istore_n 2, 1) := by decide +kernel
theorem d_Rs_greatestOf_6 : decode b_Rs_greatestOf 6 = .ok (.iload_n 2, 1) := by decide +kernel
theorem d_Rs_greatestOf_7 : decode b_Rs_greatestOf 7 = .ok (.ifCond .ne 8, 3) := by decide +kernel
theorem d_Rs_greatestOf_10 : decode b_Rs_greatestOf 10 = .ok (.bipush (-2), 2) := by decide +kernel
theorem d_Rs_greatestOf_12 : decode b_Rs_greatestOf 12 = .ok (.goto 13, 3) := by decide +kernel
theorem d_Rs_greatestOf_15 : decode b_Rs_greatestOf 15 = .ok (.iload_n 2, 1) := by decide +kernel
theorem d_Rs_greatestOf_16 : decode b_Rs_greatestOf 16 = .ok (.iload_n 2, 1) := by decide +kernel
theorem d_Rs_greatestOf_17 : decode b_Rs_greatestOf 17 = .ok (.invokestatic 30, 3) := by decide +kernel
theorem d_Rs_greatestOf_20 : decode b_Rs_greatestOf 20 = .ok (.iconst 1, 1) := by decide +kernel
theorem d_Rs_greatestOf_21 : decode b_Rs_greatestOf 21 = .ok (.isub, 1) := by decide +kernel
theorem d_Rs_greatestOf_22 : decode b_Rs_greatestOf 22 = .ok (.invokestatic 36, 3) := by decide +kernel
theorem d_Rs_greatestOf_25 : decode b_Rs_greatestOf 25 = .ok (.ireturn, 1) := by decide +kernel
theorem d_Rs_allValuesOf_0 : decode b_Rs_allValuesOf 0 = .ok (.iconst 0, 1) := by decide +kernel
theorem d_Rs_allValuesOf_1 : decode b_Rs_allValuesOf 1 = .ok (.istore_n 2, 1) := by decide +kernel
theorem d_Rs_allValuesOf_2 : decode b_Rs_allValuesOf 2 = .ok (.iconst 0, 1) := by decide +kernel
theorem d_Rs_allValuesOf_3 : decode b_Rs_allValuesOf 3 = .ok (.istore_n 3, 1) := by decide +kernel
theorem d_Rs_allValuesOf_4 : decode b_Rs_allValuesOf 4 = .ok (.iload_n 3, 1) := by decide +kernel
theorem d_Rs_allValuesOf_5 : decode b_Rs_allValuesOf 5 = .ok (.aload_n 0, 1) := by decide +kernel
theorem d_Rs_allValuesOf_6 : decode b_Rs_allValuesOf 6 = .ok (.getfield 21, 3) := by decide +kernel
theorem d_Rs_allValuesOf_9 : decode b_Rs_allValuesOf 9 = .ok (.if_icmp .ge 22, 3) := by decide +kernel
theorem d_Rs_allValuesOf_12 : decode b_Rs_allValuesOf 12 = .ok (.iload_n 2, 1) := by decide +kernel
theorem d_Rs_allValuesOf_13 : decode b_Rs_allValuesOf 13 = .ok (.aload_n 0, 1) := by decide +kernel
theorem d_Rs_allValuesOf_14 : decode b_Rs_allValuesOf 14 = .ok (.getfield 15, 3) := by decide +kernel
theorem d_Rs_allValuesOf_17 : decode b_Rs_allValuesOf 17 = .ok (.iload_n 3, 1) := by decide +kernel
theorem d_Rs_allValuesOf_18 : decode b_Rs_allValuesOf 18 = .ok (.iaload, 1) := by decide +kernel
theorem d_Rs_allValuesOf_19 : decode b_Rs_allValuesOf 19 = .ok (.iload_n 1, 1) := by decide +kernel
theorem d_Rs_allValuesOf_20 : decode b_Rs_allValuesOf 20 = .ok (.invokestatic 39, 3) := by decide +kernel
theorem d_Rs_allValuesOf_23 : decode b_Rs_allValuesOf 23 = .ok (.ior, 1) := by decide +kernel
theorem d_Rs_allValuesOf_24 : decode b_Rs_allValuesOf 24 = .ok (.istore_n 2, 1) := by decide +kernel
theorem d_Rs_allValuesOf_25 : decode b_Rs_allValuesOf 25 = .ok (.iinc 3 1, 3) := by decide +kernel
theorem d_Rs_allValuesOf_28 : decode b_Rs_allValuesOf 28 = .ok (.goto (-24), 3) := by decide +kernel
theorem d_Rs_allValuesOf_31 : decode b_Rs_allValuesOf 31 = .ok (.iload_n 2, 1) := by decide +kernel
theorem d_Rs_allValuesOf_32 : decode b_Rs_allValuesOf 32 = .ok (.ireturn, 1) := by decide +kernel
theorem d_Rs_valuesOf_0 : decode b_Rs_valuesOf 0 = .ok (.iload_n 1, 1) := by decide +kernel
theorem d_Rs_valuesOf_1 : decode b_Rs_valuesOf 1 = .ok (.iconst 4, 1) := by decide +kernel
theorem d_Rs_valuesOf_2 : decode b_Rs_valuesOf 2 = .ok (.if_icmp .lt 8, 3) := by decide +kernel
theorem d_Rs_valuesOf_5 : decode b_Rs_valuesOf 5 = .ok (.iload_n 0, 1) := by decide +kernel
theorem d_Rs_valuesOf_6 : decode b_Rs_valuesOf 6 = .ok (.ldc 29, 2) := by decide +kernel
theorem d_Rs_valuesOf_8 : decode b_Rs_valuesOf 8 = .ok (.iand, 1) := by decide +kernel
theorem d_Rs_valuesOf_9 : decode b_Rs_valuesOf 9 = .ok (.ireturn, 1) := by decide +kernel
theorem d_Rs_valuesOf_10 : decode b_Rs_valuesOf 10 = .ok (.iload_n 0, 1) := by decide +kernel
theorem d_Rs_valuesOf_11 : decode b_Rs_valuesOf 11 = .ok (.bipush 16, 2) := by decide +kernel
theorem d_Rs_valuesOf_13 : decode b_Rs_valuesOf 13 = .ok (.ishr, 1) := by decide +kernel
theorem d_Rs_valuesOf_14 : decode b_Rs_valuesOf 14 = .ok (.istore_n 2, 1) := by decide +kernel
theorem d_Rs_valuesOf_15 : decode b_Rs_valuesOf 15 = .ok (.iconst 1, 1) := by decide +kernel
theorem d_Rs_valuesOf_16 : decode b_Rs_valuesOf 16 = .ok (.iload_n 2, 1) := by decide +kernel
theorem d_Rs_valuesOf_17 : decode b_Rs_valuesOf 17 = .ok (.iconst 4, 1) := by decide +kernel
theorem d_Rs_valuesOf_18 : decode b_Rs_valuesOf 18 = .ok (.iconst 3, 1) := by decide +kernel
theorem d_Rs_valuesOf_19 : decode b_Rs_valuesOf 19 = .ok (.iload_n 1, 1) := by decide +kernel
theorem d_Rs_valuesOf_20 : decode b_Rs_valuesOf 20 = .ok (.isub, 1) := by decide +kernel
theorem d_Rs_valuesOf_21 : decode b_Rs_valuesOf 21 = .ok (.imul, 1) := by decide +kernel
theorem d_Rs_valuesOf_22 : decode b_Rs_valuesOf 22 = .ok (.ishr, 1) := by decide +kernel
theorem d_Rs_valuesOf_23 : decode b_Rs_valuesOf 23 = .ok (.bipush 15, 2) := by decide +kernel
theorem d_Rs_valuesOf_25 : decode b_Rs_valuesOf 25 = .ok (.iand, 1) := by decide +kernel
theorem d_Rs_valuesOf_26 : decode b_Rs_valuesOf 26 = .ok (.ishl, 1) := by decide +kernel
theorem d_Rs_valuesOf_27 : decode b_Rs_valuesOf 27 = .ok (.ireturn, 1) := by decide +kernel
theorem d_Rs_bitAt_0 : decode b_Rs_bitAt 0 = .ok (.iload_n 1, 1) := by decide +kernel
theorem d_Rs_bitAt_1 : decode b_Rs_bitAt 1 = .ok (.istore_n 2, 1) := by decide +kernel
theorem d_Rs_bitAt_2 : decode b_Rs_bitAt 2 = .ok (.iconst 0, 1) := by decide +kernel
theorem d_Rs_bitAt_3 : decode b_Rs_bitAt 3 = .ok (.istore_n 3, 1) := by decide +kernel
theorem d_Rs_bitAt_4 : decode b_Rs_bitAt 4 = .ok (.iload_n 3, 1) := by decide +kernel
theorem d_Rs_bitAt_5 : decode b_Rs_bitAt 5 = .ok (.bipush 16, 2) := by decide +kernel
theorem d_Rs_bitAt_7 : decode b_Rs_bitAt 7 = .ok (.if_icmp .ge 26, 3) := by decide +kernel
theorem d_Rs_bitAt_10 : decode b_Rs_bitAt 10 = .ok (.iload_n 0, 1) := by decide +kernel
theorem d_Rs_bitAt_11 : decode b_Rs_bitAt 11 = .ok (.iload_n 3, 1) := by decide +kernel
theorem d_Rs_bitAt_12 : decode b_Rs_bitAt 12 = .ok (.ishr, 1) := by decide +kernel
theorem d_Rs_bitAt_13 : decode b_Rs_bitAt 13 = .ok (.iconst 1, 1) := by decide +kernel
theorem d_Rs_bitAt_14 : decode b_Rs_bitAt 14 = .ok (.iand, 1) := by decide +kernel
theorem d_Rs_bitAt_15 : decode b_Rs_bitAt 15 = .ok (.ifCond .eq 12, 3) := by decide +kernel
theorem d_Rs_bitAt_18 : decode b_Rs_bitAt 18 = .ok (.iload_n 2, 1) := by decide +kernel
theorem d_Rs_bitAt_19 : decode b_Rs_bitAt 19 = .ok (.ifCond .ne 5, 3) := by decide +kernel
theorem d_Rs_bitAt_22 : decode b_Rs_bitAt 22 = .ok (.iload_n 3, 1) := by decide +kernel
theorem d_Rs_bitAt_23 : decode b_Rs_bitAt 23 = .ok (.ireturn, 1) := by decide +kernel
theorem d_Rs_bitAt_24 : decode b_Rs_bitAt 24 = .ok (.iinc 2 (-1), 3) := by decide +kernel
theorem d_Rs_bitAt_27 : decode b_Rs_bitAt 27 = .ok (.iinc 3 1, 3) := by decide +kernel
theorem d_Rs_bitAt_30 : decode b_Rs_bitAt 30 = .ok (.goto (-26), 3) := by decide +kernel
theorem d_Rs_bitAt_33 : decode b_Rs_bitAt 33 = .ok (.iconst 0, 1) := by decide +kernel
theorem d_Rs_bitAt_34 : decode b_Rs_bitAt 34 = .ok (.ireturn, 1) := by decide +kernel
theorem d_Se_init_0 : decode b_Se_init 0 = .ok (.aload_n 0, 1) := by decide +kernel
theorem d_Se_init_1 : decode b_Se_init 1 = .ok (.invokespecial 3, 3) := by decide +kernel
theorem d_Se_init_4 : decode b_Se_init 4 = .ok (.aload_n 0, 1) := by decide +kernel
theorem d_Se_init_5 : decode b_Se_init 5 = .ok (.sipush 128, 3) := by decide +kernel
theorem d_Se_init_8 : decode b_Se_init 8 = .ok (.newarray .int, 2) := by decide +kernel
theorem d_Se_init_10 : decode b_Se_init 10 = .ok (.putfield 9, 3) := by decide +kernel
theorem d_Se_init_13 : decode b_Se_init 13 = .ok (.return_, 1) := by decide +kernel
theorem d_Se_read_0 : decode b_Se_read 0 = .ok (.aload_n 0, 1) := by decide +kernel
theorem d_Se_read_1 : decode b_Se_read 1 = .ok (.getfield 9, 3) := by decide +kernel
theorem d_Se_read_4 : decode b_Se_read 4 = .ok (.iconst 0, 1) := by decide +kernel
theorem d_Se_read_5 : decode b_Se_read 5 = .ok (.invokestatic 15, 3) := by decide +kernel
theorem d_Se_read_8 : decode b_Se_read 8 = .ok (.iconst 0, 1) := by decide +kernel
theorem d_Se_read_9 : decode b_Se_read 9 = .ok (.istore 4, 2) := by decide +kernel
theorem d_Se_read_11 : decode b_Se_read 11 = .ok (.iload 4, 2) := by decide +kernel
theorem d_Se_read_13 : decode b_Se_read 13 = .ok (.aload_n 1, 1) := by decide +kernel
theorem d_Se_read_14 : decode b_Se_read 14 = .ok (.getfield 21, 3) := by decide +kernel
theorem d_Se_read_17 : decode b_Se_read 17 = .ok (.if_icmp .ge 39, 3) := by decide +kernel
theorem d_Se_read_20 : decode b_Se_read 20 = .ok (.aload_n 1, 1) := by decide +kernel
theorem d_Se_read_21 : decode b_Se_read 21 = .ok (.getfield 27, 3) := by decide +kernel
theorem d_Se_read_24 : decode b_Se_read 24 = .ok (.iload 4, 2) := by decide +kernel
theorem d_Se_read_26 : decode b_Se_read 26 = .ok (.iaload, 1) := by decide +kernel
theorem d_Se_read_27 : decode b_Se_read 27 = .ok (.iload_n 2, 1) := by decide +kernel
theorem d_Se_read_28 : decode b_Se_read 28 = .ok (.if_icmp .gt 28, 3) := by decide +kernel
theorem d_Se_read_31 : decode b_Se_read 31 = .ok (.aload_n 0, 1) := by decide +kernel
theorem d_Se_read_32 : decode b_Se_read 32 = .ok (.aload_n 1, 1) := by decide +kernel
theorem d_Se_read_33 : decode b_Se_read 33 = .ok (.getfield 30, 3) := by decide +kernel
theorem d_Se_read_36 : decode b_Se_read 36 = .ok (.iload 4, 2) := by decide +kernel
theorem d_Se_read_38 : decode b_Se_read 38 = .ok (.iaload, 1) := by decide +kernel
theorem d_Se_read_39 : decode b_Se_read 39 = .ok (.aload_n 1, 1) := by decide +kernel
theorem d_Se_read_40 : decode b_Se_read 40 = .ok (.iload 4, 2) := by decide +kernel
theorem d_Se_read_42 : decode b_Se_read 42 = .ok (.iload_n 2, 1) := by decide +kernel
theorem d_Se_read_43 : decode b_Se_read 43 = .ok (.iload_n 3, 1) := by decide +kernel
theorem d_Se_read_44 : decode b_Se_read 44 = .ok (.invokevirtual 33, 3) := by decide +kernel
theorem d_Se_read_47 : decode b_Se_read 47 = .ok (.invokevirtual 37, 3) := by decide +kernel
theorem d_Se_read_50 : decode b_Se_read 50 = .ok (.iinc 4 1, 3) := by decide +kernel
theorem d_Se_read_53 : decode b_Se_read 53 = .ok (.goto (-42), 3) := by decide +kernel
theorem d_Se_read_56 : decode b_Se_read 56 = .ok (.return_, 1) := by decide +kernel
theorem d_Se_put_0 : decode b_Se_put 0 = .ok (.iload_n 1, 1) := by decide +kernel
theorem d_Se_put_1 : decode b_Se_put 1 = .ok (.bipush 16, 2) := by decide +kernel
theorem d_Se_put_3 : decode b_Se_put 3 = .ok (.idiv, 1) := by decide +kernel
theorem d_Se_put_4 : decode b_Se_put 4 = .ok (.istore_n 3, 1) := by decide +kernel
theorem d_Se_put_5 : decode b_Se_put 5 = .ok (.iload_n 3, 1) := by decide +kernel
theorem d_Se_put_6 : decode b_Se_put 6 = .ok (.ifCond .lt 12, 3) := by decide +kernel
theorem d_Se_put_9 : decode b_Se_put 9 = .ok (.iload_n 3, 1) := by decide +kernel
theorem d_Se_put_10 : decode b_Se_put 10 = .ok (.aload_n 0, 1) := by decide +kernel
theorem d_Se_put_11 : decode b_Se_put 11 = .ok (.getfield 9, 3) := by decide +kernel
theorem d_Se_put_14 : decode b_Se_put 14 = .ok (.arraylength, 1) := by decide +kernel
theorem d_Se_put_15 : decode b_Se_put 15 = .ok (.if_icmp .lt 4, 3) := by decide +kernel
theorem d_Se_put_18 : decode b_Se_put 18 = .ok (.return_, 1) := by decide +kernel
theorem d_Se_put_19 : decode b_Se_put 19 = .ok (.iconst 1, 1) := by decide +kernel
theorem d_Se_put_20 : decode b_Se_put 20 = .ok (.iload_n 1, 1) := by decide +kernel
theorem d_Se_put_21 : decode b_Se_put 21 = .ok (.bipush 16, 2) := by decide +kernel
theorem d_Se_put_23 : decode b_Se_put 23 = .ok (.irem, 1) := by decide +kernel
theorem d_Se_put_24 : decode b_Se_put 24 = .ok (.ishl, 1) := by decide +kernel
theorem d_Se_put_25 : decode b_Se_put 25 = .ok (.istore 4, 2) := by decide +kernel
theorem d_Se_put_27 : decode b_Se_put 27 = .ok (.aload_n 0, 1) := by decide +kernel
theorem d_Se_put_28 : decode b_Se_put 28 = .ok (.getfield 9, 3) := by decide +kernel
theorem d_Se_put_31 : decode b_Se_put 31 = .ok (.iload_n 3, 1) := by decide +kernel
theorem d_Se_put_32 : decode b_Se_put 32 = .ok (.iload_n 2, 1) := by decide +kernel
theorem d_Se_put_33 : decode b_Se_put 33 = .ok (.ifCond .eq 15, 3) := by decide +kernel
theorem d_Se_put_36 : decode b_Se_put 36 = .ok (.aload_n 0, 1) := by decide +kernel
theorem d_Se_put_37 : decode b_Se_put 37 = .ok (.getfield 9, 3) := by decide +kernel
theorem d_Se_put_40 : decode b_Se_put 40 = .ok (.iload_n 3, 1) := by decide +kernel
theorem d_Se_put_41 : decode b_Se_put 41 = .ok (.iaload, 1) := by decide +kernel
theorem d_Se_put_42 : decode b_Se_put 42 = .ok (.iload 4, 2) := by decide +kernel
theorem d_Se_put_44 : decode b_Se_put 44 = .ok (.ior, 1) := by decide +kernel
theorem d_Se_put_45 : decode b_Se_put 45 = .ok (.goto 14, 3) := by decide +kernel
theorem d_Se_put_48 : decode b_Se_put 48 = .ok (.aload_n 0, 1) := by decide +kernel
theorem d_Se_put_49 : decode b_Se_put 49 = .ok (.getfield 9, 3) := by decide +kernel
theorem d_Se_put_52 : decode b_Se_put 52 = .ok (.iload_n 3, 1) := by decide +kernel
theorem d_Se_put_53 : decode b_Se_put 53 = .ok (.iaload, 1) := by decide +kernel
theorem d_Se_put_54 : decode b_Se_put 54 = .ok (.iload 4, 2) := by decide +kernel
theorem d_Se_put_56 : decode b_Se_put 56 = .ok (.iconst (-1), 1) := by decide +kernel
theorem d_Se_put_57 : decode b_Se_put 57 = .ok (.ixor, 1) := by decide +kernel
theorem d_Se_put_58 : decode b_Se_put 58 = .ok (.iand, 1) := by decide +kernel
theorem d_Se_put_59 : decode b_Se_put 59 = .ok (.iastore, 1) := by decide +kernel
theorem d_Se_put_60 : decode b_Se_put 60 = .ok (.return_, 1) := by decide +kernel
theorem d_Se_objectsOf_0 : decode b_Se_objectsOf 0 = .ok (.iload_n 1, 1) := by decide +kernel
theorem d_Se_objectsOf_1 : decode b_Se_objectsOf 1 = .ok (.ifCond .lt 19, 3) := by decide +kernel
theorem d_Se_objectsOf_4 : decode b_Se_objectsOf 4 = .ok (.iload_n 1, 1) := by decide +kernel
theorem d_Se_objectsOf_5 : decode b_Se_objectsOf 5 = .ok (.bipush 16, 2) := by decide +kernel
theorem d_Se_objectsOf_7 : decode b_Se_objectsOf 7 = .ok (.if_icmp .ge 13, 3) := by decide +kernel
theorem d_Se_objectsOf_10 : decode b_Se_objectsOf 10 = .ok (.iload_n 2, 1) := by decide +kernel
theorem d_Se_objectsOf_11 : decode b_Se_objectsOf 11 = .ok (.ifCond .lt 9, 3) := by decide +kernel
theorem d_Se_objectsOf_14 : decode b_Se_objectsOf 14 = .ok (.iload_n 2, 1) := by decide +kernel
theorem d_Se_objectsOf_15 : decode b_Se_objectsOf 15 = .ok (.bipush 8, 2) := by decide +kernel
theorem d_Se_objectsOf_17 : decode b_Se_objectsOf 17 = .ok (.if_icmp .lt 5, 3) := by decide +kernel
theorem d_Se_objectsOf_20 : decode b_Se_objectsOf 20 = .ok (.iconst 0, 1) := by decide +kernel
theorem d_Se_objectsOf_21 : decode b_Se_objectsOf 21 = .ok (.ireturn, 1) := by decide +kernel
theorem d_Se_objectsOf_22 : decode b_Se_objectsOf 22 = .ok (.aload_n 0, 1) := by decide +kernel
theorem d_Se_objectsOf_23 : decode b_Se_objectsOf 23 = .ok (.getfield 9, 3) := by decide +kernel
theorem d_Se_objectsOf_26 : decode b_Se_objectsOf 26 = .ok (.iload_n 1, 1) := by decide +kernel
theorem d_Se_objectsOf_27 : decode b_Se_objectsOf 27 = .ok (.bipush 8, 2) := by decide +kernel
theorem d_Se_objectsOf_29 : decode b_Se_objectsOf 29 = .ok (.imul, 1) := by decide +kernel
theorem d_Se_objectsOf_30 : decode b_Se_objectsOf 30 = .ok (.iload_n 2, 1) := by decide +kernel
theorem d_Se_objectsOf_31 : decode b_Se_objectsOf 31 = .ok (.iadd, 1) := by decide +kernel
theorem d_Se_objectsOf_32 : decode b_Se_objectsOf 32 = .ok (.iaload, 1) := by decide +kernel
theorem d_Se_objectsOf_33 : decode b_Se_objectsOf 33 = .ok (.ireturn, 1) := by decide +kernel
end
section
theorem d_Sr_init_0 : decode b_Sr_init 0 = .ok (.aload_n 0, 1) := by decide +kernel
theorem d_Sr_init_1 : decode b_Sr_init 1 = .ok (.invokespecial 3, 3) := by decide +kernel
theorem d_Sr_init_4 : decode b_Sr_init 4 = .ok (.aload_n 0, 1) := by decide +kernel
theorem d_Sr_init_5 : decode b_Sr_init 5 = .ok (.iconst 4, 1) := by decide +kernel
theorem d_Sr_init_6 : decode b_Sr_init 6 = .ok (.newarray .int, 2) := by decide +kernel
theorem d_Sr_init_8 : decode b_Sr_init 8 = .ok (.putfield 9, 3) := by decide +kernel
theorem d_Sr_init_11 : decode b_Sr_init 11 = .ok (.aload_n 0, 1) := by decide +kernel
theorem d_Sr_init_12 : decode b_Sr_init 12 = .ok (.iconst 4, 1) := by decide +kernel
theorem d_Sr_init_13 : decode b_Sr_init 13 = .ok (.newarray .int, 2) := by decide +kernel
theorem d_Sr_init_15 : decode b_Sr_init 15 = .ok (.putfield 15, 3) := by decide +kernel
theorem d_Sr_init_18 : decode b_Sr_init 18 = .ok (.aload_n 0, 1) := by decide +kernel
theorem d_Sr_init_19 : decode b_Sr_init 19 = .ok (.aload_n 1, 1) := by decide +kernel
theorem d_Sr_init_20 : decode b_Sr_init 20 = .ok (.putfield 18, 3) := by decide +kernel
theorem d_Sr_init_23 : decode b_Sr_init 23 = .ok (.return_, 1) := by decide +kernel
theorem d_Sr_begin_0 : decode b_Sr_begin 0 = .ok (.iconst 0, 1) := by decide +kernel
theorem d_Sr_begin_1 : decode b_Sr_begin 1 = .ok (.istore_n 2, 1) := by decide +kernel
theorem d_Sr_begin_2 : decode b_Sr_begin 2 = .ok (.iload_n 2, 1) := by decide +kernel
theorem d_Sr_begin_3 : decode b_Sr_begin 3 = .ok (.iconst 4, 1) := by decide +kernel
theorem d_Sr_begin_4 : decode b_Sr_begin 4 = .ok (.if_icmp .ge 29, 3) := by decide +kernel
theorem d_Sr_begin_7 : decode b_Sr_begin 7 = .ok (.aload_n 0, 1) := by decide +kernel
theorem d_Sr_begin_8 : decode b_Sr_begin 8 = .ok (.getfield 9, 3) := by decide +kernel
theorem d_Sr_begin_11 : decode b_Sr_begin 11 = .ok (.iload_n 2, 1) := by decide +kernel
theorem d_Sr_begin_12 : decode b_Sr_begin 12 = .ok (.aload_n 1, 1) := by decide +kernel
theorem d_Sr_begin_13 : decode b_Sr_begin 13 = .ok (.iload_n 2, 1) := by decide +kernel
theorem d_Sr_begin_14 : decode b_Sr_begin 14 = .ok (.invokevirtual 22, 3) := by decide +kernel
theorem d_Sr_begin_17 : decode b_Sr_begin 17 = .ok (.ifCond .eq 8, 3) := by decide +kernel
theorem d_Sr_begin_20 : decode b_Sr_begin 20 = .ok (.ldc 28, 2) := by decide +kernel
theorem d_Sr_begin_22 : decode b_Sr_begin 22 = .ok (.goto 4, 3) := by decide +kernel
theorem d_Sr_begin_25 : decode b_Sr_begin 25 = .ok (.iconst 1, 1) := by decide +kernel
theorem d_Sr_begin_26 : decode b_Sr_begin 26 = .ok (.iastore, 1) := by decide +kernel
theorem d_Sr_begin_27 : decode b_Sr_begin 27 = .ok (.iinc 2 1, 3) := by decide +kernel
theorem d_Sr_begin_30 : decode b_Sr_begin 30 = .ok (.goto (-28), 3) := by decide +kernel
theorem d_Sr_begin_33 : decode b_Sr_begin 33 = .ok (.return_, 1) := by decide +kernel
theorem d_Sr_bind_0 : decode b_Sr_bind 0 = .ok (.iload_n 3, 1) := by decide +kernel
theorem d_Sr_bind_1 : decode b_Sr_bind 1 = .ok (.bipush 16, 2) := by decide +kernel
theorem d_Sr_bind_3 : decode b_Sr_bind 3 = .ok (.idiv, 1) := by decide +kernel
theorem d_Sr_bind_4 : decode b_Sr_bind 4 = .ok (.bipush 8, 2) := by decide +kernel
theorem d_Sr_bind_6 : decode b_Sr_bind 6 = .ok (.idiv, 1) := by decide +kernel
theorem d_Sr_bind_7 : decode b_Sr_bind 7 = .ok (.istore 4, 2) := by decide +kernel
theorem d_Sr_bind_9 : decode b_Sr_bind 9 = .ok (.iload_n 3, 1) := by decide +kernel
theorem d_Sr_bind_10 : decode b_Sr_bind 10 = .ok (.bipush 16, 2) := by decide +kernel
theorem d_Sr_bind_12 : decode b_Sr_bind 12 = .ok (.idiv, 1) := by decide +kernel
theorem d_Sr_bind_13 : decode b_Sr_bind 13 = .ok (.bipush 8, 2) := by decide +kernel
theorem d_Sr_bind_15 : decode b_Sr_bind 15 = .ok (.irem, 1) := by decide +kernel
theorem d_Sr_bind_16 : decode b_Sr_bind 16 = .ok (.istore 5, 2) := by decide +kernel
theorem d_Sr_bind_18 : decode b_Sr_bind 18 = .ok (.iload_n 3, 1) := by decide +kernel
theorem d_Sr_bind_19 : decode b_Sr_bind 19 = .ok (.bipush 16, 2) := by decide +kernel
theorem d_Sr_bind_21 : decode b_Sr_bind 21 = .ok (.irem, 1) := by decide +kernel
theorem d_Sr_bind_22 : decode b_Sr_bind 22 = .ok (.istore 6, 2) := by decide +kernel
theorem d_Sr_bind_24 : decode b_Sr_bind 24 = .ok (.aload_n 0, 1) := by decide +kernel
theorem d_Sr_bind_25 : decode b_Sr_bind 25 = .ok (.aload_n 1, 1) := by decide +kernel
theorem d_Sr_bind_26 : decode b_Sr_bind 26 = .ok (.iload_n 2, 1) := by decide +kernel
theorem d_Sr_bind_27 : decode b_Sr_bind 27 = .ok (.iconst 0, 1) := by decide +kernel
theorem d_Sr_bind_28 : decode b_Sr_bind 28 = .ok (.invokevirtual 29, 3) := by decide +kernel
theorem d_Sr_bind_31 : decode b_Sr_bind 31 = .ok (.iconst 1, 1) := by decide +kernel
theorem d_Sr_bind_32 : decode b_Sr_bind 32 = .ok (.iload 4, 2) := by decide +kernel
theorem d_Sr_bind_34 : decode b_Sr_bind 34 = .ok (.ishl, 1) := by decide +kernel
theorem d_Sr_bind_35 : decode b_Sr_bind 35 = .ok (.invokevirtual 33, 3) := by decide +kernel
theorem d_Sr_bind_38 : decode b_Sr_bind 38 = .ok (.ifCond .eq 41, 3) := by decide +kernel
theorem d_Sr_bind_41 : decode b_Sr_bind 41 = .ok (.aload_n 0, 1) := by decide +kernel
theorem d_Sr_bind_42 : decode b_Sr_bind 42 = .ok (.aload_n 1, 1) := by decide +kernel
theorem d_Sr_bind_43 : decode b_Sr_bind 43 = .ok (.iload_n 2, 1) := by decide +kernel
theorem d_Sr_bind_44 : decode b_Sr_bind 44 = .ok (.iconst 1, 1) := by decide +kernel
theorem d_Sr_bind_45 : decode b_Sr_bind 45 = .ok (.invokevirtual 29, 3) := by decide +kernel
theorem d_Sr_bind_48 : decode b_Sr_bind 48 = .ok (.iconst 1, 1) := by decide +kernel
theorem d_Sr_bind_49 : decode b_Sr_bind 49 = .ok (.iload 5, 2) := by decide +kernel
theorem d_Sr_bind_51 : decode b_Sr_bind 51 = .ok (.ishl, 1) := by decide +kernel
theorem d_Sr_bind_52 : decode b_Sr_bind 52 = .ok (.invokevirtual 33, 3) := by decide +kernel
theorem d_Sr_bind_55 : decode b_Sr_bind 55 = .ok (.ifCond .eq 24, 3) := by decide +kernel
theorem d_Sr_bind_58 : decode b_Sr_bind 58 = .ok (.aload_n 0, 1) := by decide +kernel
theorem d_Sr_bind_59 : decode b_Sr_bind 59 = .ok (.aload_n 1, 1) := by decide +kernel
theorem d_Sr_bind_60 : decode b_Sr_bind 60 = .ok (.iload_n 2, 1) := by decide +kernel
theorem d_Sr_bind_61 : decode b_Sr_bind 61 = .ok (.iconst 2, 1) := by decide +kernel
theorem d_Sr_bind_62 : decode b_Sr_bind 62 = .ok (.invokevirtual 29, 3) := by decide +kernel
theorem d_Sr_bind_65 : decode b_Sr_bind 65 = .ok (.iconst 1, 1) := by decide +kernel
theorem d_Sr_bind_66 : decode b_Sr_bind 66 = .ok (.iload 6, 2) := by decide +kernel
theorem d_Sr_bind_68 : decode b_Sr_bind 68 = .ok (.ishl, 1) := by decide +kernel
theorem d_Sr_bind_69 : decode b_Sr_bind 69 = .ok (.invokevirtual 33, 3) := by decide +kernel
theorem d_Sr_bind_72 : decode b_Sr_bind 72 = .ok (.ifCond .eq 7, 3) := by decide +kernel
theorem d_Sr_bind_75 : decode b_Sr_bind 75 = .ok (.iconst 1, 1) := by decide +kernel
theorem d_Sr_bind_76 : decode b_Sr_bind 76 = .ok (.goto 4, 3) := by decide +kernel
theorem d_Sr_bind_79 : decode b_Sr_bind 79 = .ok (.iconst 0, 1) := by decide +kernel
theorem d_Sr_bind_80 : decode b_Sr_bind 80 = .ok (.ireturn, 1) := by decide +kernel
theorem d_Sr_run_0 : decode b_Sr_run 0 = .ok (.iconst 0, 1) := by decide +kernel
theorem d_Sr_run_1 : decode b_Sr_run 1 = .ok (.istore_n 3, 1) := by decide +kernel
theorem d_Sr_run_2 : decode b_Sr_run 2 = .ok (.iload_n 3, 1) := by decide +kernel
theorem d_Sr_run_3 : decode b_Sr_run 3 = .ok (.aload_n 1, 1) := by decide +kernel
theorem d_Sr_run_4 : decode b_Sr_run 4 = .ok (.getfield 37, 3) := by decide +kernel
theorem d_Sr_run_7 : decode b_Sr_run 7 = .ok (.if_icmp .ge 35, 3) := by decide +kernel
theorem d_Sr_run_10 : decode b_Sr_run 10 = .ok (.aload_n 0, 1) := by decide +kernel
theorem d_Sr_run_11 : decode b_Sr_run 11 = .ok (.aload_n 1, 1) := by decide +kernel
theorem d_Sr_run_12 : decode b_Sr_run 12 = .ok (.iload_n 3, 1) := by decide +kernel
theorem d_Sr_run_13 : decode b_Sr_run 13 = .ok (.iconst 0, 1) := by decide +kernel
theorem d_Sr_run_14 : decode b_Sr_run 14 = .ok (.invokevirtual 29, 3) := by decide +kernel
theorem d_Sr_run_17 : decode b_Sr_run 17 = .ok (.aload_n 1, 1) := by decide +kernel
theorem d_Sr_run_18 : decode b_Sr_run 18 = .ok (.iload_n 3, 1) := by decide +kernel
theorem d_Sr_run_19 : decode b_Sr_run 19 = .ok (.iconst 1, 1) := by decide +kernel
theorem d_Sr_run_20 : decode b_Sr_run 20 = .ok (.invokevirtual 29, 3) := by decide +kernel
theorem d_Sr_run_23 : decode b_Sr_run 23 = .ok (.aload_n 1, 1) := by decide +kernel
theorem d_Sr_run_24 : decode b_Sr_run 24 = .ok (.iload_n 3, 1) := by decide +kernel
theorem d_Sr_run_25 : decode b_Sr_run 25 = .ok (.iconst 2, 1) := by decide +kernel
theorem d_Sr_run_26 : decode b_Sr_run 26 = .ok (.invokevirtual 29, 3) := by decide +kernel
theorem d_Sr_run_29 : decode b_Sr_run 29 = .ok (.invokevirtual 41, 3) := by decide +kernel
theorem d_Sr_run_32 : decode b_Sr_run 32 = .ok (.ifCond .ne 4, 3) := by decide +kernel
theorem d_Sr_run_35 : decode b_Sr_run 35 = .ok (.return_, 1) := by decide +kernel
theorem d_Sr_run_36 : decode b_Sr_run 36 = .ok (.iinc 3 1, 3) := by decide +kernel
theorem d_Sr_run_39 : decode b_Sr_run 39 = .ok (.goto (-37), 3) := by decide +kernel
theorem d_Sr_run_42 : decode b_Sr_run 42 = .ok (.aload_n 0, 1) := by decide +kernel
theorem d_Sr_run_43 : decode b_Sr_run 43 = .ok (.aload_n 1, 1) := by decide +kernel
theorem d_Sr_run_44 : decode b_Sr_run 44 = .ok (.aload_n 2, 1) := by decide +kernel
theorem d_Sr_run_45 : decode b_Sr_run 45 = .ok (.iconst 0, 1) := by decide +kernel
theorem d_Sr_run_46 : decode b_Sr_run 46 = .ok (.iconst 0, 1) := by decide +kernel
theorem d_Sr_run_47 : decode b_Sr_run 47 = .ok (.invokevirtual 45, 3) := by decide +kernel
theorem d_Sr_run_50 : decode b_Sr_run 50 = .ok (.return_, 1) := by decide +kernel
theorem d_Sr_narrow_0 : decode b_Sr_narrow 0 = .ok (.aload_n 0, 1) := by decide +kernel
theorem d_Sr_narrow_1 : decode b_Sr_narrow 1 = .ok (.iload_n 1, 1) := by decide +kernel
theorem d_Sr_narrow_2 : decode b_Sr_narrow 2 = .ok (.invokevirtual 49, 3) := by decide +kernel
theorem d_Sr_narrow_5 : decode b_Sr_narrow 5 = .ok (.istore 4, 2) := by decide +kernel
theorem d_Sr_narrow_7 : decode b_Sr_narrow 7 = .ok (.aload_n 0, 1) := by decide +kernel
theorem d_Sr_narrow_8 : decode b_Sr_narrow 8 = .ok (.iload_n 2, 1) := by decide +kernel
theorem d_Sr_narrow_9 : decode b_Sr_narrow 9 = .ok (.invokevirtual 49, 3) := by decide +kernel
theorem d_Sr_narrow_12 : decode b_Sr_narrow 12 = .ok (.istore 5, 2) := by decide +kernel
theorem d_Sr_narrow_14 : decode b_Sr_narrow 14 = .ok (.aload_n 0, 1) := by decide +kernel
theorem d_Sr_narrow_15 : decode b_Sr_narrow 15 = .ok (.iload_n 3, 1) := by decide +kernel
theorem d_Sr_narrow_16 : decode b_Sr_narrow 16 = .ok (.invokevirtual 49, 3) := by decide +kernel
theorem d_Sr_narrow_19 : decode b_Sr_narrow 19 = .ok (.istore 6, 2) := by decide +kernel
theorem d_Sr_narrow_21 : decode b_Sr_narrow 21 = .ok (.iconst 0, 1) := by decide +kernel
theorem d_Sr_narrow_22 : decode b_Sr_narrow 22 = .ok (.istore 7, 2) := by decide +kernel
theorem d_Sr_narrow_24 : decode b_Sr_narrow 24 = .ok (.iconst 0, 1) := by decide +kernel
theorem d_Sr_narrow_25 : decode b_Sr_narrow 25 = .ok (.istore 8, 2) := by decide +kernel
theorem d_Sr_narrow_27 : decode b_Sr_narrow 27 = .ok (.iconst 0, 1) := by decide +kernel
theorem d_Sr_narrow_28 : decode b_Sr_narrow 28 = .ok (.istore 9, 2) := by decide +kernel
theorem d_Sr_narrow_30 : decode b_Sr_narrow 30 = .ok (.iconst 0, 1) := by decide +kernel
theorem d_Sr_narrow_31 : decode b_Sr_narrow 31 = .ok (.istore 10, 2) := by decide +kernel
theorem d_Sr_narrow_33 : decode b_Sr_narrow 33 = .ok (.iload 10, 2) := by decide +kernel
theorem d_Sr_narrow_35 : decode b_Sr_narrow 35 = .ok (.bipush 16, 2) := by decide +kernel
theorem d_Sr_narrow_37 : decode b_Sr_narrow 37 = .ok (.if_icmp .ge 98, 3) := by decide +kernel
theorem d_Sr_narrow_40 : decode b_Sr_narrow 40 = .ok (.iload 4, 2) := by decide +kernel
theorem d_Sr_narrow_42 : decode b_Sr_narrow 42 = .ok (.iload 10, 2) := by decide +kernel
theorem d_Sr_narrow_44 : decode b_Sr_narrow 44 = .ok (.ishr, 1) := by decide +kernel
theorem d_Sr_narrow_45 : decode b_Sr_narrow 45 = .ok (.iconst 1, 1) := by decide +kernel
theorem d_Sr_narrow_46 : decode b_Sr_narrow 46 = .ok (.iand, 1) := by decide +kernel
theorem d_Sr_narrow_47 : decode b_Sr_narrow 47 = .ok (.ifCond .ne 6, 3) := by decide +kernel
theorem d_Sr_narrow_50 : decode b_Sr_narrow 50 = .ok (.goto 79, 3) := by decide +kernel
theorem d_Sr_narrow_53 : decode b_Sr_narrow 53 = .ok (.iconst 0, 1) := by decide +kernel
theorem d_Sr_narrow_54 : decode b_Sr_narrow 54 = .ok (.istore 11, 2) := by decide +kernel
theorem d_Sr_narrow_56 : decode b_Sr_narrow 56 = .ok (.iload 11, 2) := by decide +kernel
theorem d_Sr_narrow_58 : decode b_Sr_narrow 58 = .ok (.bipush 8, 2) := by decide +kernel
theorem d_Sr_narrow_60 : decode b_Sr_narrow 60 = .ok (.if_icmp .ge 69, 3) := by decide +kernel
theorem d_Sr_narrow_63 : decode b_Sr_narrow 63 = .ok (.iload 5, 2) := by decide +kernel
theorem d_Sr_narrow_65 : decode b_Sr_narrow 65 = .ok (.iload 11, 2) := by decide +kernel
theorem d_Sr_narrow_67 : decode b_Sr_narrow 67 = .ok (.ishr, 1) := by decide +kernel
theorem d_Sr_narrow_68 : decode b_Sr_narrow 68 = .ok (.iconst 1, 1) := by decide +kernel
theorem d_Sr_narrow_69 : decode b_Sr_narrow 69 = .ok (.iand, 1) := by decide +kernel
theorem d_Sr_narrow_70 : decode b_Sr_narrow 70 = .ok (.ifCond .ne 7, 3) := by decide +kernel
theorem d_Sr_narrow_73 : decode b_Sr_narrow 73 = .ok (.iconst 0, 1) := by decide +kernel
theorem d_Sr_narrow_74 : decode b_Sr_narrow 74 = .ok (.goto 17, 3) := by decide +kernel
theorem d_Sr_narrow_77 : decode b_Sr_narrow 77 = .ok (.aload_n 0, 1) := by decide +kernel
theorem d_Sr_narrow_78 : decode b_Sr_narrow 78 = .ok (.getfield 18, 3) := by decide +kernel
theorem d_Sr_narrow_81 : decode b_Sr_narrow 81 = .ok (.iload 10, 2) := by decide +kernel
theorem d_Sr_narrow_83 : decode b_Sr_narrow 83 = .ok (.iload 11, 2) := by decide +kernel
theorem d_Sr_narrow_85 : decode b_Sr_narrow 85 = .ok (.invokevirtual 53, 3) := by decide +kernel
theorem d_Sr_narrow_88 : decode b_Sr_narrow 88 = .ok (.iload 6, 2) := by decide +kernel
theorem d_Sr_narrow_90 : decode b_Sr_narrow 90 = .ok (.iand, 1) := by decide +kernel
theorem d_Sr_narrow_91 : decode b_Sr_narrow 91 = .ok (.istore 12, 2) := by decide +kernel
theorem d_Sr_narrow_93 : decode b_Sr_narrow 93 = .ok (.iload 12, 2) := by decide +kernel
theorem d_Sr_narrow_95 : decode b_Sr_narrow 95 = .ok (.ifCond .eq 28, 3) := by decide +kernel
theorem d_Sr_narrow_98 : decode b_Sr_narrow 98 = .ok (.iload 7, 2) := by decide +kernel
theorem d_Sr_narrow_100 : decode b_Sr_narrow 100 = .ok (.iconst 1, 1) := by decide +kernel
theorem d_Sr_narrow_101 : decode b_Sr_narrow 101 = .ok (.iload 10, 2) := by decide +kernel
theorem d_Sr_narrow_103 : decode b_Sr_narrow 103 = .ok (.ishl, 1) := by decide +kernel
theorem d_Sr_narrow_104 : decode b_Sr_narrow 104 = .ok (.ior, 1) := by decide +kernel
theorem d_Sr_narrow_105 : decode b_Sr_narrow 105 = .ok (.istore 7, 2) := by decide +kernel
theorem d_Sr_narrow_107 : decode b_Sr_narrow 107 = .ok (.iload 8, 2) := by decide +kernel
theorem d_Sr_narrow_109 : decode b_Sr_narrow 109 = .ok (.iconst 1, 1) := by decide +kernel
theorem d_Sr_narrow_110 : decode b_Sr_narrow 110 = .ok (.iload 11, 2) := by decide +kernel
theorem d_Sr_narrow_112 : decode b_Sr_narrow 112 = .ok (.ishl, 1) := by decide +kernel
theorem d_Sr_narrow_113 : decode b_Sr_narrow 113 = .ok (.ior, 1) := by decide +kernel
theorem d_Sr_narrow_114 : decode b_Sr_narrow 114 = .ok (.istore 8, 2) := by decide +kernel
theorem d_Sr_narrow_116 : decode b_Sr_narrow 116 = .ok (.iload 9, 2) := by decide +kernel
theorem d_Sr_narrow_118 : decode b_Sr_narrow 118 = .ok (.iload 12, 2) := by decide +kernel
theorem d_Sr_narrow_120 : decode b_Sr_narrow 120 = .ok (.ior, 1) := by decide +kernel
theorem d_Sr_narrow_121 : decode b_Sr_narrow 121 = .ok (.istore 9, 2) := by decide +kernel
theorem d_Sr_narrow_123 : decode b_Sr_narrow 123 = .ok (.iinc 11 1, 3) := by decide +kernel
theorem d_Sr_narrow_126 : decode b_Sr_narrow 126 = .ok (.goto (-70), 3) := by decide +kernel
theorem d_Sr_narrow_129 : decode b_Sr_narrow 129 = .ok (.iinc 10 1, 3) := by decide +kernel
theorem d_Sr_narrow_132 : decode b_Sr_narrow 132 = .ok (.goto (-99), 3) := by decide +kernel
theorem d_Sr_narrow_135 : decode b_Sr_narrow 135 = .ok (.aload_n 0, 1) := by decide +kernel
theorem d_Sr_narrow_136 : decode b_Sr_narrow 136 = .ok (.iload_n 1, 1) := by decide +kernel
theorem d_Sr_narrow_137 : decode b_Sr_narrow 137 = .ok (.iload 7, 2) := by decide +kernel
theorem d_Sr_narrow_139 : decode b_Sr_narrow 139 = .ok (.invokevirtual 33, 3) := by decide +kernel
theorem d_Sr_narrow_142 : decode b_Sr_narrow 142 = .ok (.ifCond .eq 27, 3) := by decide +kernel
theorem d_Sr_narrow_145 : decode b_Sr_narrow 145 = .ok (.aload_n 0, 1) := by decide +kernel
theorem d_Sr_narrow_146 : decode b_Sr_narrow 146 = .ok (.iload_n 2, 1) := by decide +kernel
theorem d_Sr_narrow_147 : decode b_Sr_narrow 147 = .ok (.iload 8, 2) := by decide +kernel
theorem d_Sr_narrow_149 : decode b_Sr_narrow 149 = .ok (.invokevirtual 33, 3) := by decide +kernel
theorem d_Sr_narrow_152 : decode b_Sr_narrow 152 = .ok (.ifCond .eq 17, 3) := by decide +kernel
theorem d_Sr_narrow_155 : decode b_Sr_narrow 155 = .ok (.aload_n 0, 1) := by decide +kernel
theorem d_Sr_narrow_156 : decode b_Sr_narrow 156 = .ok (.iload_n 3, 1) := by decide +kernel
theorem d_Sr_narrow_157 : decode b_Sr_narrow 157 = .ok (.iload 9, 2) := by decide +kernel
theorem d_Sr_narrow_159 : decode b_Sr_narrow 159 = .ok (.invokevirtual 33, 3) := by decide +kernel
theorem d_Sr_narrow_162 : decode b_Sr_narrow 162 = .ok (.ifCond .eq 7, 3) := by decide +kernel
theorem d_Sr_narrow_165 : decode b_Sr_narrow 165 = .ok (.iconst 1, 1) := by decide +kernel
theorem d_Sr_narrow_166 : decode b_Sr_narrow 166 = .ok (.goto 4, 3) := by decide +kernel
theorem d_Sr_narrow_169 : decode b_Sr_narrow 169 = .ok (.iconst 0, 1) := by decide +kernel
theorem d_Sr_narrow_170 : decode b_Sr_narrow 170 = .ok (.ireturn, 1) := by decide +kernel
theorem d_Sr_extend_0 : decode b_Sr_extend 0 = .ok (.iload_n 3, 1) := by decide +kernel
theorem d_Sr_extend_1 : decode b_Sr_extend 1 = .ok (.ifCond .lt 8, 3) := by decide +kernel
theorem d_Sr_extend_4 : decode b_Sr_extend 4 = .ok (.iload_n 3, 1) := by decide +kernel
theorem d_Sr_extend_5 : decode b_Sr_extend 5 = .ok (.iconst 4, 1) := by decide +kernel
theorem d_Sr_extend_6 : decode b_Sr_extend 6 = .ok (.if_icmp .lt 4, 3) := by decide +kernel
theorem d_Sr_extend_9 : decode b_Sr_extend 9 = .ok (.return_, 1) := by decide +kernel
theorem d_Sr_extend_10 : decode b_Sr_extend 10 = .ok (.aload_n 0, 1) := by decide +kernel
theorem d_Sr_extend_11 : decode b_Sr_extend 11 = .ok (.getfield 9, 3) := by decide +kernel
theorem d_Sr_extend_14 : decode b_Sr_extend 14 = .ok (.iload_n 3, 1) := by decide +kernel
theorem d_Sr_extend_15 : decode b_Sr_extend 15 = .ok (.iaload, 1) := by decide +kernel
theorem d_Sr_extend_16 : decode b_Sr_extend 16 = .ok (.istore 5, 2) := by decide +kernel
theorem d_Sr_extend_18 : decode b_Sr_extend 18 = .ok (.iconst 0, 1) := by decide +kernel
theorem d_Sr_extend_19 : decode b_Sr_extend 19 = .ok (.istore 6, 2) := by decide +kernel
theorem d_Sr_extend_21 : decode b_Sr_extend 21 = .ok (.iload 6, 2) := by decide +kernel
theorem d_Sr_extend_23 : decode b_Sr_extend 23 = .ok (.aload_n 1, 1) := by decide +kernel
theorem d_Sr_extend_24 : decode b_Sr_extend 24 = .ok (.getfield 37, 3) := by decide +kernel
theorem d_Sr_extend_27 : decode b_Sr_extend 27 = .ok (.if_icmp .ge 37, 3) := by decide +kernel
theorem d_Sr_extend_30 : decode b_Sr_extend 30 = .ok (.iload 5, 2) := by decide +kernel
theorem d_Sr_extend_32 : decode b_Sr_extend 32 = .ok (.ifCond .eq 32, 3) := by decide +kernel
theorem d_Sr_extend_35 : decode b_Sr_extend 35 = .ok (.aload_n 1, 1) := by decide +kernel
theorem d_Sr_extend_36 : decode b_Sr_extend 36 = .ok (.getfield 58, 3) := by decide +kernel
theorem d_Sr_extend_39 : decode b_Sr_extend 39 = .ok (.iload 6, 2) := by decide +kernel
theorem d_Sr_extend_41 : decode b_Sr_extend 41 = .ok (.iaload, 1) := by decide +kernel
theorem d_Sr_extend_42 : decode b_Sr_extend 42 = .ok (.iload_n 3, 1) := by decide +kernel
theorem d_Sr_extend_43 : decode b_Sr_extend 43 = .ok (.if_icmp .ne 15, 3) := by decide +kernel
theorem d_Sr_extend_46 : decode b_Sr_extend 46 = .ok (.aload_n 0, 1) := by decide +kernel
theorem d_Sr_extend_47 : decode b_Sr_extend 47 = .ok (.aload_n 1, 1) := by decide +kernel
theorem d_Sr_extend_48 : decode b_Sr_extend 48 = .ok (.iload 6, 2) := by decide +kernel
theorem d_Sr_extend_50 : decode b_Sr_extend 50 = .ok (.iload_n 3, 1) := by decide +kernel
theorem d_Sr_extend_51 : decode b_Sr_extend 51 = .ok (.iload 5, 2) := by decide +kernel
theorem d_Sr_extend_53 : decode b_Sr_extend 53 = .ok (.invokevirtual 61, 3) := by decide +kernel
theorem d_Sr_extend_56 : decode b_Sr_extend 56 = .ok (.istore 5, 2) := by decide +kernel
theorem d_Sr_extend_58 : decode b_Sr_extend 58 = .ok (.iinc 6 1, 3) := by decide +kernel
theorem d_Sr_extend_61 : decode b_Sr_extend 61 = .ok (.goto (-40), 3) := by decide +kernel
theorem d_Sr_extend_64 : decode b_Sr_extend 64 = .ok (.iload_n 3, 1) := by decide +kernel
theorem d_Sr_extend_65 : decode b_Sr_extend 65 = .ok (.iconst 3, 1) := by decide +kernel
theorem d_Sr_extend_66 : decode b_Sr_extend 66 = .ok (.if_icmp .ne 12, 3) := by decide +kernel
theorem d_Sr_extend_69 : decode b_Sr_extend 69 = .ok (.aload_n 2, 1) := by decide +kernel
theorem d_Sr_extend_70 : decode b_Sr_extend 70 = .ok (.iload 4, 2) := by decide +kernel
theorem d_Sr_extend_72 : decode b_Sr_extend 72 = .ok (.iload 5, 2) := by decide +kernel
theorem d_Sr_extend_74 : decode b_Sr_extend 74 = .ok (.invokevirtual 65, 3) := by decide +kernel
theorem d_Sr_extend_77 : decode b_Sr_extend 77 = .ok (.return_, 1) := by decide +kernel
theorem d_Sr_extend_78 : decode b_Sr_extend 78 = .ok (.iconst 0, 1) := by decide +kernel
theorem d_Sr_extend_79 : decode b_Sr_extend 79 = .ok (.istore 6, 2) := by decide +kernel
theorem d_Sr_extend_81 : decode b_Sr_extend 81 = .ok (.iload 6, 2) := by decide +kernel
theorem d_Sr_extend_83 : decode b_Sr_extend 83 = .ok (.bipush 16, 2) := by decide +kernel
theorem d_Sr_extend_85 : decode b_Sr_extend 85 = .ok (.if_icmp .ge 59, 3) := by decide +kernel
theorem d_Sr_extend_88 : decode b_Sr_extend 88 = .ok (.iload 5, 2) := by decide +kernel
theorem d_Sr_extend_90 : decode b_Sr_extend 90 = .ok (.iload 6, 2) := by decide +kernel
theorem d_Sr_extend_92 : decode b_Sr_extend 92 = .ok (.ishr, 1) := by decide +kernel
theorem d_Sr_extend_93 : decode b_Sr_extend 93 = .ok (.ifCond .eq 51, 3) := by decide +kernel
theorem d_Sr_extend_96 : decode b_Sr_extend 96 = .ok (.aload_n 2, 1) := by decide +kernel
theorem d_Sr_extend_97 : decode b_Sr_extend 97 = .ok (.invokevirtual 71, 3) := by decide +kernel
theorem d_Sr_extend_100 : decode b_Sr_extend 100 = .ok (.ifCond .ne 44, 3) := by decide +kernel
theorem d_Sr_extend_103 : decode b_Sr_extend 103 = .ok (.iload 5, 2) := by decide +kernel
theorem d_Sr_extend_105 : decode b_Sr_extend 105 = .ok (.iload 6, 2) := by decide +kernel
theorem d_Sr_extend_107 : decode b_Sr_extend 107 = .ok (.ishr, 1) := by decide +kernel
theorem d_Sr_extend_108 : decode b_Sr_extend 108 = .ok (.iconst 1, 1) := by decide +kernel
theorem d_Sr_extend_109 : decode b_Sr_extend 109 = .ok (.iand, 1) := by decide +kernel
theorem d_Sr_extend_110 : decode b_Sr_extend 110 = .ok (.ifCond .eq 28, 3) := by decide +kernel
theorem d_Sr_extend_113 : decode b_Sr_extend 113 = .ok (.aload_n 0, 1) := by decide +kernel
theorem d_Sr_extend_114 : decode b_Sr_extend 114 = .ok (.getfield 15, 3) := by decide +kernel
theorem d_Sr_extend_117 : decode b_Sr_extend 117 = .ok (.iload_n 3, 1) := by decide +kernel
theorem d_Sr_extend_118 : decode b_Sr_extend 118 = .ok (.iload 6, 2) := by decide +kernel
theorem d_Sr_extend_120 : decode b_Sr_extend 120 = .ok (.iastore, 1) := by decide +kernel
theorem d_Sr_extend_121 : decode b_Sr_extend 121 = .ok (.aload_n 0, 1) := by decide +kernel
theorem d_Sr_extend_122 : decode b_Sr_extend 122 = .ok (.aload_n 1, 1) := by decide +kernel
theorem d_Sr_extend_123 : decode b_Sr_extend 123 = .ok (.aload_n 2, 1) := by decide +kernel
theorem d_Sr_extend_124 : decode b_Sr_extend 124 = .ok (.iload_n 3, 1) := by decide +kernel
theorem d_Sr_extend_125 : decode b_Sr_extend 125 = .ok (.iconst 1, 1) := by decide +kernel
theorem d_Sr_extend_126 : decode b_Sr_extend 126 = .ok (.iadd, 1) := by decide +kernel
theorem d_Sr_extend_127 : decode b_Sr_extend 127 = .ok (.iload 4, 2) := by decide +kernel
theorem d_Sr_extend_129 : decode b_Sr_extend 129 = .ok (.bipush 16, 2) := by decide +kernel
theorem d_Sr_extend_131 : decode b_Sr_extend 131 = .ok (.imul, 1) := by decide +kernel
theorem d_Sr_extend_132 : decode b_Sr_extend 132 = .ok (.iload 6, 2) := by decide +kernel
theorem d_Sr_extend_134 : decode b_Sr_extend 134 = .ok (.iadd, 1) := by decide +kernel
theorem d_Sr_extend_135 : decode b_Sr_extend 135 = .ok (.invokevirtual 45, 3) := by decide +kernel
theorem d_Sr_extend_138 : decode b_Sr_extend 138 = .ok (.iinc 6 1, 3) := by decide +kernel
theorem d_Sr_extend_141 : decode b_Sr_extend 141 = .ok (.goto (-60), 3) := by decide +kernel
theorem d_Sr_extend_144 : decode b_Sr_extend 144 = .ok (.return_, 1) := by decide +kernel
theorem d_Sr_filter_0 : decode b_Sr_filter 0 = .ok (.iconst (-1), 1) := by decide +kernel
theorem d_Sr_filter_1 : decode b_Sr_filter 1 = .ok (.iload_n 3, 1) := by decide +kernel
theorem d_Sr_filter_2 : decode b_Sr_filter 2 = .ok (.isub, 1) := by decide +kernel
theorem d_Sr_filter_3 : decode b_Sr_filter 3 = .ok (.istore 5, 2) := by decide +kernel
theorem d_Sr_filter_5 : decode b_Sr_filter 5 = .ok (.aload_n 1, 1) := by decide +kernel
theorem d_Sr_filter_6 : decode b_Sr_filter 6 = .ok (.iload_n 2, 1) := by decide +kernel
theorem d_Sr_filter_7 : decode b_Sr_filter 7 = .ok (.iconst 0, 1) := by decide +kernel
theorem d_Sr_filter_8 : decode b_Sr_filter 8 = .ok (.invokevirtual 29, 3) := by decide +kernel
theorem d_Sr_filter_11 : decode b_Sr_filter 11 = .ok (.istore 6, 2) := by decide +kernel
theorem d_Sr_filter_13 : decode b_Sr_filter 13 = .ok (.aload_n 1, 1) := by decide +kernel
theorem d_Sr_filter_14 : decode b_Sr_filter 14 = .ok (.iload_n 2, 1) := by decide +kernel
theorem d_Sr_filter_15 : decode b_Sr_filter 15 = .ok (.iconst 1, 1) := by decide +kernel
theorem d_Sr_filter_16 : decode b_Sr_filter 16 = .ok (.invokevirtual 29, 3) := by decide +kernel
theorem d_Sr_filter_19 : decode b_Sr_filter 19 = .ok (.istore 7, 2) := by decide +kernel
theorem d_Sr_filter_21 : decode b_Sr_filter 21 = .ok (.aload_n 1, 1) := by decide +kernel
theorem d_Sr_filter_22 : decode b_Sr_filter 22 = .ok (.iload_n 2, 1) := by decide +kernel
theorem d_Sr_filter_23 : decode b_Sr_filter 23 = .ok (.iconst 2, 1) := by decide +kernel
theorem d_Sr_filter_24 : decode b_Sr_filter 24 = .ok (.invokevirtual 29, 3) := by decide +kernel
theorem d_Sr_filter_27 : decode b_Sr_filter 27 = .ok (.istore 8, 2) := by decide +kernel
theorem d_Sr_filter_29 : decode b_Sr_filter 29 = .ok (.iload 6, 2) := by decide +kernel
theorem d_Sr_filter_31 : decode b_Sr_filter 31 = .ok (.iload 5, 2) := by decide +kernel
theorem d_Sr_filter_33 : decode b_Sr_filter 33 = .ok (.if_icmp .eq 33, 3) := by decide +kernel
theorem d_Sr_filter_36 : decode b_Sr_filter 36 = .ok (.iload 7, 2) := by decide +kernel
theorem d_Sr_filter_38 : decode b_Sr_filter 38 = .ok (.iload 5, 2) := by decide +kernel
theorem d_Sr_filter_40 : decode b_Sr_filter 40 = .ok (.if_icmp .eq 26, 3) := by decide +kernel
theorem d_Sr_filter_43 : decode b_Sr_filter 43 = .ok (.iload 4, 2) := by decide +kernel
theorem d_Sr_filter_45 : decode b_Sr_filter 45 = .ok (.aload_n 0, 1) := by decide +kernel
theorem d_Sr_filter_46 : decode b_Sr_filter 46 = .ok (.getfield 18, 3) := by decide +kernel
theorem d_Sr_filter_49 : decode b_Sr_filter 49 = .ok (.aload_n 0, 1) := by decide +kernel
theorem d_Sr_filter_50 : decode b_Sr_filter 50 = .ok (.iload 6, 2) := by decide +kernel
theorem d_Sr_filter_52 : decode b_Sr_filter 52 = .ok (.invokevirtual 75, 3) := by decide +kernel
theorem d_Sr_filter_55 : decode b_Sr_filter 55 = .ok (.aload_n 0, 1) := by decide +kernel
theorem d_Sr_filter_56 : decode b_Sr_filter 56 = .ok (.iload 7, 2) := by decide +kernel
theorem d_Sr_filter_58 : decode b_Sr_filter 58 = .ok (.invokevirtual 75, 3) := by decide +kernel
theorem d_Sr_filter_61 : decode b_Sr_filter 61 = .ok (.invokevirtual 53, 3) := by decide +kernel
theorem d_Sr_filter_64 : decode b_Sr_filter 64 = .ok (.iand, 1) := by decide +kernel
theorem d_Sr_filter_65 : decode b_Sr_filter 65 = .ok (.ireturn, 1) := by decide +kernel
theorem d_Sr_filter_66 : decode b_Sr_filter 66 = .ok (.iconst 0, 1) := by decide +kernel
theorem d_Sr_filter_67 : decode b_Sr_filter 67 = .ok (.istore 9, 2) := by decide +kernel
theorem d_Sr_filter_69 : decode b_Sr_filter 69 = .ok (.iconst 0, 1) := by decide +kernel
theorem d_Sr_filter_70 : decode b_Sr_filter 70 = .ok (.istore 10, 2) := by decide +kernel
theorem d_Sr_filter_72 : decode b_Sr_filter 72 = .ok (.iload 10, 2) := by decide +kernel
theorem d_Sr_filter_74 : decode b_Sr_filter 74 = .ok (.bipush 16, 2) := by decide +kernel
theorem d_Sr_filter_76 : decode b_Sr_filter 76 = .ok (.if_icmp .ge 71, 3) := by decide +kernel
theorem d_Sr_filter_79 : decode b_Sr_filter 79 = .ok (.iload 4, 2) := by decide +kernel
theorem d_Sr_filter_81 : decode b_Sr_filter 81 = .ok (.iload 10, 2) := by decide +kernel
theorem d_Sr_filter_83 : decode b_Sr_filter 83 = .ok (.ishr, 1) := by decide +kernel
theorem d_Sr_filter_84 : decode b_Sr_filter 84 = .ok (.ifCond .eq 63, 3) := by decide +kernel
theorem d_Sr_filter_87 : decode b_Sr_filter 87 = .ok (.iload 4, 2) := by decide +kernel
theorem d_Sr_filter_89 : decode b_Sr_filter 89 = .ok (.iload 10, 2) := by decide +kernel
theorem d_Sr_filter_91 : decode b_Sr_filter 91 = .ok (.ishr, 1) := by decide +kernel
theorem d_Sr_filter_92 : decode b_Sr_filter 92 = .ok (.iconst 1, 1) := by decide +kernel
theorem d_Sr_filter_93 : decode b_Sr_filter 93 = .ok (.iand, 1) := by decide +kernel
theorem d_Sr_filter_94 : decode b_Sr_filter 94 = .ok (.ifCond .eq 47, 3) := by decide +kernel
theorem d_Sr_filter_97 : decode b_Sr_filter 97 = .ok (.aload_n 0, 1) := by decide +kernel
theorem d_Sr_filter_98 : decode b_Sr_filter 98 = .ok (.getfield 15, 3) := by decide +kernel
theorem d_Sr_filter_101 : decode b_Sr_filter 101 = .ok (.iload_n 3, 1) := by decide +kernel
theorem d_Sr_filter_102 : decode b_Sr_filter 102 = .ok (.iload 10, 2) := by decide +kernel
theorem d_Sr_filter_104 : decode b_Sr_filter 104 = .ok (.iastore, 1) := by decide +kernel
theorem d_Sr_filter_105 : decode b_Sr_filter 105 = .ok (.iload 9, 2) := by decide +kernel
theorem d_Sr_filter_107 : decode b_Sr_filter 107 = .ok (.aload_n 0, 1) := by decide +kernel
theorem d_Sr_filter_108 : decode b_Sr_filter 108 = .ok (.getfield 18, 3) := by decide +kernel
theorem d_Sr_filter_111 : decode b_Sr_filter 111 = .ok (.aload_n 0, 1) := by decide +kernel
theorem d_Sr_filter_112 : decode b_Sr_filter 112 = .ok (.iload 6, 2) := by decide +kernel
theorem d_Sr_filter_114 : decode b_Sr_filter 114 = .ok (.invokevirtual 75, 3) := by decide +kernel
theorem d_Sr_filter_117 : decode b_Sr_filter 117 = .ok (.aload_n 0, 1) := by decide +kernel
theorem d_Sr_filter_118 : decode b_Sr_filter 118 = .ok (.iload 7, 2) := by decide +kernel
theorem d_Sr_filter_120 : decode b_Sr_filter 120 = .ok (.invokevirtual 75, 3) := by decide +kernel
theorem d_Sr_filter_123 : decode b_Sr_filter 123 = .ok (.invokevirtual 53, 3) := by decide +kernel
theorem d_Sr_filter_126 : decode b_Sr_filter 126 = .ok (.aload_n 0, 1) := by decide +kernel
theorem d_Sr_filter_127 : decode b_Sr_filter 127 = .ok (.iload 8, 2) := by decide +kernel
theorem d_Sr_filter_129 : decode b_Sr_filter 129 = .ok (.invokevirtual 75, 3) := by decide +kernel
theorem d_Sr_filter_132 : decode b_Sr_filter 132 = .ok (.ishr, 1) := by decide +kernel
theorem d_Sr_filter_133 : decode b_Sr_filter 133 = .ok (.iconst 1, 1) := by decide +kernel
theorem d_Sr_filter_134 : decode b_Sr_filter 134 = .ok (.iand, 1) := by decide +kernel
theorem d_Sr_filter_135 : decode b_Sr_filter 135 = .ok (.iload 10, 2) := by decide +kernel
theorem d_Sr_filter_137 : decode b_Sr_filter 137 = .ok (.ishl, 1) := by decide +kernel
theorem d_Sr_filter_138 : decode b_Sr_filter 138 = .ok (.ior, 1) := by decide +kernel
theorem d_Sr_filter_139 : decode b_Sr_filter 139 = .ok (.istore 9, 2) := by decide +kernel
theorem d_Sr_filter_141 : decode b_Sr_filter 141 = .ok (.iinc 10 1, 3) := by decide +kernel
theorem d_Sr_filter_144 : decode b_Sr_filter 144 = .ok (.goto (-72), 3) := by decide +kernel
theorem d_Sr_filter_147 : decode b_Sr_filter 147 = .ok (.iload 9, 2) := by decide +kernel
theorem d_Sr_filter_149 : decode b_Sr_filter 149 = .ok (.ireturn, 1) := by decide +kernel
theorem d_Sr_valueOf_0 : decode b_Sr_valueOf 0 = .ok (.iconst (-1), 1) := by decide +kernel
theorem d_Sr_valueOf_1 : decode b_Sr_valueOf 1 = .ok (.iload_n 1, 1) := by decide +kernel
theorem d_Sr_valueOf_2 : decode b_Sr_valueOf 2 = .ok (.isub, 1) := by decide +kernel
theorem d_Sr_valueOf_3 : decode b_Sr_valueOf 3 = .ok (.istore_n 2, 1) := by decide +kernel
theorem d_Sr_valueOf_4 : decode b_Sr_valueOf 4 = .ok (.iload_n 2, 1) := by decide +kernel
theorem d_Sr_valueOf_5 : decode b_Sr_valueOf 5 = .ok (.ifCond .lt 17, 3) := by decide +kernel
theorem d_Sr_valueOf_8 : decode b_Sr_valueOf 8 = .ok (.iload_n 2, 1) := by decide +kernel
theorem d_Sr_valueOf_9 : decode b_Sr_valueOf 9 = .ok (.iconst 4, 1) := by decide +kernel
theorem d_Sr_valueOf_10 : decode b_Sr_valueOf 10 = .ok (.if_icmp .ge 12, 3) := by decide +kernel
theorem d_Sr_valueOf_13 : decode b_Sr_valueOf 13 = .ok (.aload_n 0, 1) := by decide +kernel
theorem d_Sr_valueOf_14 : decode b_Sr_valueOf 14 = .ok (.getfield 15, 3) := by decide +kernel
theorem d_Sr_valueOf_17 : decode b_Sr_valueOf 17 = .ok (.iload_n 2, 1) := by decide +kernel
theorem d_Sr_valueOf_18 : decode b_Sr_valueOf 18 = .ok (.iaload, 1) := by decide +kernel
theorem d_Sr_valueOf_19 : decode b_Sr_valueOf 19 = .ok (.goto 4, 3) := by decide +kernel
theorem d_Sr_valueOf_22 : decode b_Sr_valueOf 22 = .ok (.iload_n 1, 1) := by decide +kernel
theorem d_Sr_valueOf_23 : decode b_Sr_valueOf 23 = .ok (.ireturn, 1) := by decide +kernel
theorem d_Sr_allowed_0 : decode b_Sr_allowed 0 = .ok (.iconst (-1), 1) := by decide +kernel
theorem d_Sr_allowed_1 : decode b_Sr_allowed 1 = .ok (.iload_n 1, 1) := by decide +kernel
theorem d_Sr_allowed_2 : decode b_Sr_allowed 2 = .ok (.isub, 1) := by decide +kernel
theorem d_Sr_allowed_3 : decode b_Sr_allowed 3 = .ok (.istore_n 2, 1) := by decide +kernel
theorem d_Sr_allowed_4 : decode b_Sr_allowed 4 = .ok (.iload_n 2, 1) := by decide +kernel
theorem d_Sr_allowed_5 : decode b_Sr_allowed 5 = .ok (.ifCond .lt 17, 3) := by decide +kernel
theorem d_Sr_allowed_8 : decode b_Sr_allowed 8 = .ok (.iload_n 2, 1) := by decide +kernel
theorem d_Sr_allowed_9 : decode b_Sr_allowed 9 = .ok (.iconst 4, 1) := by decide +kernel
theorem d_Sr_allowed_10 : decode b_Sr_allowed 10 = .ok (.if_icmp .ge 12, 3) := by decide +kernel
theorem d_Sr_allowed_13 : decode b_Sr_allowed 13 = .ok (.aload_n 0, 1) := by decide +kernel
theorem d_Sr_allowed_14 : decode b_Sr_allowed 14 = .ok (.getfield 9, 3) := by decide +kernel
theorem d_Sr_allowed_17 : decode b_Sr_allowed 17 = .ok (.iload_n 2, 1) := by decide +kernel
theorem d_Sr_allowed_18 : decode b_Sr_allowed 18 = .ok (.iaload, 1) := by decide +kernel
theorem d_Sr_allowed_19 : decode b_Sr_allowed 19 = .ok (.goto 6, 3) := by decide +kernel
theorem d_Sr_allowed_22 : decode b_Sr_allowed 22 = .ok (.iconst 1, 1) := by decide +kernel
theorem d_Sr_allowed_23 : decode b_Sr_allowed 23 = .ok (.iload_n 1, 1) := by decide +kernel
theorem d_Sr_allowed_24 : decode b_Sr_allowed 24 = .ok (.ishl, 1) := by decide +kernel
theorem d_Sr_allowed_25 : decode b_Sr_allowed 25 = .ok (.ireturn, 1) := by decide +kernel
theorem d_Sr_keep_0 : decode b_Sr_keep 0 = .ok (.iconst (-1), 1) := by decide +kernel
theorem d_Sr_keep_1 : decode b_Sr_keep 1 = .ok (.iload_n 1, 1) := by decide +kernel
theorem d_Sr_keep_2 : decode b_Sr_keep 2 = .ok (.isub, 1) := by decide +kernel
theorem d_Sr_keep_3 : decode b_Sr_keep 3 = .ok (.istore_n 3, 1) := by decide +kernel
theorem d_Sr_keep_4 : decode b_Sr_keep 4 = .ok (.iload_n 3, 1) := by decide +kernel
theorem d_Sr_keep_5 : decode b_Sr_keep 5 = .ok (.ifCond .lt 18, 3) := by decide +kernel
theorem d_Sr_keep_8 : decode b_Sr_keep 8 = .ok (.iload_n 3, 1) := by decide +kernel
theorem d_Sr_keep_9 : decode b_Sr_keep 9 = .ok (.iconst 4, 1) := by decide +kernel
theorem d_Sr_keep_10 : decode b_Sr_keep 10 = .ok (.if_icmp .ge 13, 3) := by decide +kernel
theorem d_Sr_keep_13 : decode b_Sr_keep 13 = .ok (.aload_n 0, 1) := by decide +kernel
theorem d_Sr_keep_14 : decode b_Sr_keep 14 = .ok (.getfield 9, 3) := by decide +kernel
theorem d_Sr_keep_17 : decode b_Sr_keep 17 = .ok (.iload_n 3, 1) := by decide +kernel
theorem d_Sr_keep_18 : decode b_Sr_keep 18 = .ok (.dup2, 1) := by decide +kernel
theorem d_Sr_keep_19 : decode b_Sr_keep 19 = .ok (.iaload, 1) := by decide +kernel
theorem d_Sr_keep_20 : decode b_Sr_keep 20 = .ok (.iload_n 2, 1) := by decide +kernel
theorem d_Sr_keep_21 : decode b_Sr_keep 21 = .ok (.iand, 1) := by decide +kernel
theorem d_Sr_keep_22 : decode b_Sr_keep 22 = .ok (.iastore, 1) := by decide +kernel
theorem d_Sr_keep_23 : decode b_Sr_keep 23 = .ok (.aload_n 0, 1) := by decide +kernel
theorem d_Sr_keep_24 : decode b_Sr_keep 24 = .ok (.iload_n 1, 1) := by decide +kernel
theorem d_Sr_keep_25 : decode b_Sr_keep 25 = .ok (.invokevirtual 49, 3) := by decide +kernel
theorem d_Sr_keep_28 : decode b_Sr_keep 28 = .ok (.iload_n 2, 1) := by decide +kernel
theorem d_Sr_keep_29 : decode b_Sr_keep 29 = .ok (.iand, 1) := by decide +kernel
theorem d_Sr_keep_30 : decode b_Sr_keep 30 = .ok (.ifCond .eq 7, 3) := by decide +kernel
theorem d_Sr_keep_33 : decode b_Sr_keep 33 = .ok (.iconst 1, 1) := by decide +kernel
theorem d_Sr_keep_34 : decode b_Sr_keep 34 = .ok (.goto 4, 3) := by decide +kernel
theorem d_Sr_keep_37 : decode b_Sr_keep 37 = .ok (.iconst 0, 1) := by decide +kernel
theorem d_Sr_keep_38 : decode b_Sr_keep 38 = .ok (.ireturn, 1) := by decide +kernel
end
section
theorem d_C_init_0 : decode b_C_init 0 = .ok (.aload_n 0, 1) := by decide +kernel
theorem d_C_init_1 : decode b_C_init 1 = .ok (.invokespecial 3, 3) := by decide +kernel
theorem d_C_init_4 : decode b_C_init 4 = .ok (.aload_n 0, 1) := by decide +kernel
theorem d_C_init_5 : decode b_C_init 5 = .ok (.new 9, 3) := by decide +kernel
theorem d_C_init_8 : decode b_C_init 8 = .ok (.dup, 1) := by decide +kernel
theorem d_C_init_9 : decode b_C_init 9 = .ok (.invokespecial 11, 3) := by decide +kernel
theorem d_C_init_12 : decode b_C_init 12 = .ok (.putfield 12, 3) := by decide +kernel
theorem d_C_init_15 : decode b_C_init 15 = .ok (.aload_n 0, 1) := by decide +kernel
theorem d_C_init_16 : decode b_C_init 16 = .ok (.bipush 12, 2) := by decide +kernel
theorem d_C_init_18 : decode b_C_init 18 = .ok (.anewarray 16, 3) := by decide +kernel
theorem d_C_init_21 : decode b_C_init 21 = .ok (.putfield 18, 3) := by decide +kernel
theorem d_C_init_24 : decode b_C_init 24 = .ok (.aload_n 0, 1) := by decide +kernel
theorem d_C_init_25 : decode b_C_init 25 = .ok (.new 22, 3) := by decide +kernel
theorem d_C_init_28 : decode b_C_init 28 = .ok (.dup, 1) := by decide +kernel
theorem d_C_init_29 : decode b_C_init 29 = .ok (.invokespecial 24, 3) := by decide +kernel
theorem d_C_init_32 : decode b_C_init 32 = .ok (.putfield 25, 3) := by decide +kernel
theorem d_C_init_35 : decode b_C_init 35 = .ok (.aload_n 0, 1) := by decide +kernel
theorem d_C_init_36 : decode b_C_init 36 = .ok (.new 29, 3) := by decide +kernel
theorem d_C_init_39 : decode b_C_init 39 = .ok (.dup, 1) := by decide +kernel
theorem d_C_init_40 : decode b_C_init 40 = .ok (.aload_n 0, 1) := by decide +kernel
theorem d_C_init_41 : decode b_C_init 41 = .ok (.getfield 25, 3) := by decide +kernel
theorem d_C_init_44 : decode b_C_init 44 = .ok (.invokespecial 31, 3) := by decide +kernel
theorem d_C_init_47 : decode b_C_init 47 = .ok (.putfield 34, 3) := by decide +kernel
theorem d_C_init_50 : decode b_C_init 50 = .ok (.aload_n 0, 1) := by decide +kernel
theorem d_C_init_51 : decode b_C_init 51 = .ok (.new 38, 3) := by decide +kernel
theorem d_C_init_54 : decode b_C_init 54 = .ok (.dup, 1) := by decide +kernel
theorem d_C_init_55 : decode b_C_init 55 = .ok (.sipush 4096, 3) := by decide +kernel
theorem d_C_init_58 : decode b_C_init 58 = .ok (.invokespecial 40, 3) := by decide +kernel
theorem d_C_init_61 : decode b_C_init 61 = .ok (.putfield 43, 3) := by decide +kernel
theorem d_C_init_64 : decode b_C_init 64 = .ok (.aload_n 0, 1) := by decide +kernel
theorem d_C_init_65 : decode b_C_init 65 = .ok (.new 38, 3) := by decide +kernel
theorem d_C_init_68 : decode b_C_init 68 = .ok (.dup, 1) := by decide +kernel
theorem d_C_init_69 : decode b_C_init 69 = .ok (.sipush 4096, 3) := by decide +kernel
theorem d_C_init_72 : decode b_C_init 72 = .ok (.invokespecial 40, 3) := by decide +kernel
theorem d_C_init_75 : decode b_C_init 75 = .ok (.putfield 47, 3) := by decide +kernel
theorem d_C_init_78 : decode b_C_init 78 = .ok (.aload_n 0, 1) := by decide +kernel
theorem d_C_init_79 : decode b_C_init 79 = .ok (.new 38, 3) := by decide +kernel
theorem d_C_init_82 : decode b_C_init 82 = .ok (.dup, 1) := by decide +kernel
theorem d_C_init_83 : decode b_C_init 83 = .ok (.iconst 1, 1) := by decide +kernel
theorem d_C_init_84 : decode b_C_init 84 = .ok (.invokespecial 40, 3) := by decide +kernel
theorem d_C_init_87 : decode b_C_init 87 = .ok (.putfield 50, 3) := by decide +kernel
theorem d_C_init_90 : decode b_C_init 90 = .ok (.aload_n 0, 1) := by decide +kernel
theorem d_C_init_91 : decode b_C_init 91 = .ok (.iconst 1, 1) := by decide +kernel
theorem d_C_init_92 : decode b_C_init 92 = .ok (.iload_n 1, 1) := by decide +kernel
theorem d_C_init_93 : decode b_C_init 93 = .ok (.bipush 62, 2) := by decide +kernel
theorem d_C_init_95 : decode b_C_init 95 = .ok (.invokestatic 53, 3) := by decide +kernel
theorem d_C_init_98 : decode b_C_init 98 = .ok (.iadd, 1) := by decide +kernel
theorem d_C_init_99 : decode b_C_init 99 = .ok (.putfield 59, 3) := by decide +kernel
theorem d_C_init_102 : decode b_C_init 102 = .ok (.return_, 1) := by decide +kernel
theorem d_C_change_0 : decode b_C_change 0 = .ok (.iload_n 1, 1) := by decide +kernel
theorem d_C_change_1 : decode b_C_change 1 = .ok (.iload_n 2, 1) := by decide +kernel
theorem d_C_change_2 : decode b_C_change 2 = .ok (.iload_n 3, 1) := by decide +kernel
theorem d_C_change_3 : decode b_C_change 3 = .ok (.invokestatic 63, 3) := by decide +kernel
theorem d_C_change_6 : decode b_C_change 6 = .ok (.ifCond .ne 5, 3) := by decide +kernel
theorem d_C_change_9 : decode b_C_change 9 = .ok (.iconst (-1), 1) := by decide +kernel
theorem d_C_change_10 : decode b_C_change 10 = .ok (.ireturn, 1) := by decide +kernel
theorem d_C_change_11 : decode b_C_change 11 = .ok (.aload_n 0, 1) := by decide +kernel
theorem d_C_change_12 : decode b_C_change 12 = .ok (.getfield 12, 3) := by decide +kernel
theorem d_C_change_15 : decode b_C_change 15 = .ok (.invokevirtual 67, 3) := by decide +kernel
theorem d_C_change_18 : decode b_C_change 18 = .ok (.ifCond .eq 6, 3) := by decide +kernel
theorem d_C_change_21 : decode b_C_change 21 = .ok (.bipush (-3), 2) := by decide +kernel
theorem d_C_change_23 : decode b_C_change 23 = .ok (.ireturn, 1) := by decide +kernel
theorem d_C_change_24 : decode b_C_change 24 = .ok (.iload_n 1, 1) := by decide +kernel
theorem d_C_change_25 : decode b_C_change 25 = .ok (.iload_n 2, 1) := by decide +kernel
theorem d_C_change_26 : decode b_C_change 26 = .ok (.iload_n 3, 1) := by decide +kernel
theorem d_C_change_27 : decode b_C_change 27 = .ok (.invokestatic 71, 3) := by decide +kernel
theorem d_C_change_30 : decode b_C_change 30 = .ok (.istore 5, 2) := by decide +kernel
theorem d_C_change_32 : decode b_C_change 32 = .ok (.aload_n 0, 1) := by decide +kernel
theorem d_C_change_33 : decode b_C_change 33 = .ok (.getfield 12, 3) := by decide +kernel
theorem d_C_change_36 : decode b_C_change 36 = .ok (.aload_n 0, 1) := by decide +kernel
theorem d_C_change_37 : decode b_C_change 37 = .ok (.getfield 12, 3) := by decide +kernel
theorem d_C_change_40 : decode b_C_change 40 = .ok (.iload 5, 2) := by decide +kernel
theorem d_C_change_42 : decode b_C_change 42 = .ok (.aload_n 0, 1) := by decide +kernel
theorem d_C_change_43 : decode b_C_change 43 = .ok (.getfield 75, 3) := by decide +kernel
theorem d_C_change_46 : decode b_C_change 46 = .ok (.invokevirtual 78, 3) := by decide +kernel
theorem d_C_change_49 : decode b_C_change 49 = .ok (.invokevirtual 81, 3) := by decide +kernel
theorem d_C_change_52 : decode b_C_change 52 = .ok (.istore 6, 2) := by decide +kernel
theorem d_C_change_54 : decode b_C_change 54 = .ok (.aload_n 0, 1) := by decide +kernel
theorem d_C_change_55 : decode b_C_change 55 = .ok (.getfield 12, 3) := by decide +kernel
theorem d_C_change_58 : decode b_C_change 58 = .ok (.aload_n 0, 1) := by decide +kernel
theorem d_C_change_59 : decode b_C_change 59 = .ok (.getfield 75, 3) := by decide +kernel
theorem d_C_change_62 : decode b_C_change 62 = .ok (.iload 5, 2) := by decide +kernel
theorem d_C_change_64 : decode b_C_change 64 = .ok (.iload 4, 2) := by decide +kernel
theorem d_C_change_66 : decode b_C_change 66 = .ok (.invokevirtual 85, 3) := by decide +kernel
theorem d_C_change_69 : decode b_C_change 69 = .ok (.pop, 1) := by decide +kernel
theorem d_C_change_70 : decode b_C_change 70 = .ok (.iload 6, 2) := by decide +kernel
theorem d_C_change_72 : decode b_C_change 72 = .ok (.iload 4, 2) := by decide +kernel
theorem d_C_change_74 : decode b_C_change 74 = .ok (.if_icmp .ne 7, 3) := by decide +kernel
theorem d_C_change_77 : decode b_C_change 77 = .ok (.iconst 0, 1) := by decide +kernel
theorem d_C_change_78 : decode b_C_change 78 = .ok (.goto 4, 3) := by decide +kernel
theorem d_C_change_81 : decode b_C_change 81 = .ok (.iconst 1, 1) := by decide +kernel
theorem d_C_change_82 : decode b_C_change 82 = .ok (.ireturn, 1) := by decide +kernel
theorem d_C_step_0 : decode b_C_step 0 = .ok (.aload_n 0, 1) := by decide +kernel
theorem d_C_step_1 : decode b_C_step 1 = .ok (.getfield 75, 3) := by decide +kernel
theorem d_C_step_4 : decode b_C_step 4 = .ok (.aload_n 0, 1) := by decide +kernel
theorem d_C_step_5 : decode b_C_step 5 = .ok (.getfield 59, 3) := by decide +kernel
theorem d_C_step_8 : decode b_C_step 8 = .ok (.iconst 1, 1) := by decide +kernel
theorem d_C_step_9 : decode b_C_step 9 = .ok (.isub, 1) := by decide +kernel
theorem d_C_step_10 : decode b_C_step 10 = .ok (.if_icmp .lt 6, 3) := by decide +kernel
theorem d_C_step_13 : decode b_C_step 13 = .ok (.bipush (-3), 2) := by decide +kernel
theorem d_C_step_15 : decode b_C_step 15 = .ok (.ireturn, 1) := by decide +kernel
theorem d_C_step_16 : decode b_C_step 16 = .ok (.aload_n 0, 1) := by decide +kernel
theorem d_C_step_17 : decode b_C_step 17 = .ok (.dup, 1) := by decide +kernel
theorem d_C_step_18 : decode b_C_step 18 = .ok (.getfield 75, 3) := by decide +kernel
theorem d_C_step_21 : decode b_C_step 21 = .ok (.iconst 1, 1) := by decide +kernel
theorem d_C_step_22 : decode b_C_step 22 = .ok (.iadd, 1) := by decide +kernel
theorem d_C_step_23 : decode b_C_step 23 = .ok (.putfield 75, 3) := by decide +kernel
theorem d_C_step_26 : decode b_C_step 26 = .ok (.aload_n 0, 1) := by decide +kernel
theorem d_C_step_27 : decode b_C_step 27 = .ok (.getfield 75, 3) := by decide +kernel
theorem d_C_step_30 : decode b_C_step 30 = .ok (.ireturn, 1) := by decide +kernel
theorem d_C_question_0 : decode b_C_question 0 = .ok (.iload_n 1, 1) := by decide +kernel
theorem d_C_question_1 : decode b_C_question 1 = .ok (.invokestatic 89, 3) := by decide +kernel
theorem d_C_question_4 : decode b_C_question 4 = .ok (.ifCond .ne 5, 3) := by decide +kernel
theorem d_C_question_7 : decode b_C_question 7 = .ok (.iconst (-1), 1) := by decide +kernel
theorem d_C_question_8 : decode b_C_question 8 = .ok (.ireturn, 1) := by decide +kernel
theorem d_C_question_9 : decode b_C_question 9 = .ok (.aload_n 0, 1) := by decide +kernel
theorem d_C_question_10 : decode b_C_question 10 = .ok (.getfield 92, 3) := by decide +kernel
theorem d_C_question_13 : decode b_C_question 13 = .ok (.bipush 12, 2) := by decide +kernel
theorem d_C_question_15 : decode b_C_question 15 = .ok (.if_icmp .lt 6, 3) := by decide +kernel
theorem d_C_question_18 : decode b_C_question 18 = .ok (.bipush (-3), 2) := by decide +kernel
theorem d_C_question_20 : decode b_C_question 20 = .ok (.ireturn, 1) := by decide +kernel
theorem d_C_question_21 : decode b_C_question 21 = .ok (.aload_n 0, 1) := by decide +kernel
theorem d_C_question_22 : decode b_C_question 22 = .ok (.getfield 18, 3) := by decide +kernel
theorem d_C_question_25 : decode b_C_question 25 = .ok (.aload_n 0, 1) := by decide +kernel
theorem d_C_question_26 : decode b_C_question 26 = .ok (.getfield 92, 3) := by decide +kernel
theorem d_C_question_29 : decode b_C_question 29 = .ok (.new 16, 3) := by decide +kernel
theorem d_C_question_32 : decode b_C_question 32 = .ok (.dup, 1) := by decide +kernel
theorem d_C_question_33 : decode b_C_question 33 = .ok (.iload_n 1, 1) := by decide +kernel
theorem d_C_question_34 : decode b_C_question 34 = .ok (.invokespecial 95, 3) := by decide +kernel
theorem d_C_question_37 : decode b_C_question 37 = .ok (.aastore, 1) := by decide +kernel
theorem d_C_question_38 : decode b_C_question 38 = .ok (.aload_n 0, 1) := by decide +kernel
theorem d_C_question_39 : decode b_C_question 39 = .ok (.dup, 1) := by decide +kernel
theorem d_C_question_40 : decode b_C_question 40 = .ok (.getfield 92, 3) := by decide +kernel
theorem d_C_question_43 : decode b_C_question 43 = .ok (.iconst 1, 1) := by decide +kernel
theorem d_C_question_44 : decode b_C_question 44 = .ok (.iadd, 1) := by decide +kernel
theorem d_C_question_45 : decode b_C_question 45 = .ok (.putfield 92, 3) := by decide +kernel
theorem d_C_question_48 : decode b_C_question 48 = .ok (.aload_n 0, 1) := by decide +kernel
theorem d_C_question_49 : decode b_C_question 49 = .ok (.getfield 92, 3) := by decide +kernel
theorem d_C_question_52 : decode b_C_question 52 = .ok (.iconst 1, 1) := by decide +kernel
theorem d_C_question_53 : decode b_C_question 53 = .ok (.isub, 1) := by decide +kernel
theorem d_C_question_54 : decode b_C_question 54 = .ok (.ireturn, 1) := by decide +kernel
theorem d_C_pattern_0 : decode b_C_pattern 0 = .ok (.aload_n 0, 1) := by decide +kernel
theorem d_C_pattern_1 : decode b_C_pattern 1 = .ok (.iload_n 1, 1) := by decide +kernel
theorem d_C_pattern_2 : decode b_C_pattern 2 = .ok (.invokevirtual 96, 3) := by decide +kernel
theorem d_C_pattern_5 : decode b_C_pattern 5 = .ok (.astore 5, 2) := by decide +kernel
theorem d_C_pattern_7 : decode b_C_pattern 7 = .ok (.aload 5, 2) := by decide +kernel
theorem d_C_pattern_9 : decode b_C_pattern 9 = .ok (.ifnull 31, 3) := by decide +kernel
theorem d_C_pattern_12 : decode b_C_pattern 12 = .ok (.iload_n 2, 1) := by decide +kernel
theorem d_C_pattern_13 : decode b_C_pattern 13 = .ok (.bipush 16, 2) := by decide +kernel
theorem d_C_pattern_15 : decode b_C_pattern 15 = .ok (.invokestatic 100, 3) := by decide +kernel
theorem d_C_pattern_18 : decode b_C_pattern 18 = .ok (.ifCond .eq 22, 3) := by decide +kernel
theorem d_C_pattern_21 : decode b_C_pattern 21 = .ok (.iload_n 3, 1) := by decide +kernel
theorem d_C_pattern_22 : decode b_C_pattern 22 = .ok (.bipush 8, 2) := by decide +kernel
theorem d_C_pattern_24 : decode b_C_pattern 24 = .ok (.invokestatic 100, 3) := by decide +kernel
theorem d_C_pattern_27 : decode b_C_pattern 27 = .ok (.ifCond .eq 13, 3) := by decide +kernel
theorem d_C_pattern_30 : decode b_C_pattern 30 = .ok (.iload 4, 2) := by decide +kernel
theorem d_C_pattern_32 : decode b_C_pattern 32 = .ok (.bipush 16, 2) := by decide +kernel
theorem d_C_pattern_34 : decode b_C_pattern 34 = .ok (.invokestatic 100, 3) := by decide +kernel
theorem d_C_pattern_37 : decode b_C_pattern 37 = .ok (.ifCond .ne 5, 3) := by decide +kernel
theorem d_C_pattern_40 : decode b_C_pattern 40 = .ok (.iconst (-1), 1) := by decide +kernel
theorem d_C_pattern_41 : decode b_C_pattern 41 = .ok (.ireturn, 1) := by decide +kernel
theorem d_C_pattern_42 : decode b_C_pattern 42 = .ok (.aload 5, 2) := by decide +kernel
theorem d_C_pattern_44 : decode b_C_pattern 44 = .ok (.iload_n 2, 1) := by decide +kernel
theorem d_C_pattern_45 : decode b_C_pattern 45 = .ok (.iload_n 3, 1) := by decide +kernel
theorem d_C_pattern_46 : decode b_C_pattern 46 = .ok (.iload 4, 2) := by decide +kernel
theorem d_C_pattern_48 : decode b_C_pattern 48 = .ok (.invokevirtual 104, 3) := by decide +kernel
theorem d_C_pattern_51 : decode b_C_pattern 51 = .ok (.ifCond .eq 11, 3) := by decide +kernel
theorem d_C_pattern_54 : decode b_C_pattern 54 = .ok (.aload 5, 2) := by decide +kernel
theorem d_C_pattern_56 : decode b_C_pattern 56 = .ok (.getfield 107, 3) := by decide +kernel
theorem d_C_pattern_59 : decode b_C_pattern 59 = .ok (.goto 5, 3) := by decide +kernel
theorem d_C_pattern_62 : decode b_C_pattern 62 = .ok (.bipush (-3), 2) := by decide +kernel
theorem d_C_pattern_64 : decode b_C_pattern 64 = .ok (.ireturn, 1) := by decide +kernel
theorem d_C_window_0 : decode b_C_window 0 = .ok (.aload_n 0, 1) := by decide +kernel
theorem d_C_window_1 : decode b_C_window 1 = .ok (.iload_n 1, 1) := by decide +kernel
theorem d_C_window_2 : decode b_C_window 2 = .ok (.invokevirtual 96, 3) := by decide +kernel
theorem d_C_window_5 : decode b_C_window 5 = .ok (.astore_n 3, 1) := by decide +kernel
theorem d_C_window_6 : decode b_C_window 6 = .ok (.aload_n 3, 1) := by decide +kernel
theorem d_C_window_7 : decode b_C_window 7 = .ok (.ifnull 10, 3) := by decide +kernel
theorem d_C_window_10 : decode b_C_window 10 = .ok (.iload_n 2, 1) := by decide +kernel
theorem d_C_window_11 : decode b_C_window 11 = .ok (.invokestatic 89, 3) := by decide +kernel
theorem d_C_window_14 : decode b_C_window 14 = .ok (.ifCond .ne 5, 3) := by decide +kernel
theorem d_C_window_17 : decode b_C_window 17 = .ok (.iconst (-1), 1) := by decide +kernel
theorem d_C_window_18 : decode b_C_window 18 = .ok (.ireturn, 1) := by decide +kernel
theorem d_C_window_19 : decode b_C_window 19 = .ok (.aload_n 3, 1) := by decide +kernel
theorem d_C_window_20 : decode b_C_window 20 = .ok (.getfield 110, 3) := by decide +kernel
theorem d_C_window_23 : decode b_C_window 23 = .ok (.istore 4, 2) := by decide +kernel
theorem d_C_window_25 : decode b_C_window 25 = .ok (.aload_n 3, 1) := by decide +kernel
theorem d_C_window_26 : decode b_C_window 26 = .ok (.iload_n 2, 1) := by decide +kernel
theorem d_C_window_27 : decode b_C_window 27 = .ok (.putfield 110, 3) := by decide +kernel
theorem d_C_window_30 : decode b_C_window 30 = .ok (.iload 4, 2) := by decide +kernel
theorem d_C_window_32 : decode b_C_window 32 = .ok (.ireturn, 1) := by decide +kernel
theorem d_C_rows_0 : decode b_C_rows 0 = .ok (.aload_n 0, 1) := by decide +kernel
theorem d_C_rows_1 : decode b_C_rows 1 = .ok (.iload_n 1, 1) := by decide +kernel
theorem d_C_rows_2 : decode b_C_rows 2 = .ok (.invokevirtual 96, 3) := by decide +kernel
theorem d_C_rows_5 : decode b_C_rows 5 = .ok (.astore_n 3, 1) := by decide +kernel
theorem d_C_rows_6 : decode b_C_rows 6 = .ok (.aload_n 3, 1) := by decide +kernel
theorem d_C_rows_7 : decode b_C_rows 7 = .ok (.ifnull 11, 3) := by decide +kernel
theorem d_C_rows_10 : decode b_C_rows 10 = .ok (.aload_n 0, 1) := by decide +kernel
theorem d_C_rows_11 : decode b_C_rows 11 = .ok (.iload_n 2, 1) := by decide +kernel
theorem d_C_rows_12 : decode b_C_rows 12 = .ok (.invokevirtual 113, 3) := by decide +kernel
theorem d_C_rows_15 : decode b_C_rows 15 = .ok (.ifCond .ne 5, 3) := by decide +kernel
theorem d_C_rows_18 : decode b_C_rows 18 = .ok (.iconst (-1), 1) := by decide +kernel
theorem d_C_rows_19 : decode b_C_rows 19 = .ok (.ireturn, 1) := by decide +kernel
theorem d_C_rows_20 : decode b_C_rows 20 = .ok (.aload_n 0, 1) := by decide +kernel
theorem d_C_rows_21 : decode b_C_rows 21 = .ok (.aload_n 3, 1) := by decide +kernel
theorem d_C_rows_22 : decode b_C_rows 22 = .ok (.iload_n 2, 1) := by decide +kernel
theorem d_C_rows_23 : decode b_C_rows 23 = .ok (.iconst 0, 1) := by decide +kernel
theorem d_C_rows_24 : decode b_C_rows 24 = .ok (.invokevirtual 116, 3) := by decide +kernel
theorem d_C_rows_27 : decode b_C_rows 27 = .ok (.invokevirtual 120, 3) := by decide +kernel
theorem d_C_rows_30 : decode b_C_rows 30 = .ok (.ireturn, 1) := by decide +kernel
theorem d_C_changed_0 : decode b_C_changed 0 = .ok (.aload_n 0, 1) := by decide +kernel
theorem d_C_changed_1 : decode b_C_changed 1 = .ok (.iload_n 1, 1) := by decide +kernel
theorem d_C_changed_2 : decode b_C_changed 2 = .ok (.invokevirtual 96, 3) := by decide +kernel
theorem d_C_changed_5 : decode b_C_changed 5 = .ok (.astore 4, 2) := by decide +kernel
theorem d_C_changed_7 : decode b_C_changed 7 = .ok (.aload 4, 2) := by decide +kernel
theorem d_C_changed_9 : decode b_C_changed 9 = .ok (.ifnull 11, 3) := by decide +kernel
theorem d_C_changed_12 : decode b_C_changed 12 = .ok (.aload_n 0, 1) := by decide +kernel
theorem d_C_changed_13 : decode b_C_changed 13 = .ok (.iload_n 2, 1) := by decide +kernel
theorem d_C_changed_14 : decode b_C_changed 14 = .ok (.invokevirtual 113, 3) := by decide +kernel
theorem d_C_changed_17 : decode b_C_changed 17 = .ok (.ifCond .ne 5, 3) := by decide +kernel
theorem d_C_changed_20 : decode b_C_changed 20 = .ok (.iconst (-1), 1) := by decide +kernel
theorem d_C_changed_21 : decode b_C_changed 21 = .ok (.ireturn, 1) := by decide +kernel
theorem d_C_changed_22 : decode b_C_changed 22 = .ok (.aload_n 0, 1) := by decide +kernel
theorem d_C_changed_23 : decode b_C_changed 23 = .ok (.aload 4, 2) := by decide +kernel
theorem d_C_changed_25 : decode b_C_changed 25 = .ok (.iload_n 2, 1) := by decide +kernel
theorem d_C_changed_26 : decode b_C_changed 26 = .ok (.iload_n 3, 1) := by decide +kernel
theorem d_C_changed_27 : decode b_C_changed 27 = .ok (.ifCond .eq 7, 3) := by decide +kernel
theorem d_C_changed_30 : decode b_C_changed 30 = .ok (.iconst 1, 1) := by decide +kernel
theorem d_C_changed_31 : decode b_C_changed 31 = .ok (.goto 4, 3) := by decide +kernel
theorem d_C_changed_34 : decode b_C_changed 34 = .ok (.iconst 2, 1) := by decide +kernel
theorem d_C_changed_35 : decode b_C_changed 35 = .ok (.invokevirtual 116, 3) := by decide +kernel
theorem d_C_changed_38 : decode b_C_changed 38 = .ok (.invokevirtual 120, 3) := by decide +kernel
theorem d_C_changed_41 : decode b_C_changed 41 = .ok (.ireturn, 1) := by decide +kernel
theorem d_C_row_0 : decode b_C_row 0 = .ok (.aload_n 0, 1) := by decide +kernel
theorem d_C_row_1 : decode b_C_row 1 = .ok (.iload_n 1, 1) := by decide +kernel
theorem d_C_row_2 : decode b_C_row 2 = .ok (.invokevirtual 96, 3) := by decide +kernel
theorem d_C_row_5 : decode b_C_row 5 = .ok (.astore 5, 2) := by decide +kernel
theorem d_C_row_7 : decode b_C_row 7 = .ok (.aload 5, 2) := by decide +kernel
theorem d_C_row_9 : decode b_C_row 9 = .ok (.ifnull 20, 3) := by decide +kernel
theorem d_C_row_12 : decode b_C_row 12 = .ok (.aload_n 0, 1) := by decide +kernel
theorem d_C_row_13 : decode b_C_row 13 = .ok (.iload_n 2, 1) := by decide +kernel
theorem d_C_row_14 : decode b_C_row 14 = .ok (.invokevirtual 113, 3) := by decide +kernel
theorem d_C_row_17 : decode b_C_row 17 = .ok (.ifCond .eq 12, 3) := by decide +kernel
theorem d_C_row_20 : decode b_C_row 20 = .ok (.iload_n 3, 1) := by decide +kernel
theorem d_C_row_21 : decode b_C_row 21 = .ok (.ifCond .lt 8, 3) := by decide +kernel
theorem d_C_row_24 : decode b_C_row 24 = .ok (.iload_n 3, 1) := by decide +kernel
theorem d_C_row_25 : decode b_C_row 25 = .ok (.iconst 2, 1) := by decide +kernel
theorem d_C_row_26 : decode b_C_row 26 = .ok (.if_icmp .le 5, 3) := by decide +kernel
theorem d_C_row_29 : decode b_C_row 29 = .ok (.iconst (-1), 1) := by decide +kernel
theorem d_C_row_30 : decode b_C_row 30 = .ok (.ireturn, 1) := by decide +kernel
theorem d_C_row_31 : decode b_C_row 31 = .ok (.aload_n 0, 1) := by decide +kernel
theorem d_C_row_32 : decode b_C_row 32 = .ok (.aload 5, 2) := by decide +kernel
theorem d_C_row_34 : decode b_C_row 34 = .ok (.iload_n 2, 1) := by decide +kernel
theorem d_C_row_35 : decode b_C_row 35 = .ok (.iload_n 3, 1) := by decide +kernel
theorem d_C_row_36 : decode b_C_row 36 = .ok (.invokevirtual 116, 3) := by decide +kernel
theorem d_C_row_39 : decode b_C_row 39 = .ok (.iload 4, 2) := by decide +kernel
theorem d_C_row_41 : decode b_C_row 41 = .ok (.invokevirtual 124, 3) := by decide +kernel
theorem d_C_row_44 : decode b_C_row 44 = .ok (.ireturn, 1) := by decide +kernel
theorem d_C_aggregate_0 : decode b_C_aggregate 0 = .ok (.aload_n 0, 1) := by decide +kernel
theorem d_C_aggregate_1 : decode b_C_aggregate 1 = .ok (.iload_n 1, 1) := by decide +kernel
theorem d_C_aggregate_2 : decode b_C_aggregate 2 = .ok (.invokevirtual 96, 3) := by decide +kernel
theorem d_C_aggregate_5 : decode b_C_aggregate 5 = .ok (.astore 5, 2) := by decide +kernel
theorem d_C_aggregate_7 : decode b_C_aggregate 7 = .ok (.aload 5, 2) := by decide +kernel
theorem d_C_aggregate_9 : decode b_C_aggregate 9 = .ok (.ifnull 32, 3) := by decide +kernel
theorem d_C_aggregate_12 : decode b_C_aggregate 12 = .ok (.aload_n 0, 1) := by decide +kernel
theorem d_C_aggregate_13 : decode b_C_aggregate 13 = .ok (.iload_n 2, 1) := by decide +kernel
theorem d_C_aggregate_14 : decode b_C_aggregate 14 = .ok (.invokevirtual 113, 3) := by decide +kernel
theorem d_C_aggregate_17 : decode b_C_aggregate 17 = .ok (.ifCond .eq 24, 3) := by decide +kernel
theorem d_C_aggregate_20 : decode b_C_aggregate 20 = .ok (.iload_n 3, 1) := by decide +kernel
theorem d_C_aggregate_21 : decode b_C_aggregate 21 = .ok (.ifCond .lt 20, 3) := by decide +kernel
theorem d_C_aggregate_24 : decode b_C_aggregate 24 = .ok (.iload_n 3, 1) := by decide +kernel
theorem d_C_aggregate_25 : decode b_C_aggregate 25 = .ok (.iconst 2, 1) := by decide +kernel
theorem d_C_aggregate_26 : decode b_C_aggregate 26 = .ok (.if_icmp .gt 15, 3) := by decide +kernel
theorem d_C_aggregate_29 : decode b_C_aggregate 29 = .ok (.iload 4, 2) := by decide +kernel
theorem d_C_aggregate_31 : decode b_C_aggregate 31 = .ok (.iconst 1, 1) := by decide +kernel
theorem d_C_aggregate_32 : decode b_C_aggregate 32 = .ok (.if_icmp .lt 9, 3) := by decide +kernel
theorem d_C_aggregate_35 : decode b_C_aggregate 35 = .ok (.iload 4, 2) := by decide +kernel
theorem d_C_aggregate_37 : decode b_C_aggregate 37 = .ok (.iconst 4, 1) := by decide +kernel
theorem d_C_aggregate_38 : decode b_C_aggregate 38 = .ok (.if_icmp .le 5, 3) := by decide +kernel
theorem d_C_aggregate_41 : decode b_C_aggregate 41 = .ok (.iconst (-1), 1) := by decide +kernel
theorem d_C_aggregate_42 : decode b_C_aggregate 42 = .ok (.ireturn, 1) := by decide +kernel
theorem d_C_aggregate_43 : decode b_C_aggregate 43 = .ok (.aload_n 0, 1) := by decide +kernel
theorem d_C_aggregate_44 : decode b_C_aggregate 44 = .ok (.aload 5, 2) := by decide +kernel
theorem d_C_aggregate_46 : decode b_C_aggregate 46 = .ok (.iload_n 2, 1) := by decide +kernel
theorem d_C_aggregate_47 : decode b_C_aggregate 47 = .ok (.iconst 0, 1) := by decide +kernel
theorem d_C_aggregate_48 : decode b_C_aggregate 48 = .ok (.invokevirtual 116, 3) := by decide +kernel
theorem d_C_aggregate_51 : decode b_C_aggregate 51 = .ok (.astore 6, 2) := by decide +kernel
theorem d_C_aggregate_53 : decode b_C_aggregate 53 = .ok (.iload_n 3, 1) := by decide +kernel
theorem d_C_aggregate_54 : decode b_C_aggregate 54 = .ok (.ifCond .ne 11, 3) := by decide +kernel
theorem d_C_aggregate_57 : decode b_C_aggregate 57 = .ok (.aload 6, 2) := by decide +kernel
theorem d_C_aggregate_59 : decode b_C_aggregate 59 = .ok (.iload 4, 2) := by decide +kernel
theorem d_C_aggregate_61 : decode b_C_aggregate 61 = .ok (.invokevirtual 128, 3) := by decide +kernel
theorem d_C_aggregate_64 : decode b_C_aggregate 64 = .ok (.ireturn, 1) := by decide +kernel
theorem d_C_aggregate_65 : decode b_C_aggregate 65 = .ok (.iload_n 3, 1) := by decide +kernel
theorem d_C_aggregate_66 : decode b_C_aggregate 66 = .ok (.iconst 1, 1) := by decide +kernel
theorem d_C_aggregate_67 : decode b_C_aggregate 67 = .ok (.if_icmp .ne 13, 3) := by decide +kernel
theorem d_C_aggregate_70 : decode b_C_aggregate 70 = .ok (.aload 6, 2) := by decide +kernel
theorem d_C_aggregate_72 : decode b_C_aggregate 72 = .ok (.iload 4, 2) := by decide +kernel
theorem d_C_aggregate_74 : decode b_C_aggregate 74 = .ok (.invokevirtual 131, 3) := by decide +kernel
theorem d_C_aggregate_77 : decode b_C_aggregate 77 = .ok (.goto 10, 3) := by decide +kernel
theorem d_C_aggregate_80 : decode b_C_aggregate 80 = .ok (.aload 6, 2) := by decide +kernel
theorem d_C_aggregate_82 : decode b_C_aggregate 82 = .ok (.iload 4, 2) := by decide +kernel
theorem d_C_aggregate_84 : decode b_C_aggregate 84 = .ok (.invokevirtual 134, 3) := by decide +kernel
theorem d_C_aggregate_87 : decode b_C_aggregate 87 = .ok (.ireturn, 1) := by decide +kernel
theorem d_C_late_0 : decode b_C_late 0 = .ok (.iload_n 2, 1) := by decide +kernel
theorem d_C_late_1 : decode b_C_late 1 = .ok (.iload_n 3, 1) := by decide +kernel
theorem d_C_late_2 : decode b_C_late 2 = .ok (.iload 4, 2) := by decide +kernel
theorem d_C_late_4 : decode b_C_late 4 = .ok (.invokestatic 63, 3) := by decide +kernel
theorem d_C_late_7 : decode b_C_late 7 = .ok (.ifCond .eq 15, 3) := by decide +kernel
theorem d_C_late_10 : decode b_C_late 10 = .ok (.iload_n 1, 1) := by decide +kernel
theorem d_C_late_11 : decode b_C_late 11 = .ok (.ifCond .lt 11, 3) := by decide +kernel
theorem d_C_late_14 : decode b_C_late 14 = .ok (.iload_n 1, 1) := by decide +kernel
theorem d_C_late_15 : decode b_C_late 15 = .ok (.aload_n 0, 1) := by decide +kernel
theorem d_C_late_16 : decode b_C_late 16 = .ok (.getfield 75, 3) := by decide +kernel
theorem d_C_late_19 : decode b_C_late 19 = .ok (.if_icmp .lt 5, 3) := by decide +kernel
theorem d_C_late_22 : decode b_C_late 22 = .ok (.iconst (-1), 1) := by decide +kernel
theorem d_C_late_23 : decode b_C_late 23 = .ok (.ireturn, 1) := by decide +kernel
theorem d_C_late_24 : decode b_C_late 24 = .ok (.aload_n 0, 1) := by decide +kernel
theorem d_C_late_25 : decode b_C_late 25 = .ok (.getfield 12, 3) := by decide +kernel
theorem d_C_late_28 : decode b_C_late 28 = .ok (.invokevirtual 67, 3) := by decide +kernel
theorem d_C_late_31 : decode b_C_late 31 = .ok (.ifCond .eq 6, 3) := by decide +kernel
theorem d_C_late_34 : decode b_C_late 34 = .ok (.bipush (-3), 2) := by decide +kernel
theorem d_C_late_36 : decode b_C_late 36 = .ok (.ireturn, 1) := by decide +kernel
theorem d_C_late_37 : decode b_C_late 37 = .ok (.iload_n 2, 1) := by decide +kernel
theorem d_C_late_38 : decode b_C_late 38 = .ok (.iload_n 3, 1) := by decide +kernel
theorem d_C_late_39 : decode b_C_late 39 = .ok (.iload 4, 2) := by decide +kernel
theorem d_C_late_41 : decode b_C_late 41 = .ok (.invokestatic 71, 3) := by decide +kernel
theorem d_C_late_44 : decode b_C_late 44 = .ok (.istore 6, 2) := by decide +kernel
theorem d_C_late_46 : decode b_C_late 46 = .ok (.aload_n 0, 1) := by decide +kernel
theorem d_C_late_47 : decode b_C_late 47 = .ok (.getfield 12, 3) := by decide +kernel
theorem d_C_late_50 : decode b_C_late 50 = .ok (.iload 6, 2) := by decide +kernel
theorem d_C_late_52 : decode b_C_late 52 = .ok (.iload_n 1, 1) := by decide +kernel
theorem d_C_late_53 : decode b_C_late 53 = .ok (.invokevirtual 78, 3) := by decide +kernel
theorem d_C_late_56 : decode b_C_late 56 = .ok (.istore 7, 2) := by decide +kernel
theorem d_C_late_58 : decode b_C_late 58 = .ok (.aload_n 0, 1) := by decide +kernel
theorem d_C_late_59 : decode b_C_late 59 = .ok (.getfield 12, 3) := by decide +kernel
theorem d_C_late_62 : decode b_C_late 62 = .ok (.iload_n 1, 1) := by decide +kernel
theorem d_C_late_63 : decode b_C_late 63 = .ok (.iload 6, 2) := by decide +kernel
theorem d_C_late_65 : decode b_C_late 65 = .ok (.iload 5, 2) := by decide +kernel
theorem d_C_late_67 : decode b_C_late 67 = .ok (.invokevirtual 85, 3) := by decide +kernel
theorem d_C_late_70 : decode b_C_late 70 = .ok (.istore 8, 2) := by decide +kernel
theorem d_C_late_72 : decode b_C_late 72 = .ok (.aload_n 0, 1) := by decide +kernel
theorem d_C_late_73 : decode b_C_late 73 = .ok (.getfield 12, 3) := by decide +kernel
theorem d_C_late_76 : decode b_C_late 76 = .ok (.iload 8, 2) := by decide +kernel
theorem d_C_late_78 : decode b_C_late 78 = .ok (.invokevirtual 137, 3) := by decide +kernel
theorem d_C_late_81 : decode b_C_late 81 = .ok (.istore 9, 2) := by decide +kernel
theorem d_C_late_83 : decode b_C_late 83 = .ok (.iconst 0, 1) := by decide +kernel
theorem d_C_late_84 : decode b_C_late 84 = .ok (.istore 10, 2) := by decide +kernel
theorem d_C_late_86 : decode b_C_late 86 = .ok (.iload_n 1, 1) := by decide +kernel
theorem d_C_late_87 : decode b_C_late 87 = .ok (.istore 11, 2) := by decide +kernel
theorem d_C_late_89 : decode b_C_late 89 = .ok (.iload 11, 2) := by decide +kernel
theorem d_C_late_91 : decode b_C_late 91 = .ok (.aload_n 0, 1) := by decide +kernel
theorem d_C_late_92 : decode b_C_late 92 = .ok (.getfield 75, 3) := by decide +kernel
theorem d_C_late_95 : decode b_C_late 95 = .ok (.if_icmp .gt 34, 3) := by decide +kernel
theorem d_C_late_98 : decode b_C_late 98 = .ok (.iload 11, 2) := by decide +kernel
theorem d_C_late_100 : decode b_C_late 100 = .ok (.iload 9, 2) := by decide +kernel
theorem d_C_late_102 : decode b_C_late 102 = .ok (.if_icmp .ge 27, 3) := by decide +kernel
theorem d_C_late_105 : decode b_C_late 105 = .ok (.aload_n 0, 1) := by decide +kernel
theorem d_C_late_106 : decode b_C_late 106 = .ok (.iload 11, 2) := by decide +kernel
theorem d_C_late_108 : decode b_C_late 108 = .ok (.iload 6, 2) := by decide +kernel
theorem d_C_late_110 : decode b_C_late 110 = .ok (.iload 7, 2) := by decide +kernel
theorem d_C_late_112 : decode b_C_late 112 = .ok (.iload 8, 2) := by decide +kernel
theorem d_C_late_114 : decode b_C_late 114 = .ok (.invokevirtual 140, 3) := by decide +kernel
theorem d_C_late_117 : decode b_C_late 117 = .ok (.ifCond .eq 6, 3) := by decide +kernel
theorem d_C_late_120 : decode b_C_late 120 = .ok (.iinc 10 1, 3) := by decide +kernel
theorem d_C_late_123 : decode b_C_late 123 = .ok (.iinc 11 1, 3) := by decide +kernel
theorem d_C_late_126 : decode b_C_late 126 = .ok (.goto (-37), 3) := by decide +kernel
theorem d_C_late_129 : decode b_C_late 129 = .ok (.iload 10, 2) := by decide +kernel
theorem d_C_late_131 : decode b_C_late 131 = .ok (.ireturn, 1) := by decide +kernel
theorem d_C_still_0 : decode b_C_still 0 = .ok (.aload_n 0, 1) := by decide +kernel
theorem d_C_still_1 : decode b_C_still 1 = .ok (.iload_n 1, 1) := by decide +kernel
theorem d_C_still_2 : decode b_C_still 2 = .ok (.invokevirtual 96, 3) := by decide +kernel
theorem d_C_still_5 : decode b_C_still 5 = .ok (.astore_n 2, 1) := by decide +kernel
theorem d_C_still_6 : decode b_C_still 6 = .ok (.aload_n 2, 1) := by decide +kernel
theorem d_C_still_7 : decode b_C_still 7 = .ok (.ifnonnull 5, 3) := by decide +kernel
theorem d_C_still_10 : decode b_C_still 10 = .ok (.iconst (-1), 1) := by decide +kernel
theorem d_C_still_11 : decode b_C_still 11 = .ok (.ireturn, 1) := by decide +kernel
theorem d_C_still_12 : decode b_C_still 12 = .ok (.aload_n 0, 1) := by decide +kernel
theorem d_C_still_13 : decode b_C_still 13 = .ok (.aload_n 0, 1) := by decide +kernel
theorem d_C_still_14 : decode b_C_still 14 = .ok (.getfield 43, 3) := by decide +kernel
theorem d_C_still_17 : decode b_C_still 17 = .ok (.aload_n 2, 1) := by decide +kernel
theorem d_C_still_18 : decode b_C_still 18 = .ok (.aload_n 0, 1) := by decide +kernel
theorem d_C_still_19 : decode b_C_still 19 = .ok (.getfield 75, 3) := by decide +kernel
theorem d_C_still_22 : decode b_C_still 22 = .ok (.invokevirtual 144, 3) := by decide +kernel
theorem d_C_still_25 : decode b_C_still 25 = .ok (.aload_n 0, 1) := by decide +kernel
theorem d_C_still_26 : decode b_C_still 26 = .ok (.getfield 75, 3) := by decide +kernel
theorem d_C_still_29 : decode b_C_still 29 = .ok (.istore_n 3, 1) := by decide +kernel
theorem d_C_still_30 : decode b_C_still 30 = .ok (.iload_n 3, 1) := by decide +kernel
theorem d_C_still_31 : decode b_C_still 31 = .ok (.ifCond .le 37, 3) := by decide +kernel
theorem d_C_still_34 : decode b_C_still 34 = .ok (.aload_n 0, 1) := by decide +kernel
theorem d_C_still_35 : decode b_C_still 35 = .ok (.aload_n 0, 1) := by decide +kernel
theorem d_C_still_36 : decode b_C_still 36 = .ok (.getfield 47, 3) := by decide +kernel
theorem d_C_still_39 : decode b_C_still 39 = .ok (.aload_n 2, 1) := by decide +kernel
theorem d_C_still_40 : decode b_C_still 40 = .ok (.iload_n 3, 1) := by decide +kernel
theorem d_C_still_41 : decode b_C_still 41 = .ok (.iconst 1, 1) := by decide +kernel
theorem d_C_still_42 : decode b_C_still 42 = .ok (.isub, 1) := by decide +kernel
theorem d_C_still_43 : decode b_C_still 43 = .ok (.invokevirtual 144, 3) := by decide +kernel
theorem d_C_still_46 : decode b_C_still 46 = .ok (.aload_n 0, 1) := by decide +kernel
theorem d_C_still_47 : decode b_C_still 47 = .ok (.getfield 47, 3) := by decide +kernel
theorem d_C_still_50 : decode b_C_still 50 = .ok (.aload_n 0, 1) := by decide +kernel
theorem d_C_still_51 : decode b_C_still 51 = .ok (.getfield 43, 3) := by decide +kernel
theorem d_C_still_54 : decode b_C_still 54 = .ok (.invokevirtual 148, 3) := by decide +kernel
theorem d_C_still_57 : decode b_C_still 57 = .ok (.ifCond .ne 5, 3) := by decide +kernel
theorem d_C_still_60 : decode b_C_still 60 = .ok (.iload_n 3, 1) := by decide +kernel
theorem d_C_still_61 : decode b_C_still 61 = .ok (.ireturn, 1) := by decide +kernel
theorem d_C_still_62 : decode b_C_still 62 = .ok (.iinc 3 (-1), 3) := by decide +kernel
theorem d_C_still_65 : decode b_C_still 65 = .ok (.goto (-35), 3) := by decide +kernel
theorem d_C_still_68 : decode b_C_still 68 = .ok (.iconst 0, 1) := by decide +kernel
theorem d_C_still_69 : decode b_C_still 69 = .ok (.ireturn, 1) := by decide +kernel
theorem d_C_there_0 : decode b_C_there 0 = .ok (.aload_n 0, 1) := by decide +kernel
theorem d_C_there_1 : decode b_C_there 1 = .ok (.iload_n 1, 1) := by decide +kernel
theorem d_C_there_2 : decode b_C_there 2 = .ok (.invokevirtual 113, 3) := by decide +kernel
theorem d_C_there_5 : decode b_C_there 5 = .ok (.ifCond .eq 13, 3) := by decide +kernel
theorem d_C_there_8 : decode b_C_there 8 = .ok (.iload_n 2, 1) := by decide +kernel
theorem d_C_there_9 : decode b_C_there 9 = .ok (.iload_n 3, 1) := by decide +kernel
theorem d_C_there_10 : decode b_C_there 10 = .ok (.iload 4, 2) := by decide +kernel
theorem d_C_there_12 : decode b_C_there 12 = .ok (.invokestatic 63, 3) := by decide +kernel
theorem d_C_there_15 : decode b_C_there 15 = .ok (.ifCond .ne 5, 3) := by decide +kernel
theorem d_C_there_18 : decode b_C_there 18 = .ok (.iconst (-1), 1) := by decide +kernel
theorem d_C_there_19 : decode b_C_there 19 = .ok (.ireturn, 1) := by decide +kernel
theorem d_C_there_20 : decode b_C_there 20 = .ok (.aload_n 0, 1) := by decide +kernel
theorem d_C_there_21 : decode b_C_there 21 = .ok (.getfield 12, 3) := by decide +kernel
theorem d_C_there_24 : decode b_C_there 24 = .ok (.aload_n 0, 1) := by decide +kernel
theorem d_C_there_25 : decode b_C_there 25 = .ok (.getfield 12, 3) := by decide +kernel
theorem d_C_there_28 : decode b_C_there 28 = .ok (.iload_n 2, 1) := by decide +kernel
theorem d_C_there_29 : decode b_C_there 29 = .ok (.iload_n 3, 1) := by decide +kernel
theorem d_C_there_30 : decode b_C_there 30 = .ok (.iload 4, 2) := by decide +kernel
theorem d_C_there_32 : decode b_C_there 32 = .ok (.invokestatic 71, 3) := by decide +kernel
theorem d_C_there_35 : decode b_C_there 35 = .ok (.iload_n 1, 1) := by decide +kernel
theorem d_C_there_36 : decode b_C_there 36 = .ok (.invokevirtual 78, 3) := by decide +kernel
theorem d_C_there_39 : decode b_C_there 39 = .ok (.invokevirtual 81, 3) := by decide +kernel
theorem d_C_there_42 : decode b_C_there 42 = .ok (.ifCond .eq 7, 3) := by decide +kernel
theorem d_C_there_45 : decode b_C_there 45 = .ok (.iconst 1, 1) := by decide +kernel
theorem d_C_there_46 : decode b_C_there 46 = .ok (.goto 4, 3) := by decide +kernel
theorem d_C_there_49 : decode b_C_there 49 = .ok (.iconst 0, 1) := by decide +kernel
theorem d_C_there_50 : decode b_C_there 50 = .ok (.ireturn, 1) := by decide +kernel
theorem d_C_age_0 : decode b_C_age 0 = .ok (.aload_n 0, 1) := by decide +kernel
theorem d_C_age_1 : decode b_C_age 1 = .ok (.iload_n 1, 1) := by decide +kernel
theorem d_C_age_2 : decode b_C_age 2 = .ok (.invokevirtual 113, 3) := by decide +kernel
theorem d_C_age_5 : decode b_C_age 5 = .ok (.ifCond .eq 13, 3) := by decide +kernel
theorem d_C_age_8 : decode b_C_age 8 = .ok (.iload_n 2, 1) := by decide +kernel
theorem d_C_age_9 : decode b_C_age 9 = .ok (.iload_n 3, 1) := by decide +kernel
theorem d_C_age_10 : decode b_C_age 10 = .ok (.iload 4, 2) := by decide +kernel
theorem d_C_age_12 : decode b_C_age 12 = .ok (.invokestatic 63, 3) := by decide +kernel
theorem d_C_age_15 : decode b_C_age 15 = .ok (.ifCond .ne 5, 3) := by decide +kernel
theorem d_C_age_18 : decode b_C_age 18 = .ok (.iconst (-1), 1) := by decide +kernel
theorem d_C_age_19 : decode b_C_age 19 = .ok (.ireturn, 1) := by decide +kernel
theorem d_C_age_20 : decode b_C_age 20 = .ok (.aload_n 0, 1) := by decide +kernel
theorem d_C_age_21 : decode b_C_age 21 = .ok (.getfield 12, 3) := by decide +kernel
theorem d_C_age_24 : decode b_C_age 24 = .ok (.iload_n 2, 1) := by decide +kernel
theorem d_C_age_25 : decode b_C_age 25 = .ok (.iload_n 3, 1) := by decide +kernel
theorem d_C_age_26 : decode b_C_age 26 = .ok (.iload 4, 2) := by decide +kernel
theorem d_C_age_28 : decode b_C_age 28 = .ok (.invokestatic 71, 3) := by decide +kernel
theorem d_C_age_31 : decode b_C_age 31 = .ok (.iload_n 1, 1) := by decide +kernel
theorem d_C_age_32 : decode b_C_age 32 = .ok (.invokevirtual 78, 3) := by decide +kernel
theorem d_C_age_35 : decode b_C_age 35 = .ok (.istore 5, 2) := by decide +kernel
theorem d_C_age_37 : decode b_C_age 37 = .ok (.aload_n 0, 1) := by decide +kernel
theorem d_C_age_38 : decode b_C_age 38 = .ok (.getfield 12, 3) := by decide +kernel
theorem d_C_age_41 : decode b_C_age 41 = .ok (.iload 5, 2) := by decide +kernel
theorem d_C_age_43 : decode b_C_age 43 = .ok (.invokevirtual 81, 3) := by decide +kernel
theorem d_C_age_46 : decode b_C_age 46 = .ok (.ifCond .eq 17, 3) := by decide +kernel
theorem d_C_age_49 : decode b_C_age 49 = .ok (.iload_n 1, 1) := by decide +kernel
theorem d_C_age_50 : decode b_C_age 50 = .ok (.aload_n 0, 1) := by decide +kernel
theorem d_C_age_51 : decode b_C_age 51 = .ok (.getfield 12, 3) := by decide +kernel
theorem d_C_age_54 : decode b_C_age 54 = .ok (.iload 5, 2) := by decide +kernel
theorem d_C_age_56 : decode b_C_age 56 = .ok (.invokevirtual 152, 3) := by decide +kernel
theorem d_C_age_59 : decode b_C_age 59 = .ok (.isub, 1) := by decide +kernel
theorem d_C_age_60 : decode b_C_age 60 = .ok (.goto 5, 3) := by decide +kernel
theorem d_C_age_63 : decode b_C_age 63 = .ok (.bipush (-2), 2) := by decide +kernel
theorem d_C_age_65 : decode b_C_age 65 = .ok (.ireturn, 1) := by decide +kernel
theorem d_C_latest_0 : decode b_C_latest 0 = .ok (.aload_n 0, 1) := by decide +kernel
theorem d_C_latest_1 : decode b_C_latest 1 = .ok (.getfield 75, 3) := by decide +kernel
theorem d_C_latest_4 : decode b_C_latest 4 = .ok (.ireturn, 1) := by decide +kernel
theorem d_C_isTriple_0 : decode b_C_isTriple 0 = .ok (.iload_n 0, 1) := by decide +kernel
theorem d_C_isTriple_1 : decode b_C_isTriple 1 = .ok (.ifCond .lt 33, 3) := by decide +kernel
theorem d_C_isTriple_4 : decode b_C_isTriple 4 = .ok (.iload_n 0, 1) := by decide +kernel
theorem d_C_isTriple_5 : decode b_C_isTriple 5 = .ok (.bipush 16, 2) := by decide +kernel
theorem d_C_isTriple_7 : decode b_C_isTriple 7 = .ok (.if_icmp .ge 27, 3) := by decide +kernel
theorem d_C_isTriple_10 : decode b_C_isTriple 10 = .ok (.iload_n 1, 1) := by decide +kernel
theorem d_C_isTriple_11 : decode b_C_isTriple 11 = .ok (.ifCond .lt 23, 3) := by decide +kernel
theorem d_C_isTriple_14 : decode b_C_isTriple 14 = .ok (.iload_n 1, 1) := by decide +kernel
theorem d_C_isTriple_15 : decode b_C_isTriple 15 = .ok (.bipush 8, 2) := by decide +kernel
theorem d_C_isTriple_17 : decode b_C_isTriple 17 = .ok (.if_icmp .ge 17, 3) := by decide +kernel
theorem d_C_isTriple_20 : decode b_C_isTriple 20 = .ok (.iload_n 2, 1) := by decide +kernel
theorem d_C_isTriple_21 : decode b_C_isTriple 21 = .ok (.ifCond .lt 13, 3) := by decide +kernel
theorem d_C_isTriple_24 : decode b_C_isTriple 24 = .ok (.iload_n 2, 1) := by decide +kernel
theorem d_C_isTriple_25 : decode b_C_isTriple 25 = .ok (.bipush 16, 2) := by decide +kernel
theorem d_C_isTriple_27 : decode b_C_isTriple 27 = .ok (.if_icmp .ge 7, 3) := by decide +kernel
theorem d_C_isTriple_30 : decode b_C_isTriple 30 = .ok (.iconst 1, 1) := by decide +kernel
theorem d_C_isTriple_31 : decode b_C_isTriple 31 = .ok (.goto 4, 3) := by decide +kernel
theorem d_C_isTriple_34 : decode b_C_isTriple 34 = .ok (.iconst 0, 1) := by decide +kernel
theorem d_C_isTriple_35 : decode b_C_isTriple 35 = .ok (.ireturn, 1) := by decide +kernel
theorem d_C_tripleOf_0 : decode b_C_tripleOf 0 = .ok (.iload_n 0, 1) := by decide +kernel
theorem d_C_tripleOf_1 : decode b_C_tripleOf 1 = .ok (.bipush 8, 2) := by decide +kernel
theorem d_C_tripleOf_3 : decode b_C_tripleOf 3 = .ok (.imul, 1) := by decide +kernel
theorem d_C_tripleOf_4 : decode b_C_tripleOf 4 = .ok (.iload_n 1, 1) := by decide +kernel
theorem d_C_tripleOf_5 : decode b_C_tripleOf 5 = .ok (.iadd, 1) := by decide +kernel
theorem d_C_tripleOf_6 : decode b_C_tripleOf 6 = .ok (.bipush 16, 2) := by decide +kernel
theorem d_C_tripleOf_8 : decode b_C_tripleOf 8 = .ok (.imul, 1) := by decide +kernel
theorem d_C_tripleOf_9 : decode b_C_tripleOf 9 = .ok (.iload_n 2, 1) := by decide +kernel
theorem d_C_tripleOf_10 : decode b_C_tripleOf 10 = .ok (.iadd, 1) := by decide +kernel
theorem d_C_tripleOf_11 : decode b_C_tripleOf 11 = .ok (.ireturn, 1) := by decide +kernel
theorem d_C_isItem_0 : decode b_C_isItem 0 = .ok (.iload_n 0, 1) := by decide +kernel
theorem d_C_isItem_1 : decode b_C_isItem 1 = .ok (.bipush (-4), 2) := by decide +kernel
theorem d_C_isItem_3 : decode b_C_isItem 3 = .ok (.if_icmp .lt 12, 3) := by decide +kernel
theorem d_C_isItem_6 : decode b_C_isItem 6 = .ok (.iload_n 0, 1) := by decide +kernel
theorem d_C_isItem_7 : decode b_C_isItem 7 = .ok (.iload_n 1, 1) := by decide +kernel
theorem d_C_isItem_8 : decode b_C_isItem 8 = .ok (.if_icmp .ge 7, 3) := by decide +kernel
theorem d_C_isItem_11 : decode b_C_isItem 11 = .ok (.iconst 1, 1) := by decide +kernel
theorem d_C_isItem_12 : decode b_C_isItem 12 = .ok (.goto 4, 3) := by decide +kernel
theorem d_C_isItem_15 : decode b_C_isItem 15 = .ok (.iconst 0, 1) := by decide +kernel
theorem d_C_isItem_16 : decode b_C_isItem 16 = .ok (.ireturn, 1) := by decide +kernel
theorem d_C_isWindow_0 : decode b_C_isWindow 0 = .ok (.iload_n 0, 1) := by decide +kernel
theorem d_C_isWindow_1 : decode b_C_isWindow 1 = .ok (.ifCond .lt 13, 3) := by decide +kernel
theorem d_C_isWindow_4 : decode b_C_isWindow 4 = .ok (.iload_n 0, 1) := by decide +kernel
theorem d_C_isWindow_5 : decode b_C_isWindow 5 = .ok (.bipush 62, 2) := by decide +kernel
theorem d_C_isWindow_7 : decode b_C_isWindow 7 = .ok (.if_icmp .gt 7, 3) := by decide +kernel
theorem d_C_isWindow_10 : decode b_C_isWindow 10 = .ok (.iconst 1, 1) := by decide +kernel
theorem d_C_isWindow_11 : decode b_C_isWindow 11 = .ok (.goto 4, 3) := by decide +kernel
theorem d_C_isWindow_14 : decode b_C_isWindow 14 = .ok (.iconst 0, 1) := by decide +kernel
theorem d_C_isWindow_15 : decode b_C_isWindow 15 = .ok (.ireturn, 1) := by decide +kernel
theorem d_C_isPast_0 : decode b_C_isPast 0 = .ok (.iload_n 1, 1) := by decide +kernel
theorem d_C_isPast_1 : decode b_C_isPast 1 = .ok (.ifCond .lt 15, 3) := by decide +kernel
theorem d_C_isPast_4 : decode b_C_isPast 4 = .ok (.iload_n 1, 1) := by decide +kernel
theorem d_C_isPast_5 : decode b_C_isPast 5 = .ok (.aload_n 0, 1) := by decide +kernel
theorem d_C_isPast_6 : decode b_C_isPast 6 = .ok (.getfield 75, 3) := by decide +kernel
theorem d_C_isPast_9 : decode b_C_isPast 9 = .ok (.if_icmp .gt 7, 3) := by decide +kernel
theorem d_C_isPast_12 : decode b_C_isPast 12 = .ok (.iconst 1, 1) := by decide +kernel
theorem d_C_isPast_13 : decode b_C_isPast 13 = .ok (.goto 4, 3) := by decide +kernel
theorem d_C_isPast_16 : decode b_C_isPast 16 = .ok (.iconst 0, 1) := by decide +kernel
theorem d_C_isPast_17 : decode b_C_isPast 17 = .ok (.ireturn, 1) := by decide +kernel
theorem d_C_find_0 : decode b_C_find 0 = .ok (.iload_n 1, 1) := by decide +kernel
theorem d_C_find_1 : decode b_C_find 1 = .ok (.ifCond .lt 20, 3) := by decide +kernel
theorem d_C_find_4 : decode b_C_find 4 = .ok (.iload_n 1, 1) := by decide +kernel
theorem d_C_find_5 : decode b_C_find 5 = .ok (.aload_n 0, 1) := by decide +kernel
theorem d_C_find_6 : decode b_C_find 6 = .ok (.getfield 92, 3) := by decide +kernel
theorem d_C_find_9 : decode b_C_find 9 = .ok (.if_icmp .ge 12, 3) := by decide +kernel
theorem d_C_find_12 : decode b_C_find 12 = .ok (.aload_n 0, 1) := by decide +kernel
theorem d_C_find_13 : decode b_C_find 13 = .ok (.getfield 18, 3) := by decide +kernel
theorem d_C_find_16 : decode b_C_find 16 = .ok (.iload_n 1, 1) := by decide +kernel
theorem d_C_find_17 : decode b_C_find 17 = .ok (.aaload, 1) := by decide +kernel
theorem d_C_find_18 : decode b_C_find 18 = .ok (.goto 4, 3) := by decide +kernel
theorem d_C_find_21 : decode b_C_find 21 = .ok (.aconst_null, 1) := by decide +kernel
theorem d_C_find_22 : decode b_C_find 22 = .ok (.areturn, 1) := by decide +kernel
theorem d_C_fill_0 : decode b_C_fill 0 = .ok (.aload_n 1, 1) := by decide +kernel
theorem d_C_fill_1 : decode b_C_fill 1 = .ok (.invokevirtual 155, 3) := by decide +kernel
theorem d_C_fill_4 : decode b_C_fill 4 = .ok (.aload_n 0, 1) := by decide +kernel
theorem d_C_fill_5 : decode b_C_fill 5 = .ok (.getfield 25, 3) := by decide +kernel
theorem d_C_fill_8 : decode b_C_fill 8 = .ok (.aload_n 0, 1) := by decide +kernel
theorem d_C_fill_9 : decode b_C_fill 9 = .ok (.getfield 12, 3) := by decide +kernel
theorem d_C_fill_12 : decode b_C_fill 12 = .ok (.iload_n 3, 1) := by decide +kernel
theorem d_C_fill_13 : decode b_C_fill 13 = .ok (.aload_n 2, 1) := by decide +kernel
theorem d_C_fill_14 : decode b_C_fill 14 = .ok (.getfield 110, 3) := by decide +kernel
theorem d_C_fill_17 : decode b_C_fill 17 = .ok (.invokevirtual 158, 3) := by decide +kernel
theorem d_C_fill_20 : decode b_C_fill 20 = .ok (.aload_n 0, 1) := by decide +kernel
theorem d_C_fill_21 : decode b_C_fill 21 = .ok (.getfield 34, 3) := by decide +kernel
theorem d_C_fill_24 : decode b_C_fill 24 = .ok (.aload_n 2, 1) := by decide +kernel
theorem d_C_fill_25 : decode b_C_fill 25 = .ok (.invokevirtual 162, 3) := by decide +kernel
theorem d_C_fill_28 : decode b_C_fill 28 = .ok (.aload_n 0, 1) := by decide +kernel
theorem d_C_fill_29 : decode b_C_fill 29 = .ok (.getfield 34, 3) := by decide +kernel
theorem d_C_fill_32 : decode b_C_fill 32 = .ok (.aload_n 2, 1) := by decide +kernel
theorem d_C_fill_33 : decode b_C_fill 33 = .ok (.aload_n 1, 1) := by decide +kernel
theorem d_C_fill_34 : decode b_C_fill 34 = .ok (.invokevirtual 166, 3) := by decide +kernel
theorem d_C_fill_37 : decode b_C_fill 37 = .ok (.return_, 1) := by decide +kernel
theorem d_C_findRows_0 : decode b_C_findRows 0 = .ok (.aload_n 0, 1) := by decide +kernel
theorem d_C_findRows_1 : decode b_C_findRows 1 = .ok (.aload_n 0, 1) := by decide +kernel
theorem d_C_findRows_2 : decode b_C_findRows 2 = .ok (.getfield 43, 3) := by decide +kernel
theorem d_C_findRows_5 : decode b_C_findRows 5 = .ok (.aload_n 1, 1) := by decide +kernel
theorem d_C_findRows_6 : decode b_C_findRows 6 = .ok (.iload_n 2, 1) := by decide +kernel
theorem d_C_findRows_7 : decode b_C_findRows 7 = .ok (.invokevirtual 144, 3) := by decide +kernel
theorem d_C_findRows_10 : decode b_C_findRows 10 = .ok (.iload_n 3, 1) := by decide +kernel
theorem d_C_findRows_11 : decode b_C_findRows 11 = .ok (.ifCond .ne 8, 3) := by decide +kernel
theorem d_C_findRows_14 : decode b_C_findRows 14 = .ok (.aload_n 0, 1) := by decide +kernel
theorem d_C_findRows_15 : decode b_C_findRows 15 = .ok (.getfield 43, 3) := by decide +kernel
theorem d_C_findRows_18 : decode b_C_findRows 18 = .ok (.areturn, 1) := by decide +kernel
theorem d_C_findRows_19 : decode b_C_findRows 19 = .ok (.aload_n 0, 1) := by decide +kernel
theorem d_C_findRows_20 : decode b_C_findRows 20 = .ok (.getfield 47, 3) := by decide +kernel
theorem d_C_findRows_23 : decode b_C_findRows 23 = .ok (.invokevirtual 155, 3) := by decide +kernel
theorem d_C_findRows_26 : decode b_C_findRows 26 = .ok (.iload_n 2, 1) := by decide +kernel
theorem d_C_findRows_27 : decode b_C_findRows 27 = .ok (.ifCond .le 15, 3) := by decide +kernel
theorem d_C_findRows_30 : decode b_C_findRows 30 = .ok (.aload_n 0, 1) := by decide +kernel
theorem d_C_findRows_31 : decode b_C_findRows 31 = .ok (.aload_n 0, 1) := by decide +kernel
theorem d_C_findRows_32 : decode b_C_findRows 32 = .ok (.getfield 47, 3) := by decide +kernel
theorem d_C_findRows_35 : decode b_C_findRows 35 = .ok (.aload_n 1, 1) := by decide +kernel
theorem d_C_findRows_36 : decode b_C_findRows 36 = .ok (.iload_n 2, 1) := by decide +kernel
theorem d_C_findRows_37 : decode b_C_findRows 37 = .ok (.iconst 1, 1) := by decide +kernel
theorem d_C_findRows_38 : decode b_C_findRows 38 = .ok (.isub, 1) := by decide +kernel
theorem d_C_findRows_39 : decode b_C_findRows 39 = .ok (.invokevirtual 144, 3) := by decide +kernel
theorem d_C_findRows_42 : decode b_C_findRows 42 = .ok (.iload_n 3, 1) := by decide +kernel
theorem d_C_findRows_43 : decode b_C_findRows 43 = .ok (.iconst 1, 1) := by decide +kernel
theorem d_C_findRows_44 : decode b_C_findRows 44 = .ok (.if_icmp .ne 19, 3) := by decide +kernel
theorem d_C_findRows_47 : decode b_C_findRows 47 = .ok (.aload_n 0, 1) := by decide +kernel
theorem d_C_findRows_48 : decode b_C_findRows 48 = .ok (.getfield 43, 3) := by decide +kernel
theorem d_C_findRows_51 : decode b_C_findRows 51 = .ok (.aload_n 0, 1) := by decide +kernel
theorem d_C_findRows_52 : decode b_C_findRows 52 = .ok (.getfield 47, 3) := by decide +kernel
theorem d_C_findRows_55 : decode b_C_findRows 55 = .ok (.invokevirtual 170, 3) := by decide +kernel
theorem d_C_findRows_58 : decode b_C_findRows 58 = .ok (.aload_n 0, 1) := by decide +kernel
theorem d_C_findRows_59 : decode b_C_findRows 59 = .ok (.getfield 43, 3) := by decide +kernel
theorem d_C_findRows_62 : decode b_C_findRows 62 = .ok (.areturn, 1) := by decide +kernel
theorem d_C_findRows_63 : decode b_C_findRows 63 = .ok (.aload_n 0, 1) := by decide +kernel
theorem d_C_findRows_64 : decode b_C_findRows 64 = .ok (.getfield 47, 3) := by decide +kernel
theorem d_C_findRows_67 : decode b_C_findRows 67 = .ok (.aload_n 0, 1) := by decide +kernel
theorem d_C_findRows_68 : decode b_C_findRows 68 = .ok (.getfield 43, 3) := by decide +kernel
theorem d_C_findRows_71 : decode b_C_findRows 71 = .ok (.invokevirtual 170, 3) := by decide +kernel
theorem d_C_findRows_74 : decode b_C_findRows 74 = .ok (.aload_n 0, 1) := by decide +kernel
theorem d_C_findRows_75 : decode b_C_findRows 75 = .ok (.getfield 47, 3) := by decide +kernel
theorem d_C_findRows_78 : decode b_C_findRows 78 = .ok (.areturn, 1) := by decide +kernel
theorem d_C_areRowsOthers_0 : decode b_C_areRowsOthers 0 = .ok (.iconst 0, 1) := by decide +kernel
theorem d_C_areRowsOthers_1 : decode b_C_areRowsOthers 1 = .ok (.istore 5, 2) := by decide +kernel
theorem d_C_areRowsOthers_3 : decode b_C_areRowsOthers 3 = .ok (.iload 5, 2) := by decide +kernel
theorem d_C_areRowsOthers_5 : decode b_C_areRowsOthers 5 = .ok (.aload_n 0, 1) := by decide +kernel
theorem d_C_areRowsOthers_6 : decode b_C_areRowsOthers 6 = .ok (.getfield 92, 3) := by decide +kernel
theorem d_C_areRowsOthers_9 : decode b_C_areRowsOthers 9 = .ok (.if_icmp .ge 68, 3) := by decide +kernel
theorem d_C_areRowsOthers_12 : decode b_C_areRowsOthers 12 = .ok (.aload_n 0, 1) := by decide +kernel
theorem d_C_areRowsOthers_13 : decode b_C_areRowsOthers 13 = .ok (.getfield 18, 3) := by decide +kernel
theorem d_C_areRowsOthers_16 : decode b_C_areRowsOthers 16 = .ok (.iload 5, 2) := by decide +kernel
theorem d_C_areRowsOthers_18 : decode b_C_areRowsOthers 18 = .ok (.aaload, 1) := by decide +kernel
theorem d_C_areRowsOthers_19 : decode b_C_areRowsOthers 19 = .ok (.astore 6, 2) := by decide +kernel
theorem d_C_areRowsOthers_21 : decode b_C_areRowsOthers 21 = .ok (.aload 6, 2) := by decide +kernel
theorem d_C_areRowsOthers_23 : decode b_C_areRowsOthers 23 = .ok (.ifnull 48, 3) := by decide +kernel
theorem d_C_areRowsOthers_26 : decode b_C_areRowsOthers 26 = .ok (.aload_n 0, 1) := by decide +kernel
theorem d_C_areRowsOthers_27 : decode b_C_areRowsOthers 27 = .ok (.getfield 12, 3) := by decide +kernel
theorem d_C_areRowsOthers_30 : decode b_C_areRowsOthers 30 = .ok (.iload_n 3, 1) := by decide +kernel
theorem d_C_areRowsOthers_31 : decode b_C_areRowsOthers 31 = .ok (.iload_n 1, 1) := by decide +kernel
theorem d_C_areRowsOthers_32 : decode b_C_areRowsOthers 32 = .ok (.aload 6, 2) := by decide +kernel
theorem d_C_areRowsOthers_34 : decode b_C_areRowsOthers 34 = .ok (.getfield 110, 3) := by decide +kernel
theorem d_C_areRowsOthers_37 : decode b_C_areRowsOthers 37 = .ok (.invokevirtual 174, 3) := by decide +kernel
theorem d_C_areRowsOthers_40 : decode b_C_areRowsOthers 40 = .ok (.aload_n 0, 1) := by decide +kernel
theorem d_C_areRowsOthers_41 : decode b_C_areRowsOthers 41 = .ok (.getfield 12, 3) := by decide +kernel
theorem d_C_areRowsOthers_44 : decode b_C_areRowsOthers 44 = .ok (.iload 4, 2) := by decide +kernel
theorem d_C_areRowsOthers_46 : decode b_C_areRowsOthers 46 = .ok (.iload_n 1, 1) := by decide +kernel
theorem d_C_areRowsOthers_47 : decode b_C_areRowsOthers 47 = .ok (.aload 6, 2) := by decide +kernel
theorem d_C_areRowsOthers_49 : decode b_C_areRowsOthers 49 = .ok (.getfield 110, 3) := by decide +kernel
theorem d_C_areRowsOthers_52 : decode b_C_areRowsOthers 52 = .ok (.invokevirtual 174, 3) := by decide +kernel
theorem d_C_areRowsOthers_55 : decode b_C_areRowsOthers 55 = .ok (.if_icmp .eq 16, 3) := by decide +kernel
theorem d_C_areRowsOthers_58 : decode b_C_areRowsOthers 58 = .ok (.aload_n 0, 1) := by decide +kernel
theorem d_C_areRowsOthers_59 : decode b_C_areRowsOthers 59 = .ok (.aload 6, 2) := by decide +kernel
theorem d_C_areRowsOthers_61 : decode b_C_areRowsOthers 61 = .ok (.iload_n 1, 1) := by decide +kernel
theorem d_C_areRowsOthers_62 : decode b_C_areRowsOthers 62 = .ok (.iload_n 2, 1) := by decide +kernel
theorem d_C_areRowsOthers_63 : decode b_C_areRowsOthers 63 = .ok (.invokevirtual 177, 3) := by decide +kernel
theorem d_C_areRowsOthers_66 : decode b_C_areRowsOthers 66 = .ok (.ifCond .eq 5, 3) := by decide +kernel
theorem d_C_areRowsOthers_69 : decode b_C_areRowsOthers 69 = .ok (.iconst 1, 1) := by decide +kernel
theorem d_C_areRowsOthers_70 : decode b_C_areRowsOthers 70 = .ok (.ireturn, 1) := by decide +kernel
theorem d_C_areRowsOthers_71 : decode b_C_areRowsOthers 71 = .ok (.iinc 5 1, 3) := by decide +kernel
theorem d_C_areRowsOthers_74 : decode b_C_areRowsOthers 74 = .ok (.goto (-71), 3) := by decide +kernel
theorem d_C_areRowsOthers_77 : decode b_C_areRowsOthers 77 = .ok (.iconst 0, 1) := by decide +kernel
theorem d_C_areRowsOthers_78 : decode b_C_areRowsOthers 78 = .ok (.ireturn, 1) := by decide +kernel
theorem d_C_hasRowThrough_0 : decode b_C_hasRowThrough 0 = .ok (.iconst 0, 1) := by decide +kernel
theorem d_C_hasRowThrough_1 : decode b_C_hasRowThrough 1 = .ok (.istore 4, 2) := by decide +kernel
theorem d_C_hasRowThrough_3 : decode b_C_hasRowThrough 3 = .ok (.iload 4, 2) := by decide +kernel
theorem d_C_hasRowThrough_5 : decode b_C_hasRowThrough 5 = .ok (.aload_n 1, 1) := by decide +kernel
theorem d_C_hasRowThrough_6 : decode b_C_hasRowThrough 6 = .ok (.getfield 107, 3) := by decide +kernel
theorem d_C_hasRowThrough_9 : decode b_C_hasRowThrough 9 = .ok (.if_icmp .ge 87, 3) := by decide +kernel
theorem d_C_hasRowThrough_12 : decode b_C_hasRowThrough 12 = .ok (.aload_n 0, 1) := by decide +kernel
theorem d_C_hasRowThrough_13 : decode b_C_hasRowThrough 13 = .ok (.getfield 34, 3) := by decide +kernel
theorem d_C_hasRowThrough_16 : decode b_C_hasRowThrough 16 = .ok (.aload_n 1, 1) := by decide +kernel
theorem d_C_hasRowThrough_17 : decode b_C_hasRowThrough 17 = .ok (.invokevirtual 162, 3) := by decide +kernel
theorem d_C_hasRowThrough_20 : decode b_C_hasRowThrough 20 = .ok (.aload_n 0, 1) := by decide +kernel
theorem d_C_hasRowThrough_21 : decode b_C_hasRowThrough 21 = .ok (.getfield 34, 3) := by decide +kernel
theorem d_C_hasRowThrough_24 : decode b_C_hasRowThrough 24 = .ok (.aload_n 1, 1) := by decide +kernel
theorem d_C_hasRowThrough_25 : decode b_C_hasRowThrough 25 = .ok (.iload 4, 2) := by decide +kernel
theorem d_C_hasRowThrough_27 : decode b_C_hasRowThrough 27 = .ok (.iload_n 3, 1) := by decide +kernel
theorem d_C_hasRowThrough_28 : decode b_C_hasRowThrough 28 = .ok (.invokevirtual 181, 3) := by decide +kernel
theorem d_C_hasRowThrough_31 : decode b_C_hasRowThrough 31 = .ok (.ifCond .eq 59, 3) := by decide +kernel
theorem d_C_hasRowThrough_34 : decode b_C_hasRowThrough 34 = .ok (.aload_n 0, 1) := by decide +kernel
theorem d_C_hasRowThrough_35 : decode b_C_hasRowThrough 35 = .ok (.getfield 50, 3) := by decide +kernel
theorem d_C_hasRowThrough_38 : decode b_C_hasRowThrough 38 = .ok (.invokevirtual 155, 3) := by decide +kernel
theorem d_C_hasRowThrough_41 : decode b_C_hasRowThrough 41 = .ok (.aload_n 0, 1) := by decide +kernel
theorem d_C_hasRowThrough_42 : decode b_C_hasRowThrough 42 = .ok (.getfield 25, 3) := by decide +kernel
theorem d_C_hasRowThrough_45 : decode b_C_hasRowThrough 45 = .ok (.aload_n 0, 1) := by decide +kernel
theorem d_C_hasRowThrough_46 : decode b_C_hasRowThrough 46 = .ok (.getfield 12, 3) := by decide +kernel
theorem d_C_hasRowThrough_49 : decode b_C_hasRowThrough 49 = .ok (.iload_n 2, 1) := by decide +kernel
theorem d_C_hasRowThrough_50 : decode b_C_hasRowThrough 50 = .ok (.aload_n 1, 1) := by decide +kernel
theorem d_C_hasRowThrough_51 : decode b_C_hasRowThrough 51 = .ok (.getfield 110, 3) := by decide +kernel
theorem d_C_hasRowThrough_54 : decode b_C_hasRowThrough 54 = .ok (.invokevirtual 158, 3) := by decide +kernel
theorem d_C_hasRowThrough_57 : decode b_C_hasRowThrough 57 = .ok (.aload_n 0, 1) := by decide +kernel
theorem d_C_hasRowThrough_58 : decode b_C_hasRowThrough 58 = .ok (.getfield 25, 3) := by decide +kernel
theorem d_C_hasRowThrough_61 : decode b_C_hasRowThrough 61 = .ok (.iload_n 3, 1) := by decide +kernel
theorem d_C_hasRowThrough_62 : decode b_C_hasRowThrough 62 = .ok (.iconst 1, 1) := by decide +kernel
theorem d_C_hasRowThrough_63 : decode b_C_hasRowThrough 63 = .ok (.invokevirtual 184, 3) := by decide +kernel
theorem d_C_hasRowThrough_66 : decode b_C_hasRowThrough 66 = .ok (.aload_n 0, 1) := by decide +kernel
theorem d_C_hasRowThrough_67 : decode b_C_hasRowThrough 67 = .ok (.getfield 34, 3) := by decide +kernel
theorem d_C_hasRowThrough_70 : decode b_C_hasRowThrough 70 = .ok (.aload_n 1, 1) := by decide +kernel
theorem d_C_hasRowThrough_71 : decode b_C_hasRowThrough 71 = .ok (.aload_n 0, 1) := by decide +kernel
theorem d_C_hasRowThrough_72 : decode b_C_hasRowThrough 72 = .ok (.getfield 50, 3) := by decide +kernel
theorem d_C_hasRowThrough_75 : decode b_C_hasRowThrough 75 = .ok (.invokevirtual 166, 3) := by decide +kernel
theorem d_C_hasRowThrough_78 : decode b_C_hasRowThrough 78 = .ok (.aload_n 0, 1) := by decide +kernel
theorem d_C_hasRowThrough_79 : decode b_C_hasRowThrough 79 = .ok (.getfield 50, 3) := by decide +kernel
theorem d_C_hasRowThrough_82 : decode b_C_hasRowThrough 82 = .ok (.getfield 188, 3) := by decide +kernel
theorem d_C_hasRowThrough_85 : decode b_C_hasRowThrough 85 = .ok (.ifCond .le 5, 3) := by decide +kernel
theorem d_C_hasRowThrough_88 : decode b_C_hasRowThrough 88 = .ok (.iconst 1, 1) := by decide +kernel
theorem d_C_hasRowThrough_89 : decode b_C_hasRowThrough 89 = .ok (.ireturn, 1) := by decide +kernel
theorem d_C_hasRowThrough_90 : decode b_C_hasRowThrough 90 = .ok (.iinc 4 1, 3) := by decide +kernel
theorem d_C_hasRowThrough_93 : decode b_C_hasRowThrough 93 = .ok (.goto (-90), 3) := by decide +kernel
theorem d_C_hasRowThrough_96 : decode b_C_hasRowThrough 96 = .ok (.iconst 0, 1) := by decide +kernel
theorem d_C_hasRowThrough_97 : decode b_C_hasRowThrough 97 = .ok (.ireturn, 1) := by decide +kernel
end
section
theorem d_M_init_0 : decode b_M_init 0 = .ok (.aload_n 0, 1) := by decide +kernel
theorem d_M_init_1 : decode b_M_init 1 = .ok (.invokespecial 1, 3) := by decide +kernel
theorem d_M_init_4 : decode b_M_init 4 = .ok (.aload_n 0, 1) := by decide +kernel
theorem d_M_init_5 : decode b_M_init 5 = .ok (.sipush 400, 3) := by decide +kernel
theorem d_M_init_8 : decode b_M_init 8 = .ok (.newarray .int, 2) := by decide +kernel
theorem d_M_init_10 : decode b_M_init 10 = .ok (.putfield 7, 3) := by decide +kernel
theorem d_M_init_13 : decode b_M_init 13 = .ok (.aload_n 0, 1) := by decide +kernel
theorem d_M_init_14 : decode b_M_init 14 = .ok (.sipush 400, 3) := by decide +kernel
theorem d_M_init_17 : decode b_M_init 17 = .ok (.newarray .int, 2) := by decide +kernel
theorem d_M_init_19 : decode b_M_init 19 = .ok (.putfield 13, 3) := by decide +kernel
theorem d_M_init_22 : decode b_M_init 22 = .ok (.aload_n 0, 1) := by decide +kernel
theorem d_M_init_23 : decode b_M_init 23 = .ok (.sipush 400, 3) := by decide +kernel
theorem d_M_init_26 : decode b_M_init 26 = .ok (.newarray .boolean, 2) := by decide +kernel
theorem d_M_init_28 : decode b_M_init 28 = .ok (.putfield 16, 3) := by decide +kernel
theorem d_M_init_31 : decode b_M_init 31 = .ok (.aload_n 0, 1) := by decide +kernel
theorem d_M_init_32 : decode b_M_init 32 = .ok (.bipush 12, 2) := by decide +kernel
theorem d_M_init_34 : decode b_M_init 34 = .ok (.newarray .int, 2) := by decide +kernel
theorem d_M_init_36 : decode b_M_init 36 = .ok (.putfield 20, 3) := by decide +kernel
theorem d_M_init_39 : decode b_M_init 39 = .ok (.aload_n 0, 1) := by decide +kernel
theorem d_M_init_40 : decode b_M_init 40 = .ok (.bipush 12, 2) := by decide +kernel
theorem d_M_init_42 : decode b_M_init 42 = .ok (.newarray .int, 2) := by decide +kernel
theorem d_M_init_44 : decode b_M_init 44 = .ok (.putfield 23, 3) := by decide +kernel
theorem d_M_init_47 : decode b_M_init 47 = .ok (.aload_n 0, 1) := by decide +kernel
theorem d_M_init_48 : decode b_M_init 48 = .ok (.bipush 108, 2) := by decide +kernel
theorem d_M_init_50 : decode b_M_init 50 = .ok (.newarray .int, 2) := by decide +kernel
theorem d_M_init_52 : decode b_M_init 52 = .ok (.putfield 26, 3) := by decide +kernel
theorem d_M_init_55 : decode b_M_init 55 = .ok (.aload_n 0, 1) := by decide +kernel
theorem d_M_init_56 : decode b_M_init 56 = .ok (.ldc 29, 2) := by decide +kernel
theorem d_M_init_58 : decode b_M_init 58 = .ok (.newarray .long, 2) := by decide +kernel
theorem d_M_init_60 : decode b_M_init 60 = .ok (.putfield 30, 3) := by decide +kernel
theorem d_M_init_63 : decode b_M_init 63 = .ok (.aload_n 0, 1) := by decide +kernel
theorem d_M_init_64 : decode b_M_init 64 = .ok (.sipush 744, 3) := by decide +kernel
theorem d_M_init_67 : decode b_M_init 67 = .ok (.newarray .boolean, 2) := by decide +kernel
theorem d_M_init_69 : decode b_M_init 69 = .ok (.putfield 34, 3) := by decide +kernel
theorem d_M_init_72 : decode b_M_init 72 = .ok (.aload_n 0, 1) := by decide +kernel
theorem d_M_init_73 : decode b_M_init 73 = .ok (.sipush 1024, 3) := by decide +kernel
theorem d_M_init_76 : decode b_M_init 76 = .ok (.newarray .long, 2) := by decide +kernel
theorem d_M_init_78 : decode b_M_init 78 = .ok (.putfield 37, 3) := by decide +kernel
theorem d_M_init_81 : decode b_M_init 81 = .ok (.aload_n 0, 1) := by decide +kernel
theorem d_M_init_82 : decode b_M_init 82 = .ok (.sipush 2048, 3) := by decide +kernel
theorem d_M_init_85 : decode b_M_init 85 = .ok (.newarray .boolean, 2) := by decide +kernel
theorem d_M_init_87 : decode b_M_init 87 = .ok (.putfield 40, 3) := by decide +kernel
theorem d_M_init_90 : decode b_M_init 90 = .ok (.aload_n 0, 1) := by decide +kernel
theorem d_M_init_91 : decode b_M_init 91 = .ok (.iconst 5, 1) := by decide +kernel
theorem d_M_init_92 : decode b_M_init 92 = .ok (.newarray .int, 2) := by decide +kernel
theorem d_M_init_94 : decode b_M_init 94 = .ok (.putfield 43, 3) := by decide +kernel
theorem d_M_init_97 : decode b_M_init 97 = .ok (.aload_n 0, 1) := by decide +kernel
theorem d_M_init_98 : decode b_M_init 98 = .ok (.sipush 2048, 3) := by decide +kernel
theorem d_M_init_101 : decode b_M_init 101 = .ok (.newarray .int, 2) := by decide +kernel
theorem d_M_init_103 : decode b_M_init 103 = .ok (.putfield 46, 3) := by decide +kernel
theorem d_M_init_106 : decode b_M_init 106 = .ok (.iload_n 1, 1) := by decide +kernel
theorem d_M_init_107 : decode b_M_init 107 = .ok (.bipush 62, 2) := by decide +kernel
theorem d_M_init_109 : decode b_M_init 109 = .ok (.irem, 1) := by decide +kernel
theorem d_M_init_110 : decode b_M_init 110 = .ok (.istore_n 2, 1) := by decide +kernel
theorem d_M_init_111 : decode b_M_init 111 = .ok (.aload_n 0, 1) := by decide +kernel
theorem d_M_init_112 : decode b_M_init 112 = .ok (.iconst 1, 1) := by decide +kernel
theorem d_M_init_113 : decode b_M_init 113 = .ok (.iload_n 2, 1) := by decide +kernel
theorem d_M_init_114 : decode b_M_init 114 = .ok (.ifCond .ge 10, 3) := by decide +kernel
theorem d_M_init_117 : decode b_M_init 117 = .ok (.iload_n 2, 1) := by decide +kernel
theorem d_M_init_118 : decode b_M_init 118 = .ok (.bipush 62, 2) := by decide +kernel
theorem d_M_init_120 : decode b_M_init 120 = .ok (.iadd, 1) := by decide +kernel
theorem d_M_init_121 : decode b_M_init 121 = .ok (.goto 4, 3) := by decide +kernel
theorem d_M_init_124 : decode b_M_init 124 = .ok (.iload_n 2, 1) := by decide +kernel
theorem d_M_init_125 : decode b_M_init 125 = .ok (.iadd, 1) := by decide +kernel
theorem d_M_init_126 : decode b_M_init 126 = .ok (.putfield 49, 3) := by decide +kernel
theorem d_M_init_129 : decode b_M_init 129 = .ok (.return_, 1) := by decide +kernel
theorem d_M_isTriple_0 : decode b_M_isTriple 0 = .ok (.iload_n 0, 1) := by decide +kernel
theorem d_M_isTriple_1 : decode b_M_isTriple 1 = .ok (.ifCond .lt 33, 3) := by decide +kernel
theorem d_M_isTriple_4 : decode b_M_isTriple 4 = .ok (.iload_n 0, 1) := by decide +kernel
theorem d_M_isTriple_5 : decode b_M_isTriple 5 = .ok (.bipush 16, 2) := by decide +kernel
theorem d_M_isTriple_7 : decode b_M_isTriple 7 = .ok (.if_icmp .ge 27, 3) := by decide +kernel
theorem d_M_isTriple_10 : decode b_M_isTriple 10 = .ok (.iload_n 1, 1) := by decide +kernel
theorem d_M_isTriple_11 : decode b_M_isTriple 11 = .ok (.ifCond .lt 23, 3) := by decide +kernel
theorem d_M_isTriple_14 : decode b_M_isTriple 14 = .ok (.iload_n 1, 1) := by decide +kernel
theorem d_M_isTriple_15 : decode b_M_isTriple 15 = .ok (.bipush 8, 2) := by decide +kernel
theorem d_M_isTriple_17 : decode b_M_isTriple 17 = .ok (.if_icmp .ge 17, 3) := by decide +kernel
theorem d_M_isTriple_20 : decode b_M_isTriple 20 = .ok (.iload_n 2, 1) := by decide +kernel
theorem d_M_isTriple_21 : decode b_M_isTriple 21 = .ok (.ifCond .lt 13, 3) := by decide +kernel
theorem d_M_isTriple_24 : decode b_M_isTriple 24 = .ok (.iload_n 2, 1) := by decide +kernel
theorem d_M_isTriple_25 : decode b_M_isTriple 25 = .ok (.bipush 16, 2) := by decide +kernel
theorem d_M_isTriple_27 : decode b_M_isTriple 27 = .ok (.if_icmp .ge 7, 3) := by decide +kernel
theorem d_M_isTriple_30 : decode b_M_isTriple 30 = .ok (.iconst 1, 1) := by decide +kernel
theorem d_M_isTriple_31 : decode b_M_isTriple 31 = .ok (.goto 4, 3) := by decide +kernel
theorem d_M_isTriple_34 : decode b_M_isTriple 34 = .ok (.iconst 0, 1) := by decide +kernel
theorem d_M_isTriple_35 : decode b_M_isTriple 35 = .ok (.ireturn, 1) := by decide +kernel
theorem d_M_triple_0 : decode b_M_triple 0 = .ok (.sipush 128, 3) := by decide +kernel
theorem d_M_triple_3 : decode b_M_triple 3 = .ok (.iload_n 0, 1) := by decide +kernel
theorem d_M_triple_4 : decode b_M_triple 4 = .ok (.imul, 1) := by decide +kernel
theorem d_M_triple_5 : decode b_M_triple 5 = .ok (.bipush 16, 2) := by decide +kernel
theorem d_M_triple_7 : decode b_M_triple 7 = .ok (.iload_n 1, 1) := by decide +kernel
theorem d_M_triple_8 : decode b_M_triple 8 = .ok (.imul, 1) := by decide +kernel
theorem d_M_triple_9 : decode b_M_triple 9 = .ok (.iadd, 1) := by decide +kernel
theorem d_M_triple_10 : decode b_M_triple 10 = .ok (.iload_n 2, 1) := by decide +kernel
theorem d_M_triple_11 : decode b_M_triple 11 = .ok (.iadd, 1) := by decide +kernel
theorem d_M_triple_12 : decode b_M_triple 12 = .ok (.ireturn, 1) := by decide +kernel
theorem d_M_isNumber_0 : decode b_M_isNumber 0 = .ok (.iload_n 1, 1) := by decide +kernel
theorem d_M_isNumber_1 : decode b_M_isNumber 1 = .ok (.ifCond .lt 15, 3) := by decide +kernel
theorem d_M_isNumber_4 : decode b_M_isNumber 4 = .ok (.iload_n 1, 1) := by decide +kernel
theorem d_M_isNumber_5 : decode b_M_isNumber 5 = .ok (.aload_n 0, 1) := by decide +kernel
theorem d_M_isNumber_6 : decode b_M_isNumber 6 = .ok (.getfield 53, 3) := by decide +kernel
theorem d_M_isNumber_9 : decode b_M_isNumber 9 = .ok (.if_icmp .gt 7, 3) := by decide +kernel
theorem d_M_isNumber_12 : decode b_M_isNumber 12 = .ok (.iconst 1, 1) := by decide +kernel
theorem d_M_isNumber_13 : decode b_M_isNumber 13 = .ok (.goto 4, 3) := by decide +kernel
theorem d_M_isNumber_16 : decode b_M_isNumber 16 = .ok (.iconst 0, 1) := by decide +kernel
theorem d_M_isNumber_17 : decode b_M_isNumber 17 = .ok (.ireturn, 1) := by decide +kernel
theorem d_M_isQuestion_0 : decode b_M_isQuestion 0 = .ok (.iload_n 1, 1) := by decide +kernel
theorem d_M_isQuestion_1 : decode b_M_isQuestion 1 = .ok (.ifCond .lt 15, 3) := by decide +kernel
theorem d_M_isQuestion_4 : decode b_M_isQuestion 4 = .ok (.iload_n 1, 1) := by decide +kernel
theorem d_M_isQuestion_5 : decode b_M_isQuestion 5 = .ok (.aload_n 0, 1) := by decide +kernel
theorem d_M_isQuestion_6 : decode b_M_isQuestion 6 = .ok (.getfield 56, 3) := by decide +kernel
theorem d_M_isQuestion_9 : decode b_M_isQuestion 9 = .ok (.if_icmp .ge 7, 3) := by decide +kernel
theorem d_M_isQuestion_12 : decode b_M_isQuestion 12 = .ok (.iconst 1, 1) := by decide +kernel
theorem d_M_isQuestion_13 : decode b_M_isQuestion 13 = .ok (.goto 4, 3) := by decide +kernel
theorem d_M_isQuestion_16 : decode b_M_isQuestion 16 = .ok (.iconst 0, 1) := by decide +kernel
theorem d_M_isQuestion_17 : decode b_M_isQuestion 17 = .ok (.ireturn, 1) := by decide +kernel
theorem d_M_last_0 : decode b_M_last 0 = .ok (.iconst (-1), 1) := by decide +kernel
theorem d_M_last_1 : decode b_M_last 1 = .ok (.istore_n 3, 1) := by decide +kernel
theorem d_M_last_2 : decode b_M_last 2 = .ok (.iconst 0, 1) := by decide +kernel
theorem d_M_last_3 : decode b_M_last 3 = .ok (.istore 4, 2) := by decide +kernel
theorem d_M_last_5 : decode b_M_last 5 = .ok (.iload 4, 2) := by decide +kernel
theorem d_M_last_7 : decode b_M_last 7 = .ok (.aload_n 0, 1) := by decide +kernel
theorem d_M_last_8 : decode b_M_last 8 = .ok (.getfield 59, 3) := by decide +kernel
theorem d_M_last_11 : decode b_M_last 11 = .ok (.if_icmp .ge 54, 3) := by decide +kernel
theorem d_M_last_14 : decode b_M_last 14 = .ok (.aload_n 0, 1) := by decide +kernel
theorem d_M_last_15 : decode b_M_last 15 = .ok (.getfield 13, 3) := by decide +kernel
theorem d_M_last_18 : decode b_M_last 18 = .ok (.iload 4, 2) := by decide +kernel
theorem d_M_last_20 : decode b_M_last 20 = .ok (.iaload, 1) := by decide +kernel
theorem d_M_last_21 : decode b_M_last 21 = .ok (.iload_n 2, 1) := by decide +kernel
theorem d_M_last_22 : decode b_M_last 22 = .ok (.if_icmp .ne 37, 3) := by decide +kernel
theorem d_M_last_25 : decode b_M_last 25 = .ok (.aload_n 0, 1) := by decide +kernel
theorem d_M_last_26 : decode b_M_last 26 = .ok (.getfield 7, 3) := by decide +kernel
theorem d_M_last_29 : decode b_M_last 29 = .ok (.iload 4, 2) := by decide +kernel
theorem d_M_last_31 : decode b_M_last 31 = .ok (.iaload, 1) := by decide +kernel
theorem d_M_last_32 : decode b_M_last 32 = .ok (.iload_n 1, 1) := by decide +kernel
theorem d_M_last_33 : decode b_M_last 33 = .ok (.if_icmp .gt 26, 3) := by decide +kernel
theorem d_M_last_36 : decode b_M_last 36 = .ok (.iload_n 3, 1) := by decide +kernel
theorem d_M_last_37 : decode b_M_last 37 = .ok (.ifCond .lt 19, 3) := by decide +kernel
theorem d_M_last_40 : decode b_M_last 40 = .ok (.aload_n 0, 1) := by decide +kernel
theorem d_M_last_41 : decode b_M_last 41 = .ok (.getfield 7, 3) := by decide +kernel
theorem d_M_last_44 : decode b_M_last 44 = .ok (.iload 4, 2) := by decide +kernel
theorem d_M_last_46 : decode b_M_last 46 = .ok (.iaload, 1) := by decide +kernel
theorem d_M_last_47 : decode b_M_last 47 = .ok (.aload_n 0, 1) := by decide +kernel
theorem d_M_last_48 : decode b_M_last 48 = .ok (.getfield 7, 3) := by decide +kernel
theorem d_M_last_51 : decode b_M_last 51 = .ok (.iload_n 3, 1) := by decide +kernel
theorem d_M_last_52 : decode b_M_last 52 = .ok (.iaload, 1) := by decide +kernel
theorem d_M_last_53 : decode b_M_last 53 = .ok (.if_icmp .lt 6, 3) := by decide +kernel
theorem d_M_last_56 : decode b_M_last 56 = .ok (.iload 4, 2) := by decide +kernel
theorem d_M_last_58 : decode b_M_last 58 = .ok (.istore_n 3, 1) := by decide +kernel
theorem d_M_last_59 : decode b_M_last 59 = .ok (.iinc 4 1, 3) := by decide +kernel
theorem d_M_last_62 : decode b_M_last 62 = .ok (.goto (-57), 3) := by decide +kernel
theorem d_M_last_65 : decode b_M_last 65 = .ok (.iload_n 3, 1) := by decide +kernel
theorem d_M_last_66 : decode b_M_last 66 = .ok (.ireturn, 1) := by decide +kernel
theorem d_M_isThere_0 : decode b_M_isThere 0 = .ok (.aload_n 0, 1) := by decide +kernel
theorem d_M_isThere_1 : decode b_M_isThere 1 = .ok (.iload_n 1, 1) := by decide +kernel
theorem d_M_isThere_2 : decode b_M_isThere 2 = .ok (.iload_n 2, 1) := by decide +kernel
theorem d_M_isThere_3 : decode b_M_isThere 3 = .ok (.invokevirtual 62, 3) := by decide +kernel
theorem d_M_isThere_6 : decode b_M_isThere 6 = .ok (.istore_n 3, 1) := by decide +kernel
theorem d_M_isThere_7 : decode b_M_isThere 7 = .ok (.iload_n 3, 1) := by decide +kernel
theorem d_M_isThere_8 : decode b_M_isThere 8 = .ok (.ifCond .lt 16, 3) := by decide +kernel
theorem d_M_isThere_11 : decode b_M_isThere 11 = .ok (.aload_n 0, 1) := by decide +kernel
theorem d_M_isThere_12 : decode b_M_isThere 12 = .ok (.getfield 16, 3) := by decide +kernel
theorem d_M_isThere_15 : decode b_M_isThere 15 = .ok (.iload_n 3, 1) := by decide +kernel
theorem d_M_isThere_16 : decode b_M_isThere 16 = .ok (.baload, 1) := by decide +kernel
theorem d_M_isThere_17 : decode b_M_isThere 17 = .ok (.ifCond .eq 7, 3) := by decide +kernel
theorem d_M_isThere_20 : decode b_M_isThere 20 = .ok (.iconst 1, 1) := by decide +kernel
theorem d_M_isThere_21 : decode b_M_isThere 21 = .ok (.goto 4, 3) := by decide +kernel
theorem d_M_isThere_24 : decode b_M_isThere 24 = .ok (.iconst 0, 1) := by decide +kernel
theorem d_M_isThere_25 : decode b_M_isThere 25 = .ok (.ireturn, 1) := by decide +kernel
theorem d_M_say_0 : decode b_M_say 0 = .ok (.aload_n 0, 1) := by decide +kernel
theorem d_M_say_1 : decode b_M_say 1 = .ok (.getfield 7, 3) := by decide +kernel
theorem d_M_say_4 : decode b_M_say 4 = .ok (.aload_n 0, 1) := by decide +kernel
theorem d_M_say_5 : decode b_M_say 5 = .ok (.getfield 59, 3) := by decide +kernel
theorem d_M_say_8 : decode b_M_say 8 = .ok (.iload_n 1, 1) := by decide +kernel
theorem d_M_say_9 : decode b_M_say 9 = .ok (.iastore, 1) := by decide +kernel
theorem d_M_say_10 : decode b_M_say 10 = .ok (.aload_n 0, 1) := by decide +kernel
theorem d_M_say_11 : decode b_M_say 11 = .ok (.getfield 13, 3) := by decide +kernel
theorem d_M_say_14 : decode b_M_say 14 = .ok (.aload_n 0, 1) := by decide +kernel
theorem d_M_say_15 : decode b_M_say 15 = .ok (.getfield 59, 3) := by decide +kernel
theorem d_M_say_18 : decode b_M_say 18 = .ok (.iload_n 2, 1) := by decide +kernel
theorem d_M_say_19 : decode b_M_say 19 = .ok (.iastore, 1) := by decide +kernel
theorem d_M_say_20 : decode b_M_say 20 = .ok (.aload_n 0, 1) := by decide +kernel
theorem d_M_say_21 : decode b_M_say 21 = .ok (.getfield 16, 3) := by decide +kernel
theorem d_M_say_24 : decode b_M_say 24 = .ok (.aload_n 0, 1) := by decide +kernel
theorem d_M_say_25 : decode b_M_say 25 = .ok (.getfield 59, 3) := by decide +kernel
theorem d_M_say_28 : decode b_M_say 28 = .ok (.iload_n 3, 1) := by decide +kernel
theorem d_M_say_29 : decode b_M_say 29 = .ok (.bastore, 1) := by decide +kernel
theorem d_M_say_30 : decode b_M_say 30 = .ok (.aload_n 0, 1) := by decide +kernel
theorem d_M_say_31 : decode b_M_say 31 = .ok (.dup, 1) := by decide +kernel
theorem d_M_say_32 : decode b_M_say 32 = .ok (.getfield 59, 3) := by decide +kernel
theorem d_M_say_35 : decode b_M_say 35 = .ok (.iconst 1, 1) := by decide +kernel
theorem d_M_say_36 : decode b_M_say 36 = .ok (.iadd, 1) := by decide +kernel
theorem d_M_say_37 : decode b_M_say 37 = .ok (.putfield 59, 3) := by decide +kernel
theorem d_M_say_40 : decode b_M_say 40 = .ok (.return_, 1) := by decide +kernel
theorem d_M_forget_0 : decode b_M_forget 0 = .ok (.iload_n 2, 1) := by decide +kernel
theorem d_M_forget_1 : decode b_M_forget 1 = .ok (.istore_n 3, 1) := by decide +kernel
theorem d_M_forget_2 : decode b_M_forget 2 = .ok (.iload_n 3, 1) := by decide +kernel
theorem d_M_forget_3 : decode b_M_forget 3 = .ok (.bipush 62, 2) := by decide +kernel
theorem d_M_forget_5 : decode b_M_forget 5 = .ok (.if_icmp .ge 21, 3) := by decide +kernel
theorem d_M_forget_8 : decode b_M_forget 8 = .ok (.aload_n 0, 1) := by decide +kernel
theorem d_M_forget_9 : decode b_M_forget 9 = .ok (.getfield 34, 3) := by decide +kernel
theorem d_M_forget_12 : decode b_M_forget 12 = .ok (.bipush 62, 2) := by decide +kernel
theorem d_M_forget_14 : decode b_M_forget 14 = .ok (.iload_n 1, 1) := by decide +kernel
theorem d_M_forget_15 : decode b_M_forget 15 = .ok (.imul, 1) := by decide +kernel
theorem d_M_forget_16 : decode b_M_forget 16 = .ok (.iload_n 3, 1) := by decide +kernel
theorem d_M_forget_17 : decode b_M_forget 17 = .ok (.iadd, 1) := by decide +kernel
theorem d_M_forget_18 : decode b_M_forget 18 = .ok (.iconst 0, 1) := by decide +kernel
theorem d_M_forget_19 : decode b_M_forget 19 = .ok (.bastore, 1) := by decide +kernel
theorem d_M_forget_20 : decode b_M_forget 20 = .ok (.iinc 3 1, 3) := by decide +kernel
theorem d_M_forget_23 : decode b_M_forget 23 = .ok (.goto (-21), 3) := by decide +kernel
theorem d_M_forget_26 : decode b_M_forget 26 = .ok (.return_, 1) := by decide +kernel
theorem d_M_change_0 : decode b_M_change 0 = .ok (.iload_n 1, 1) := by decide +kernel
theorem d_M_change_1 : decode b_M_change 1 = .ok (.iload_n 2, 1) := by decide +kernel
theorem d_M_change_2 : decode b_M_change 2 = .ok (.iload_n 3, 1) := by decide +kernel
theorem d_M_change_3 : decode b_M_change 3 = .ok (.invokestatic 66, 3) := by decide +kernel
theorem d_M_change_6 : decode b_M_change 6 = .ok (.ifCond .ne 5, 3) := by decide +kernel
theorem d_M_change_9 : decode b_M_change 9 = .ok (.iconst (-1), 1) := by decide +kernel
theorem d_M_change_10 : decode b_M_change 10 = .ok (.ireturn, 1) := by decide +kernel
theorem d_M_change_11 : decode b_M_change 11 = .ok (.aload_n 0, 1) := by decide +kernel
theorem d_M_change_12 : decode b_M_change 12 = .ok (.getfield 59, 3) := by decide +kernel
theorem d_M_change_15 : decode b_M_change 15 = .ok (.sipush 400, 3) := by decide +kernel
theorem d_M_change_18 : decode b_M_change 18 = .ok (.if_icmp .ne 6, 3) := by decide +kernel
theorem d_M_change_21 : decode b_M_change 21 = .ok (.bipush (-3), 2) := by decide +kernel
theorem d_M_change_23 : decode b_M_change 23 = .ok (.ireturn, 1) := by decide +kernel
theorem d_M_change_24 : decode b_M_change 24 = .ok (.aload_n 0, 1) := by decide +kernel
theorem d_M_change_25 : decode b_M_change 25 = .ok (.aload_n 0, 1) := by decide +kernel
theorem d_M_change_26 : decode b_M_change 26 = .ok (.getfield 53, 3) := by decide +kernel
theorem d_M_change_29 : decode b_M_change 29 = .ok (.iload_n 1, 1) := by decide +kernel
theorem d_M_change_30 : decode b_M_change 30 = .ok (.iload_n 2, 1) := by decide +kernel
theorem d_M_change_31 : decode b_M_change 31 = .ok (.iload_n 3, 1) := by decide +kernel
theorem d_M_change_32 : decode b_M_change 32 = .ok (.invokestatic 70, 3) := by decide +kernel
theorem d_M_change_35 : decode b_M_change 35 = .ok (.invokevirtual 74, 3) := by decide +kernel
theorem d_M_change_38 : decode b_M_change 38 = .ok (.istore 5, 2) := by decide +kernel
theorem d_M_change_40 : decode b_M_change 40 = .ok (.aload_n 0, 1) := by decide +kernel
theorem d_M_change_41 : decode b_M_change 41 = .ok (.aload_n 0, 1) := by decide +kernel
theorem d_M_change_42 : decode b_M_change 42 = .ok (.getfield 53, 3) := by decide +kernel
theorem d_M_change_45 : decode b_M_change 45 = .ok (.iload_n 1, 1) := by decide +kernel
theorem d_M_change_46 : decode b_M_change 46 = .ok (.iload_n 2, 1) := by decide +kernel
theorem d_M_change_47 : decode b_M_change 47 = .ok (.iload_n 3, 1) := by decide +kernel
theorem d_M_change_48 : decode b_M_change 48 = .ok (.invokestatic 70, 3) := by decide +kernel
theorem d_M_change_51 : decode b_M_change 51 = .ok (.iload 4, 2) := by decide +kernel
theorem d_M_change_53 : decode b_M_change 53 = .ok (.invokevirtual 78, 3) := by decide +kernel
theorem d_M_change_56 : decode b_M_change 56 = .ok (.iconst 0, 1) := by decide +kernel
theorem d_M_change_57 : decode b_M_change 57 = .ok (.istore 6, 2) := by decide +kernel
theorem d_M_change_59 : decode b_M_change 59 = .ok (.iload 6, 2) := by decide +kernel
theorem d_M_change_61 : decode b_M_change 61 = .ok (.aload_n 0, 1) := by decide +kernel
theorem d_M_change_62 : decode b_M_change 62 = .ok (.getfield 56, 3) := by decide +kernel
theorem d_M_change_65 : decode b_M_change 65 = .ok (.if_icmp .ge 19, 3) := by decide +kernel
theorem d_M_change_68 : decode b_M_change 68 = .ok (.aload_n 0, 1) := by decide +kernel
theorem d_M_change_69 : decode b_M_change 69 = .ok (.iload 6, 2) := by decide +kernel
theorem d_M_change_71 : decode b_M_change 71 = .ok (.aload_n 0, 1) := by decide +kernel
theorem d_M_change_72 : decode b_M_change 72 = .ok (.getfield 53, 3) := by decide +kernel
theorem d_M_change_75 : decode b_M_change 75 = .ok (.invokevirtual 82, 3) := by decide +kernel
theorem d_M_change_78 : decode b_M_change 78 = .ok (.iinc 6 1, 3) := by decide +kernel
theorem d_M_change_81 : decode b_M_change 81 = .ok (.goto (-22), 3) := by decide +kernel
theorem d_M_change_84 : decode b_M_change 84 = .ok (.iload 5, 2) := by decide +kernel
theorem d_M_change_86 : decode b_M_change 86 = .ok (.iload 4, 2) := by decide +kernel
theorem d_M_change_88 : decode b_M_change 88 = .ok (.if_icmp .eq 7, 3) := by decide +kernel
theorem d_M_change_91 : decode b_M_change 91 = .ok (.iconst 1, 1) := by decide +kernel
theorem d_M_change_92 : decode b_M_change 92 = .ok (.goto 4, 3) := by decide +kernel
theorem d_M_change_95 : decode b_M_change 95 = .ok (.iconst 0, 1) := by decide +kernel
theorem d_M_change_96 : decode b_M_change 96 = .ok (.ireturn, 1) := by decide +kernel
theorem d_M_step_0 : decode b_M_step 0 = .ok (.aload_n 0, 1) := by decide +kernel
theorem d_M_step_1 : decode b_M_step 1 = .ok (.getfield 53, 3) := by decide +kernel
theorem d_M_step_4 : decode b_M_step 4 = .ok (.iconst 1, 1) := by decide +kernel
theorem d_M_step_5 : decode b_M_step 5 = .ok (.iadd, 1) := by decide +kernel
theorem d_M_step_6 : decode b_M_step 6 = .ok (.aload_n 0, 1) := by decide +kernel
theorem d_M_step_7 : decode b_M_step 7 = .ok (.getfield 49, 3) := by decide +kernel
theorem d_M_step_10 : decode b_M_step 10 = .ok (.if_icmp .ne 6, 3) := by decide +kernel
theorem d_M_step_13 : decode b_M_step 13 = .ok (.bipush (-3), 2) := by decide +kernel
theorem d_M_step_15 : decode b_M_step 15 = .ok (.ireturn, 1) := by decide +kernel
theorem d_M_step_16 : decode b_M_step 16 = .ok (.aload_n 0, 1) := by decide +kernel
theorem d_M_step_17 : decode b_M_step 17 = .ok (.dup, 1) := by decide +kernel
theorem d_M_step_18 : decode b_M_step 18 = .ok (.getfield 53, 3) := by decide +kernel
theorem d_M_step_21 : decode b_M_step 21 = .ok (.iconst 1, 1) := by decide +kernel
theorem d_M_step_22 : decode b_M_step 22 = .ok (.iadd, 1) := by decide +kernel
theorem d_M_step_23 : decode b_M_step 23 = .ok (.putfield 53, 3) := by decide +kernel
theorem d_M_step_26 : decode b_M_step 26 = .ok (.aload_n 0, 1) := by decide +kernel
theorem d_M_step_27 : decode b_M_step 27 = .ok (.getfield 53, 3) := by decide +kernel
theorem d_M_step_30 : decode b_M_step 30 = .ok (.ireturn, 1) := by decide +kernel
theorem d_M_latest_0 : decode b_M_latest 0 = .ok (.aload_n 0, 1) := by decide +kernel
theorem d_M_latest_1 : decode b_M_latest 1 = .ok (.getfield 53, 3) := by decide +kernel
theorem d_M_latest_4 : decode b_M_latest 4 = .ok (.ireturn, 1) := by decide +kernel
theorem d_M_there_0 : decode b_M_there 0 = .ok (.aload_n 0, 1) := by decide +kernel
theorem d_M_there_1 : decode b_M_there 1 = .ok (.iload_n 1, 1) := by decide +kernel
theorem d_M_there_2 : decode b_M_there 2 = .ok (.invokevirtual 86, 3) := by decide +kernel
theorem d_M_there_5 : decode b_M_there 5 = .ok (.ifCond .eq 13, 3) := by decide +kernel
theorem d_M_there_8 : decode b_M_there 8 = .ok (.iload_n 2, 1) := by decide +kernel
theorem d_M_there_9 : decode b_M_there 9 = .ok (.iload_n 3, 1) := by decide +kernel
theorem d_M_there_10 : decode b_M_there 10 = .ok (.iload 4, 2) := by decide +kernel
theorem d_M_there_12 : decode b_M_there 12 = .ok (.invokestatic 66, 3) := by decide +kernel
theorem d_M_there_15 : decode b_M_there 15 = .ok (.ifCond .ne 7, 3) := by decide +kernel
theorem d_M_there_18 : decode b_M_there 18 = .ok (.iconst (-1), 1) := by decide +kernel
theorem d_M_there_19 : decode b_M_there 19 = .ok (.goto 23, 3) := by decide +kernel
theorem d_M_there_22 : decode b_M_there 22 = .ok (.aload_n 0, 1) := by decide +kernel
theorem d_M_there_23 : decode b_M_there 23 = .ok (.iload_n 1, 1) := by decide +kernel
theorem d_M_there_24 : decode b_M_there 24 = .ok (.iload_n 2, 1) := by decide +kernel
theorem d_M_there_25 : decode b_M_there 25 = .ok (.iload_n 3, 1) := by decide +kernel
theorem d_M_there_26 : decode b_M_there 26 = .ok (.iload 4, 2) := by decide +kernel
theorem d_M_there_28 : decode b_M_there 28 = .ok (.invokestatic 70, 3) := by decide +kernel
theorem d_M_there_31 : decode b_M_there 31 = .ok (.invokevirtual 74, 3) := by decide +kernel
theorem d_M_there_34 : decode b_M_there 34 = .ok (.ifCond .eq 7, 3) := by decide +kernel
theorem d_M_there_37 : decode b_M_there 37 = .ok (.iconst 1, 1) := by decide +kernel
theorem d_M_there_38 : decode b_M_there 38 = .ok (.goto 4, 3) := by decide +kernel
theorem d_M_there_41 : decode b_M_there 41 = .ok (.iconst 0, 1) := by decide +kernel
theorem d_M_there_42 : decode b_M_there 42 = .ok (.ireturn, 1) := by decide +kernel
theorem d_M_age_0 : decode b_M_age 0 = .ok (.aload_n 0, 1) := by decide +kernel
theorem d_M_age_1 : decode b_M_age 1 = .ok (.iload_n 1, 1) := by decide +kernel
theorem d_M_age_2 : decode b_M_age 2 = .ok (.invokevirtual 86, 3) := by decide +kernel
theorem d_M_age_5 : decode b_M_age 5 = .ok (.ifCond .eq 13, 3) := by decide +kernel
theorem d_M_age_8 : decode b_M_age 8 = .ok (.iload_n 2, 1) := by decide +kernel
theorem d_M_age_9 : decode b_M_age 9 = .ok (.iload_n 3, 1) := by decide +kernel
theorem d_M_age_10 : decode b_M_age 10 = .ok (.iload 4, 2) := by decide +kernel
theorem d_M_age_12 : decode b_M_age 12 = .ok (.invokestatic 66, 3) := by decide +kernel
theorem d_M_age_15 : decode b_M_age 15 = .ok (.ifCond .ne 5, 3) := by decide +kernel
theorem d_M_age_18 : decode b_M_age 18 = .ok (.iconst (-1), 1) := by decide +kernel
theorem d_M_age_19 : decode b_M_age 19 = .ok (.ireturn, 1) := by decide +kernel
theorem d_M_age_20 : decode b_M_age 20 = .ok (.aload_n 0, 1) := by decide +kernel
theorem d_M_age_21 : decode b_M_age 21 = .ok (.iload_n 1, 1) := by decide +kernel
theorem d_M_age_22 : decode b_M_age 22 = .ok (.iload_n 2, 1) := by decide +kernel
theorem d_M_age_23 : decode b_M_age 23 = .ok (.iload_n 3, 1) := by decide +kernel
theorem d_M_age_24 : decode b_M_age 24 = .ok (.iload 4, 2) := by decide +kernel
theorem d_M_age_26 : decode b_M_age 26 = .ok (.invokestatic 70, 3) := by decide +kernel
theorem d_M_age_29 : decode b_M_age 29 = .ok (.invokevirtual 74, 3) := by decide +kernel
theorem d_M_age_32 : decode b_M_age 32 = .ok (.ifCond .eq 25, 3) := by decide +kernel
theorem d_M_age_35 : decode b_M_age 35 = .ok (.iload_n 1, 1) := by decide +kernel
theorem d_M_age_36 : decode b_M_age 36 = .ok (.aload_n 0, 1) := by decide +kernel
theorem d_M_age_37 : decode b_M_age 37 = .ok (.getfield 7, 3) := by decide +kernel
theorem d_M_age_40 : decode b_M_age 40 = .ok (.aload_n 0, 1) := by decide +kernel
theorem d_M_age_41 : decode b_M_age 41 = .ok (.iload_n 1, 1) := by decide +kernel
theorem d_M_age_42 : decode b_M_age 42 = .ok (.iload_n 2, 1) := by decide +kernel
theorem d_M_age_43 : decode b_M_age 43 = .ok (.iload_n 3, 1) := by decide +kernel
theorem d_M_age_44 : decode b_M_age 44 = .ok (.iload 4, 2) := by decide +kernel
theorem d_M_age_46 : decode b_M_age 46 = .ok (.invokestatic 70, 3) := by decide +kernel
theorem d_M_age_49 : decode b_M_age 49 = .ok (.invokevirtual 62, 3) := by decide +kernel
theorem d_M_age_52 : decode b_M_age 52 = .ok (.iaload, 1) := by decide +kernel
theorem d_M_age_53 : decode b_M_age 53 = .ok (.isub, 1) := by decide +kernel
theorem d_M_age_54 : decode b_M_age 54 = .ok (.goto 5, 3) := by decide +kernel
theorem d_M_age_57 : decode b_M_age 57 = .ok (.bipush (-2), 2) := by decide +kernel
theorem d_M_age_59 : decode b_M_age 59 = .ok (.ireturn, 1) := by decide +kernel
theorem d_M_question_0 : decode b_M_question 0 = .ok (.iload_n 1, 1) := by decide +kernel
theorem d_M_question_1 : decode b_M_question 1 = .ok (.ifCond .lt 9, 3) := by decide +kernel
theorem d_M_question_4 : decode b_M_question 4 = .ok (.iload_n 1, 1) := by decide +kernel
theorem d_M_question_5 : decode b_M_question 5 = .ok (.bipush 62, 2) := by decide +kernel
theorem d_M_question_7 : decode b_M_question 7 = .ok (.if_icmp .le 5, 3) := by decide +kernel
theorem d_M_question_10 : decode b_M_question 10 = .ok (.iconst (-1), 1) := by decide +kernel
theorem d_M_question_11 : decode b_M_question 11 = .ok (.ireturn, 1) := by decide +kernel
theorem d_M_question_12 : decode b_M_question 12 = .ok (.aload_n 0, 1) := by decide +kernel
theorem d_M_question_13 : decode b_M_question 13 = .ok (.getfield 56, 3) := by decide +kernel
theorem d_M_question_16 : decode b_M_question 16 = .ok (.bipush 12, 2) := by decide +kernel
theorem d_M_question_18 : decode b_M_question 18 = .ok (.if_icmp .ne 6, 3) := by decide +kernel
theorem d_M_question_21 : decode b_M_question 21 = .ok (.bipush (-3), 2) := by decide +kernel
theorem d_M_question_23 : decode b_M_question 23 = .ok (.ireturn, 1) := by decide +kernel
theorem d_M_question_24 : decode b_M_question 24 = .ok (.aload_n 0, 1) := by decide +kernel
theorem d_M_question_25 : decode b_M_question 25 = .ok (.getfield 20, 3) := by decide +kernel
theorem d_M_question_28 : decode b_M_question 28 = .ok (.aload_n 0, 1) := by decide +kernel
theorem d_M_question_29 : decode b_M_question 29 = .ok (.getfield 56, 3) := by decide +kernel
theorem d_M_question_32 : decode b_M_question 32 = .ok (.iload_n 1, 1) := by decide +kernel
theorem d_M_question_33 : decode b_M_question 33 = .ok (.iastore, 1) := by decide +kernel
theorem d_M_question_34 : decode b_M_question 34 = .ok (.aload_n 0, 1) := by decide +kernel
theorem d_M_question_35 : decode b_M_question 35 = .ok (.getfield 23, 3) := by decide +kernel
theorem d_M_question_38 : decode b_M_question 38 = .ok (.aload_n 0, 1) := by decide +kernel
theorem d_M_question_39 : decode b_M_question 39 = .ok (.getfield 56, 3) := by decide +kernel
theorem d_M_question_42 : decode b_M_question 42 = .ok (.iconst 0, 1) := by decide +kernel
theorem d_M_question_43 : decode b_M_question 43 = .ok (.iastore, 1) := by decide +kernel
theorem d_M_question_44 : decode b_M_question 44 = .ok (.aload_n 0, 1) := by decide +kernel
theorem d_M_question_45 : decode b_M_question 45 = .ok (.aload_n 0, 1) := by decide +kernel
theorem d_M_question_46 : decode b_M_question 46 = .ok (.getfield 56, 3) := by decide +kernel
theorem d_M_question_49 : decode b_M_question 49 = .ok (.iconst 0, 1) := by decide +kernel
theorem d_M_question_50 : decode b_M_question 50 = .ok (.invokevirtual 82, 3) := by decide +kernel
theorem d_M_question_53 : decode b_M_question 53 = .ok (.aload_n 0, 1) := by decide +kernel
theorem d_M_question_54 : decode b_M_question 54 = .ok (.dup, 1) := by decide +kernel
theorem d_M_question_55 : decode b_M_question 55 = .ok (.getfield 56, 3) := by decide +kernel
theorem d_M_question_58 : decode b_M_question 58 = .ok (.iconst 1, 1) := by decide +kernel
theorem d_M_question_59 : decode b_M_question 59 = .ok (.iadd, 1) := by decide +kernel
theorem d_M_question_60 : decode b_M_question 60 = .ok (.putfield 56, 3) := by decide +kernel
theorem d_M_question_63 : decode b_M_question 63 = .ok (.aload_n 0, 1) := by decide +kernel
theorem d_M_question_64 : decode b_M_question 64 = .ok (.getfield 56, 3) := by decide +kernel
theorem d_M_question_67 : decode b_M_question 67 = .ok (.iconst 1, 1) := by decide +kernel
theorem d_M_question_68 : decode b_M_question 68 = .ok (.isub, 1) := by decide +kernel
theorem d_M_question_69 : decode b_M_question 69 = .ok (.ireturn, 1) := by decide +kernel
theorem d_M_isItem_0 : decode b_M_isItem 0 = .ok (.iload_n 0, 1) := by decide +kernel
theorem d_M_isItem_1 : decode b_M_isItem 1 = .ok (.bipush (-4), 2) := by decide +kernel
theorem d_M_isItem_3 : decode b_M_isItem 3 = .ok (.if_icmp .lt 12, 3) := by decide +kernel
theorem d_M_isItem_6 : decode b_M_isItem 6 = .ok (.iload_n 0, 1) := by decide +kernel
theorem d_M_isItem_7 : decode b_M_isItem 7 = .ok (.iload_n 1, 1) := by decide +kernel
theorem d_M_isItem_8 : decode b_M_isItem 8 = .ok (.if_icmp .ge 7, 3) := by decide +kernel
theorem d_M_isItem_11 : decode b_M_isItem 11 = .ok (.iconst 1, 1) := by decide +kernel
theorem d_M_isItem_12 : decode b_M_isItem 12 = .ok (.goto 4, 3) := by decide +kernel
theorem d_M_isItem_15 : decode b_M_isItem 15 = .ok (.iconst 0, 1) := by decide +kernel
theorem d_M_isItem_16 : decode b_M_isItem 16 = .ok (.ireturn, 1) := by decide +kernel
theorem d_M_pattern_0 : decode b_M_pattern 0 = .ok (.aload_n 0, 1) := by decide +kernel
theorem d_M_pattern_1 : decode b_M_pattern 1 = .ok (.iload_n 1, 1) := by decide +kernel
theorem d_M_pattern_2 : decode b_M_pattern 2 = .ok (.invokevirtual 90, 3) := by decide +kernel
theorem d_M_pattern_5 : decode b_M_pattern 5 = .ok (.ifCond .eq 31, 3) := by decide +kernel
theorem d_M_pattern_8 : decode b_M_pattern 8 = .ok (.iload_n 2, 1) := by decide +kernel
theorem d_M_pattern_9 : decode b_M_pattern 9 = .ok (.bipush 16, 2) := by decide +kernel
theorem d_M_pattern_11 : decode b_M_pattern 11 = .ok (.invokestatic 93, 3) := by decide +kernel
theorem d_M_pattern_14 : decode b_M_pattern 14 = .ok (.ifCond .eq 22, 3) := by decide +kernel
theorem d_M_pattern_17 : decode b_M_pattern 17 = .ok (.iload_n 3, 1) := by decide +kernel
theorem d_M_pattern_18 : decode b_M_pattern 18 = .ok (.bipush 8, 2) := by decide +kernel
theorem d_M_pattern_20 : decode b_M_pattern 20 = .ok (.invokestatic 93, 3) := by decide +kernel
theorem d_M_pattern_23 : decode b_M_pattern 23 = .ok (.ifCond .eq 13, 3) := by decide +kernel
theorem d_M_pattern_26 : decode b_M_pattern 26 = .ok (.iload 4, 2) := by decide +kernel
theorem d_M_pattern_28 : decode b_M_pattern 28 = .ok (.bipush 16, 2) := by decide +kernel
theorem d_M_pattern_30 : decode b_M_pattern 30 = .ok (.invokestatic 93, 3) := by decide +kernel
theorem d_M_pattern_33 : decode b_M_pattern 33 = .ok (.ifCond .ne 5, 3) := by decide +kernel
theorem d_M_pattern_36 : decode b_M_pattern 36 = .ok (.iconst (-1), 1) := by decide +kernel
theorem d_M_pattern_37 : decode b_M_pattern 37 = .ok (.ireturn, 1) := by decide +kernel
theorem d_M_pattern_38 : decode b_M_pattern 38 = .ok (.aload_n 0, 1) := by decide +kernel
theorem d_M_pattern_39 : decode b_M_pattern 39 = .ok (.getfield 23, 3) := by decide +kernel
theorem d_M_pattern_42 : decode b_M_pattern 42 = .ok (.iload_n 1, 1) := by decide +kernel
theorem d_M_pattern_43 : decode b_M_pattern 43 = .ok (.iaload, 1) := by decide +kernel
theorem d_M_pattern_44 : decode b_M_pattern 44 = .ok (.iconst 3, 1) := by decide +kernel
theorem d_M_pattern_45 : decode b_M_pattern 45 = .ok (.if_icmp .ne 6, 3) := by decide +kernel
theorem d_M_pattern_48 : decode b_M_pattern 48 = .ok (.bipush (-3), 2) := by decide +kernel
theorem d_M_pattern_50 : decode b_M_pattern 50 = .ok (.ireturn, 1) := by decide +kernel
theorem d_M_pattern_51 : decode b_M_pattern 51 = .ok (.bipush 9, 2) := by decide +kernel
theorem d_M_pattern_53 : decode b_M_pattern 53 = .ok (.iload_n 1, 1) := by decide +kernel
theorem d_M_pattern_54 : decode b_M_pattern 54 = .ok (.imul, 1) := by decide +kernel
theorem d_M_pattern_55 : decode b_M_pattern 55 = .ok (.iconst 3, 1) := by decide +kernel
theorem d_M_pattern_56 : decode b_M_pattern 56 = .ok (.aload_n 0, 1) := by decide +kernel
theorem d_M_pattern_57 : decode b_M_pattern 57 = .ok (.getfield 23, 3) := by decide +kernel
theorem d_M_pattern_60 : decode b_M_pattern 60 = .ok (.iload_n 1, 1) := by decide +kernel
theorem d_M_pattern_61 : decode b_M_pattern 61 = .ok (.iaload, 1) := by decide +kernel
theorem d_M_pattern_62 : decode b_M_pattern 62 = .ok (.imul, 1) := by decide +kernel
theorem d_M_pattern_63 : decode b_M_pattern 63 = .ok (.iadd, 1) := by decide +kernel
theorem d_M_pattern_64 : decode b_M_pattern 64 = .ok (.istore 5, 2) := by decide +kernel
theorem d_M_pattern_66 : decode b_M_pattern 66 = .ok (.aload_n 0, 1) := by decide +kernel
theorem d_M_pattern_67 : decode b_M_pattern 67 = .ok (.getfield 26, 3) := by decide +kernel
theorem d_M_pattern_70 : decode b_M_pattern 70 = .ok (.iload 5, 2) := by decide +kernel
theorem d_M_pattern_72 : decode b_M_pattern 72 = .ok (.iload_n 2, 1) := by decide +kernel
theorem d_M_pattern_73 : decode b_M_pattern 73 = .ok (.iastore, 1) := by decide +kernel
theorem d_M_pattern_74 : decode b_M_pattern 74 = .ok (.aload_n 0, 1) := by decide +kernel
theorem d_M_pattern_75 : decode b_M_pattern 75 = .ok (.getfield 26, 3) := by decide +kernel
theorem d_M_pattern_78 : decode b_M_pattern 78 = .ok (.iload 5, 2) := by decide +kernel
theorem d_M_pattern_80 : decode b_M_pattern 80 = .ok (.iconst 1, 1) := by decide +kernel
theorem d_M_pattern_81 : decode b_M_pattern 81 = .ok (.iadd, 1) := by decide +kernel
theorem d_M_pattern_82 : decode b_M_pattern 82 = .ok (.iload_n 3, 1) := by decide +kernel
theorem d_M_pattern_83 : decode b_M_pattern 83 = .ok (.iastore, 1) := by decide +kernel
theorem d_M_pattern_84 : decode b_M_pattern 84 = .ok (.aload_n 0, 1) := by decide +kernel
theorem d_M_pattern_85 : decode b_M_pattern 85 = .ok (.getfield 26, 3) := by decide +kernel
theorem d_M_pattern_88 : decode b_M_pattern 88 = .ok (.iload 5, 2) := by decide +kernel
theorem d_M_pattern_90 : decode b_M_pattern 90 = .ok (.iconst 2, 1) := by decide +kernel
theorem d_M_pattern_91 : decode b_M_pattern 91 = .ok (.iadd, 1) := by decide +kernel
theorem d_M_pattern_92 : decode b_M_pattern 92 = .ok (.iload 4, 2) := by decide +kernel
theorem d_M_pattern_94 : decode b_M_pattern 94 = .ok (.iastore, 1) := by decide +kernel
theorem d_M_pattern_95 : decode b_M_pattern 95 = .ok (.aload_n 0, 1) := by decide +kernel
theorem d_M_pattern_96 : decode b_M_pattern 96 = .ok (.getfield 23, 3) := by decide +kernel
theorem d_M_pattern_99 : decode b_M_pattern 99 = .ok (.iload_n 1, 1) := by decide +kernel
theorem d_M_pattern_100 : decode b_M_pattern 100 = .ok (.dup2, 1) := by decide +kernel
theorem d_M_pattern_101 : decode b_M_pattern 101 = .ok (.iaload, 1) := by decide +kernel
theorem d_M_pattern_102 : decode b_M_pattern 102 = .ok (.iconst 1, 1) := by decide +kernel
theorem d_M_pattern_103 : decode b_M_pattern 103 = .ok (.iadd, 1) := by decide +kernel
theorem d_M_pattern_104 : decode b_M_pattern 104 = .ok (.iastore, 1) := by decide +kernel
theorem d_M_pattern_105 : decode b_M_pattern 105 = .ok (.aload_n 0, 1) := by decide +kernel
theorem d_M_pattern_106 : decode b_M_pattern 106 = .ok (.iload_n 1, 1) := by decide +kernel
theorem d_M_pattern_107 : decode b_M_pattern 107 = .ok (.iconst 0, 1) := by decide +kernel
theorem d_M_pattern_108 : decode b_M_pattern 108 = .ok (.invokevirtual 82, 3) := by decide +kernel
theorem d_M_pattern_111 : decode b_M_pattern 111 = .ok (.aload_n 0, 1) := by decide +kernel
theorem d_M_pattern_112 : decode b_M_pattern 112 = .ok (.getfield 23, 3) := by decide +kernel
theorem d_M_pattern_115 : decode b_M_pattern 115 = .ok (.iload_n 1, 1) := by decide +kernel
theorem d_M_pattern_116 : decode b_M_pattern 116 = .ok (.iaload, 1) := by decide +kernel
theorem d_M_pattern_117 : decode b_M_pattern 117 = .ok (.ireturn, 1) := by decide +kernel
theorem d_M_window_0 : decode b_M_window 0 = .ok (.aload_n 0, 1) := by decide +kernel
theorem d_M_window_1 : decode b_M_window 1 = .ok (.iload_n 1, 1) := by decide +kernel
theorem d_M_window_2 : decode b_M_window 2 = .ok (.invokevirtual 90, 3) := by decide +kernel
theorem d_M_window_5 : decode b_M_window 5 = .ok (.ifCond .eq 13, 3) := by decide +kernel
theorem d_M_window_8 : decode b_M_window 8 = .ok (.iload_n 2, 1) := by decide +kernel
theorem d_M_window_9 : decode b_M_window 9 = .ok (.ifCond .lt 9, 3) := by decide +kernel
theorem d_M_window_12 : decode b_M_window 12 = .ok (.iload_n 2, 1) := by decide +kernel
theorem d_M_window_13 : decode b_M_window 13 = .ok (.bipush 62, 2) := by decide +kernel
theorem d_M_window_15 : decode b_M_window 15 = .ok (.if_icmp .le 5, 3) := by decide +kernel
theorem d_M_window_18 : decode b_M_window 18 = .ok (.iconst (-1), 1) := by decide +kernel
theorem d_M_window_19 : decode b_M_window 19 = .ok (.ireturn, 1) := by decide +kernel
theorem d_M_window_20 : decode b_M_window 20 = .ok (.aload_n 0, 1) := by decide +kernel
theorem d_M_window_21 : decode b_M_window 21 = .ok (.getfield 20, 3) := by decide +kernel
theorem d_M_window_24 : decode b_M_window 24 = .ok (.iload_n 1, 1) := by decide +kernel
theorem d_M_window_25 : decode b_M_window 25 = .ok (.iaload, 1) := by decide +kernel
theorem d_M_window_26 : decode b_M_window 26 = .ok (.istore_n 3, 1) := by decide +kernel
theorem d_M_window_27 : decode b_M_window 27 = .ok (.aload_n 0, 1) := by decide +kernel
theorem d_M_window_28 : decode b_M_window 28 = .ok (.getfield 20, 3) := by decide +kernel
theorem d_M_window_31 : decode b_M_window 31 = .ok (.iload_n 1, 1) := by decide +kernel
theorem d_M_window_32 : decode b_M_window 32 = .ok (.iload_n 2, 1) := by decide +kernel
theorem d_M_window_33 : decode b_M_window 33 = .ok (.iastore, 1) := by decide +kernel
theorem d_M_window_34 : decode b_M_window 34 = .ok (.aload_n 0, 1) := by decide +kernel
theorem d_M_window_35 : decode b_M_window 35 = .ok (.iload_n 1, 1) := by decide +kernel
theorem d_M_window_36 : decode b_M_window 36 = .ok (.iconst 0, 1) := by decide +kernel
theorem d_M_window_37 : decode b_M_window 37 = .ok (.invokevirtual 82, 3) := by decide +kernel
theorem d_M_window_40 : decode b_M_window 40 = .ok (.iload_n 3, 1) := by decide +kernel
theorem d_M_window_41 : decode b_M_window 41 = .ok (.ireturn, 1) := by decide +kernel
theorem d_M_see_0 : decode b_M_see 0 = .ok (.iconst 0, 1) := by decide +kernel
theorem d_M_see_1 : decode b_M_see 1 = .ok (.istore_n 3, 1) := by decide +kernel
theorem d_M_see_2 : decode b_M_see 2 = .ok (.iload_n 3, 1) := by decide +kernel
theorem d_M_see_3 : decode b_M_see 3 = .ok (.sipush 2048, 3) := by decide +kernel
theorem d_M_see_6 : decode b_M_see 6 = .ok (.if_icmp .ge 16, 3) := by decide +kernel
theorem d_M_see_9 : decode b_M_see 9 = .ok (.aload_n 0, 1) := by decide +kernel
theorem d_M_see_10 : decode b_M_see 10 = .ok (.getfield 46, 3) := by decide +kernel
theorem d_M_see_13 : decode b_M_see 13 = .ok (.iload_n 3, 1) := by decide +kernel
theorem d_M_see_14 : decode b_M_see 14 = .ok (.iconst (-1), 1) := by decide +kernel
theorem d_M_see_15 : decode b_M_see 15 = .ok (.iastore, 1) := by decide +kernel
theorem d_M_see_16 : decode b_M_see 16 = .ok (.iinc 3 1, 3) := by decide +kernel
theorem d_M_see_19 : decode b_M_see 19 = .ok (.goto (-17), 3) := by decide +kernel
theorem d_M_see_22 : decode b_M_see 22 = .ok (.iconst 0, 1) := by decide +kernel
theorem d_M_see_23 : decode b_M_see 23 = .ok (.istore_n 3, 1) := by decide +kernel
theorem d_M_see_24 : decode b_M_see 24 = .ok (.iload_n 3, 1) := by decide +kernel
theorem d_M_see_25 : decode b_M_see 25 = .ok (.aload_n 0, 1) := by decide +kernel
theorem d_M_see_26 : decode b_M_see 26 = .ok (.getfield 59, 3) := by decide +kernel
theorem d_M_see_29 : decode b_M_see 29 = .ok (.if_icmp .ge 66, 3) := by decide +kernel
theorem d_M_see_32 : decode b_M_see 32 = .ok (.aload_n 0, 1) := by decide +kernel
theorem d_M_see_33 : decode b_M_see 33 = .ok (.getfield 13, 3) := by decide +kernel
theorem d_M_see_36 : decode b_M_see 36 = .ok (.iload_n 3, 1) := by decide +kernel
theorem d_M_see_37 : decode b_M_see 37 = .ok (.iaload, 1) := by decide +kernel
theorem d_M_see_38 : decode b_M_see 38 = .ok (.istore 4, 2) := by decide +kernel
theorem d_M_see_40 : decode b_M_see 40 = .ok (.aload_n 0, 1) := by decide +kernel
theorem d_M_see_41 : decode b_M_see 41 = .ok (.getfield 7, 3) := by decide +kernel
theorem d_M_see_44 : decode b_M_see 44 = .ok (.iload_n 3, 1) := by decide +kernel
theorem d_M_see_45 : decode b_M_see 45 = .ok (.iaload, 1) := by decide +kernel
theorem d_M_see_46 : decode b_M_see 46 = .ok (.iload_n 1, 1) := by decide +kernel
theorem d_M_see_47 : decode b_M_see 47 = .ok (.if_icmp .gt 42, 3) := by decide +kernel
theorem d_M_see_50 : decode b_M_see 50 = .ok (.aload_n 0, 1) := by decide +kernel
theorem d_M_see_51 : decode b_M_see 51 = .ok (.getfield 46, 3) := by decide +kernel
theorem d_M_see_54 : decode b_M_see 54 = .ok (.iload 4, 2) := by decide +kernel
theorem d_M_see_56 : decode b_M_see 56 = .ok (.iaload, 1) := by decide +kernel
theorem d_M_see_57 : decode b_M_see 57 = .ok (.ifCond .lt 24, 3) := by decide +kernel
theorem d_M_see_60 : decode b_M_see 60 = .ok (.aload_n 0, 1) := by decide +kernel
theorem d_M_see_61 : decode b_M_see 61 = .ok (.getfield 7, 3) := by decide +kernel
theorem d_M_see_64 : decode b_M_see 64 = .ok (.iload_n 3, 1) := by decide +kernel
theorem d_M_see_65 : decode b_M_see 65 = .ok (.iaload, 1) := by decide +kernel
theorem d_M_see_66 : decode b_M_see 66 = .ok (.aload_n 0, 1) := by decide +kernel
theorem d_M_see_67 : decode b_M_see 67 = .ok (.getfield 7, 3) := by decide +kernel
theorem d_M_see_70 : decode b_M_see 70 = .ok (.aload_n 0, 1) := by decide +kernel
theorem d_M_see_71 : decode b_M_see 71 = .ok (.getfield 46, 3) := by decide +kernel
theorem d_M_see_74 : decode b_M_see 74 = .ok (.iload 4, 2) := by decide +kernel
theorem d_M_see_76 : decode b_M_see 76 = .ok (.iaload, 1) := by decide +kernel
theorem d_M_see_77 : decode b_M_see 77 = .ok (.iaload, 1) := by decide +kernel
theorem d_M_see_78 : decode b_M_see 78 = .ok (.if_icmp .lt 11, 3) := by decide +kernel
theorem d_M_see_81 : decode b_M_see 81 = .ok (.aload_n 0, 1) := by decide +kernel
theorem d_M_see_82 : decode b_M_see 82 = .ok (.getfield 46, 3) := by decide +kernel
theorem d_M_see_85 : decode b_M_see 85 = .ok (.iload 4, 2) := by decide +kernel
theorem d_M_see_87 : decode b_M_see 87 = .ok (.iload_n 3, 1) := by decide +kernel
theorem d_M_see_88 : decode b_M_see 88 = .ok (.iastore, 1) := by decide +kernel
theorem d_M_see_89 : decode b_M_see 89 = .ok (.iinc 3 1, 3) := by decide +kernel
theorem d_M_see_92 : decode b_M_see 92 = .ok (.goto (-68), 3) := by decide +kernel
theorem d_M_see_95 : decode b_M_see 95 = .ok (.iconst 0, 1) := by decide +kernel
theorem d_M_see_96 : decode b_M_see 96 = .ok (.istore_n 3, 1) := by decide +kernel
theorem d_M_see_97 : decode b_M_see 97 = .ok (.iload_n 3, 1) := by decide +kernel
theorem d_M_see_98 : decode b_M_see 98 = .ok (.sipush 2048, 3) := by decide +kernel
theorem d_M_see_101 : decode b_M_see 101 = .ok (.if_icmp .ge 60, 3) := by decide +kernel
theorem d_M_see_104 : decode b_M_see 104 = .ok (.aload_n 0, 1) := by decide +kernel
theorem d_M_see_105 : decode b_M_see 105 = .ok (.getfield 46, 3) := by decide +kernel
theorem d_M_see_108 : decode b_M_see 108 = .ok (.iload_n 3, 1) := by decide +kernel
theorem d_M_see_109 : decode b_M_see 109 = .ok (.iaload, 1) := by decide +kernel
theorem d_M_see_110 : decode b_M_see 110 = .ok (.istore 4, 2) := by decide +kernel
theorem d_M_see_112 : decode b_M_see 112 = .ok (.aload_n 0, 1) := by decide +kernel
theorem d_M_see_113 : decode b_M_see 113 = .ok (.getfield 40, 3) := by decide +kernel
theorem d_M_see_116 : decode b_M_see 116 = .ok (.iload_n 3, 1) := by decide +kernel
theorem d_M_see_117 : decode b_M_see 117 = .ok (.iload 4, 2) := by decide +kernel
theorem d_M_see_119 : decode b_M_see 119 = .ok (.ifCond .lt 34, 3) := by decide +kernel
theorem d_M_see_122 : decode b_M_see 122 = .ok (.aload_n 0, 1) := by decide +kernel
theorem d_M_see_123 : decode b_M_see 123 = .ok (.getfield 16, 3) := by decide +kernel
theorem d_M_see_126 : decode b_M_see 126 = .ok (.iload 4, 2) := by decide +kernel
theorem d_M_see_128 : decode b_M_see 128 = .ok (.baload, 1) := by decide +kernel
theorem d_M_see_129 : decode b_M_see 129 = .ok (.ifCond .eq 24, 3) := by decide +kernel
theorem d_M_see_132 : decode b_M_see 132 = .ok (.iload_n 2, 1) := by decide +kernel
theorem d_M_see_133 : decode b_M_see 133 = .ok (.ifCond .eq 16, 3) := by decide +kernel
theorem d_M_see_136 : decode b_M_see 136 = .ok (.iload_n 1, 1) := by decide +kernel
theorem d_M_see_137 : decode b_M_see 137 = .ok (.aload_n 0, 1) := by decide +kernel
theorem d_M_see_138 : decode b_M_see 138 = .ok (.getfield 7, 3) := by decide +kernel
theorem d_M_see_141 : decode b_M_see 141 = .ok (.iload 4, 2) := by decide +kernel
theorem d_M_see_143 : decode b_M_see 143 = .ok (.iaload, 1) := by decide +kernel
theorem d_M_see_144 : decode b_M_see 144 = .ok (.isub, 1) := by decide +kernel
theorem d_M_see_145 : decode b_M_see 145 = .ok (.iload_n 2, 1) := by decide +kernel
theorem d_M_see_146 : decode b_M_see 146 = .ok (.if_icmp .ge 7, 3) := by decide +kernel
theorem d_M_see_149 : decode b_M_see 149 = .ok (.iconst 1, 1) := by decide +kernel
theorem d_M_see_150 : decode b_M_see 150 = .ok (.goto 4, 3) := by decide +kernel
theorem d_M_see_153 : decode b_M_see 153 = .ok (.iconst 0, 1) := by decide +kernel
theorem d_M_see_154 : decode b_M_see 154 = .ok (.bastore, 1) := by decide +kernel
theorem d_M_see_155 : decode b_M_see 155 = .ok (.iinc 3 1, 3) := by decide +kernel
theorem d_M_see_158 : decode b_M_see 158 = .ok (.goto (-61), 3) := by decide +kernel
theorem d_M_see_161 : decode b_M_see 161 = .ok (.return_, 1) := by decide +kernel
theorem d_M_valueOf_0 : decode b_M_valueOf 0 = .ok (.iload_n 1, 1) := by decide +kernel
theorem d_M_valueOf_1 : decode b_M_valueOf 1 = .ok (.ifCond .lt 7, 3) := by decide +kernel
theorem d_M_valueOf_4 : decode b_M_valueOf 4 = .ok (.iload_n 1, 1) := by decide +kernel
theorem d_M_valueOf_5 : decode b_M_valueOf 5 = .ok (.goto 10, 3) := by decide +kernel
theorem d_M_valueOf_8 : decode b_M_valueOf 8 = .ok (.aload_n 0, 1) := by decide +kernel
theorem d_M_valueOf_9 : decode b_M_valueOf 9 = .ok (.getfield 43, 3) := by decide +kernel
theorem d_M_valueOf_12 : decode b_M_valueOf 12 = .ok (.iload_n 1, 1) := by decide +kernel
theorem d_M_valueOf_13 : decode b_M_valueOf 13 = .ok (.ineg, 1) := by decide +kernel
theorem d_M_valueOf_14 : decode b_M_valueOf 14 = .ok (.iaload, 1) := by decide +kernel
theorem d_M_valueOf_15 : decode b_M_valueOf 15 = .ok (.ireturn, 1) := by decide +kernel
theorem d_M_isRow_0 : decode b_M_isRow 0 = .ok (.iconst 0, 1) := by decide +kernel
theorem d_M_isRow_1 : decode b_M_isRow 1 = .ok (.istore_n 2, 1) := by decide +kernel
theorem d_M_isRow_2 : decode b_M_isRow 2 = .ok (.iload_n 2, 1) := by decide +kernel
theorem d_M_isRow_3 : decode b_M_isRow 3 = .ok (.aload_n 0, 1) := by decide +kernel
theorem d_M_isRow_4 : decode b_M_isRow 4 = .ok (.getfield 23, 3) := by decide +kernel
theorem d_M_isRow_7 : decode b_M_isRow 7 = .ok (.iload_n 1, 1) := by decide +kernel
theorem d_M_isRow_8 : decode b_M_isRow 8 = .ok (.iaload, 1) := by decide +kernel
theorem d_M_isRow_9 : decode b_M_isRow 9 = .ok (.if_icmp .ge 76, 3) := by decide +kernel
theorem d_M_isRow_12 : decode b_M_isRow 12 = .ok (.bipush 9, 2) := by decide +kernel
theorem d_M_isRow_14 : decode b_M_isRow 14 = .ok (.iload_n 1, 1) := by decide +kernel
theorem d_M_isRow_15 : decode b_M_isRow 15 = .ok (.imul, 1) := by decide +kernel
theorem d_M_isRow_16 : decode b_M_isRow 16 = .ok (.iconst 3, 1) := by decide +kernel
theorem d_M_isRow_17 : decode b_M_isRow 17 = .ok (.iload_n 2, 1) := by decide +kernel
theorem d_M_isRow_18 : decode b_M_isRow 18 = .ok (.imul, 1) := by decide +kernel
theorem d_M_isRow_19 : decode b_M_isRow 19 = .ok (.iadd, 1) := by decide +kernel
theorem d_M_isRow_20 : decode b_M_isRow 20 = .ok (.istore_n 3, 1) := by decide +kernel
theorem d_M_isRow_21 : decode b_M_isRow 21 = .ok (.aload_n 0, 1) := by decide +kernel
theorem d_M_isRow_22 : decode b_M_isRow 22 = .ok (.aload_n 0, 1) := by decide +kernel
theorem d_M_isRow_23 : decode b_M_isRow 23 = .ok (.getfield 26, 3) := by decide +kernel
theorem d_M_isRow_26 : decode b_M_isRow 26 = .ok (.iload_n 3, 1) := by decide +kernel
theorem d_M_isRow_27 : decode b_M_isRow 27 = .ok (.iconst 1, 1) := by decide +kernel
theorem d_M_isRow_28 : decode b_M_isRow 28 = .ok (.iadd, 1) := by decide +kernel
theorem d_M_isRow_29 : decode b_M_isRow 29 = .ok (.iaload, 1) := by decide +kernel
theorem d_M_isRow_30 : decode b_M_isRow 30 = .ok (.invokevirtual 96, 3) := by decide +kernel
theorem d_M_isRow_33 : decode b_M_isRow 33 = .ok (.istore 4, 2) := by decide +kernel
theorem d_M_isRow_35 : decode b_M_isRow 35 = .ok (.iload 4, 2) := by decide +kernel
theorem d_M_isRow_37 : decode b_M_isRow 37 = .ok (.bipush 7, 2) := by decide +kernel
theorem d_M_isRow_39 : decode b_M_isRow 39 = .ok (.if_icmp .gt 38, 3) := by decide +kernel
theorem d_M_isRow_42 : decode b_M_isRow 42 = .ok (.aload_n 0, 1) := by decide +kernel
theorem d_M_isRow_43 : decode b_M_isRow 43 = .ok (.getfield 40, 3) := by decide +kernel
theorem d_M_isRow_46 : decode b_M_isRow 46 = .ok (.aload_n 0, 1) := by decide +kernel
theorem d_M_isRow_47 : decode b_M_isRow 47 = .ok (.aload_n 0, 1) := by decide +kernel
theorem d_M_isRow_48 : decode b_M_isRow 48 = .ok (.getfield 26, 3) := by decide +kernel
theorem d_M_isRow_51 : decode b_M_isRow 51 = .ok (.iload_n 3, 1) := by decide +kernel
theorem d_M_isRow_52 : decode b_M_isRow 52 = .ok (.iaload, 1) := by decide +kernel
theorem d_M_isRow_53 : decode b_M_isRow 53 = .ok (.invokevirtual 96, 3) := by decide +kernel
theorem d_M_isRow_56 : decode b_M_isRow 56 = .ok (.iload 4, 2) := by decide +kernel
theorem d_M_isRow_58 : decode b_M_isRow 58 = .ok (.aload_n 0, 1) := by decide +kernel
theorem d_M_isRow_59 : decode b_M_isRow 59 = .ok (.aload_n 0, 1) := by decide +kernel
theorem d_M_isRow_60 : decode b_M_isRow 60 = .ok (.getfield 26, 3) := by decide +kernel
theorem d_M_isRow_63 : decode b_M_isRow 63 = .ok (.iload_n 3, 1) := by decide +kernel
theorem d_M_isRow_64 : decode b_M_isRow 64 = .ok (.iconst 2, 1) := by decide +kernel
theorem d_M_isRow_65 : decode b_M_isRow 65 = .ok (.iadd, 1) := by decide +kernel
theorem d_M_isRow_66 : decode b_M_isRow 66 = .ok (.iaload, 1) := by decide +kernel
theorem d_M_isRow_67 : decode b_M_isRow 67 = .ok (.invokevirtual 96, 3) := by decide +kernel
theorem d_M_isRow_70 : decode b_M_isRow 70 = .ok (.invokestatic 70, 3) := by decide +kernel
theorem d_M_isRow_73 : decode b_M_isRow 73 = .ok (.baload, 1) := by decide +kernel
theorem d_M_isRow_74 : decode b_M_isRow 74 = .ok (.ifCond .ne 5, 3) := by decide +kernel
theorem d_M_isRow_77 : decode b_M_isRow 77 = .ok (.iconst 0, 1) := by decide +kernel
theorem d_M_isRow_78 : decode b_M_isRow 78 = .ok (.ireturn, 1) := by decide +kernel
theorem d_M_isRow_79 : decode b_M_isRow 79 = .ok (.iinc 2 1, 3) := by decide +kernel
theorem d_M_isRow_82 : decode b_M_isRow 82 = .ok (.goto (-80), 3) := by decide +kernel
theorem d_M_isRow_85 : decode b_M_isRow 85 = .ok (.iconst 1, 1) := by decide +kernel
theorem d_M_isRow_86 : decode b_M_isRow 86 = .ok (.ireturn, 1) := by decide +kernel
theorem d_M_stands_0 : decode b_M_stands 0 = .ok (.iconst 0, 1) := by decide +kernel
theorem d_M_stands_1 : decode b_M_stands 1 = .ok (.istore_n 3, 1) := by decide +kernel
theorem d_M_stands_2 : decode b_M_stands 2 = .ok (.iconst 0, 1) := by decide +kernel
theorem d_M_stands_3 : decode b_M_stands 3 = .ok (.istore 4, 2) := by decide +kernel
theorem d_M_stands_5 : decode b_M_stands 5 = .ok (.iload 4, 2) := by decide +kernel
theorem d_M_stands_7 : decode b_M_stands 7 = .ok (.iconst 3, 1) := by decide +kernel
theorem d_M_stands_8 : decode b_M_stands 8 = .ok (.aload_n 0, 1) := by decide +kernel
theorem d_M_stands_9 : decode b_M_stands 9 = .ok (.getfield 23, 3) := by decide +kernel
theorem d_M_stands_12 : decode b_M_stands 12 = .ok (.iload_n 1, 1) := by decide +kernel
theorem d_M_stands_13 : decode b_M_stands 13 = .ok (.iaload, 1) := by decide +kernel
theorem d_M_stands_14 : decode b_M_stands 14 = .ok (.imul, 1) := by decide +kernel
theorem d_M_stands_15 : decode b_M_stands 15 = .ok (.if_icmp .ge 36, 3) := by decide +kernel
theorem d_M_stands_18 : decode b_M_stands 18 = .ok (.iload_n 3, 1) := by decide +kernel
theorem d_M_stands_19 : decode b_M_stands 19 = .ok (.ifCond .ne 20, 3) := by decide +kernel
theorem d_M_stands_22 : decode b_M_stands 22 = .ok (.aload_n 0, 1) := by decide +kernel
theorem d_M_stands_23 : decode b_M_stands 23 = .ok (.getfield 26, 3) := by decide +kernel
theorem d_M_stands_26 : decode b_M_stands 26 = .ok (.bipush 9, 2) := by decide +kernel
theorem d_M_stands_28 : decode b_M_stands 28 = .ok (.iload_n 1, 1) := by decide +kernel
theorem d_M_stands_29 : decode b_M_stands 29 = .ok (.imul, 1) := by decide +kernel
theorem d_M_stands_30 : decode b_M_stands 30 = .ok (.iload 4, 2) := by decide +kernel
theorem d_M_stands_32 : decode b_M_stands 32 = .ok (.iadd, 1) := by decide +kernel
theorem d_M_stands_33 : decode b_M_stands 33 = .ok (.iaload, 1) := by decide +kernel
theorem d_M_stands_34 : decode b_M_stands 34 = .ok (.iload_n 2, 1) := by decide +kernel
theorem d_M_stands_35 : decode b_M_stands 35 = .ok (.ineg, 1) := by decide +kernel
theorem d_M_stands_36 : decode b_M_stands 36 = .ok (.if_icmp .ne 7, 3) := by decide +kernel
theorem d_M_stands_39 : decode b_M_stands 39 = .ok (.iconst 1, 1) := by decide +kernel
theorem d_M_stands_40 : decode b_M_stands 40 = .ok (.goto 4, 3) := by decide +kernel
theorem d_M_stands_43 : decode b_M_stands 43 = .ok (.iconst 0, 1) := by decide +kernel
theorem d_M_stands_44 : decode b_M_stands 44 = .ok (.istore_n 3, 1) := by decide +kernel
theorem d_M_stands_45 : decode b_M_stands 45 = .ok (.iinc 4 1, 3) := by decide +kernel
theorem d_M_stands_48 : decode b_M_stands 48 = .ok (.goto (-43), 3) := by decide +kernel
theorem d_M_stands_51 : decode b_M_stands 51 = .ok (.iload_n 3, 1) := by decide +kernel
theorem d_M_stands_52 : decode b_M_stands 52 = .ok (.ireturn, 1) := by decide +kernel
theorem d_M_ask_0 : decode b_M_ask 0 = .ok (.aload_n 0, 1) := by decide +kernel
theorem d_M_ask_1 : decode b_M_ask 1 = .ok (.iload_n 2, 1) := by decide +kernel
theorem d_M_ask_2 : decode b_M_ask 2 = .ok (.aload_n 0, 1) := by decide +kernel
theorem d_M_ask_3 : decode b_M_ask 3 = .ok (.getfield 20, 3) := by decide +kernel
theorem d_M_ask_6 : decode b_M_ask 6 = .ok (.iload_n 1, 1) := by decide +kernel
theorem d_M_ask_7 : decode b_M_ask 7 = .ok (.iaload, 1) := by decide +kernel
theorem d_M_ask_8 : decode b_M_ask 8 = .ok (.invokevirtual 100, 3) := by decide +kernel
theorem d_M_ask_11 : decode b_M_ask 11 = .ok (.iconst 0, 1) := by decide +kernel
theorem d_M_ask_12 : decode b_M_ask 12 = .ok (.istore_n 3, 1) := by decide +kernel
theorem d_M_ask_13 : decode b_M_ask 13 = .ok (.iload_n 3, 1) := by decide +kernel
theorem d_M_ask_14 : decode b_M_ask 14 = .ok (.sipush 1024, 3) := by decide +kernel
theorem d_M_ask_17 : decode b_M_ask 17 = .ok (.if_icmp .ge 16, 3) := by decide +kernel
theorem d_M_ask_20 : decode b_M_ask 20 = .ok (.aload_n 0, 1) := by decide +kernel
theorem d_M_ask_21 : decode b_M_ask 21 = .ok (.getfield 37, 3) := by decide +kernel
theorem d_M_ask_24 : decode b_M_ask 24 = .ok (.iload_n 3, 1) := by decide +kernel
theorem d_M_ask_25 : decode b_M_ask 25 = .ok (.lconst 0, 1) := by decide +kernel
theorem d_M_ask_26 : decode b_M_ask 26 = .ok (.lastore, 1) := by decide +kernel
theorem d_M_ask_27 : decode b_M_ask 27 = .ok (.iinc 3 1, 3) := by decide +kernel
theorem d_M_ask_30 : decode b_M_ask 30 = .ok (.goto (-17), 3) := by decide +kernel
theorem d_M_ask_33 : decode b_M_ask 33 = .ok (.aload_n 0, 1) := by decide +kernel
theorem d_M_ask_34 : decode b_M_ask 34 = .ok (.iload_n 1, 1) := by decide +kernel
theorem d_M_ask_35 : decode b_M_ask 35 = .ok (.iconst 1, 1) := by decide +kernel
theorem d_M_ask_36 : decode b_M_ask 36 = .ok (.invokevirtual 103, 3) := by decide +kernel
theorem d_M_ask_39 : decode b_M_ask 39 = .ok (.ifCond .eq 8, 3) := by decide +kernel
theorem d_M_ask_42 : decode b_M_ask 42 = .ok (.bipush 15, 2) := by decide +kernel
theorem d_M_ask_44 : decode b_M_ask 44 = .ok (.goto 4, 3) := by decide +kernel
theorem d_M_ask_47 : decode b_M_ask 47 = .ok (.iconst 0, 1) := by decide +kernel
theorem d_M_ask_48 : decode b_M_ask 48 = .ok (.istore_n 3, 1) := by decide +kernel
theorem d_M_ask_49 : decode b_M_ask 49 = .ok (.aload_n 0, 1) := by decide +kernel
theorem d_M_ask_50 : decode b_M_ask 50 = .ok (.iload_n 1, 1) := by decide +kernel
theorem d_M_ask_51 : decode b_M_ask 51 = .ok (.iconst 2, 1) := by decide +kernel
theorem d_M_ask_52 : decode b_M_ask 52 = .ok (.invokevirtual 103, 3) := by decide +kernel
theorem d_M_ask_55 : decode b_M_ask 55 = .ok (.ifCond .eq 8, 3) := by decide +kernel
theorem d_M_ask_58 : decode b_M_ask 58 = .ok (.bipush 15, 2) := by decide +kernel
theorem d_M_ask_60 : decode b_M_ask 60 = .ok (.goto 4, 3) := by decide +kernel
theorem d_M_ask_63 : decode b_M_ask 63 = .ok (.iconst 0, 1) := by decide +kernel
theorem d_M_ask_64 : decode b_M_ask 64 = .ok (.istore 4, 2) := by decide +kernel
theorem d_M_ask_66 : decode b_M_ask 66 = .ok (.aload_n 0, 1) := by decide +kernel
theorem d_M_ask_67 : decode b_M_ask 67 = .ok (.iload_n 1, 1) := by decide +kernel
theorem d_M_ask_68 : decode b_M_ask 68 = .ok (.iconst 3, 1) := by decide +kernel
theorem d_M_ask_69 : decode b_M_ask 69 = .ok (.invokevirtual 103, 3) := by decide +kernel
theorem d_M_ask_72 : decode b_M_ask 72 = .ok (.ifCond .eq 8, 3) := by decide +kernel
theorem d_M_ask_75 : decode b_M_ask 75 = .ok (.bipush 15, 2) := by decide +kernel
theorem d_M_ask_77 : decode b_M_ask 77 = .ok (.goto 4, 3) := by decide +kernel
theorem d_M_ask_80 : decode b_M_ask 80 = .ok (.iconst 0, 1) := by decide +kernel
theorem d_M_ask_81 : decode b_M_ask 81 = .ok (.istore 5, 2) := by decide +kernel
theorem d_M_ask_83 : decode b_M_ask 83 = .ok (.aload_n 0, 1) := by decide +kernel
theorem d_M_ask_84 : decode b_M_ask 84 = .ok (.iload_n 1, 1) := by decide +kernel
theorem d_M_ask_85 : decode b_M_ask 85 = .ok (.iconst 4, 1) := by decide +kernel
theorem d_M_ask_86 : decode b_M_ask 86 = .ok (.invokevirtual 103, 3) := by decide +kernel
theorem d_M_ask_89 : decode b_M_ask 89 = .ok (.ifCond .eq 8, 3) := by decide +kernel
theorem d_M_ask_92 : decode b_M_ask 92 = .ok (.bipush 15, 2) := by decide +kernel
theorem d_M_ask_94 : decode b_M_ask 94 = .ok (.goto 4, 3) := by decide +kernel
theorem d_M_ask_97 : decode b_M_ask 97 = .ok (.iconst 0, 1) := by decide +kernel
theorem d_M_ask_98 : decode b_M_ask 98 = .ok (.istore 6, 2) := by decide +kernel
theorem d_M_ask_100 : decode b_M_ask 100 = .ok (.iconst 0, 1) := by decide +kernel
theorem d_M_ask_101 : decode b_M_ask 101 = .ok (.istore 7, 2) := by decide +kernel
theorem d_M_ask_103 : decode b_M_ask 103 = .ok (.iload 7, 2) := by decide +kernel
theorem d_M_ask_105 : decode b_M_ask 105 = .ok (.iload_n 3, 1) := by decide +kernel
theorem d_M_ask_106 : decode b_M_ask 106 = .ok (.if_icmp .gt 54, 3) := by decide +kernel
theorem d_M_ask_109 : decode b_M_ask 109 = .ok (.iconst 0, 1) := by decide +kernel
theorem d_M_ask_110 : decode b_M_ask 110 = .ok (.istore 8, 2) := by decide +kernel
theorem d_M_ask_112 : decode b_M_ask 112 = .ok (.iload 8, 2) := by decide +kernel
theorem d_M_ask_114 : decode b_M_ask 114 = .ok (.iload 4, 2) := by decide +kernel
theorem d_M_ask_116 : decode b_M_ask 116 = .ok (.if_icmp .gt 38, 3) := by decide +kernel
theorem d_M_ask_119 : decode b_M_ask 119 = .ok (.iconst 0, 1) := by decide +kernel
theorem d_M_ask_120 : decode b_M_ask 120 = .ok (.istore 9, 2) := by decide +kernel
theorem d_M_ask_122 : decode b_M_ask 122 = .ok (.iload 9, 2) := by decide +kernel
theorem d_M_ask_124 : decode b_M_ask 124 = .ok (.iload 5, 2) := by decide +kernel
theorem d_M_ask_126 : decode b_M_ask 126 = .ok (.if_icmp .gt 22, 3) := by decide +kernel
theorem d_M_ask_129 : decode b_M_ask 129 = .ok (.aload_n 0, 1) := by decide +kernel
theorem d_M_ask_130 : decode b_M_ask 130 = .ok (.iload_n 1, 1) := by decide +kernel
theorem d_M_ask_131 : decode b_M_ask 131 = .ok (.iload 7, 2) := by decide +kernel
theorem d_M_ask_133 : decode b_M_ask 133 = .ok (.iload 8, 2) := by decide +kernel
theorem d_M_ask_135 : decode b_M_ask 135 = .ok (.iload 9, 2) := by decide +kernel
theorem d_M_ask_137 : decode b_M_ask 137 = .ok (.iload 6, 2) := by decide +kernel
theorem d_M_ask_139 : decode b_M_ask 139 = .ok (.invokevirtual 106, 3) := by decide +kernel
theorem d_M_ask_142 : decode b_M_ask 142 = .ok (.iinc 9 1, 3) := by decide +kernel
theorem d_M_ask_145 : decode b_M_ask 145 = .ok (.goto (-23), 3) := by decide +kernel
theorem d_M_ask_148 : decode b_M_ask 148 = .ok (.iinc 8 1, 3) := by decide +kernel
theorem d_M_ask_151 : decode b_M_ask 151 = .ok (.goto (-39), 3) := by decide +kernel
theorem d_M_ask_154 : decode b_M_ask 154 = .ok (.iinc 7 1, 3) := by decide +kernel
theorem d_M_ask_157 : decode b_M_ask 157 = .ok (.goto (-54), 3) := by decide +kernel
theorem d_M_ask_160 : decode b_M_ask 160 = .ok (.return_, 1) := by decide +kernel
theorem d_M_askLast_0 : decode b_M_askLast 0 = .ok (.aload_n 0, 1) := by decide +kernel
theorem d_M_askLast_1 : decode b_M_askLast 1 = .ok (.getfield 43, 3) := by decide +kernel
theorem d_M_askLast_4 : decode b_M_askLast 4 = .ok (.iconst 1, 1) := by decide +kernel
theorem d_M_askLast_5 : decode b_M_askLast 5 = .ok (.iload_n 2, 1) := by decide +kernel
theorem d_M_askLast_6 : decode b_M_askLast 6 = .ok (.iastore, 1) := by decide +kernel
theorem d_M_askLast_7 : decode b_M_askLast 7 = .ok (.aload_n 0, 1) := by decide +kernel
theorem d_M_askLast_8 : decode b_M_askLast 8 = .ok (.getfield 43, 3) := by decide +kernel
theorem d_M_askLast_11 : decode b_M_askLast 11 = .ok (.iconst 2, 1) := by decide +kernel
theorem d_M_askLast_12 : decode b_M_askLast 12 = .ok (.iload_n 3, 1) := by decide +kernel
theorem d_M_askLast_13 : decode b_M_askLast 13 = .ok (.iastore, 1) := by decide +kernel
theorem d_M_askLast_14 : decode b_M_askLast 14 = .ok (.aload_n 0, 1) := by decide +kernel
theorem d_M_askLast_15 : decode b_M_askLast 15 = .ok (.getfield 43, 3) := by decide +kernel
theorem d_M_askLast_18 : decode b_M_askLast 18 = .ok (.iconst 3, 1) := by decide +kernel
theorem d_M_askLast_19 : decode b_M_askLast 19 = .ok (.iload 4, 2) := by decide +kernel
theorem d_M_askLast_21 : decode b_M_askLast 21 = .ok (.iastore, 1) := by decide +kernel
theorem d_M_askLast_22 : decode b_M_askLast 22 = .ok (.iconst 0, 1) := by decide +kernel
theorem d_M_askLast_23 : decode b_M_askLast 23 = .ok (.istore 6, 2) := by decide +kernel
theorem d_M_askLast_25 : decode b_M_askLast 25 = .ok (.iload 6, 2) := by decide +kernel
theorem d_M_askLast_27 : decode b_M_askLast 27 = .ok (.iload 5, 2) := by decide +kernel
theorem d_M_askLast_29 : decode b_M_askLast 29 = .ok (.if_icmp .gt 67, 3) := by decide +kernel
theorem d_M_askLast_32 : decode b_M_askLast 32 = .ok (.aload_n 0, 1) := by decide +kernel
theorem d_M_askLast_33 : decode b_M_askLast 33 = .ok (.getfield 43, 3) := by decide +kernel
theorem d_M_askLast_36 : decode b_M_askLast 36 = .ok (.iconst 4, 1) := by decide +kernel
theorem d_M_askLast_37 : decode b_M_askLast 37 = .ok (.iload 6, 2) := by decide +kernel
theorem d_M_askLast_39 : decode b_M_askLast 39 = .ok (.iastore, 1) := by decide +kernel
theorem d_M_askLast_40 : decode b_M_askLast 40 = .ok (.sipush 4096, 3) := by decide +kernel
theorem d_M_askLast_43 : decode b_M_askLast 43 = .ok (.iload_n 2, 1) := by decide +kernel
theorem d_M_askLast_44 : decode b_M_askLast 44 = .ok (.imul, 1) := by decide +kernel
theorem d_M_askLast_45 : decode b_M_askLast 45 = .ok (.sipush 256, 3) := by decide +kernel
theorem d_M_askLast_48 : decode b_M_askLast 48 = .ok (.iload_n 3, 1) := by decide +kernel
theorem d_M_askLast_49 : decode b_M_askLast 49 = .ok (.imul, 1) := by decide +kernel
theorem d_M_askLast_50 : decode b_M_askLast 50 = .ok (.iadd, 1) := by decide +kernel
theorem d_M_askLast_51 : decode b_M_askLast 51 = .ok (.bipush 16, 2) := by decide +kernel
theorem d_M_askLast_53 : decode b_M_askLast 53 = .ok (.iload 4, 2) := by decide +kernel
theorem d_M_askLast_55 : decode b_M_askLast 55 = .ok (.imul, 1) := by decide +kernel
theorem d_M_askLast_56 : decode b_M_askLast 56 = .ok (.iadd, 1) := by decide +kernel
theorem d_M_askLast_57 : decode b_M_askLast 57 = .ok (.iload 6, 2) := by decide +kernel
theorem d_M_askLast_59 : decode b_M_askLast 59 = .ok (.iadd, 1) := by decide +kernel
theorem d_M_askLast_60 : decode b_M_askLast 60 = .ok (.istore 7, 2) := by decide +kernel
theorem d_M_askLast_62 : decode b_M_askLast 62 = .ok (.aload_n 0, 1) := by decide +kernel
theorem d_M_askLast_63 : decode b_M_askLast 63 = .ok (.iload_n 1, 1) := by decide +kernel
theorem d_M_askLast_64 : decode b_M_askLast 64 = .ok (.invokevirtual 110, 3) := by decide +kernel
theorem d_M_askLast_67 : decode b_M_askLast 67 = .ok (.ifCond .eq 23, 3) := by decide +kernel
theorem d_M_askLast_70 : decode b_M_askLast 70 = .ok (.aload_n 0, 1) := by decide +kernel
theorem d_M_askLast_71 : decode b_M_askLast 71 = .ok (.getfield 37, 3) := by decide +kernel
theorem d_M_askLast_74 : decode b_M_askLast 74 = .ok (.iload 7, 2) := by decide +kernel
theorem d_M_askLast_76 : decode b_M_askLast 76 = .ok (.bipush 64, 2) := by decide +kernel
theorem d_M_askLast_78 : decode b_M_askLast 78 = .ok (.idiv, 1) := by decide +kernel
theorem d_M_askLast_79 : decode b_M_askLast 79 = .ok (.dup2, 1) := by decide +kernel
theorem d_M_askLast_80 : decode b_M_askLast 80 = .ok (.laload, 1) := by decide +kernel
theorem d_M_askLast_81 : decode b_M_askLast 81 = .ok (.lconst 1, 1) := by decide +kernel
theorem d_M_askLast_82 : decode b_M_askLast 82 = .ok (.iload 7, 2) := by decide +kernel
theorem d_M_askLast_84 : decode b_M_askLast 84 = .ok (.bipush 64, 2) := by decide +kernel
theorem d_M_askLast_86 : decode b_M_askLast 86 = .ok (.irem, 1) := by decide +kernel
theorem d_M_askLast_87 : decode b_M_askLast 87 = .ok (.lshl, 1) := by decide +kernel
theorem d_M_askLast_88 : decode b_M_askLast 88 = .ok (.lor, 1) := by decide +kernel
theorem d_M_askLast_89 : decode b_M_askLast 89 = .ok (.lastore, 1) := by decide +kernel
theorem d_M_askLast_90 : decode b_M_askLast 90 = .ok (.iinc 6 1, 3) := by decide +kernel
theorem d_M_askLast_93 : decode b_M_askLast 93 = .ok (.goto (-68), 3) := by decide +kernel
theorem d_M_askLast_96 : decode b_M_askLast 96 = .ok (.return_, 1) := by decide +kernel
theorem d_M_at_0 : decode b_M_at 0 = .ok (.bipush 62, 2) := by decide +kernel
theorem d_M_at_2 : decode b_M_at 2 = .ok (.iload_n 1, 1) := by decide +kernel
theorem d_M_at_3 : decode b_M_at 3 = .ok (.imul, 1) := by decide +kernel
theorem d_M_at_4 : decode b_M_at 4 = .ok (.iload_n 2, 1) := by decide +kernel
theorem d_M_at_5 : decode b_M_at 5 = .ok (.iadd, 1) := by decide +kernel
theorem d_M_at_6 : decode b_M_at 6 = .ok (.ireturn, 1) := by decide +kernel
theorem d_M_rowsOf_0 : decode b_M_rowsOf 0 = .ok (.aload_n 0, 1) := by decide +kernel
theorem d_M_rowsOf_1 : decode b_M_rowsOf 1 = .ok (.iload_n 1, 1) := by decide +kernel
theorem d_M_rowsOf_2 : decode b_M_rowsOf 2 = .ok (.iload_n 2, 1) := by decide +kernel
theorem d_M_rowsOf_3 : decode b_M_rowsOf 3 = .ok (.invokevirtual 113, 3) := by decide +kernel
theorem d_M_rowsOf_6 : decode b_M_rowsOf 6 = .ok (.istore_n 3, 1) := by decide +kernel
theorem d_M_rowsOf_7 : decode b_M_rowsOf 7 = .ok (.aload_n 0, 1) := by decide +kernel
theorem d_M_rowsOf_8 : decode b_M_rowsOf 8 = .ok (.getfield 34, 3) := by decide +kernel
theorem d_M_rowsOf_11 : decode b_M_rowsOf 11 = .ok (.iload_n 3, 1) := by decide +kernel
theorem d_M_rowsOf_12 : decode b_M_rowsOf 12 = .ok (.baload, 1) := by decide +kernel
theorem d_M_rowsOf_13 : decode b_M_rowsOf 13 = .ok (.ifCond .ne 53, 3) := by decide +kernel
theorem d_M_rowsOf_16 : decode b_M_rowsOf 16 = .ok (.aload_n 0, 1) := by decide +kernel
theorem d_M_rowsOf_17 : decode b_M_rowsOf 17 = .ok (.iload_n 1, 1) := by decide +kernel
theorem d_M_rowsOf_18 : decode b_M_rowsOf 18 = .ok (.iload_n 2, 1) := by decide +kernel
theorem d_M_rowsOf_19 : decode b_M_rowsOf 19 = .ok (.invokevirtual 116, 3) := by decide +kernel
theorem d_M_rowsOf_22 : decode b_M_rowsOf 22 = .ok (.iconst 0, 1) := by decide +kernel
theorem d_M_rowsOf_23 : decode b_M_rowsOf 23 = .ok (.istore 4, 2) := by decide +kernel
theorem d_M_rowsOf_25 : decode b_M_rowsOf 25 = .ok (.iload 4, 2) := by decide +kernel
theorem d_M_rowsOf_27 : decode b_M_rowsOf 27 = .ok (.sipush 1024, 3) := by decide +kernel
theorem d_M_rowsOf_30 : decode b_M_rowsOf 30 = .ok (.if_icmp .ge 29, 3) := by decide +kernel
theorem d_M_rowsOf_33 : decode b_M_rowsOf 33 = .ok (.aload_n 0, 1) := by decide +kernel
theorem d_M_rowsOf_34 : decode b_M_rowsOf 34 = .ok (.getfield 30, 3) := by decide +kernel
theorem d_M_rowsOf_37 : decode b_M_rowsOf 37 = .ok (.sipush 1024, 3) := by decide +kernel
theorem d_M_rowsOf_40 : decode b_M_rowsOf 40 = .ok (.iload_n 3, 1) := by decide +kernel
theorem d_M_rowsOf_41 : decode b_M_rowsOf 41 = .ok (.imul, 1) := by decide +kernel
theorem d_M_rowsOf_42 : decode b_M_rowsOf 42 = .ok (.iload 4, 2) := by decide +kernel
theorem d_M_rowsOf_44 : decode b_M_rowsOf 44 = .ok (.iadd, 1) := by decide +kernel
theorem d_M_rowsOf_45 : decode b_M_rowsOf 45 = .ok (.aload_n 0, 1) := by decide +kernel
theorem d_M_rowsOf_46 : decode b_M_rowsOf 46 = .ok (.getfield 37, 3) := by decide +kernel
theorem d_M_rowsOf_49 : decode b_M_rowsOf 49 = .ok (.iload 4, 2) := by decide +kernel
theorem d_M_rowsOf_51 : decode b_M_rowsOf 51 = .ok (.laload, 1) := by decide +kernel
theorem d_M_rowsOf_52 : decode b_M_rowsOf 52 = .ok (.lastore, 1) := by decide +kernel
theorem d_M_rowsOf_53 : decode b_M_rowsOf 53 = .ok (.iinc 4 1, 3) := by decide +kernel
theorem d_M_rowsOf_56 : decode b_M_rowsOf 56 = .ok (.goto (-31), 3) := by decide +kernel
theorem d_M_rowsOf_59 : decode b_M_rowsOf 59 = .ok (.aload_n 0, 1) := by decide +kernel
theorem d_M_rowsOf_60 : decode b_M_rowsOf 60 = .ok (.getfield 34, 3) := by decide +kernel
theorem d_M_rowsOf_63 : decode b_M_rowsOf 63 = .ok (.iload_n 3, 1) := by decide +kernel
theorem d_M_rowsOf_64 : decode b_M_rowsOf 64 = .ok (.iconst 1, 1) := by decide +kernel
theorem d_M_rowsOf_65 : decode b_M_rowsOf 65 = .ok (.bastore, 1) := by decide +kernel
theorem d_M_rowsOf_66 : decode b_M_rowsOf 66 = .ok (.sipush 1024, 3) := by decide +kernel
theorem d_M_rowsOf_69 : decode b_M_rowsOf 69 = .ok (.iload_n 3, 1) := by decide +kernel
theorem d_M_rowsOf_70 : decode b_M_rowsOf 70 = .ok (.imul, 1) := by decide +kernel
theorem d_M_rowsOf_71 : decode b_M_rowsOf 71 = .ok (.ireturn, 1) := by decide +kernel
theorem d_M_bits_0 : decode b_M_bits 0 = .ok (.aload_n 0, 1) := by decide +kernel
theorem d_M_bits_1 : decode b_M_bits 1 = .ok (.getfield 30, 3) := by decide +kernel
theorem d_M_bits_4 : decode b_M_bits 4 = .ok (.aload_n 0, 1) := by decide +kernel
theorem d_M_bits_5 : decode b_M_bits 5 = .ok (.iload_n 1, 1) := by decide +kernel
theorem d_M_bits_6 : decode b_M_bits 6 = .ok (.iload_n 2, 1) := by decide +kernel
theorem d_M_bits_7 : decode b_M_bits 7 = .ok (.invokevirtual 119, 3) := by decide +kernel
theorem d_M_bits_10 : decode b_M_bits 10 = .ok (.iload 4, 2) := by decide +kernel
theorem d_M_bits_12 : decode b_M_bits 12 = .ok (.iadd, 1) := by decide +kernel
theorem d_M_bits_13 : decode b_M_bits 13 = .ok (.laload, 1) := by decide +kernel
theorem d_M_bits_14 : decode b_M_bits 14 = .ok (.lstore 5, 2) := by decide +kernel
theorem d_M_bits_16 : decode b_M_bits 16 = .ok (.iload_n 3, 1) := by decide +kernel
theorem d_M_bits_17 : decode b_M_bits 17 = .ok (.ifCond .ne 6, 3) := by decide +kernel
theorem d_M_bits_20 : decode b_M_bits 20 = .ok (.lload 5, 2) := by decide +kernel
theorem d_M_bits_22 : decode b_M_bits 22 = .ok (.lreturn, 1) := by decide +kernel
theorem d_M_bits_23 : decode b_M_bits 23 = .ok (.iload_n 2, 1) := by decide +kernel
theorem d_M_bits_24 : decode b_M_bits 24 = .ok (.ifCond .le 22, 3) := by decide +kernel
theorem d_M_bits_27 : decode b_M_bits 27 = .ok (.aload_n 0, 1) := by decide +kernel
theorem d_M_bits_28 : decode b_M_bits 28 = .ok (.getfield 30, 3) := by decide +kernel
theorem d_M_bits_31 : decode b_M_bits 31 = .ok (.aload_n 0, 1) := by decide +kernel
theorem d_M_bits_32 : decode b_M_bits 32 = .ok (.iload_n 1, 1) := by decide +kernel
theorem d_M_bits_33 : decode b_M_bits 33 = .ok (.iload_n 2, 1) := by decide +kernel
theorem d_M_bits_34 : decode b_M_bits 34 = .ok (.iconst 1, 1) := by decide +kernel
theorem d_M_bits_35 : decode b_M_bits 35 = .ok (.isub, 1) := by decide +kernel
theorem d_M_bits_36 : decode b_M_bits 36 = .ok (.invokevirtual 119, 3) := by decide +kernel
theorem d_M_bits_39 : decode b_M_bits 39 = .ok (.iload 4, 2) := by decide +kernel
theorem d_M_bits_41 : decode b_M_bits 41 = .ok (.iadd, 1) := by decide +kernel
theorem d_M_bits_42 : decode b_M_bits 42 = .ok (.laload, 1) := by decide +kernel
theorem d_M_bits_43 : decode b_M_bits 43 = .ok (.goto 4, 3) := by decide +kernel
theorem d_M_bits_46 : decode b_M_bits 46 = .ok (.lconst 0, 1) := by decide +kernel
theorem d_M_bits_47 : decode b_M_bits 47 = .ok (.lstore 7, 2) := by decide +kernel
theorem d_M_bits_49 : decode b_M_bits 49 = .ok (.iload_n 3, 1) := by decide +kernel
theorem d_M_bits_50 : decode b_M_bits 50 = .ok (.iconst 1, 1) := by decide +kernel
theorem d_M_bits_51 : decode b_M_bits 51 = .ok (.if_icmp .ne 15, 3) := by decide +kernel
theorem d_M_bits_54 : decode b_M_bits 54 = .ok (.lload 5, 2) := by decide +kernel
theorem d_M_bits_56 : decode b_M_bits 56 = .ok (.lload 7, 2) := by decide +kernel
theorem d_M_bits_58 : decode b_M_bits 58 = .ok (.ldc2_w 122, 3) := by decide +kernel
theorem d_M_bits_61 : decode b_M_bits 61 = .ok (.lxor, 1) := by decide +kernel
theorem d_M_bits_62 : decode b_M_bits 62 = .ok (.land, 1) := by decide +kernel
theorem d_M_bits_63 : decode b_M_bits 63 = .ok (.goto 12, 3) := by decide +kernel
theorem d_M_bits_66 : decode b_M_bits 66 = .ok (.lload 7, 2) := by decide +kernel
theorem d_M_bits_68 : decode b_M_bits 68 = .ok (.lload 5, 2) := by decide +kernel
theorem d_M_bits_70 : decode b_M_bits 70 = .ok (.ldc2_w 122, 3) := by decide +kernel
theorem d_M_bits_73 : decode b_M_bits 73 = .ok (.lxor, 1) := by decide +kernel
theorem d_M_bits_74 : decode b_M_bits 74 = .ok (.land, 1) := by decide +kernel
theorem d_M_bits_75 : decode b_M_bits 75 = .ok (.lreturn, 1) := by decide +kernel
theorem d_M_count_0 : decode b_M_count 0 = .ok (.iconst 0, 1) := by decide +kernel
theorem d_M_count_1 : decode b_M_count 1 = .ok (.istore 4, 2) := by decide +kernel
theorem d_M_count_3 : decode b_M_count 3 = .ok (.iconst 0, 1) := by decide +kernel
theorem d_M_count_4 : decode b_M_count 4 = .ok (.istore 5, 2) := by decide +kernel
theorem d_M_count_6 : decode b_M_count 6 = .ok (.iload 5, 2) := by decide +kernel
theorem d_M_count_8 : decode b_M_count 8 = .ok (.sipush 1024, 3) := by decide +kernel
theorem d_M_count_11 : decode b_M_count 11 = .ok (.if_icmp .ge 42, 3) := by decide +kernel
theorem d_M_count_14 : decode b_M_count 14 = .ok (.aload_n 0, 1) := by decide +kernel
theorem d_M_count_15 : decode b_M_count 15 = .ok (.iload_n 1, 1) := by decide +kernel
theorem d_M_count_16 : decode b_M_count 16 = .ok (.iload_n 2, 1) := by decide +kernel
theorem d_M_count_17 : decode b_M_count 17 = .ok (.iload_n 3, 1) := by decide +kernel
theorem d_M_count_18 : decode b_M_count 18 = .ok (.iload 5, 2) := by decide +kernel
theorem d_M_count_20 : decode b_M_count 20 = .ok (.invokevirtual 124, 3) := by decide +kernel
theorem d_M_count_23 : decode b_M_count 23 = .ok (.lstore 6, 2) := by decide +kernel
theorem d_M_count_25 : decode b_M_count 25 = .ok (.lload 6, 2) := by decide +kernel
theorem d_M_count_27 : decode b_M_count 27 = .ok (.lconst 0, 1) := by decide +kernel
theorem d_M_count_28 : decode b_M_count 28 = .ok (.lcmp, 1) := by decide +kernel
theorem d_M_count_29 : decode b_M_count 29 = .ok (.ifCond .eq 18, 3) := by decide +kernel
theorem d_M_count_32 : decode b_M_count 32 = .ok (.iinc 4 1, 3) := by decide +kernel
theorem d_M_count_35 : decode b_M_count 35 = .ok (.lload 6, 2) := by decide +kernel
theorem d_M_count_37 : decode b_M_count 37 = .ok (.lload 6, 2) := by decide +kernel
theorem d_M_count_39 : decode b_M_count 39 = .ok (.lconst 1, 1) := by decide +kernel
theorem d_M_count_40 : decode b_M_count 40 = .ok (.lsub, 1) := by decide +kernel
theorem d_M_count_41 : decode b_M_count 41 = .ok (.land, 1) := by decide +kernel
theorem d_M_count_42 : decode b_M_count 42 = .ok (.lstore 6, 2) := by decide +kernel
theorem d_M_count_44 : decode b_M_count 44 = .ok (.goto (-19), 3) := by decide +kernel
theorem d_M_count_47 : decode b_M_count 47 = .ok (.iinc 5 1, 3) := by decide +kernel
theorem d_M_count_50 : decode b_M_count 50 = .ok (.goto (-44), 3) := by decide +kernel
theorem d_M_count_53 : decode b_M_count 53 = .ok (.iload 4, 2) := by decide +kernel
theorem d_M_count_55 : decode b_M_count 55 = .ok (.ireturn, 1) := by decide +kernel
theorem d_M_rows_0 : decode b_M_rows 0 = .ok (.aload_n 0, 1) := by decide +kernel
theorem d_M_rows_1 : decode b_M_rows 1 = .ok (.iload_n 1, 1) := by decide +kernel
theorem d_M_rows_2 : decode b_M_rows 2 = .ok (.invokevirtual 90, 3) := by decide +kernel
theorem d_M_rows_5 : decode b_M_rows 5 = .ok (.ifCond .eq 21, 3) := by decide +kernel
theorem d_M_rows_8 : decode b_M_rows 8 = .ok (.aload_n 0, 1) := by decide +kernel
theorem d_M_rows_9 : decode b_M_rows 9 = .ok (.iload_n 2, 1) := by decide +kernel
theorem d_M_rows_10 : decode b_M_rows 10 = .ok (.invokevirtual 86, 3) := by decide +kernel
theorem d_M_rows_13 : decode b_M_rows 13 = .ok (.ifCond .eq 13, 3) := by decide +kernel
theorem d_M_rows_16 : decode b_M_rows 16 = .ok (.aload_n 0, 1) := by decide +kernel
theorem d_M_rows_17 : decode b_M_rows 17 = .ok (.iload_n 1, 1) := by decide +kernel
theorem d_M_rows_18 : decode b_M_rows 18 = .ok (.iload_n 2, 1) := by decide +kernel
theorem d_M_rows_19 : decode b_M_rows 19 = .ok (.iconst 0, 1) := by decide +kernel
theorem d_M_rows_20 : decode b_M_rows 20 = .ok (.invokevirtual 128, 3) := by decide +kernel
theorem d_M_rows_23 : decode b_M_rows 23 = .ok (.goto 4, 3) := by decide +kernel
theorem d_M_rows_26 : decode b_M_rows 26 = .ok (.iconst (-1), 1) := by decide +kernel
theorem d_M_rows_27 : decode b_M_rows 27 = .ok (.ireturn, 1) := by decide +kernel
theorem d_M_changed_0 : decode b_M_changed 0 = .ok (.aload_n 0, 1) := by decide +kernel
theorem d_M_changed_1 : decode b_M_changed 1 = .ok (.iload_n 1, 1) := by decide +kernel
theorem d_M_changed_2 : decode b_M_changed 2 = .ok (.invokevirtual 90, 3) := by decide +kernel
theorem d_M_changed_5 : decode b_M_changed 5 = .ok (.ifCond .eq 29, 3) := by decide +kernel
theorem d_M_changed_8 : decode b_M_changed 8 = .ok (.aload_n 0, 1) := by decide +kernel
theorem d_M_changed_9 : decode b_M_changed 9 = .ok (.iload_n 2, 1) := by decide +kernel
theorem d_M_changed_10 : decode b_M_changed 10 = .ok (.invokevirtual 86, 3) := by decide +kernel
theorem d_M_changed_13 : decode b_M_changed 13 = .ok (.ifCond .eq 21, 3) := by decide +kernel
theorem d_M_changed_16 : decode b_M_changed 16 = .ok (.aload_n 0, 1) := by decide +kernel
theorem d_M_changed_17 : decode b_M_changed 17 = .ok (.iload_n 1, 1) := by decide +kernel
theorem d_M_changed_18 : decode b_M_changed 18 = .ok (.iload_n 2, 1) := by decide +kernel
theorem d_M_changed_19 : decode b_M_changed 19 = .ok (.iload_n 3, 1) := by decide +kernel
theorem d_M_changed_20 : decode b_M_changed 20 = .ok (.ifCond .eq 7, 3) := by decide +kernel
theorem d_M_changed_23 : decode b_M_changed 23 = .ok (.iconst 1, 1) := by decide +kernel
theorem d_M_changed_24 : decode b_M_changed 24 = .ok (.goto 4, 3) := by decide +kernel
theorem d_M_changed_27 : decode b_M_changed 27 = .ok (.iconst 2, 1) := by decide +kernel
theorem d_M_changed_28 : decode b_M_changed 28 = .ok (.invokevirtual 128, 3) := by decide +kernel
theorem d_M_changed_31 : decode b_M_changed 31 = .ok (.goto 4, 3) := by decide +kernel
theorem d_M_changed_34 : decode b_M_changed 34 = .ok (.iconst (-1), 1) := by decide +kernel
theorem d_M_changed_35 : decode b_M_changed 35 = .ok (.ireturn, 1) := by decide +kernel
theorem d_M_row_0 : decode b_M_row 0 = .ok (.aload_n 0, 1) := by decide +kernel
theorem d_M_row_1 : decode b_M_row 1 = .ok (.iload_n 1, 1) := by decide +kernel
theorem d_M_row_2 : decode b_M_row 2 = .ok (.invokevirtual 90, 3) := by decide +kernel
theorem d_M_row_5 : decode b_M_row 5 = .ok (.ifCond .eq 20, 3) := by decide +kernel
theorem d_M_row_8 : decode b_M_row 8 = .ok (.aload_n 0, 1) := by decide +kernel
theorem d_M_row_9 : decode b_M_row 9 = .ok (.iload_n 2, 1) := by decide +kernel
theorem d_M_row_10 : decode b_M_row 10 = .ok (.invokevirtual 86, 3) := by decide +kernel
theorem d_M_row_13 : decode b_M_row 13 = .ok (.ifCond .eq 12, 3) := by decide +kernel
theorem d_M_row_16 : decode b_M_row 16 = .ok (.iload_n 3, 1) := by decide +kernel
theorem d_M_row_17 : decode b_M_row 17 = .ok (.ifCond .lt 8, 3) := by decide +kernel
theorem d_M_row_20 : decode b_M_row 20 = .ok (.iload_n 3, 1) := by decide +kernel
theorem d_M_row_21 : decode b_M_row 21 = .ok (.iconst 2, 1) := by decide +kernel
theorem d_M_row_22 : decode b_M_row 22 = .ok (.if_icmp .le 5, 3) := by decide +kernel
theorem d_M_row_25 : decode b_M_row 25 = .ok (.iconst (-1), 1) := by decide +kernel
theorem d_M_row_26 : decode b_M_row 26 = .ok (.ireturn, 1) := by decide +kernel
theorem d_M_row_27 : decode b_M_row 27 = .ok (.iload 4, 2) := by decide +kernel
theorem d_M_row_29 : decode b_M_row 29 = .ok (.istore 5, 2) := by decide +kernel
theorem d_M_row_31 : decode b_M_row 31 = .ok (.iconst 0, 1) := by decide +kernel
theorem d_M_row_32 : decode b_M_row 32 = .ok (.istore 6, 2) := by decide +kernel
theorem d_M_row_34 : decode b_M_row 34 = .ok (.iload 6, 2) := by decide +kernel
theorem d_M_row_36 : decode b_M_row 36 = .ok (.sipush 1024, 3) := by decide +kernel
theorem d_M_row_39 : decode b_M_row 39 = .ok (.if_icmp .ge 80, 3) := by decide +kernel
theorem d_M_row_42 : decode b_M_row 42 = .ok (.iload 4, 2) := by decide +kernel
theorem d_M_row_44 : decode b_M_row 44 = .ok (.ifCond .lt 75, 3) := by decide +kernel
theorem d_M_row_47 : decode b_M_row 47 = .ok (.aload_n 0, 1) := by decide +kernel
theorem d_M_row_48 : decode b_M_row 48 = .ok (.iload_n 1, 1) := by decide +kernel
theorem d_M_row_49 : decode b_M_row 49 = .ok (.iload_n 2, 1) := by decide +kernel
theorem d_M_row_50 : decode b_M_row 50 = .ok (.iload_n 3, 1) := by decide +kernel
theorem d_M_row_51 : decode b_M_row 51 = .ok (.iload 6, 2) := by decide +kernel
theorem d_M_row_53 : decode b_M_row 53 = .ok (.invokevirtual 124, 3) := by decide +kernel
theorem d_M_row_56 : decode b_M_row 56 = .ok (.lstore 7, 2) := by decide +kernel
theorem d_M_row_58 : decode b_M_row 58 = .ok (.iconst 0, 1) := by decide +kernel
theorem d_M_row_59 : decode b_M_row 59 = .ok (.istore 9, 2) := by decide +kernel
theorem d_M_row_61 : decode b_M_row 61 = .ok (.iload 9, 2) := by decide +kernel
theorem d_M_row_63 : decode b_M_row 63 = .ok (.bipush 64, 2) := by decide +kernel
theorem d_M_row_65 : decode b_M_row 65 = .ok (.if_icmp .ge 48, 3) := by decide +kernel
theorem d_M_row_68 : decode b_M_row 68 = .ok (.lload 7, 2) := by decide +kernel
theorem d_M_row_70 : decode b_M_row 70 = .ok (.lconst 0, 1) := by decide +kernel
theorem d_M_row_71 : decode b_M_row 71 = .ok (.lcmp, 1) := by decide +kernel
theorem d_M_row_72 : decode b_M_row 72 = .ok (.ifCond .eq 41, 3) := by decide +kernel
theorem d_M_row_75 : decode b_M_row 75 = .ok (.lload 7, 2) := by decide +kernel
theorem d_M_row_77 : decode b_M_row 77 = .ok (.iload 9, 2) := by decide +kernel
theorem d_M_row_79 : decode b_M_row 79 = .ok (.lshr, 1) := by decide +kernel
theorem d_M_row_80 : decode b_M_row 80 = .ok (.lconst 1, 1) := by decide +kernel
theorem d_M_row_81 : decode b_M_row 81 = .ok (.land, 1) := by decide +kernel
theorem d_M_row_82 : decode b_M_row 82 = .ok (.lconst 0, 1) := by decide +kernel
theorem d_M_row_83 : decode b_M_row 83 = .ok (.lcmp, 1) := by decide +kernel
theorem d_M_row_84 : decode b_M_row 84 = .ok (.ifCond .ne 6, 3) := by decide +kernel
theorem d_M_row_87 : decode b_M_row 87 = .ok (.goto 20, 3) := by decide +kernel
theorem d_M_row_90 : decode b_M_row 90 = .ok (.iload 5, 2) := by decide +kernel
theorem d_M_row_92 : decode b_M_row 92 = .ok (.ifCond .ne 12, 3) := by decide +kernel
theorem d_M_row_95 : decode b_M_row 95 = .ok (.bipush 64, 2) := by decide +kernel
theorem d_M_row_97 : decode b_M_row 97 = .ok (.iload 6, 2) := by decide +kernel
theorem d_M_row_99 : decode b_M_row 99 = .ok (.imul, 1) := by decide +kernel
theorem d_M_row_100 : decode b_M_row 100 = .ok (.iload 9, 2) := by decide +kernel
theorem d_M_row_102 : decode b_M_row 102 = .ok (.iadd, 1) := by decide +kernel
theorem d_M_row_103 : decode b_M_row 103 = .ok (.ireturn, 1) := by decide +kernel
theorem d_M_row_104 : decode b_M_row 104 = .ok (.iinc 5 (-1), 3) := by decide +kernel
theorem d_M_row_107 : decode b_M_row 107 = .ok (.iinc 9 1, 3) := by decide +kernel
theorem d_M_row_110 : decode b_M_row 110 = .ok (.goto (-49), 3) := by decide +kernel
theorem d_M_row_113 : decode b_M_row 113 = .ok (.iinc 6 1, 3) := by decide +kernel
theorem d_M_row_116 : decode b_M_row 116 = .ok (.goto (-82), 3) := by decide +kernel
theorem d_M_row_119 : decode b_M_row 119 = .ok (.bipush (-2), 2) := by decide +kernel
theorem d_M_row_121 : decode b_M_row 121 = .ok (.ireturn, 1) := by decide +kernel
theorem d_M_aggregate_0 : decode b_M_aggregate 0 = .ok (.aload_n 0, 1) := by decide +kernel
theorem d_M_aggregate_1 : decode b_M_aggregate 1 = .ok (.iload_n 1, 1) := by decide +kernel
theorem d_M_aggregate_2 : decode b_M_aggregate 2 = .ok (.invokevirtual 90, 3) := by decide +kernel
theorem d_M_aggregate_5 : decode b_M_aggregate 5 = .ok (.ifCond .eq 32, 3) := by decide +kernel
theorem d_M_aggregate_8 : decode b_M_aggregate 8 = .ok (.aload_n 0, 1) := by decide +kernel
theorem d_M_aggregate_9 : decode b_M_aggregate 9 = .ok (.iload_n 2, 1) := by decide +kernel
theorem d_M_aggregate_10 : decode b_M_aggregate 10 = .ok (.invokevirtual 86, 3) := by decide +kernel
theorem d_M_aggregate_13 : decode b_M_aggregate 13 = .ok (.ifCond .eq 24, 3) := by decide +kernel
theorem d_M_aggregate_16 : decode b_M_aggregate 16 = .ok (.iload_n 3, 1) := by decide +kernel
theorem d_M_aggregate_17 : decode b_M_aggregate 17 = .ok (.ifCond .lt 20, 3) := by decide +kernel
theorem d_M_aggregate_20 : decode b_M_aggregate 20 = .ok (.iload_n 3, 1) := by decide +kernel
theorem d_M_aggregate_21 : decode b_M_aggregate 21 = .ok (.iconst 2, 1) := by decide +kernel
theorem d_M_aggregate_22 : decode b_M_aggregate 22 = .ok (.if_icmp .gt 15, 3) := by decide +kernel
theorem d_M_aggregate_25 : decode b_M_aggregate 25 = .ok (.iload 4, 2) := by decide +kernel
theorem d_M_aggregate_27 : decode b_M_aggregate 27 = .ok (.iconst 1, 1) := by decide +kernel
theorem d_M_aggregate_28 : decode b_M_aggregate 28 = .ok (.if_icmp .lt 9, 3) := by decide +kernel
theorem d_M_aggregate_31 : decode b_M_aggregate 31 = .ok (.iload 4, 2) := by decide +kernel
theorem d_M_aggregate_33 : decode b_M_aggregate 33 = .ok (.iconst 4, 1) := by decide +kernel
theorem d_M_aggregate_34 : decode b_M_aggregate 34 = .ok (.if_icmp .le 5, 3) := by decide +kernel
theorem d_M_aggregate_37 : decode b_M_aggregate 37 = .ok (.iconst (-1), 1) := by decide +kernel
theorem d_M_aggregate_38 : decode b_M_aggregate 38 = .ok (.ireturn, 1) := by decide +kernel
theorem d_M_aggregate_39 : decode b_M_aggregate 39 = .ok (.iconst 0, 1) := by decide +kernel
theorem d_M_aggregate_40 : decode b_M_aggregate 40 = .ok (.istore 5, 2) := by decide +kernel
theorem d_M_aggregate_42 : decode b_M_aggregate 42 = .ok (.bipush 16, 2) := by decide +kernel
theorem d_M_aggregate_44 : decode b_M_aggregate 44 = .ok (.istore 6, 2) := by decide +kernel
theorem d_M_aggregate_46 : decode b_M_aggregate 46 = .ok (.iconst (-1), 1) := by decide +kernel
theorem d_M_aggregate_47 : decode b_M_aggregate 47 = .ok (.istore 7, 2) := by decide +kernel
theorem d_M_aggregate_49 : decode b_M_aggregate 49 = .ok (.iconst 0, 1) := by decide +kernel
theorem d_M_aggregate_50 : decode b_M_aggregate 50 = .ok (.istore 8, 2) := by decide +kernel
theorem d_M_aggregate_52 : decode b_M_aggregate 52 = .ok (.iload 8, 2) := by decide +kernel
theorem d_M_aggregate_54 : decode b_M_aggregate 54 = .ok (.sipush 1024, 3) := by decide +kernel
theorem d_M_aggregate_57 : decode b_M_aggregate 57 = .ok (.if_icmp .ge 118, 3) := by decide +kernel
theorem d_M_aggregate_60 : decode b_M_aggregate 60 = .ok (.aload_n 0, 1) := by decide +kernel
theorem d_M_aggregate_61 : decode b_M_aggregate 61 = .ok (.iload_n 1, 1) := by decide +kernel
theorem d_M_aggregate_62 : decode b_M_aggregate 62 = .ok (.iload_n 2, 1) := by decide +kernel
theorem d_M_aggregate_63 : decode b_M_aggregate 63 = .ok (.iconst 0, 1) := by decide +kernel
theorem d_M_aggregate_64 : decode b_M_aggregate 64 = .ok (.iload 8, 2) := by decide +kernel
theorem d_M_aggregate_66 : decode b_M_aggregate 66 = .ok (.invokevirtual 124, 3) := by decide +kernel
theorem d_M_aggregate_69 : decode b_M_aggregate 69 = .ok (.lstore 9, 2) := by decide +kernel
theorem d_M_aggregate_71 : decode b_M_aggregate 71 = .ok (.iconst 0, 1) := by decide +kernel
theorem d_M_aggregate_72 : decode b_M_aggregate 72 = .ok (.istore 11, 2) := by decide +kernel
theorem d_M_aggregate_74 : decode b_M_aggregate 74 = .ok (.iload 11, 2) := by decide +kernel
theorem d_M_aggregate_76 : decode b_M_aggregate 76 = .ok (.bipush 64, 2) := by decide +kernel
theorem d_M_aggregate_78 : decode b_M_aggregate 78 = .ok (.if_icmp .ge 91, 3) := by decide +kernel
theorem d_M_aggregate_81 : decode b_M_aggregate 81 = .ok (.lload 9, 2) := by decide +kernel
theorem d_M_aggregate_83 : decode b_M_aggregate 83 = .ok (.lconst 0, 1) := by decide +kernel
theorem d_M_aggregate_84 : decode b_M_aggregate 84 = .ok (.lcmp, 1) := by decide +kernel
theorem d_M_aggregate_85 : decode b_M_aggregate 85 = .ok (.ifCond .eq 84, 3) := by decide +kernel
theorem d_M_aggregate_88 : decode b_M_aggregate 88 = .ok (.lload 9, 2) := by decide +kernel
theorem d_M_aggregate_90 : decode b_M_aggregate 90 = .ok (.iload 11, 2) := by decide +kernel
theorem d_M_aggregate_92 : decode b_M_aggregate 92 = .ok (.lshr, 1) := by decide +kernel
theorem d_M_aggregate_93 : decode b_M_aggregate 93 = .ok (.lconst 1, 1) := by decide +kernel
theorem d_M_aggregate_94 : decode b_M_aggregate 94 = .ok (.land, 1) := by decide +kernel
theorem d_M_aggregate_95 : decode b_M_aggregate 95 = .ok (.lconst 0, 1) := by decide +kernel
theorem d_M_aggregate_96 : decode b_M_aggregate 96 = .ok (.lcmp, 1) := by decide +kernel
theorem d_M_aggregate_97 : decode b_M_aggregate 97 = .ok (.ifCond .ne 6, 3) := by decide +kernel
theorem d_M_aggregate_100 : decode b_M_aggregate 100 = .ok (.goto 63, 3) := by decide +kernel
theorem d_M_aggregate_103 : decode b_M_aggregate 103 = .ok (.bipush 64, 2) := by decide +kernel
theorem d_M_aggregate_105 : decode b_M_aggregate 105 = .ok (.iload 8, 2) := by decide +kernel
theorem d_M_aggregate_107 : decode b_M_aggregate 107 = .ok (.imul, 1) := by decide +kernel
theorem d_M_aggregate_108 : decode b_M_aggregate 108 = .ok (.iload 11, 2) := by decide +kernel
theorem d_M_aggregate_110 : decode b_M_aggregate 110 = .ok (.iadd, 1) := by decide +kernel
theorem d_M_aggregate_111 : decode b_M_aggregate 111 = .ok (.bipush 16, 2) := by decide +kernel
theorem d_M_aggregate_113 : decode b_M_aggregate 113 = .ok (.iconst 4, 1) := by decide +kernel
theorem d_M_aggregate_114 : decode b_M_aggregate 114 = .ok (.iload 4, 2) := by decide +kernel
theorem d_M_aggregate_116 : decode b_M_aggregate 116 = .ok (.imul, 1) := by decide +kernel
theorem d_M_aggregate_117 : decode b_M_aggregate 117 = .ok (.isub, 1) := by decide +kernel
theorem d_M_aggregate_118 : decode b_M_aggregate 118 = .ok (.ishr, 1) := by decide +kernel
theorem d_M_aggregate_119 : decode b_M_aggregate 119 = .ok (.bipush 15, 2) := by decide +kernel
theorem d_M_aggregate_121 : decode b_M_aggregate 121 = .ok (.iand, 1) := by decide +kernel
theorem d_M_aggregate_122 : decode b_M_aggregate 122 = .ok (.istore 12, 2) := by decide +kernel
theorem d_M_aggregate_124 : decode b_M_aggregate 124 = .ok (.iload 5, 2) := by decide +kernel
theorem d_M_aggregate_126 : decode b_M_aggregate 126 = .ok (.iload 12, 2) := by decide +kernel
theorem d_M_aggregate_128 : decode b_M_aggregate 128 = .ok (.iadd, 1) := by decide +kernel
theorem d_M_aggregate_129 : decode b_M_aggregate 129 = .ok (.istore 5, 2) := by decide +kernel
theorem d_M_aggregate_131 : decode b_M_aggregate 131 = .ok (.iload 12, 2) := by decide +kernel
theorem d_M_aggregate_133 : decode b_M_aggregate 133 = .ok (.iload 6, 2) := by decide +kernel
theorem d_M_aggregate_135 : decode b_M_aggregate 135 = .ok (.if_icmp .ge 8, 3) := by decide +kernel
theorem d_M_aggregate_138 : decode b_M_aggregate 138 = .ok (.iload 12, 2) := by decide +kernel
theorem d_M_aggregate_140 : decode b_M_aggregate 140 = .ok (.goto 5, 3) := by decide +kernel
theorem d_M_aggregate_143 : decode b_M_aggregate 143 = .ok (.iload 6, 2) := by decide +kernel
theorem d_M_aggregate_145 : decode b_M_aggregate 145 = .ok (.istore 6, 2) := by decide +kernel
theorem d_M_aggregate_147 : decode b_M_aggregate 147 = .ok (.iload 12, 2) := by decide +kernel
theorem d_M_aggregate_149 : decode b_M_aggregate 149 = .ok (.iload 7, 2) := by decide +kernel
theorem d_M_aggregate_151 : decode b_M_aggregate 151 = .ok (.if_icmp .le 8, 3) := by decide +kernel
theorem d_M_aggregate_154 : decode b_M_aggregate 154 = .ok (.iload 12, 2) := by decide +kernel
theorem d_M_aggregate_156 : decode b_M_aggregate 156 = .ok (.goto 5, 3) := by decide +kernel
theorem d_M_aggregate_159 : decode b_M_aggregate 159 = .ok (.iload 7, 2) := by decide +kernel
theorem d_M_aggregate_161 : decode b_M_aggregate 161 = .ok (.istore 7, 2) := by decide +kernel
theorem d_M_aggregate_163 : decode b_M_aggregate 163 = .ok (.iinc 11 1, 3) := by decide +kernel
theorem d_M_aggregate_166 : decode b_M_aggregate 166 = .ok (.goto (-92), 3) := by decide +kernel
theorem d_M_aggregate_169 : decode b_M_aggregate 169 = .ok (.iinc 8 1, 3) := by decide +kernel
theorem d_M_aggregate_172 : decode b_M_aggregate 172 = .ok (.goto (-120), 3) := by decide +kernel
theorem d_M_aggregate_175 : decode b_M_aggregate 175 = .ok (.iload_n 3, 1) := by decide +kernel
theorem d_M_aggregate_176 : decode b_M_aggregate 176 = .ok (.ifCond .ne 8, 3) := by decide +kernel
theorem d_M_aggregate_179 : decode b_M_aggregate 179 = .ok (.iload 5, 2) := by decide +kernel
theorem d_M_aggregate_181 : decode b_M_aggregate 181 = .ok (.goto 25, 3) := by decide +kernel
theorem d_M_aggregate_184 : decode b_M_aggregate 184 = .ok (.iload 7, 2) := by decide +kernel
theorem d_M_aggregate_186 : decode b_M_aggregate 186 = .ok (.ifCond .ge 8, 3) := by decide +kernel
theorem d_M_aggregate_189 : decode b_M_aggregate 189 = .ok (.bipush (-2), 2) := by decide +kernel
theorem d_M_aggregate_191 : decode b_M_aggregate 191 = .ok (.goto 15, 3) := by decide +kernel
theorem d_M_aggregate_194 : decode b_M_aggregate 194 = .ok (.iload_n 3, 1) := by decide +kernel
theorem d_M_aggregate_195 : decode b_M_aggregate 195 = .ok (.iconst 1, 1) := by decide +kernel
theorem d_M_aggregate_196 : decode b_M_aggregate 196 = .ok (.if_icmp .ne 8, 3) := by decide +kernel
theorem d_M_aggregate_199 : decode b_M_aggregate 199 = .ok (.iload 6, 2) := by decide +kernel
theorem d_M_aggregate_201 : decode b_M_aggregate 201 = .ok (.goto 5, 3) := by decide +kernel
theorem d_M_aggregate_204 : decode b_M_aggregate 204 = .ok (.iload 7, 2) := by decide +kernel
theorem d_M_aggregate_206 : decode b_M_aggregate 206 = .ok (.ireturn, 1) := by decide +kernel
theorem d_M_late_0 : decode b_M_late 0 = .ok (.iload_n 2, 1) := by decide +kernel
theorem d_M_late_1 : decode b_M_late 1 = .ok (.iload_n 3, 1) := by decide +kernel
theorem d_M_late_2 : decode b_M_late 2 = .ok (.iload 4, 2) := by decide +kernel
theorem d_M_late_4 : decode b_M_late 4 = .ok (.invokestatic 66, 3) := by decide +kernel
theorem d_M_late_7 : decode b_M_late 7 = .ok (.ifCond .eq 15, 3) := by decide +kernel
theorem d_M_late_10 : decode b_M_late 10 = .ok (.iload_n 1, 1) := by decide +kernel
theorem d_M_late_11 : decode b_M_late 11 = .ok (.ifCond .lt 11, 3) := by decide +kernel
theorem d_M_late_14 : decode b_M_late 14 = .ok (.iload_n 1, 1) := by decide +kernel
theorem d_M_late_15 : decode b_M_late 15 = .ok (.aload_n 0, 1) := by decide +kernel
theorem d_M_late_16 : decode b_M_late 16 = .ok (.getfield 53, 3) := by decide +kernel
theorem d_M_late_19 : decode b_M_late 19 = .ok (.if_icmp .lt 5, 3) := by decide +kernel
theorem d_M_late_22 : decode b_M_late 22 = .ok (.iconst (-1), 1) := by decide +kernel
theorem d_M_late_23 : decode b_M_late 23 = .ok (.ireturn, 1) := by decide +kernel
theorem d_M_late_24 : decode b_M_late 24 = .ok (.aload_n 0, 1) := by decide +kernel
theorem d_M_late_25 : decode b_M_late 25 = .ok (.getfield 59, 3) := by decide +kernel
theorem d_M_late_28 : decode b_M_late 28 = .ok (.sipush 400, 3) := by decide +kernel
theorem d_M_late_31 : decode b_M_late 31 = .ok (.if_icmp .ne 6, 3) := by decide +kernel
theorem d_M_late_34 : decode b_M_late 34 = .ok (.bipush (-3), 2) := by decide +kernel
theorem d_M_late_36 : decode b_M_late 36 = .ok (.ireturn, 1) := by decide +kernel
theorem d_M_late_37 : decode b_M_late 37 = .ok (.iconst 0, 1) := by decide +kernel
theorem d_M_late_38 : decode b_M_late 38 = .ok (.istore 6, 2) := by decide +kernel
theorem d_M_late_40 : decode b_M_late 40 = .ok (.iload 6, 2) := by decide +kernel
theorem d_M_late_42 : decode b_M_late 42 = .ok (.aload_n 0, 1) := by decide +kernel
theorem d_M_late_43 : decode b_M_late 43 = .ok (.getfield 56, 3) := by decide +kernel
theorem d_M_late_46 : decode b_M_late 46 = .ok (.if_icmp .ge 36, 3) := by decide +kernel
theorem d_M_late_49 : decode b_M_late 49 = .ok (.iload_n 1, 1) := by decide +kernel
theorem d_M_late_50 : decode b_M_late 50 = .ok (.istore 7, 2) := by decide +kernel
theorem d_M_late_52 : decode b_M_late 52 = .ok (.iload 7, 2) := by decide +kernel
theorem d_M_late_54 : decode b_M_late 54 = .ok (.aload_n 0, 1) := by decide +kernel
theorem d_M_late_55 : decode b_M_late 55 = .ok (.getfield 53, 3) := by decide +kernel
theorem d_M_late_58 : decode b_M_late 58 = .ok (.if_icmp .gt 18, 3) := by decide +kernel
theorem d_M_late_61 : decode b_M_late 61 = .ok (.aload_n 0, 1) := by decide +kernel
theorem d_M_late_62 : decode b_M_late 62 = .ok (.iload 6, 2) := by decide +kernel
theorem d_M_late_64 : decode b_M_late 64 = .ok (.iload 7, 2) := by decide +kernel
theorem d_M_late_66 : decode b_M_late 66 = .ok (.invokevirtual 119, 3) := by decide +kernel
theorem d_M_late_69 : decode b_M_late 69 = .ok (.pop, 1) := by decide +kernel
theorem d_M_late_70 : decode b_M_late 70 = .ok (.iinc 7 1, 3) := by decide +kernel
theorem d_M_late_73 : decode b_M_late 73 = .ok (.goto (-21), 3) := by decide +kernel
theorem d_M_late_76 : decode b_M_late 76 = .ok (.iinc 6 1, 3) := by decide +kernel
theorem d_M_late_79 : decode b_M_late 79 = .ok (.goto (-39), 3) := by decide +kernel
theorem d_M_late_82 : decode b_M_late 82 = .ok (.aload_n 0, 1) := by decide +kernel
theorem d_M_late_83 : decode b_M_late 83 = .ok (.iload_n 1, 1) := by decide +kernel
theorem d_M_late_84 : decode b_M_late 84 = .ok (.iload_n 2, 1) := by decide +kernel
theorem d_M_late_85 : decode b_M_late 85 = .ok (.iload_n 3, 1) := by decide +kernel
theorem d_M_late_86 : decode b_M_late 86 = .ok (.iload 4, 2) := by decide +kernel
theorem d_M_late_88 : decode b_M_late 88 = .ok (.invokestatic 70, 3) := by decide +kernel
theorem d_M_late_91 : decode b_M_late 91 = .ok (.iload 5, 2) := by decide +kernel
theorem d_M_late_93 : decode b_M_late 93 = .ok (.invokevirtual 78, 3) := by decide +kernel
theorem d_M_late_96 : decode b_M_late 96 = .ok (.iconst 0, 1) := by decide +kernel
theorem d_M_late_97 : decode b_M_late 97 = .ok (.istore 6, 2) := by decide +kernel
theorem d_M_late_99 : decode b_M_late 99 = .ok (.iload_n 1, 1) := by decide +kernel
theorem d_M_late_100 : decode b_M_late 100 = .ok (.istore 7, 2) := by decide +kernel
theorem d_M_late_102 : decode b_M_late 102 = .ok (.iload 7, 2) := by decide +kernel
theorem d_M_late_104 : decode b_M_late 104 = .ok (.aload_n 0, 1) := by decide +kernel
theorem d_M_late_105 : decode b_M_late 105 = .ok (.getfield 53, 3) := by decide +kernel
theorem d_M_late_108 : decode b_M_late 108 = .ok (.if_icmp .gt 68, 3) := by decide +kernel
theorem d_M_late_111 : decode b_M_late 111 = .ok (.iconst 0, 1) := by decide +kernel
theorem d_M_late_112 : decode b_M_late 112 = .ok (.istore 8, 2) := by decide +kernel
theorem d_M_late_114 : decode b_M_late 114 = .ok (.iconst 0, 1) := by decide +kernel
theorem d_M_late_115 : decode b_M_late 115 = .ok (.istore 9, 2) := by decide +kernel
theorem d_M_late_117 : decode b_M_late 117 = .ok (.iload 9, 2) := by decide +kernel
theorem d_M_late_119 : decode b_M_late 119 = .ok (.aload_n 0, 1) := by decide +kernel
theorem d_M_late_120 : decode b_M_late 120 = .ok (.getfield 56, 3) := by decide +kernel
theorem d_M_late_123 : decode b_M_late 123 = .ok (.if_icmp .ge 32, 3) := by decide +kernel
theorem d_M_late_126 : decode b_M_late 126 = .ok (.aload_n 0, 1) := by decide +kernel
theorem d_M_late_127 : decode b_M_late 127 = .ok (.iload 9, 2) := by decide +kernel
theorem d_M_late_129 : decode b_M_late 129 = .ok (.iload 7, 2) := by decide +kernel
theorem d_M_late_131 : decode b_M_late 131 = .ok (.invokevirtual 131, 3) := by decide +kernel
theorem d_M_late_134 : decode b_M_late 134 = .ok (.ifCond .ne 8, 3) := by decide +kernel
theorem d_M_late_137 : decode b_M_late 137 = .ok (.iload 8, 2) := by decide +kernel
theorem d_M_late_139 : decode b_M_late 139 = .ok (.ifCond .eq 7, 3) := by decide +kernel
theorem d_M_late_142 : decode b_M_late 142 = .ok (.iconst 1, 1) := by decide +kernel
theorem d_M_late_143 : decode b_M_late 143 = .ok (.goto 4, 3) := by decide +kernel
theorem d_M_late_146 : decode b_M_late 146 = .ok (.iconst 0, 1) := by decide +kernel
theorem d_M_late_147 : decode b_M_late 147 = .ok (.istore 8, 2) := by decide +kernel
theorem d_M_late_149 : decode b_M_late 149 = .ok (.iinc 9 1, 3) := by decide +kernel
theorem d_M_late_152 : decode b_M_late 152 = .ok (.goto (-35), 3) := by decide +kernel
theorem d_M_late_155 : decode b_M_late 155 = .ok (.iload 6, 2) := by decide +kernel
theorem d_M_late_157 : decode b_M_late 157 = .ok (.iload 8, 2) := by decide +kernel
theorem d_M_late_159 : decode b_M_late 159 = .ok (.ifCond .eq 7, 3) := by decide +kernel
theorem d_M_late_162 : decode b_M_late 162 = .ok (.iconst 1, 1) := by decide +kernel
theorem d_M_late_163 : decode b_M_late 163 = .ok (.goto 4, 3) := by decide +kernel
theorem d_M_late_166 : decode b_M_late 166 = .ok (.iconst 0, 1) := by decide +kernel
theorem d_M_late_167 : decode b_M_late 167 = .ok (.iadd, 1) := by decide +kernel
theorem d_M_late_168 : decode b_M_late 168 = .ok (.istore 6, 2) := by decide +kernel
theorem d_M_late_170 : decode b_M_late 170 = .ok (.iinc 7 1, 3) := by decide +kernel
theorem d_M_late_173 : decode b_M_late 173 = .ok (.goto (-71), 3) := by decide +kernel
theorem d_M_late_176 : decode b_M_late 176 = .ok (.iload 6, 2) := by decide +kernel
theorem d_M_late_178 : decode b_M_late 178 = .ok (.ireturn, 1) := by decide +kernel
theorem d_M_again_0 : decode b_M_again 0 = .ok (.sipush 1024, 3) := by decide +kernel
theorem d_M_again_3 : decode b_M_again 3 = .ok (.aload_n 0, 1) := by decide +kernel
theorem d_M_again_4 : decode b_M_again 4 = .ok (.iload_n 1, 1) := by decide +kernel
theorem d_M_again_5 : decode b_M_again 5 = .ok (.iload_n 2, 1) := by decide +kernel
theorem d_M_again_6 : decode b_M_again 6 = .ok (.invokevirtual 113, 3) := by decide +kernel
theorem d_M_again_9 : decode b_M_again 9 = .ok (.imul, 1) := by decide +kernel
theorem d_M_again_10 : decode b_M_again 10 = .ok (.istore_n 3, 1) := by decide +kernel
theorem d_M_again_11 : decode b_M_again 11 = .ok (.aload_n 0, 1) := by decide +kernel
theorem d_M_again_12 : decode b_M_again 12 = .ok (.iload_n 1, 1) := by decide +kernel
theorem d_M_again_13 : decode b_M_again 13 = .ok (.iload_n 2, 1) := by decide +kernel
theorem d_M_again_14 : decode b_M_again 14 = .ok (.invokevirtual 116, 3) := by decide +kernel
theorem d_M_again_17 : decode b_M_again 17 = .ok (.iconst 0, 1) := by decide +kernel
theorem d_M_again_18 : decode b_M_again 18 = .ok (.istore 4, 2) := by decide +kernel
theorem d_M_again_20 : decode b_M_again 20 = .ok (.iconst 0, 1) := by decide +kernel
theorem d_M_again_21 : decode b_M_again 21 = .ok (.istore 5, 2) := by decide +kernel
theorem d_M_again_23 : decode b_M_again 23 = .ok (.iload 5, 2) := by decide +kernel
theorem d_M_again_25 : decode b_M_again 25 = .ok (.sipush 1024, 3) := by decide +kernel
theorem d_M_again_28 : decode b_M_again 28 = .ok (.if_icmp .ge 57, 3) := by decide +kernel
theorem d_M_again_31 : decode b_M_again 31 = .ok (.iload 4, 2) := by decide +kernel
theorem d_M_again_33 : decode b_M_again 33 = .ok (.ifCond .ne 23, 3) := by decide +kernel
theorem d_M_again_36 : decode b_M_again 36 = .ok (.aload_n 0, 1) := by decide +kernel
theorem d_M_again_37 : decode b_M_again 37 = .ok (.getfield 30, 3) := by decide +kernel
theorem d_M_again_40 : decode b_M_again 40 = .ok (.iload_n 3, 1) := by decide +kernel
theorem d_M_again_41 : decode b_M_again 41 = .ok (.iload 5, 2) := by decide +kernel
theorem d_M_again_43 : decode b_M_again 43 = .ok (.iadd, 1) := by decide +kernel
theorem d_M_again_44 : decode b_M_again 44 = .ok (.laload, 1) := by decide +kernel
theorem d_M_again_45 : decode b_M_again 45 = .ok (.aload_n 0, 1) := by decide +kernel
theorem d_M_again_46 : decode b_M_again 46 = .ok (.getfield 37, 3) := by decide +kernel
theorem d_M_again_49 : decode b_M_again 49 = .ok (.iload 5, 2) := by decide +kernel
theorem d_M_again_51 : decode b_M_again 51 = .ok (.laload, 1) := by decide +kernel
theorem d_M_again_52 : decode b_M_again 52 = .ok (.lcmp, 1) := by decide +kernel
theorem d_M_again_53 : decode b_M_again 53 = .ok (.ifCond .eq 7, 3) := by decide +kernel
theorem d_M_again_56 : decode b_M_again 56 = .ok (.iconst 1, 1) := by decide +kernel
theorem d_M_again_57 : decode b_M_again 57 = .ok (.goto 4, 3) := by decide +kernel
theorem d_M_again_60 : decode b_M_again 60 = .ok (.iconst 0, 1) := by decide +kernel
theorem d_M_again_61 : decode b_M_again 61 = .ok (.istore 4, 2) := by decide +kernel
theorem d_M_again_63 : decode b_M_again 63 = .ok (.aload_n 0, 1) := by decide +kernel
theorem d_M_again_64 : decode b_M_again 64 = .ok (.getfield 30, 3) := by decide +kernel
theorem d_M_again_67 : decode b_M_again 67 = .ok (.iload_n 3, 1) := by decide +kernel
theorem d_M_again_68 : decode b_M_again 68 = .ok (.iload 5, 2) := by decide +kernel
theorem d_M_again_70 : decode b_M_again 70 = .ok (.iadd, 1) := by decide +kernel
theorem d_M_again_71 : decode b_M_again 71 = .ok (.aload_n 0, 1) := by decide +kernel
theorem d_M_again_72 : decode b_M_again 72 = .ok (.getfield 37, 3) := by decide +kernel
theorem d_M_again_75 : decode b_M_again 75 = .ok (.iload 5, 2) := by decide +kernel
theorem d_M_again_77 : decode b_M_again 77 = .ok (.laload, 1) := by decide +kernel
theorem d_M_again_78 : decode b_M_again 78 = .ok (.lastore, 1) := by decide +kernel
theorem d_M_again_79 : decode b_M_again 79 = .ok (.iinc 5 1, 3) := by decide +kernel
theorem d_M_again_82 : decode b_M_again 82 = .ok (.goto (-59), 3) := by decide +kernel
theorem d_M_again_85 : decode b_M_again 85 = .ok (.iload 4, 2) := by decide +kernel
theorem d_M_again_87 : decode b_M_again 87 = .ok (.ireturn, 1) := by decide +kernel
theorem d_M_still_0 : decode b_M_still 0 = .ok (.aload_n 0, 1) := by decide +kernel
theorem d_M_still_1 : decode b_M_still 1 = .ok (.iload_n 1, 1) := by decide +kernel
theorem d_M_still_2 : decode b_M_still 2 = .ok (.invokevirtual 90, 3) := by decide +kernel
theorem d_M_still_5 : decode b_M_still 5 = .ok (.ifCond .ne 5, 3) := by decide +kernel
theorem d_M_still_8 : decode b_M_still 8 = .ok (.iconst (-1), 1) := by decide +kernel
theorem d_M_still_9 : decode b_M_still 9 = .ok (.ireturn, 1) := by decide +kernel
theorem d_M_still_10 : decode b_M_still 10 = .ok (.aload_n 0, 1) := by decide +kernel
theorem d_M_still_11 : decode b_M_still 11 = .ok (.getfield 53, 3) := by decide +kernel
theorem d_M_still_14 : decode b_M_still 14 = .ok (.istore_n 2, 1) := by decide +kernel
theorem d_M_still_15 : decode b_M_still 15 = .ok (.iconst 1, 1) := by decide +kernel
theorem d_M_still_16 : decode b_M_still 16 = .ok (.istore_n 3, 1) := by decide +kernel
theorem d_M_still_17 : decode b_M_still 17 = .ok (.iload_n 2, 1) := by decide +kernel
theorem d_M_still_18 : decode b_M_still 18 = .ok (.ifCond .le 91, 3) := by decide +kernel
theorem d_M_still_21 : decode b_M_still 21 = .ok (.iload_n 3, 1) := by decide +kernel
theorem d_M_still_22 : decode b_M_still 22 = .ok (.ifCond .eq 87, 3) := by decide +kernel
theorem d_M_still_25 : decode b_M_still 25 = .ok (.aload_n 0, 1) := by decide +kernel
theorem d_M_still_26 : decode b_M_still 26 = .ok (.iload_n 1, 1) := by decide +kernel
theorem d_M_still_27 : decode b_M_still 27 = .ok (.iload_n 2, 1) := by decide +kernel
theorem d_M_still_28 : decode b_M_still 28 = .ok (.invokevirtual 119, 3) := by decide +kernel
theorem d_M_still_31 : decode b_M_still 31 = .ok (.istore 4, 2) := by decide +kernel
theorem d_M_still_33 : decode b_M_still 33 = .ok (.aload_n 0, 1) := by decide +kernel
theorem d_M_still_34 : decode b_M_still 34 = .ok (.iload_n 1, 1) := by decide +kernel
theorem d_M_still_35 : decode b_M_still 35 = .ok (.iload_n 2, 1) := by decide +kernel
theorem d_M_still_36 : decode b_M_still 36 = .ok (.iconst 1, 1) := by decide +kernel
theorem d_M_still_37 : decode b_M_still 37 = .ok (.isub, 1) := by decide +kernel
theorem d_M_still_38 : decode b_M_still 38 = .ok (.invokevirtual 119, 3) := by decide +kernel
theorem d_M_still_41 : decode b_M_still 41 = .ok (.istore 5, 2) := by decide +kernel
theorem d_M_still_43 : decode b_M_still 43 = .ok (.iconst 0, 1) := by decide +kernel
theorem d_M_still_44 : decode b_M_still 44 = .ok (.istore 6, 2) := by decide +kernel
theorem d_M_still_46 : decode b_M_still 46 = .ok (.iload 6, 2) := by decide +kernel
theorem d_M_still_48 : decode b_M_still 48 = .ok (.sipush 1024, 3) := by decide +kernel
theorem d_M_still_51 : decode b_M_still 51 = .ok (.if_icmp .ge 43, 3) := by decide +kernel
theorem d_M_still_54 : decode b_M_still 54 = .ok (.iload_n 3, 1) := by decide +kernel
theorem d_M_still_55 : decode b_M_still 55 = .ok (.ifCond .eq 39, 3) := by decide +kernel
theorem d_M_still_58 : decode b_M_still 58 = .ok (.aload_n 0, 1) := by decide +kernel
theorem d_M_still_59 : decode b_M_still 59 = .ok (.getfield 30, 3) := by decide +kernel
theorem d_M_still_62 : decode b_M_still 62 = .ok (.iload 4, 2) := by decide +kernel
theorem d_M_still_64 : decode b_M_still 64 = .ok (.iload 6, 2) := by decide +kernel
theorem d_M_still_66 : decode b_M_still 66 = .ok (.iadd, 1) := by decide +kernel
theorem d_M_still_67 : decode b_M_still 67 = .ok (.laload, 1) := by decide +kernel
theorem d_M_still_68 : decode b_M_still 68 = .ok (.aload_n 0, 1) := by decide +kernel
theorem d_M_still_69 : decode b_M_still 69 = .ok (.getfield 30, 3) := by decide +kernel
theorem d_M_still_72 : decode b_M_still 72 = .ok (.iload 5, 2) := by decide +kernel
theorem d_M_still_74 : decode b_M_still 74 = .ok (.iload 6, 2) := by decide +kernel
theorem d_M_still_76 : decode b_M_still 76 = .ok (.iadd, 1) := by decide +kernel
theorem d_M_still_77 : decode b_M_still 77 = .ok (.laload, 1) := by decide +kernel
theorem d_M_still_78 : decode b_M_still 78 = .ok (.lcmp, 1) := by decide +kernel
theorem d_M_still_79 : decode b_M_still 79 = .ok (.ifCond .ne 7, 3) := by decide +kernel
theorem d_M_still_82 : decode b_M_still 82 = .ok (.iconst 1, 1) := by decide +kernel
theorem d_M_still_83 : decode b_M_still 83 = .ok (.goto 4, 3) := by decide +kernel
theorem d_M_still_86 : decode b_M_still 86 = .ok (.iconst 0, 1) := by decide +kernel
theorem d_M_still_87 : decode b_M_still 87 = .ok (.istore_n 3, 1) := by decide +kernel
theorem d_M_still_88 : decode b_M_still 88 = .ok (.iinc 6 1, 3) := by decide +kernel
theorem d_M_still_91 : decode b_M_still 91 = .ok (.goto (-45), 3) := by decide +kernel
theorem d_M_still_94 : decode b_M_still 94 = .ok (.iload_n 2, 1) := by decide +kernel
theorem d_M_still_95 : decode b_M_still 95 = .ok (.iload_n 3, 1) := by decide +kernel
theorem d_M_still_96 : decode b_M_still 96 = .ok (.ifCond .eq 7, 3) := by decide +kernel
theorem d_M_still_99 : decode b_M_still 99 = .ok (.iconst 1, 1) := by decide +kernel
theorem d_M_still_100 : decode b_M_still 100 = .ok (.goto 4, 3) := by decide +kernel
theorem d_M_still_103 : decode b_M_still 103 = .ok (.iconst 0, 1) := by decide +kernel
theorem d_M_still_104 : decode b_M_still 104 = .ok (.isub, 1) := by decide +kernel
theorem d_M_still_105 : decode b_M_still 105 = .ok (.istore_n 2, 1) := by decide +kernel
theorem d_M_still_106 : decode b_M_still 106 = .ok (.goto (-89), 3) := by decide +kernel
theorem d_M_still_109 : decode b_M_still 109 = .ok (.iload_n 2, 1) := by decide +kernel
theorem d_M_still_110 : decode b_M_still 110 = .ok (.ireturn, 1) := by decide +kernel
end
section
abbrev rm_Lg_isFull : Room := { frames := 0, cells := 0, slots := 0, locals := 0 }
set_option maxHeartbeats 4000000 in
set_option maxRecDepth 100000 in
theorem c_Lg_isFull (l : Launch) (D : va_G) (cK : Nat → ClassId) (lg lgA lgT lgC : Nat) (lgS : Int32)  (r : Int32) (hf : f_Lg_isFull lgS = some r) : RdI l y_Lg_isFull w_Lg_isFull rm_Lg_isFull D zz_cl (mt_ty cK RK2) [.ref lg] [(lg, .inr (0, [.ref lgA, .ref lgT, .ref lgC, .int lgS]))] r := by
  refine mk_RdI (cc := b_Lg_isFull) (maxL := 1) (ty := .boolean) (by decide +kernel) rfl (Nat.le_of_ble_eq_true rfl) ?_
  intro p e s m below meth c args Q ls hx hb hml hown hts hK hP hret hl
  have hl : lv_has ls 1 [(0, .ref lg)] := hl
  unfold f_Lg_isFull at hf
  refine lv_aload_n hx hb d_Lg_isFull_0 rfl (lv_at hl 0 rfl) ?_
  refine va_get (D := D) (ci := 0) (v := .int lgS) (C := RK0) (T := TK0) (N := 4) hx hb hts iwK0 hown hK hP 0 rfl rfl 3 (by decide) (hts _ fl_Lg_22) (fun _ h9 => h9) rfl d_Lg_isFull_1 ?_
  refine lv_sipush (v := 400) hx hb d_Lg_isFull_4 (by decide) ?_
  refine lv_icmp_lt (tgt := 14) hx hb d_Lg_isFull_7 (by decide) (fun hc => ?_) (fun hc => ?_)
  · have hf := fn_t hc hf
    refine lv_iconst (v := 0) hx hb d_Lg_isFull_14 (by decide) ?_
    cases hf
    exact hret 15 _ rfl d_Lg_isFull_15
  · have hf := fn_f hc hf
    refine lv_iconst (v := 1) hx hb d_Lg_isFull_10 (by decide) ?_
    refine lv_goto (tgt := 15) hx hb d_Lg_isFull_11 (by decide) ?_
    cases hf
    exact hret 15 _ rfl d_Lg_isFull_15
abbrev rm_Lg_say : Room := { frames := 1, cells := 0, slots := 0, locals := 20 }
set_option maxHeartbeats 4000000 in
set_option maxRecDepth 100000 in
theorem c_Lg_say (l : Launch) (D : va_G) (cK : Nat → ClassId) (lg lgA lgT lgC : Nat) (lgS : Int32) (lgAf : Nat → Int32) (lgTf : Nat → Int32) (lgCf : Nat → Int32) (N : Nat) (v1 : Int32) (v2 : Int32) (v3 : Int32) (r : Int32) (o_lgS : Int32) (o_lgAf : Nat → Int32) (o_lgTf : Nat → Int32) (o_lgCf : Nat → Int32) (hf : f_Lg_say N lgS lgAf lgTf lgCf v1 v2 v3 = some (r, o_lgS, o_lgAf, o_lgTf, o_lgCf)) : WrI l y_Lg_say w_Lg_say rm_Lg_say D zz_cl (mt_ty cK RK2) [.ref lg, .int v1, .int v2, .int v3] [(lg, .inr (0, [.ref lgA, .ref lgT, .ref lgC, .int lgS])), (lgA, .inl (cK 0, 400, .inl lgAf)), (lgT, .inl (cK 0, 400, .inl lgTf)), (lgC, .inl (cK 1, 400, .inl lgCf))] [(lg, .inr (0, [.ref lgA, .ref lgT, .ref lgC, .int o_lgS])), (lgA, .inl (cK 0, 400, .inl o_lgAf)), (lgT, .inl (cK 0, 400, .inl o_lgTf)), (lgC, .inl (cK 1, 400, .inl o_lgCf))] r := by
  refine mk_WrI (cc := b_Lg_say) (maxL := 5) (ty := .int) (by decide +kernel) rfl (Nat.le_of_ble_eq_true rfl) ?_
  intro p e s m below meth c args Q A ls hx hb hml hown hts hA hK hP hD hret hl
  have hS : va_S A s.heap s.heap [] := va_S.rf
  have hl : lv_has ls 5 [(0, .ref lg), (1, .int v1), (2, .int v2), (3, .int v3)] := hl
  have J_87 : ∀ (lgS : Int32) (lgAf : Nat → Int32) (lgTf : Nat → Int32) (lgCf : Nat → Int32) (v1 : Int32) (v2 : Int32) (v3 : Int32) (v4 : Int32) (H : Heap) (locs : List Loc) (ls : Array Slot), f_Lg_say_87 N lgS lgAf lgTf lgCf v1 v2 v3 v4 = some (r, o_lgS, o_lgAf, o_lgTf, o_lgCf) → va_P D zz_cl [(lg, .inr (0, [.ref lgA, .ref lgT, .ref lgC, .int lgS])), (lgA, .inl (cK 0, 400, .inl lgAf)), (lgT, .inl (cK 0, 400, .inl lgTf)), (lgC, .inl (cK 1, 400, .inl lgCf))] H → va_D A [(lg, .inr (0, [.ref lgA, .ref lgT, .ref lgC, .int lgS])), (lgA, .inl (cK 0, 400, .inl lgAf)), (lgT, .inl (cK 0, 400, .inl lgTf)), (lgC, .inl (cK 1, 400, .inl lgCf))] → va_S A s.heap H locs → lv_has ls 5 [(0, .ref lg), (1, .int v1), (2, .int v2), (3, .int v3), (4, .int v4)] → W p l e rm_Lg_say s m args below meth c H locs 0 0 Q (F0 m 87 ls []) := by
    intro lgS lgAf lgTf lgCf v1 v2 v3 v4 H locs ls hf hP hD hS hl
    unfold f_Lg_say_87 at hf
    refine lv_aload_n hx hb d_Lg_say_87 rfl (lv_at hl 0 rfl) ?_
    refine va_get (D := D) (ci := 0) (v := .ref lgA) (C := RK0) (T := TK0) (N := 4) hx hb hts iwK0 hown hK hP 0 rfl rfl 0 (by decide) (hts _ fl_Lg_9) (fun _ h9 => h9) rfl d_Lg_say_88 ?_
    refine lv_iload hx hb d_Lg_say_91 (lv_at hl 4 rfl) ?_
    refine lv_iload_n hx hb d_Lg_say_93 rfl (lv_at hl 1 rfl) ?_
    have hg := fn_g hf
    have hf := fn_t hg hf
    refine va_iast hx hb hK hP hD hS 1 0 rfl rfl (fn_v hg) d_Lg_say_94 (fun H locs hP hD hS => ?_)
    have hP : va_P D zz_cl [(lg, .inr (0, [.ref lgA, .ref lgT, .ref lgC, .int lgS])), (lgA, .inl (cK 0, 400, .inl (upd lgAf (Int32.toNatClampNeg v4) v1))), (lgT, .inl (cK 0, 400, .inl lgTf)), (lgC, .inl (cK 1, 400, .inl lgCf))] H := hP
    have hD : va_D A [(lg, .inr (0, [.ref lgA, .ref lgT, .ref lgC, .int lgS])), (lgA, .inl (cK 0, 400, .inl (upd lgAf (Int32.toNatClampNeg v4) v1))), (lgT, .inl (cK 0, 400, .inl lgTf)), (lgC, .inl (cK 1, 400, .inl lgCf))] := hD
    refine lv_aload_n hx hb d_Lg_say_95 rfl (lv_at hl 0 rfl) ?_
    refine va_get (D := D) (ci := 0) (v := .ref lgT) (C := RK0) (T := TK0) (N := 4) hx hb hts iwK0 hown hK hP 0 rfl rfl 1 (by decide) (hts _ fl_Lg_15) (fun _ h9 => h9) rfl d_Lg_say_96 ?_
    refine lv_iload hx hb d_Lg_say_99 (lv_at hl 4 rfl) ?_
    refine lv_iload_n hx hb d_Lg_say_101 rfl (lv_at hl 2 rfl) ?_
    have hg := fn_g hf
    have hf := fn_t hg hf
    refine va_iast hx hb hK hP hD hS 2 0 rfl rfl (fn_v hg) d_Lg_say_102 (fun H locs hP hD hS => ?_)
    have hP : va_P D zz_cl [(lg, .inr (0, [.ref lgA, .ref lgT, .ref lgC, .int lgS])), (lgA, .inl (cK 0, 400, .inl (upd lgAf (Int32.toNatClampNeg v4) v1))), (lgT, .inl (cK 0, 400, .inl (upd lgTf (Int32.toNatClampNeg v4) v2))), (lgC, .inl (cK 1, 400, .inl lgCf))] H := hP
    have hD : va_D A [(lg, .inr (0, [.ref lgA, .ref lgT, .ref lgC, .int lgS])), (lgA, .inl (cK 0, 400, .inl (upd lgAf (Int32.toNatClampNeg v4) v1))), (lgT, .inl (cK 0, 400, .inl (upd lgTf (Int32.toNatClampNeg v4) v2))), (lgC, .inl (cK 1, 400, .inl lgCf))] := hD
    refine lv_aload_n hx hb d_Lg_say_103 rfl (lv_at hl 0 rfl) ?_
    refine va_get (D := D) (ci := 0) (v := .ref lgC) (C := RK0) (T := TK0) (N := 4) hx hb hts iwK0 hown hK hP 0 rfl rfl 2 (by decide) (hts _ fl_Lg_18) (fun _ h9 => h9) rfl d_Lg_say_104 ?_
    refine lv_iload hx hb d_Lg_say_107 (lv_at hl 4 rfl) ?_
    refine lv_iload_n hx hb d_Lg_say_109 rfl (lv_at hl 3 rfl) ?_
    have hg := fn_g hf
    have hf := fn_t hg hf
    refine va_zast hx hb hK hP hD hS 3 1 rfl rfl (fn_v hg) d_Lg_say_110 (fun H locs hP hD hS => ?_)
    have hP : va_P D zz_cl [(lg, .inr (0, [.ref lgA, .ref lgT, .ref lgC, .int lgS])), (lgA, .inl (cK 0, 400, .inl (upd lgAf (Int32.toNatClampNeg v4) v1))), (lgT, .inl (cK 0, 400, .inl (upd lgTf (Int32.toNatClampNeg v4) v2))), (lgC, .inl (cK 1, 400, .inl (upd lgCf (Int32.toNatClampNeg v4) (vp_nar .boolean v3))))] H := hP
    have hD : va_D A [(lg, .inr (0, [.ref lgA, .ref lgT, .ref lgC, .int lgS])), (lgA, .inl (cK 0, 400, .inl (upd lgAf (Int32.toNatClampNeg v4) v1))), (lgT, .inl (cK 0, 400, .inl (upd lgTf (Int32.toNatClampNeg v4) v2))), (lgC, .inl (cK 1, 400, .inl (upd lgCf (Int32.toNatClampNeg v4) (vp_nar .boolean v3))))] := hD
    refine lv_aload_n hx hb d_Lg_say_111 rfl (lv_at hl 0 rfl) ?_
    refine lv_dup hx hb d_Lg_say_112 rfl ?_
    refine va_get (D := D) (ci := 0) (v := .int lgS) (C := RK0) (T := TK0) (N := 4) hx hb hts iwK0 hown hK hP 0 rfl rfl 3 (by decide) (hts _ fl_Lg_22) (fun _ h9 => h9) rfl d_Lg_say_113 ?_
    refine lv_iconst (v := 1) hx hb d_Lg_say_116 (by decide) ?_
    refine lv_iadd hx hb d_Lg_say_117 ?_
    refine va_put (D := D) (ci := 0) (v := .int (lgS + 1)) (ty := .int) (C := RK0) (T := TK0) (N := 4) hx hb hts iwK0 tyK0 tyK0_ok nmK0 hown hK hP hD hS 0 rfl rfl 3 (by decide) (hts _ fl_Lg_22) (fun _ h9 => h9) rfl (by decide +kernel) rfl rfl (Nat.le_of_ble_eq_true rfl) d_Lg_say_118 (fun H locs hP hD hS => ?_)
    have hP : va_P D zz_cl [(lg, .inr (0, [.ref lgA, .ref lgT, .ref lgC, .int (lgS + 1)])), (lgA, .inl (cK 0, 400, .inl (upd lgAf (Int32.toNatClampNeg v4) v1))), (lgT, .inl (cK 0, 400, .inl (upd lgTf (Int32.toNatClampNeg v4) v2))), (lgC, .inl (cK 1, 400, .inl (upd lgCf (Int32.toNatClampNeg v4) (vp_nar .boolean v3))))] H := hP
    have hD : va_D A [(lg, .inr (0, [.ref lgA, .ref lgT, .ref lgC, .int (lgS + 1)])), (lgA, .inl (cK 0, 400, .inl (upd lgAf (Int32.toNatClampNeg v4) v1))), (lgT, .inl (cK 0, 400, .inl (upd lgTf (Int32.toNatClampNeg v4) v2))), (lgC, .inl (cK 1, 400, .inl (upd lgCf (Int32.toNatClampNeg v4) (vp_nar .boolean v3))))] := hD
    refine lv_iload hx hb d_Lg_say_121 (lv_at hl 4 rfl) ?_
    cases hf
    exact hret _ _ 123 _ hP hD hS rfl d_Lg_say_123
  have J_15 : ∀ (v1 : Int32) (v2 : Int32) (v3 : Int32) (n_15 : Nat) (lgS : Int32) (lgAf : Nat → Int32) (lgTf : Nat → Int32) (lgCf : Nat → Int32) (v4 : Int32) (H : Heap) (locs : List Loc) (ls : Array Slot), f_Lg_say_15 N v1 v2 v3 n_15 lgS lgAf lgTf lgCf v4 = some (r, o_lgS, o_lgAf, o_lgTf, o_lgCf) → va_P D zz_cl [(lg, .inr (0, [.ref lgA, .ref lgT, .ref lgC, .int lgS])), (lgA, .inl (cK 0, 400, .inl lgAf)), (lgT, .inl (cK 0, 400, .inl lgTf)), (lgC, .inl (cK 1, 400, .inl lgCf))] H → va_D A [(lg, .inr (0, [.ref lgA, .ref lgT, .ref lgC, .int lgS])), (lgA, .inl (cK 0, 400, .inl lgAf)), (lgT, .inl (cK 0, 400, .inl lgTf)), (lgC, .inl (cK 1, 400, .inl lgCf))] → va_S A s.heap H locs → lv_has ls 5 [(0, .ref lg), (1, .int v1), (2, .int v2), (3, .int v3), (4, .int v4)] → W p l e rm_Lg_say s m args below meth c H locs 0 0 Q (F0 m 15 ls []) := by
    intro v1 v2 v3 n_15
    induction n_15 with
    | zero =>
      intro lgS lgAf lgTf lgCf v4 H locs ls hf hP hD hS hl
      exact fn_0 hf
    | succ n_15 ih_15 =>
      intro lgS lgAf lgTf lgCf v4 H locs ls hf hP hD hS hl
      rw [f_Lg_say_15.eq_2] at hf
      refine lv_iload hx hb d_Lg_say_15 (lv_at hl 4 rfl) ?_
      refine lv_if_le (tgt := 87) hx hb d_Lg_say_17 (by decide) (fun hc => ?_) (fun hc => ?_)
      · have hf := fn_t hc hf
        exact J_87 _ _ _ _ _ _ _ _ _ _ _ hf hP hD hS (lv_sub hl [0, 1, 2, 3, 4] rfl)
      · have hf := fn_f hc hf
        refine lv_aload_n hx hb d_Lg_say_20 rfl (lv_at hl 0 rfl) ?_
        refine va_get (D := D) (ci := 0) (v := .ref lgA) (C := RK0) (T := TK0) (N := 4) hx hb hts iwK0 hown hK hP 0 rfl rfl 0 (by decide) (hts _ fl_Lg_9) (fun _ h9 => h9) rfl d_Lg_say_21 ?_
        refine lv_iload hx hb d_Lg_say_24 (lv_at hl 4 rfl) ?_
        refine lv_iconst (v := 1) hx hb d_Lg_say_26 (by decide) ?_
        refine lv_isub hx hb d_Lg_say_27 ?_
        have hg := fn_g hf
        have hf := fn_t hg hf
        refine va_iald hx hb hK hP 1 0 rfl rfl (fn_v hg) d_Lg_say_28 ?_
        refine lv_iload_n hx hb d_Lg_say_29 rfl (lv_at hl 1 rfl) ?_
        refine lv_icmp_le (tgt := 87) hx hb d_Lg_say_30 (by decide) (fun hc => ?_) (fun hc => ?_)
        · have hf := fn_t hc hf
          exact J_87 _ _ _ _ _ _ _ _ _ _ _ hf hP hD hS (lv_sub hl [0, 1, 2, 3, 4] rfl)
        · have hf := fn_f hc hf
          refine lv_aload_n hx hb d_Lg_say_33 rfl (lv_at hl 0 rfl) ?_
          refine va_get (D := D) (ci := 0) (v := .ref lgA) (C := RK0) (T := TK0) (N := 4) hx hb hts iwK0 hown hK hP 0 rfl rfl 0 (by decide) (hts _ fl_Lg_9) (fun _ h9 => h9) rfl d_Lg_say_34 ?_
          refine lv_iload hx hb d_Lg_say_37 (lv_at hl 4 rfl) ?_
          refine lv_aload_n hx hb d_Lg_say_39 rfl (lv_at hl 0 rfl) ?_
          refine va_get (D := D) (ci := 0) (v := .ref lgA) (C := RK0) (T := TK0) (N := 4) hx hb hts iwK0 hown hK hP 0 rfl rfl 0 (by decide) (hts _ fl_Lg_9) (fun _ h9 => h9) rfl d_Lg_say_40 ?_
          refine lv_iload hx hb d_Lg_say_43 (lv_at hl 4 rfl) ?_
          refine lv_iconst (v := 1) hx hb d_Lg_say_45 (by decide) ?_
          refine lv_isub hx hb d_Lg_say_46 ?_
          have hg := fn_g hf
          have hf := fn_t hg hf
          refine va_iald hx hb hK hP 1 0 rfl rfl (fn_v hg) d_Lg_say_47 ?_
          have hg := fn_g hf
          have hf := fn_t hg hf
          refine va_iast hx hb hK hP hD hS 1 0 rfl rfl (fn_v hg) d_Lg_say_48 (fun H locs hP hD hS => ?_)
          have hP : va_P D zz_cl [(lg, .inr (0, [.ref lgA, .ref lgT, .ref lgC, .int lgS])), (lgA, .inl (cK 0, 400, .inl (upd lgAf (Int32.toNatClampNeg v4) (lgAf (Int32.toNatClampNeg (v4 - 1)))))), (lgT, .inl (cK 0, 400, .inl lgTf)), (lgC, .inl (cK 1, 400, .inl lgCf))] H := hP
          have hD : va_D A [(lg, .inr (0, [.ref lgA, .ref lgT, .ref lgC, .int lgS])), (lgA, .inl (cK 0, 400, .inl (upd lgAf (Int32.toNatClampNeg v4) (lgAf (Int32.toNatClampNeg (v4 - 1)))))), (lgT, .inl (cK 0, 400, .inl lgTf)), (lgC, .inl (cK 1, 400, .inl lgCf))] := hD
          refine lv_aload_n hx hb d_Lg_say_49 rfl (lv_at hl 0 rfl) ?_
          refine va_get (D := D) (ci := 0) (v := .ref lgT) (C := RK0) (T := TK0) (N := 4) hx hb hts iwK0 hown hK hP 0 rfl rfl 1 (by decide) (hts _ fl_Lg_15) (fun _ h9 => h9) rfl d_Lg_say_50 ?_
          refine lv_iload hx hb d_Lg_say_53 (lv_at hl 4 rfl) ?_
          refine lv_aload_n hx hb d_Lg_say_55 rfl (lv_at hl 0 rfl) ?_
          refine va_get (D := D) (ci := 0) (v := .ref lgT) (C := RK0) (T := TK0) (N := 4) hx hb hts iwK0 hown hK hP 0 rfl rfl 1 (by decide) (hts _ fl_Lg_15) (fun _ h9 => h9) rfl d_Lg_say_56 ?_
          refine lv_iload hx hb d_Lg_say_59 (lv_at hl 4 rfl) ?_
          refine lv_iconst (v := 1) hx hb d_Lg_say_61 (by decide) ?_
          refine lv_isub hx hb d_Lg_say_62 ?_
          have hg := fn_g hf
          have hf := fn_t hg hf
          refine va_iald hx hb hK hP 2 0 rfl rfl (fn_v hg) d_Lg_say_63 ?_
          have hg := fn_g hf
          have hf := fn_t hg hf
          refine va_iast hx hb hK hP hD hS 2 0 rfl rfl (fn_v hg) d_Lg_say_64 (fun H locs hP hD hS => ?_)
          have hP : va_P D zz_cl [(lg, .inr (0, [.ref lgA, .ref lgT, .ref lgC, .int lgS])), (lgA, .inl (cK 0, 400, .inl (upd lgAf (Int32.toNatClampNeg v4) (lgAf (Int32.toNatClampNeg (v4 - 1)))))), (lgT, .inl (cK 0, 400, .inl (upd lgTf (Int32.toNatClampNeg v4) (lgTf (Int32.toNatClampNeg (v4 - 1)))))), (lgC, .inl (cK 1, 400, .inl lgCf))] H := hP
          have hD : va_D A [(lg, .inr (0, [.ref lgA, .ref lgT, .ref lgC, .int lgS])), (lgA, .inl (cK 0, 400, .inl (upd lgAf (Int32.toNatClampNeg v4) (lgAf (Int32.toNatClampNeg (v4 - 1)))))), (lgT, .inl (cK 0, 400, .inl (upd lgTf (Int32.toNatClampNeg v4) (lgTf (Int32.toNatClampNeg (v4 - 1)))))), (lgC, .inl (cK 1, 400, .inl lgCf))] := hD
          refine lv_aload_n hx hb d_Lg_say_65 rfl (lv_at hl 0 rfl) ?_
          refine va_get (D := D) (ci := 0) (v := .ref lgC) (C := RK0) (T := TK0) (N := 4) hx hb hts iwK0 hown hK hP 0 rfl rfl 2 (by decide) (hts _ fl_Lg_18) (fun _ h9 => h9) rfl d_Lg_say_66 ?_
          refine lv_iload hx hb d_Lg_say_69 (lv_at hl 4 rfl) ?_
          refine lv_aload_n hx hb d_Lg_say_71 rfl (lv_at hl 0 rfl) ?_
          refine va_get (D := D) (ci := 0) (v := .ref lgC) (C := RK0) (T := TK0) (N := 4) hx hb hts iwK0 hown hK hP 0 rfl rfl 2 (by decide) (hts _ fl_Lg_18) (fun _ h9 => h9) rfl d_Lg_say_72 ?_
          refine lv_iload hx hb d_Lg_say_75 (lv_at hl 4 rfl) ?_
          refine lv_iconst (v := 1) hx hb d_Lg_say_77 (by decide) ?_
          refine lv_isub hx hb d_Lg_say_78 ?_
          have hg := fn_g hf
          have hf := fn_t hg hf
          refine va_zald hx hb hK hP 3 1 rfl rfl (fn_v hg) d_Lg_say_79 ?_
          have hg := fn_g hf
          have hf := fn_t hg hf
          refine va_zast hx hb hK hP hD hS 3 1 rfl rfl (fn_v hg) d_Lg_say_80 (fun H locs hP hD hS => ?_)
          have hP : va_P D zz_cl [(lg, .inr (0, [.ref lgA, .ref lgT, .ref lgC, .int lgS])), (lgA, .inl (cK 0, 400, .inl (upd lgAf (Int32.toNatClampNeg v4) (lgAf (Int32.toNatClampNeg (v4 - 1)))))), (lgT, .inl (cK 0, 400, .inl (upd lgTf (Int32.toNatClampNeg v4) (lgTf (Int32.toNatClampNeg (v4 - 1)))))), (lgC, .inl (cK 1, 400, .inl (upd lgCf (Int32.toNatClampNeg v4) (vp_nar .boolean (lgCf (Int32.toNatClampNeg (v4 - 1)))))))] H := hP
          have hD : va_D A [(lg, .inr (0, [.ref lgA, .ref lgT, .ref lgC, .int lgS])), (lgA, .inl (cK 0, 400, .inl (upd lgAf (Int32.toNatClampNeg v4) (lgAf (Int32.toNatClampNeg (v4 - 1)))))), (lgT, .inl (cK 0, 400, .inl (upd lgTf (Int32.toNatClampNeg v4) (lgTf (Int32.toNatClampNeg (v4 - 1)))))), (lgC, .inl (cK 1, 400, .inl (upd lgCf (Int32.toNatClampNeg v4) (vp_nar .boolean (lgCf (Int32.toNatClampNeg (v4 - 1)))))))] := hD
          refine lv_iinc (v := (v4 + (-1))) (lv' := [(4, .int (v4 + (-1))), (0, .ref lg), (1, .int v1), (2, .int v2), (3, .int v3)]) hx hb d_Lg_say_81 hl (k := 4) rfl rfl (by decide) rfl (fun ls hl => ?_)
          refine lv_goto (tgt := 15) hx hb d_Lg_say_84 (by decide) ?_
          exact ih_15 _ _ _ _ _ _ _ _ hf hP hD hS (lv_sub hl [1, 2, 3, 4, 0] rfl)
  unfold f_Lg_say at hf
  refine lv_aload_n hx hb d_Lg_say_0 rfl (lv_at hl 0 rfl) ?_
  obtain ⟨r_1, hcl, hf⟩ := fn_e1 hf
  refine cv_RdI (rest := []) ⟨hx, hb, hml, hown, hts⟩ (c_Lg_isFull l D cK lg lgA lgT lgC lgS r_1 hcl) (cwV 0 hts (zz_V ml_Lg_26 im_Lg_isFull se_Lg_isFull in_Lg co_Lg_isFull) rfl rfl rfl ⟨rfl, hd_Lg_isFull⟩ ⟨Nat.le_of_ble_eq_true rfl, Nat.le_of_ble_eq_true rfl⟩) hK hP [0] rfl 0 rfl rfl rfl rfl hl.1 rfl (Nat.le_of_ble_eq_true rfl) d_Lg_say_1 ⟨Nat.zero_le _, Nat.zero_le _⟩ ?_
  refine lv_if_eq (tgt := 9) hx hb d_Lg_say_4 (by decide) (fun hc => ?_) (fun hc => ?_)
  · have hf := fn_t hc hf
    refine lv_aload_n hx hb d_Lg_say_9 rfl (lv_at hl 0 rfl) ?_
    refine va_get (D := D) (ci := 0) (v := .int lgS) (C := RK0) (T := TK0) (N := 4) hx hb hts iwK0 hown hK hP 0 rfl rfl 3 (by decide) (hts _ fl_Lg_22) (fun _ h9 => h9) rfl d_Lg_say_10 ?_
    refine lv_istore (lv' := [(4, .int lgS), (0, .ref lg), (1, .int v1), (2, .int v2), (3, .int v3)]) hx hb d_Lg_say_13 hl (by decide) rfl (fun ls hl => ?_)
    exact J_15 _ _ _ _ _ _ _ _ _ _ _ _ hf hP hD hS (lv_sub hl [1, 2, 3, 4, 0] rfl)
  · have hf := fn_f hc hf
    refine lv_iconst (v := (-1)) hx hb d_Lg_say_7 (by decide) ?_
    cases hf
    exact hret _ _ 8 _ hP hD hS rfl d_Lg_say_8
abbrev rm_Lg_lastOf : Room := { frames := 0, cells := 0, slots := 0, locals := 0 }
set_option maxHeartbeats 4000000 in
set_option maxRecDepth 100000 in
theorem c_Lg_lastOf (l : Launch) (D : va_G) (cK : Nat → ClassId) (lg lgA lgT lgC : Nat) (lgS : Int32) (lgAf : Nat → Int32) (lgTf : Nat → Int32) (N : Nat) (v1 : Int32) (v2 : Int32) (r : Int32) (hf : f_Lg_lastOf N lgS lgAf lgTf v1 v2 = some r) : RdI l y_Lg_lastOf w_Lg_lastOf rm_Lg_lastOf D zz_cl (mt_ty cK RK2) [.ref lg, .int v1, .int v2] [(lg, .inr (0, [.ref lgA, .ref lgT, .ref lgC, .int lgS])), (lgA, .inl (cK 0, 400, .inl lgAf)), (lgT, .inl (cK 0, 400, .inl lgTf))] r := by
  refine mk_RdI (cc := b_Lg_lastOf) (maxL := 4) (ty := .int) (by decide +kernel) rfl (Nat.le_of_ble_eq_true rfl) ?_
  intro p e s m below meth c args Q ls hx hb hml hown hts hK hP hret hl
  have hl : lv_has ls 4 [(0, .ref lg), (1, .int v1), (2, .int v2)] := hl
  have J_7 : ∀ (v1 : Int32) (v2 : Int32) (n_7 : Nat)  (v3 : Int32) (ls : Array Slot), f_Lg_lastOf_7 N lgS lgAf lgTf v1 v2 n_7 v3 = some r → lv_has ls 4 [(0, .ref lg), (1, .int v1), (2, .int v2), (3, .int v3)] → W p l e rm_Lg_lastOf s m args below meth c s.heap [] 0 0 Q (F0 m 7 ls []) := by
    intro v1 v2 n_7
    induction n_7 with
    | zero =>
      intro v3 ls hf hl
      exact fn_0 hf
    | succ n_7 ih_7 =>
      intro v3 ls hf hl
      rw [f_Lg_lastOf_7.eq_2] at hf
      refine lv_iload_n hx hb d_Lg_lastOf_7 rfl (lv_at hl 3 rfl) ?_
      refine lv_if_lt (tgt := 39) hx hb d_Lg_lastOf_8 (by decide) (fun hc => ?_) (fun hc => ?_)
      · have hf := fn_t hc hf
        refine lv_iconst (v := (-1)) hx hb d_Lg_lastOf_39 (by decide) ?_
        cases hf
        exact hret 40 _ rfl d_Lg_lastOf_40
      · have hf := fn_f hc hf
        refine lv_aload_n hx hb d_Lg_lastOf_11 rfl (lv_at hl 0 rfl) ?_
        refine va_get (D := D) (ci := 0) (v := .ref lgA) (C := RK0) (T := TK0) (N := 4) hx hb hts iwK0 hown hK hP 0 rfl rfl 0 (by decide) (hts _ fl_Lg_9) (fun _ h9 => h9) rfl d_Lg_lastOf_12 ?_
        refine lv_iload_n hx hb d_Lg_lastOf_15 rfl (lv_at hl 3 rfl) ?_
        have hg := fn_g hf
        have hf := fn_t hg hf
        refine va_iald hx hb hK hP 1 0 rfl rfl (fn_v hg) d_Lg_lastOf_16 ?_
        refine lv_iload_n hx hb d_Lg_lastOf_17 rfl (lv_at hl 2 rfl) ?_
        refine lv_icmp_gt (tgt := 33) hx hb d_Lg_lastOf_18 (by decide) (fun hc => ?_) (fun hc => ?_)
        · have hf := fn_t hc hf
          refine lv_iinc (v := (v3 + (-1))) (lv' := [(3, .int (v3 + (-1))), (0, .ref lg), (1, .int v1), (2, .int v2)]) hx hb d_Lg_lastOf_33 hl (k := 3) rfl rfl (by decide) rfl (fun ls hl => ?_)
          refine lv_goto (tgt := 7) hx hb d_Lg_lastOf_36 (by decide) ?_
          exact ih_7 _ _ hf (lv_sub hl [1, 2, 3, 0] rfl)
        · have hf := fn_f hc hf
          refine lv_aload_n hx hb d_Lg_lastOf_21 rfl (lv_at hl 0 rfl) ?_
          refine va_get (D := D) (ci := 0) (v := .ref lgT) (C := RK0) (T := TK0) (N := 4) hx hb hts iwK0 hown hK hP 0 rfl rfl 1 (by decide) (hts _ fl_Lg_15) (fun _ h9 => h9) rfl d_Lg_lastOf_22 ?_
          refine lv_iload_n hx hb d_Lg_lastOf_25 rfl (lv_at hl 3 rfl) ?_
          have hg := fn_g hf
          have hf := fn_t hg hf
          refine va_iald hx hb hK hP 2 0 rfl rfl (fn_v hg) d_Lg_lastOf_26 ?_
          refine lv_iload_n hx hb d_Lg_lastOf_27 rfl (lv_at hl 1 rfl) ?_
          refine lv_icmp_ne (tgt := 33) hx hb d_Lg_lastOf_28 (by decide) (fun hc => ?_) (fun hc => ?_)
          · have hf := fn_f hc hf
            refine lv_iinc (v := (v3 + (-1))) (lv' := [(3, .int (v3 + (-1))), (0, .ref lg), (1, .int v1), (2, .int v2)]) hx hb d_Lg_lastOf_33 hl (k := 3) rfl rfl (by decide) rfl (fun ls hl => ?_)
            refine lv_goto (tgt := 7) hx hb d_Lg_lastOf_36 (by decide) ?_
            exact ih_7 _ _ hf (lv_sub hl [1, 2, 3, 0] rfl)
          · have hf := fn_t hc hf
            refine lv_iload_n hx hb d_Lg_lastOf_31 rfl (lv_at hl 3 rfl) ?_
            cases hf
            exact hret 32 _ rfl d_Lg_lastOf_32
  unfold f_Lg_lastOf at hf
  refine lv_aload_n hx hb d_Lg_lastOf_0 rfl (lv_at hl 0 rfl) ?_
  refine va_get (D := D) (ci := 0) (v := .int lgS) (C := RK0) (T := TK0) (N := 4) hx hb hts iwK0 hown hK hP 0 rfl rfl 3 (by decide) (hts _ fl_Lg_22) (fun _ h9 => h9) rfl d_Lg_lastOf_1 ?_
  refine lv_iconst (v := 1) hx hb d_Lg_lastOf_4 (by decide) ?_
  refine lv_isub hx hb d_Lg_lastOf_5 ?_
  refine lv_istore_n (lv' := [(3, .int (lgS - 1)), (0, .ref lg), (1, .int v1), (2, .int v2)]) hx hb d_Lg_lastOf_6 rfl hl (by decide) rfl (fun ls hl => ?_)
  exact J_7 _ _ _ _ _ hf (lv_sub hl [1, 2, 3, 0] rfl)
abbrev rm_Lg_isPlace : Room := { frames := 0, cells := 0, slots := 0, locals := 0 }
set_option maxHeartbeats 4000000 in
set_option maxRecDepth 100000 in
theorem c_Lg_isPlace (l : Launch) (D : va_G) (cK : Nat → ClassId) (lg lgA lgT lgC : Nat) (lgS : Int32) (v1 : Int32) (r : Int32) (hf : f_Lg_isPlace lgS v1 = some r) : RdI l y_Lg_isPlace w_Lg_isPlace rm_Lg_isPlace D zz_cl (mt_ty cK RK2) [.ref lg, .int v1] [(lg, .inr (0, [.ref lgA, .ref lgT, .ref lgC, .int lgS]))] r := by
  refine mk_RdI (cc := b_Lg_isPlace) (maxL := 2) (ty := .boolean) (by decide +kernel) rfl (Nat.le_of_ble_eq_true rfl) ?_
  intro p e s m below meth c args Q ls hx hb hml hown hts hK hP hret hl
  have hl : lv_has ls 2 [(0, .ref lg), (1, .int v1)] := hl
  unfold f_Lg_isPlace at hf
  refine lv_iload_n hx hb d_Lg_isPlace_0 rfl (lv_at hl 1 rfl) ?_
  refine lv_if_lt (tgt := 16) hx hb d_Lg_isPlace_1 (by decide) (fun hc => ?_) (fun hc => ?_)
  · have hf := fn_t hc hf
    refine lv_iconst (v := 0) hx hb d_Lg_isPlace_16 (by decide) ?_
    cases hf
    exact hret 17 _ rfl d_Lg_isPlace_17
  · have hf := fn_f hc hf
    refine lv_iload_n hx hb d_Lg_isPlace_4 rfl (lv_at hl 1 rfl) ?_
    refine lv_aload_n hx hb d_Lg_isPlace_5 rfl (lv_at hl 0 rfl) ?_
    refine va_get (D := D) (ci := 0) (v := .int lgS) (C := RK0) (T := TK0) (N := 4) hx hb hts iwK0 hown hK hP 0 rfl rfl 3 (by decide) (hts _ fl_Lg_22) (fun _ h9 => h9) rfl d_Lg_isPlace_6 ?_
    refine lv_icmp_ge (tgt := 16) hx hb d_Lg_isPlace_9 (by decide) (fun hc => ?_) (fun hc => ?_)
    · have hf := fn_t hc hf
      refine lv_iconst (v := 0) hx hb d_Lg_isPlace_16 (by decide) ?_
      cases hf
      exact hret 17 _ rfl d_Lg_isPlace_17
    · have hf := fn_f hc hf
      refine lv_iconst (v := 1) hx hb d_Lg_isPlace_12 (by decide) ?_
      refine lv_goto (tgt := 17) hx hb d_Lg_isPlace_13 (by decide) ?_
      cases hf
      exact hret 17 _ rfl d_Lg_isPlace_17
abbrev rm_Jm_max : Room := { frames := 0, cells := 0, slots := 0, locals := 0 }
set_option maxHeartbeats 4000000 in
set_option maxRecDepth 100000 in
theorem c_Jm_max (l : Launch) (D : va_G) (cK : Nat → ClassId)  (v0 : Int32) (v1 : Int32) (r : Int32) (hf : f_Jm_max v0 v1 = some r) : RdI l y_Jm_max w_Jm_max rm_Jm_max D zz_cl (mt_ty cK RK2) [.int v0, .int v1] [] r := by
  refine mk_RdI (cc := b_Jm_max) (maxL := 2) (ty := .int) (by decide +kernel) rfl (Nat.le_of_ble_eq_true rfl) ?_
  intro p e s m below meth c args Q ls hx hb hml hown hts hK hP hret hl
  have hl : lv_has ls 2 [(0, .int v0), (1, .int v1)] := hl
  unfold f_Jm_max at hf
  refine lv_iload_n hx hb d_Jm_max_0 rfl (lv_at hl 0 rfl) ?_
  refine lv_iload_n hx hb d_Jm_max_1 rfl (lv_at hl 1 rfl) ?_
  refine lv_icmp_lt (tgt := 9) hx hb d_Jm_max_2 (by decide) (fun hc => ?_) (fun hc => ?_)
  · have hf := fn_t hc hf
    refine lv_iload_n hx hb d_Jm_max_9 rfl (lv_at hl 1 rfl) ?_
    cases hf
    exact hret 10 _ rfl d_Jm_max_10
  · have hf := fn_f hc hf
    refine lv_iload_n hx hb d_Jm_max_5 rfl (lv_at hl 0 rfl) ?_
    refine lv_goto (tgt := 10) hx hb d_Jm_max_6 (by decide) ?_
    cases hf
    exact hret 10 _ rfl d_Jm_max_10
abbrev rm_Jm_floorMod : Room := { frames := 0, cells := 0, slots := 0, locals := 0 }
set_option maxHeartbeats 4000000 in
set_option maxRecDepth 100000 in
theorem c_Jm_floorMod (l : Launch) (D : va_G) (cK : Nat → ClassId)  (v0 : Int32) (v1 : Int32) (r : Int32) (hf : f_Jm_floorMod v0 v1 = some r) : RdI l y_Jm_floorMod w_Jm_floorMod rm_Jm_floorMod D zz_cl (mt_ty cK RK2) [.int v0, .int v1] [] r := by
  refine mk_RdI (cc := b_Jm_floorMod) (maxL := 3) (ty := .int) (by decide +kernel) rfl (Nat.le_of_ble_eq_true rfl) ?_
  intro p e s m below meth c args Q ls hx hb hml hown hts hK hP hret hl
  have hl : lv_has ls 3 [(0, .int v0), (1, .int v1)] := hl
  unfold f_Jm_floorMod at hf
  refine lv_iload_n hx hb d_Jm_floorMod_0 rfl (lv_at hl 0 rfl) ?_
  refine lv_iload_n hx hb d_Jm_floorMod_1 rfl (lv_at hl 1 rfl) ?_
  have hg := fn_g hf
  have hf := fn_t hg hf
  refine lv_irem hx hb d_Jm_floorMod_2 hg ?_
  refine lv_istore_n (lv' := [(2, .int (v0 - v0 / v1 * v1)), (0, .int v0), (1, .int v1)]) hx hb d_Jm_floorMod_3 rfl hl (by decide) rfl (fun ls hl => ?_)
  refine lv_iload_n hx hb d_Jm_floorMod_4 rfl (lv_at hl 1 rfl) ?_
  refine lv_iload_n hx hb d_Jm_floorMod_5 rfl (lv_at hl 2 rfl) ?_
  refine lv_ixor hx hb d_Jm_floorMod_6 ?_
  refine lv_if_ge (tgt := 18) hx hb d_Jm_floorMod_7 (by decide) (fun hc => ?_) (fun hc => ?_)
  · have hf := fn_t hc hf
    refine lv_iload_n hx hb d_Jm_floorMod_18 rfl (lv_at hl 0 rfl) ?_
    cases hf
    exact hret 19 _ rfl d_Jm_floorMod_19
  · have hf := fn_f hc hf
    refine lv_iload_n hx hb d_Jm_floorMod_10 rfl (lv_at hl 0 rfl) ?_
    refine lv_if_eq (tgt := 18) hx hb d_Jm_floorMod_11 (by decide) (fun hc => ?_) (fun hc => ?_)
    · have hf := fn_t hc hf
      refine lv_iload_n hx hb d_Jm_floorMod_18 rfl (lv_at hl 0 rfl) ?_
      cases hf
      exact hret 19 _ rfl d_Jm_floorMod_19
    · have hf := fn_f hc hf
      refine lv_iload_n hx hb d_Jm_floorMod_14 rfl (lv_at hl 0 rfl) ?_
      refine lv_iload_n hx hb d_Jm_floorMod_15 rfl (lv_at hl 2 rfl) ?_
      refine lv_iadd hx hb d_Jm_floorMod_16 ?_
      cases hf
      exact hret 17 _ rfl d_Jm_floorMod_17
abbrev rm_Jm_min : Room := { frames := 0, cells := 0, slots := 0, locals := 0 }
set_option maxHeartbeats 4000000 in
set_option maxRecDepth 100000 in
theorem c_Jm_min (l : Launch) (D : va_G) (cK : Nat → ClassId)  (v0 : Int32) (v1 : Int32) (r : Int32) (hf : f_Jm_min v0 v1 = some r) : RdI l y_Jm_min w_Jm_min rm_Jm_min D zz_cl (mt_ty cK RK2) [.int v0, .int v1] [] r := by
  refine mk_RdI (cc := b_Jm_min) (maxL := 2) (ty := .int) (by decide +kernel) rfl (Nat.le_of_ble_eq_true rfl) ?_
  intro p e s m below meth c args Q ls hx hb hml hown hts hK hP hret hl
  have hl : lv_has ls 2 [(0, .int v0), (1, .int v1)] := hl
  unfold f_Jm_min at hf
  refine lv_iload_n hx hb d_Jm_min_0 rfl (lv_at hl 0 rfl) ?_
  refine lv_iload_n hx hb d_Jm_min_1 rfl (lv_at hl 1 rfl) ?_
  refine lv_icmp_gt (tgt := 9) hx hb d_Jm_min_2 (by decide) (fun hc => ?_) (fun hc => ?_)
  · have hf := fn_t hc hf
    refine lv_iload_n hx hb d_Jm_min_9 rfl (lv_at hl 1 rfl) ?_
    cases hf
    exact hret 10 _ rfl d_Jm_min_10
  · have hf := fn_f hc hf
    refine lv_iload_n hx hb d_Jm_min_5 rfl (lv_at hl 0 rfl) ?_
    refine lv_goto (tgt := 10) hx hb d_Jm_min_6 (by decide) ?_
    cases hf
    exact hret 10 _ rfl d_Jm_min_10
abbrev rm_Ja_fill : Room := { frames := 0, cells := 0, slots := 0, locals := 0 }
set_option maxHeartbeats 4000000 in
set_option maxRecDepth 100000 in
theorem c_Ja_fill (l : Launch) (D : va_G) (cK : Nat → ClassId) (ar : Nat) (arM : Nat) (arf : Nat → Int32) (N : Nat) (v1 : Int32) (o_arf : Nat → Int32) (hf : f_Ja_fill N arM arf v1 = some o_arf) : WrV l y_Ja_fill w_Ja_fill rm_Ja_fill D zz_cl (mt_ty cK RK2) [.ref ar, .int v1] [(ar, .inl (cK 0, arM, .inl arf))] [(ar, .inl (cK 0, arM, .inl o_arf))] := by
  refine mk_WrV (cc := b_Ja_fill) (maxL := 4) (by decide +kernel) rfl (Nat.le_of_ble_eq_true rfl) ?_
  intro p e s m below meth c args Q A ls hx hb hml hown hts hA hK hP hD hret hl
  have hS : va_S A s.heap s.heap [] := va_S.rf
  have hl : lv_has ls 4 [(0, .ref ar), (1, .int v1)] := hl
  have J_5 : ∀ (v1 : Int32) (v3 : Int32) (n_5 : Nat) (arf : Nat → Int32) (v2 : Int32) (H : Heap) (locs : List Loc) (ls : Array Slot), f_Ja_fill_5 N arM v1 v3 n_5 arf v2 = some o_arf → va_P D zz_cl [(ar, .inl (cK 0, arM, .inl arf))] H → va_D A [(ar, .inl (cK 0, arM, .inl arf))] → va_S A s.heap H locs → lv_has ls 4 [(0, .ref ar), (1, .int v1), (2, .int v2), (3, .int v3)] → W p l e rm_Ja_fill s m args below meth c H locs 0 0 Q (F0 m 5 ls []) := by
    intro v1 v3 n_5
    induction n_5 with
    | zero =>
      intro arf v2 H locs ls hf hP hD hS hl
      exact fn_0 hf
    | succ n_5 ih_5 =>
      intro arf v2 H locs ls hf hP hD hS hl
      rw [f_Ja_fill_5.eq_2] at hf
      refine lv_iload_n hx hb d_Ja_fill_5 rfl (lv_at hl 2 rfl) ?_
      refine lv_iload_n hx hb d_Ja_fill_6 rfl (lv_at hl 3 rfl) ?_
      refine lv_icmp_ge (tgt := 20) hx hb d_Ja_fill_7 (by decide) (fun hc => ?_) (fun hc => ?_)
      · have hf := fn_t hc hf
        cases hf
        exact hret _ _ 20 _ hP hD hS d_Ja_fill_20
      · have hf := fn_f hc hf
        refine lv_aload_n hx hb d_Ja_fill_10 rfl (lv_at hl 0 rfl) ?_
        refine lv_iload_n hx hb d_Ja_fill_11 rfl (lv_at hl 2 rfl) ?_
        refine lv_iload_n hx hb d_Ja_fill_12 rfl (lv_at hl 1 rfl) ?_
        have hg := fn_g hf
        have hf := fn_t hg hf
        refine va_iast hx hb hK hP hD hS 0 0 rfl rfl (fn_v hg) d_Ja_fill_13 (fun H locs hP hD hS => ?_)
        have hP : va_P D zz_cl [(ar, .inl (cK 0, arM, .inl (upd arf (Int32.toNatClampNeg v2) v1)))] H := hP
        have hD : va_D A [(ar, .inl (cK 0, arM, .inl (upd arf (Int32.toNatClampNeg v2) v1)))] := hD
        refine lv_iinc (v := (v2 + 1)) (lv' := [(2, .int (v2 + 1)), (0, .ref ar), (1, .int v1), (3, .int v3)]) hx hb d_Ja_fill_14 hl (k := 2) rfl rfl (by decide) rfl (fun ls hl => ?_)
        refine lv_goto (tgt := 5) hx hb d_Ja_fill_17 (by decide) ?_
        exact ih_5 _ _ _ _ _ hf hP hD hS (lv_sub hl [1, 2, 0, 3] rfl)
  unfold f_Ja_fill at hf
  refine lv_iconst (v := 0) hx hb d_Ja_fill_0 (by decide) ?_
  refine lv_istore_n (lv' := [(2, .int 0), (0, .ref ar), (1, .int v1)]) hx hb d_Ja_fill_1 rfl hl (by decide) rfl (fun ls hl => ?_)
  refine lv_aload_n hx hb d_Ja_fill_2 rfl (lv_at hl 1 rfl) ?_
  refine va_alen hx hb hK hP 0 0 rfl rfl rfl d_Ja_fill_3 ?_
  refine lv_istore_n (lv' := [(3, .int (Int32.ofNat arM)), (2, .int 0), (0, .ref ar), (1, .int v1)]) hx hb d_Ja_fill_4 rfl hl (by decide) rfl (fun ls hl => ?_)
  exact J_5 _ _ _ _ _ _ _ _ hf hP hD hS (lv_sub hl [2, 3, 1, 0] rfl)
abbrev rm_Ji_bitCount : Room := { frames := 0, cells := 0, slots := 0, locals := 0 }
set_option maxHeartbeats 4000000 in
set_option maxRecDepth 100000 in
theorem c_Ji_bitCount (l : Launch) (D : va_G) (cK : Nat → ClassId)  (v0 : Int32) (r : Int32) (hf : f_Ji_bitCount v0 = some r) : RdI l y_Ji_bitCount w_Ji_bitCount rm_Ji_bitCount D zz_cl (mt_ty cK RK2) [.int v0] [] r := by
  refine mk_RdI (cc := b_Ji_bitCount) (maxL := 1) (ty := .int) (by decide +kernel) rfl (Nat.le_of_ble_eq_true rfl) ?_
  intro p e s m below meth c args Q ls hx hb hml hown hts hK hP hret hl
  have hl : lv_has ls 1 [(0, .int v0)] := hl
  unfold f_Ji_bitCount at hf
  refine lv_iload_n hx hb d_Ji_bitCount_0 rfl (lv_at hl 0 rfl) ?_
  refine lv_iload_n hx hb d_Ji_bitCount_1 rfl (lv_at hl 0 rfl) ?_
  refine lv_iconst (v := 1) hx hb d_Ji_bitCount_2 (by decide) ?_
  refine lv_iushr hx hb d_Ji_bitCount_3 rfl ?_
  refine lv_ldcw (v := 1431655765) hx hb hown (hts _ kn_Ji_265) d_Ji_bitCount_4 ?_
  refine lv_iand hx hb d_Ji_bitCount_7 ?_
  refine lv_isub hx hb d_Ji_bitCount_8 ?_
  refine lv_istore_n (lv' := [(0, .int (v0 - ((Int32.toUInt32 v0 >>> (Int32.toUInt32 1 &&& Int32.toUInt32 31)).toInt32 &&& 1431655765)))]) hx hb d_Ji_bitCount_9 rfl hl (by decide) rfl (fun ls hl => ?_)
  refine lv_iload_n hx hb d_Ji_bitCount_10 rfl (lv_at hl 0 rfl) ?_
  refine lv_ldcw (v := 858993459) hx hb hown (hts _ kn_Ji_266) d_Ji_bitCount_11 ?_
  refine lv_iand hx hb d_Ji_bitCount_14 ?_
  refine lv_iload_n hx hb d_Ji_bitCount_15 rfl (lv_at hl 0 rfl) ?_
  refine lv_iconst (v := 2) hx hb d_Ji_bitCount_16 (by decide) ?_
  refine lv_iushr hx hb d_Ji_bitCount_17 rfl ?_
  refine lv_ldcw (v := 858993459) hx hb hown (hts _ kn_Ji_266) d_Ji_bitCount_18 ?_
  refine lv_iand hx hb d_Ji_bitCount_21 ?_
  refine lv_iadd hx hb d_Ji_bitCount_22 ?_
  refine lv_istore_n (lv' := [(0, .int (((v0 - ((Int32.toUInt32 v0 >>> (Int32.toUInt32 1 &&& Int32.toUInt32 31)).toInt32 &&& 1431655765)) &&& 858993459) + ((Int32.toUInt32 (v0 - ((Int32.toUInt32 v0 >>> (Int32.toUInt32 1 &&& Int32.toUInt32 31)).toInt32 &&& 1431655765)) >>> (Int32.toUInt32 2 &&& Int32.toUInt32 31)).toInt32 &&& 858993459)))]) hx hb d_Ji_bitCount_23 rfl hl (by decide) rfl (fun ls hl => ?_)
  refine lv_iload_n hx hb d_Ji_bitCount_24 rfl (lv_at hl 0 rfl) ?_
  refine lv_iload_n hx hb d_Ji_bitCount_25 rfl (lv_at hl 0 rfl) ?_
  refine lv_iconst (v := 4) hx hb d_Ji_bitCount_26 (by decide) ?_
  refine lv_iushr hx hb d_Ji_bitCount_27 rfl ?_
  refine lv_iadd hx hb d_Ji_bitCount_28 ?_
  refine lv_ldcw (v := 252645135) hx hb hown (hts _ kn_Ji_267) d_Ji_bitCount_29 ?_
  refine lv_iand hx hb d_Ji_bitCount_32 ?_
  refine lv_istore_n (lv' := [(0, .int (((((v0 - ((Int32.toUInt32 v0 >>> (Int32.toUInt32 1 &&& Int32.toUInt32 31)).toInt32 &&& 1431655765)) &&& 858993459) + ((Int32.toUInt32 (v0 - ((Int32.toUInt32 v0 >>> (Int32.toUInt32 1 &&& Int32.toUInt32 31)).toInt32 &&& 1431655765)) >>> (Int32.toUInt32 2 &&& Int32.toUInt32 31)).toInt32 &&& 858993459)) + (Int32.toUInt32 (((v0 - ((Int32.toUInt32 v0 >>> (Int32.toUInt32 1 &&& Int32.toUInt32 31)).toInt32 &&& 1431655765)) &&& 858993459) + ((Int32.toUInt32 (v0 - ((Int32.toUInt32 v0 >>> (Int32.toUInt32 1 &&& Int32.toUInt32 31)).toInt32 &&& 1431655765)) >>> (Int32.toUInt32 2 &&& Int32.toUInt32 31)).toInt32 &&& 858993459)) >>> (Int32.toUInt32 4 &&& Int32.toUInt32 31)).toInt32) &&& 252645135))]) hx hb d_Ji_bitCount_33 rfl hl (by decide) rfl (fun ls hl => ?_)
  refine lv_iload_n hx hb d_Ji_bitCount_34 rfl (lv_at hl 0 rfl) ?_
  refine lv_iload_n hx hb d_Ji_bitCount_35 rfl (lv_at hl 0 rfl) ?_
  refine lv_bipush (v := 8) hx hb d_Ji_bitCount_36 (by decide) ?_
  refine lv_iushr hx hb d_Ji_bitCount_38 rfl ?_
  refine lv_iadd hx hb d_Ji_bitCount_39 ?_
  refine lv_istore_n (lv' := [(0, .int ((((((v0 - ((Int32.toUInt32 v0 >>> (Int32.toUInt32 1 &&& Int32.toUInt32 31)).toInt32 &&& 1431655765)) &&& 858993459) + ((Int32.toUInt32 (v0 - ((Int32.toUInt32 v0 >>> (Int32.toUInt32 1 &&& Int32.toUInt32 31)).toInt32 &&& 1431655765)) >>> (Int32.toUInt32 2 &&& Int32.toUInt32 31)).toInt32 &&& 858993459)) + (Int32.toUInt32 (((v0 - ((Int32.toUInt32 v0 >>> (Int32.toUInt32 1 &&& Int32.toUInt32 31)).toInt32 &&& 1431655765)) &&& 858993459) + ((Int32.toUInt32 (v0 - ((Int32.toUInt32 v0 >>> (Int32.toUInt32 1 &&& Int32.toUInt32 31)).toInt32 &&& 1431655765)) >>> (Int32.toUInt32 2 &&& Int32.toUInt32 31)).toInt32 &&& 858993459)) >>> (Int32.toUInt32 4 &&& Int32.toUInt32 31)).toInt32) &&& 252645135) + (Int32.toUInt32 (((((v0 - ((Int32.toUInt32 v0 >>> (Int32.toUInt32 1 &&& Int32.toUInt32 31)).toInt32 &&& 1431655765)) &&& 858993459) + ((Int32.toUInt32 (v0 - ((Int32.toUInt32 v0 >>> (Int32.toUInt32 1 &&& Int32.toUInt32 31)).toInt32 &&& 1431655765)) >>> (Int32.toUInt32 2 &&& Int32.toUInt32 31)).toInt32 &&& 858993459)) + (Int32.toUInt32 (((v0 - ((Int32.toUInt32 v0 >>> (Int32.toUInt32 1 &&& Int32.toUInt32 31)).toInt32 &&& 1431655765)) &&& 858993459) + ((Int32.toUInt32 (v0 - ((Int32.toUInt32 v0 >>> (Int32.toUInt32 1 &&& Int32.toUInt32 31)).toInt32 &&& 1431655765)) >>> (Int32.toUInt32 2 &&& Int32.toUInt32 31)).toInt32 &&& 858993459)) >>> (Int32.toUInt32 4 &&& Int32.toUInt32 31)).toInt32) &&& 252645135) >>> (Int32.toUInt32 8 &&& Int32.toUInt32 31)).toInt32))]) hx hb d_Ji_bitCount_40 rfl hl (by decide) rfl (fun ls hl => ?_)
  refine lv_iload_n hx hb d_Ji_bitCount_41 rfl (lv_at hl 0 rfl) ?_
  refine lv_iload_n hx hb d_Ji_bitCount_42 rfl (lv_at hl 0 rfl) ?_
  refine lv_bipush (v := 16) hx hb d_Ji_bitCount_43 (by decide) ?_
  refine lv_iushr hx hb d_Ji_bitCount_45 rfl ?_
  refine lv_iadd hx hb d_Ji_bitCount_46 ?_
  refine lv_istore_n (lv' := [(0, .int (((((((v0 - ((Int32.toUInt32 v0 >>> (Int32.toUInt32 1 &&& Int32.toUInt32 31)).toInt32 &&& 1431655765)) &&& 858993459) + ((Int32.toUInt32 (v0 - ((Int32.toUInt32 v0 >>> (Int32.toUInt32 1 &&& Int32.toUInt32 31)).toInt32 &&& 1431655765)) >>> (Int32.toUInt32 2 &&& Int32.toUInt32 31)).toInt32 &&& 858993459)) + (Int32.toUInt32 (((v0 - ((Int32.toUInt32 v0 >>> (Int32.toUInt32 1 &&& Int32.toUInt32 31)).toInt32 &&& 1431655765)) &&& 858993459) + ((Int32.toUInt32 (v0 - ((Int32.toUInt32 v0 >>> (Int32.toUInt32 1 &&& Int32.toUInt32 31)).toInt32 &&& 1431655765)) >>> (Int32.toUInt32 2 &&& Int32.toUInt32 31)).toInt32 &&& 858993459)) >>> (Int32.toUInt32 4 &&& Int32.toUInt32 31)).toInt32) &&& 252645135) + (Int32.toUInt32 (((((v0 - ((Int32.toUInt32 v0 >>> (Int32.toUInt32 1 &&& Int32.toUInt32 31)).toInt32 &&& 1431655765)) &&& 858993459) + ((Int32.toUInt32 (v0 - ((Int32.toUInt32 v0 >>> (Int32.toUInt32 1 &&& Int32.toUInt32 31)).toInt32 &&& 1431655765)) >>> (Int32.toUInt32 2 &&& Int32.toUInt32 31)).toInt32 &&& 858993459)) + (Int32.toUInt32 (((v0 - ((Int32.toUInt32 v0 >>> (Int32.toUInt32 1 &&& Int32.toUInt32 31)).toInt32 &&& 1431655765)) &&& 858993459) + ((Int32.toUInt32 (v0 - ((Int32.toUInt32 v0 >>> (Int32.toUInt32 1 &&& Int32.toUInt32 31)).toInt32 &&& 1431655765)) >>> (Int32.toUInt32 2 &&& Int32.toUInt32 31)).toInt32 &&& 858993459)) >>> (Int32.toUInt32 4 &&& Int32.toUInt32 31)).toInt32) &&& 252645135) >>> (Int32.toUInt32 8 &&& Int32.toUInt32 31)).toInt32) + (Int32.toUInt32 ((((((v0 - ((Int32.toUInt32 v0 >>> (Int32.toUInt32 1 &&& Int32.toUInt32 31)).toInt32 &&& 1431655765)) &&& 858993459) + ((Int32.toUInt32 (v0 - ((Int32.toUInt32 v0 >>> (Int32.toUInt32 1 &&& Int32.toUInt32 31)).toInt32 &&& 1431655765)) >>> (Int32.toUInt32 2 &&& Int32.toUInt32 31)).toInt32 &&& 858993459)) + (Int32.toUInt32 (((v0 - ((Int32.toUInt32 v0 >>> (Int32.toUInt32 1 &&& Int32.toUInt32 31)).toInt32 &&& 1431655765)) &&& 858993459) + ((Int32.toUInt32 (v0 - ((Int32.toUInt32 v0 >>> (Int32.toUInt32 1 &&& Int32.toUInt32 31)).toInt32 &&& 1431655765)) >>> (Int32.toUInt32 2 &&& Int32.toUInt32 31)).toInt32 &&& 858993459)) >>> (Int32.toUInt32 4 &&& Int32.toUInt32 31)).toInt32) &&& 252645135) + (Int32.toUInt32 (((((v0 - ((Int32.toUInt32 v0 >>> (Int32.toUInt32 1 &&& Int32.toUInt32 31)).toInt32 &&& 1431655765)) &&& 858993459) + ((Int32.toUInt32 (v0 - ((Int32.toUInt32 v0 >>> (Int32.toUInt32 1 &&& Int32.toUInt32 31)).toInt32 &&& 1431655765)) >>> (Int32.toUInt32 2 &&& Int32.toUInt32 31)).toInt32 &&& 858993459)) + (Int32.toUInt32 (((v0 - ((Int32.toUInt32 v0 >>> (Int32.toUInt32 1 &&& Int32.toUInt32 31)).toInt32 &&& 1431655765)) &&& 858993459) + ((Int32.toUInt32 (v0 - ((Int32.toUInt32 v0 >>> (Int32.toUInt32 1 &&& Int32.toUInt32 31)).toInt32 &&& 1431655765)) >>> (Int32.toUInt32 2 &&& Int32.toUInt32 31)).toInt32 &&& 858993459)) >>> (Int32.toUInt32 4 &&& Int32.toUInt32 31)).toInt32) &&& 252645135) >>> (Int32.toUInt32 8 &&& Int32.toUInt32 31)).toInt32) >>> (Int32.toUInt32 16 &&& Int32.toUInt32 31)).toInt32))]) hx hb d_Ji_bitCount_47 rfl hl (by decide) rfl (fun ls hl => ?_)
  refine lv_iload_n hx hb d_Ji_bitCount_48 rfl (lv_at hl 0 rfl) ?_
  refine lv_bipush (v := 63) hx hb d_Ji_bitCount_49 (by decide) ?_
  refine lv_iand hx hb d_Ji_bitCount_51 ?_
  cases hf
  exact hret 52 _ rfl d_Ji_bitCount_52
abbrev rm_Lg_heldUntil : Room := { frames := 1, cells := 0, slots := 0, locals := 21 }
set_option maxHeartbeats 4000000 in
set_option maxRecDepth 100000 in
theorem c_Lg_heldUntil (l : Launch) (D : va_G) (cK : Nat → ClassId) (lg lgA lgT lgC : Nat) (lgS : Int32) (lgAf : Nat → Int32) (lgTf : Nat → Int32) (N : Nat) (v1 : Int32) (r : Int32) (hf : f_Lg_heldUntil N lgS lgAf lgTf v1 = some r) : RdI l y_Lg_heldUntil w_Lg_heldUntil rm_Lg_heldUntil D zz_cl (mt_ty cK RK2) [.ref lg, .int v1] [(lg, .inr (0, [.ref lgA, .ref lgT, .ref lgC, .int lgS])), (lgA, .inl (cK 0, 400, .inl lgAf)), (lgT, .inl (cK 0, 400, .inl lgTf))] r := by
  refine mk_RdI (cc := b_Lg_heldUntil) (maxL := 3) (ty := .int) (by decide +kernel) rfl (Nat.le_of_ble_eq_true rfl) ?_
  intro p e s m below meth c args Q ls hx hb hml hown hts hK hP hret hl
  have hl : lv_has ls 3 [(0, .ref lg), (1, .int v1)] := hl
  have J_14 : ∀ (v1 : Int32) (n_14 : Nat)  (v2 : Int32) (ls : Array Slot), f_Lg_heldUntil_14 N lgS lgAf lgTf v1 n_14 v2 = some r → lv_has ls 3 [(0, .ref lg), (1, .int v1), (2, .int v2)] → W p l e rm_Lg_heldUntil s m args below meth c s.heap [] 0 0 Q (F0 m 14 ls []) := by
    intro v1 n_14
    induction n_14 with
    | zero =>
      intro v2 ls hf hl
      exact fn_0 hf
    | succ n_14 ih_14 =>
      intro v2 ls hf hl
      rw [f_Lg_heldUntil_14.eq_2] at hf
      refine lv_iload_n hx hb d_Lg_heldUntil_14 rfl (lv_at hl 2 rfl) ?_
      refine lv_aload_n hx hb d_Lg_heldUntil_15 rfl (lv_at hl 0 rfl) ?_
      refine va_get (D := D) (ci := 0) (v := .int lgS) (C := RK0) (T := TK0) (N := 4) hx hb hts iwK0 hown hK hP 0 rfl rfl 3 (by decide) (hts _ fl_Lg_22) (fun _ h9 => h9) rfl d_Lg_heldUntil_16 ?_
      refine lv_icmp_ge (tgt := 50) hx hb d_Lg_heldUntil_19 (by decide) (fun hc => ?_) (fun hc => ?_)
      · have hf := fn_t hc hf
        refine lv_bipush (v := 62) hx hb d_Lg_heldUntil_50 (by decide) ?_
        cases hf
        exact hret 52 _ rfl d_Lg_heldUntil_52
      · have hf := fn_f hc hf
        refine lv_aload_n hx hb d_Lg_heldUntil_22 rfl (lv_at hl 0 rfl) ?_
        refine va_get (D := D) (ci := 0) (v := .ref lgT) (C := RK0) (T := TK0) (N := 4) hx hb hts iwK0 hown hK hP 0 rfl rfl 1 (by decide) (hts _ fl_Lg_15) (fun _ h9 => h9) rfl d_Lg_heldUntil_23 ?_
        refine lv_iload_n hx hb d_Lg_heldUntil_26 rfl (lv_at hl 2 rfl) ?_
        have hg := fn_g hf
        have hf := fn_t hg hf
        refine va_iald hx hb hK hP 2 0 rfl rfl (fn_v hg) d_Lg_heldUntil_27 ?_
        refine lv_aload_n hx hb d_Lg_heldUntil_28 rfl (lv_at hl 0 rfl) ?_
        refine va_get (D := D) (ci := 0) (v := .ref lgT) (C := RK0) (T := TK0) (N := 4) hx hb hts iwK0 hown hK hP 0 rfl rfl 1 (by decide) (hts _ fl_Lg_15) (fun _ h9 => h9) rfl d_Lg_heldUntil_29 ?_
        refine lv_iload_n hx hb d_Lg_heldUntil_32 rfl (lv_at hl 1 rfl) ?_
        have hg := fn_g hf
        have hf := fn_t hg hf
        refine va_iald hx hb hK hP 2 0 rfl rfl (fn_v hg) d_Lg_heldUntil_33 ?_
        refine lv_icmp_ne (tgt := 44) hx hb d_Lg_heldUntil_34 (by decide) (fun hc => ?_) (fun hc => ?_)
        · have hf := fn_f hc hf
          refine lv_iinc (v := (v2 + 1)) (lv' := [(2, .int (v2 + 1)), (0, .ref lg), (1, .int v1)]) hx hb d_Lg_heldUntil_44 hl (k := 2) rfl rfl (by decide) rfl (fun ls hl => ?_)
          refine lv_goto (tgt := 14) hx hb d_Lg_heldUntil_47 (by decide) ?_
          exact ih_14 _ _ hf (lv_sub hl [1, 2, 0] rfl)
        · have hf := fn_t hc hf
          refine lv_aload_n hx hb d_Lg_heldUntil_37 rfl (lv_at hl 0 rfl) ?_
          refine va_get (D := D) (ci := 0) (v := .ref lgA) (C := RK0) (T := TK0) (N := 4) hx hb hts iwK0 hown hK hP 0 rfl rfl 0 (by decide) (hts _ fl_Lg_9) (fun _ h9 => h9) rfl d_Lg_heldUntil_38 ?_
          refine lv_iload_n hx hb d_Lg_heldUntil_41 rfl (lv_at hl 2 rfl) ?_
          have hg := fn_g hf
          have hf := fn_t hg hf
          refine va_iald hx hb hK hP 1 0 rfl rfl (fn_v hg) d_Lg_heldUntil_42 ?_
          cases hf
          exact hret 43 _ rfl d_Lg_heldUntil_43
  unfold f_Lg_heldUntil at hf
  refine lv_aload_n hx hb d_Lg_heldUntil_0 rfl (lv_at hl 0 rfl) ?_
  refine lv_iload_n hx hb d_Lg_heldUntil_1 rfl (lv_at hl 1 rfl) ?_
  obtain ⟨r_2, hcl, hf⟩ := fn_e1 hf
  refine cv_RdI (rest := []) ⟨hx, hb, hml, hown, hts⟩ (c_Lg_isPlace l D cK lg lgA lgT lgC lgS v1 r_2 hcl) (cwV 1 hts (zz_V ml_Lg_30 im_Lg_isPlace se_Lg_isPlace in_Lg co_Lg_isPlace) rfl rfl rfl ⟨rfl, hd_Lg_isPlace⟩ ⟨Nat.le_of_ble_eq_true rfl, Nat.le_of_ble_eq_true rfl⟩) hK hP [0] rfl 0 rfl rfl rfl rfl hl.1 rfl (Nat.le_of_ble_eq_true rfl) d_Lg_heldUntil_2 ⟨Nat.zero_le _, Nat.zero_le _⟩ ?_
  refine lv_if_ne (tgt := 10) hx hb d_Lg_heldUntil_5 (by decide) (fun hc => ?_) (fun hc => ?_)
  · have hf := fn_f hc hf
    refine lv_iload_n hx hb d_Lg_heldUntil_10 rfl (lv_at hl 1 rfl) ?_
    refine lv_iconst (v := 1) hx hb d_Lg_heldUntil_11 (by decide) ?_
    refine lv_iadd hx hb d_Lg_heldUntil_12 ?_
    refine lv_istore_n (lv' := [(2, .int (v1 + 1)), (0, .ref lg), (1, .int v1)]) hx hb d_Lg_heldUntil_13 rfl hl (by decide) rfl (fun ls hl => ?_)
    exact J_14 _ _ _ _ hf (lv_sub hl [1, 2, 0] rfl)
  · have hf := fn_t hc hf
    refine lv_iconst (v := 0) hx hb d_Lg_heldUntil_8 (by decide) ?_
    cases hf
    exact hret 9 _ rfl d_Lg_heldUntil_9
abbrev rm_Lg_comesAt : Room := { frames := 1, cells := 0, slots := 0, locals := 21 }
set_option maxHeartbeats 4000000 in
set_option maxRecDepth 100000 in
theorem c_Lg_comesAt (l : Launch) (D : va_G) (cK : Nat → ClassId) (lg lgA lgT lgC : Nat) (lgS : Int32) (lgCf : Nat → Int32) (v1 : Int32) (r : Int32) (hf : f_Lg_comesAt lgS lgCf v1 = some r) : RdI l y_Lg_comesAt w_Lg_comesAt rm_Lg_comesAt D zz_cl (mt_ty cK RK2) [.ref lg, .int v1] [(lg, .inr (0, [.ref lgA, .ref lgT, .ref lgC, .int lgS])), (lgC, .inl (cK 1, 400, .inl lgCf))] r := by
  refine mk_RdI (cc := b_Lg_comesAt) (maxL := 2) (ty := .boolean) (by decide +kernel) rfl (Nat.le_of_ble_eq_true rfl) ?_
  intro p e s m below meth c args Q ls hx hb hml hown hts hK hP hret hl
  have hl : lv_has ls 2 [(0, .ref lg), (1, .int v1)] := hl
  unfold f_Lg_comesAt at hf
  refine lv_aload_n hx hb d_Lg_comesAt_0 rfl (lv_at hl 0 rfl) ?_
  refine lv_iload_n hx hb d_Lg_comesAt_1 rfl (lv_at hl 1 rfl) ?_
  obtain ⟨r_2, hcl, hf⟩ := fn_e1 hf
  refine cv_RdI (rest := []) ⟨hx, hb, hml, hown, hts⟩ (c_Lg_isPlace l D cK lg lgA lgT lgC lgS v1 r_2 hcl) (cwV 1 hts (zz_V ml_Lg_30 im_Lg_isPlace se_Lg_isPlace in_Lg co_Lg_isPlace) rfl rfl rfl ⟨rfl, hd_Lg_isPlace⟩ ⟨Nat.le_of_ble_eq_true rfl, Nat.le_of_ble_eq_true rfl⟩) hK hP [0] rfl 0 rfl rfl rfl rfl hl.1 rfl (Nat.le_of_ble_eq_true rfl) d_Lg_comesAt_2 ⟨Nat.zero_le _, Nat.zero_le _⟩ ?_
  refine lv_if_eq (tgt := 21) hx hb d_Lg_comesAt_5 (by decide) (fun hc => ?_) (fun hc => ?_)
  · have hf := fn_t hc hf
    refine lv_iconst (v := 0) hx hb d_Lg_comesAt_21 (by decide) ?_
    cases hf
    exact hret 22 _ rfl d_Lg_comesAt_22
  · have hf := fn_f hc hf
    refine lv_aload_n hx hb d_Lg_comesAt_8 rfl (lv_at hl 0 rfl) ?_
    refine va_get (D := D) (ci := 0) (v := .ref lgC) (C := RK0) (T := TK0) (N := 4) hx hb hts iwK0 hown hK hP 0 rfl rfl 2 (by decide) (hts _ fl_Lg_18) (fun _ h9 => h9) rfl d_Lg_comesAt_9 ?_
    refine lv_iload_n hx hb d_Lg_comesAt_12 rfl (lv_at hl 1 rfl) ?_
    have hg := fn_g hf
    have hf := fn_t hg hf
    refine va_zald hx hb hK hP 1 1 rfl rfl (fn_v hg) d_Lg_comesAt_13 ?_
    refine lv_if_eq (tgt := 21) hx hb d_Lg_comesAt_14 (by decide) (fun hc => ?_) (fun hc => ?_)
    · have hf := fn_t hc hf
      refine lv_iconst (v := 0) hx hb d_Lg_comesAt_21 (by decide) ?_
      cases hf
      exact hret 22 _ rfl d_Lg_comesAt_22
    · have hf := fn_f hc hf
      refine lv_iconst (v := 1) hx hb d_Lg_comesAt_17 (by decide) ?_
      refine lv_goto (tgt := 22) hx hb d_Lg_comesAt_18 (by decide) ?_
      cases hf
      exact hret 22 _ rfl d_Lg_comesAt_22
abbrev rm_Lg_numberAt : Room := { frames := 1, cells := 0, slots := 0, locals := 21 }
set_option maxHeartbeats 4000000 in
set_option maxRecDepth 100000 in
theorem c_Lg_numberAt (l : Launch) (D : va_G) (cK : Nat → ClassId) (lg lgA lgT lgC : Nat) (lgS : Int32) (lgAf : Nat → Int32) (v1 : Int32) (r : Int32) (hf : f_Lg_numberAt lgS lgAf v1 = some r) : RdI l y_Lg_numberAt w_Lg_numberAt rm_Lg_numberAt D zz_cl (mt_ty cK RK2) [.ref lg, .int v1] [(lg, .inr (0, [.ref lgA, .ref lgT, .ref lgC, .int lgS])), (lgA, .inl (cK 0, 400, .inl lgAf))] r := by
  refine mk_RdI (cc := b_Lg_numberAt) (maxL := 2) (ty := .int) (by decide +kernel) rfl (Nat.le_of_ble_eq_true rfl) ?_
  intro p e s m below meth c args Q ls hx hb hml hown hts hK hP hret hl
  have hl : lv_has ls 2 [(0, .ref lg), (1, .int v1)] := hl
  unfold f_Lg_numberAt at hf
  refine lv_aload_n hx hb d_Lg_numberAt_0 rfl (lv_at hl 0 rfl) ?_
  refine lv_iload_n hx hb d_Lg_numberAt_1 rfl (lv_at hl 1 rfl) ?_
  obtain ⟨r_2, hcl, hf⟩ := fn_e1 hf
  refine cv_RdI (rest := []) ⟨hx, hb, hml, hown, hts⟩ (c_Lg_isPlace l D cK lg lgA lgT lgC lgS v1 r_2 hcl) (cwV 1 hts (zz_V ml_Lg_30 im_Lg_isPlace se_Lg_isPlace in_Lg co_Lg_isPlace) rfl rfl rfl ⟨rfl, hd_Lg_isPlace⟩ ⟨Nat.le_of_ble_eq_true rfl, Nat.le_of_ble_eq_true rfl⟩) hK hP [0] rfl 0 rfl rfl rfl rfl hl.1 rfl (Nat.le_of_ble_eq_true rfl) d_Lg_numberAt_2 ⟨Nat.zero_le _, Nat.zero_le _⟩ ?_
  refine lv_if_eq (tgt := 17) hx hb d_Lg_numberAt_5 (by decide) (fun hc => ?_) (fun hc => ?_)
  · have hf := fn_t hc hf
    refine lv_iconst (v := 0) hx hb d_Lg_numberAt_17 (by decide) ?_
    cases hf
    exact hret 18 _ rfl d_Lg_numberAt_18
  · have hf := fn_f hc hf
    refine lv_aload_n hx hb d_Lg_numberAt_8 rfl (lv_at hl 0 rfl) ?_
    refine va_get (D := D) (ci := 0) (v := .ref lgA) (C := RK0) (T := TK0) (N := 4) hx hb hts iwK0 hown hK hP 0 rfl rfl 0 (by decide) (hts _ fl_Lg_9) (fun _ h9 => h9) rfl d_Lg_numberAt_9 ?_
    refine lv_iload_n hx hb d_Lg_numberAt_12 rfl (lv_at hl 1 rfl) ?_
    have hg := fn_g hf
    have hf := fn_t hg hf
    refine va_iald hx hb hK hP 1 0 rfl rfl (fn_v hg) d_Lg_numberAt_13 ?_
    refine lv_goto (tgt := 18) hx hb d_Lg_numberAt_14 (by decide) ?_
    cases hf
    exact hret 18 _ rfl d_Lg_numberAt_18
abbrev rm_Lg_shows : Room := { frames := 1, cells := 0, slots := 0, locals := 21 }
set_option maxHeartbeats 4000000 in
set_option maxRecDepth 100000 in
theorem c_Lg_shows (l : Launch) (D : va_G) (cK : Nat → ClassId) (lg lgA lgT lgC : Nat) (lgS : Int32) (lgAf : Nat → Int32) (lgCf : Nat → Int32) (v1 : Int32) (v2 : Int32) (v3 : Int32) (r : Int32) (hf : f_Lg_shows lgS lgAf lgCf v1 v2 v3 = some r) : RdI l y_Lg_shows w_Lg_shows rm_Lg_shows D zz_cl (mt_ty cK RK2) [.ref lg, .int v1, .int v2, .int v3] [(lg, .inr (0, [.ref lgA, .ref lgT, .ref lgC, .int lgS])), (lgA, .inl (cK 0, 400, .inl lgAf)), (lgC, .inl (cK 1, 400, .inl lgCf))] r := by
  refine mk_RdI (cc := b_Lg_shows) (maxL := 4) (ty := .boolean) (by decide +kernel) rfl (Nat.le_of_ble_eq_true rfl) ?_
  intro p e s m below meth c args Q ls hx hb hml hown hts hK hP hret hl
  have hl : lv_has ls 4 [(0, .ref lg), (1, .int v1), (2, .int v2), (3, .int v3)] := hl
  unfold f_Lg_shows at hf
  refine lv_aload_n hx hb d_Lg_shows_0 rfl (lv_at hl 0 rfl) ?_
  refine lv_iload_n hx hb d_Lg_shows_1 rfl (lv_at hl 1 rfl) ?_
  obtain ⟨r_2, hcl, hf⟩ := fn_e1 hf
  refine cv_RdI (rest := []) ⟨hx, hb, hml, hown, hts⟩ (c_Lg_isPlace l D cK lg lgA lgT lgC lgS v1 r_2 hcl) (cwV 1 hts (zz_V ml_Lg_30 im_Lg_isPlace se_Lg_isPlace in_Lg co_Lg_isPlace) rfl rfl rfl ⟨rfl, hd_Lg_isPlace⟩ ⟨Nat.le_of_ble_eq_true rfl, Nat.le_of_ble_eq_true rfl⟩) hK hP [0] rfl 0 rfl rfl rfl rfl hl.1 rfl (Nat.le_of_ble_eq_true rfl) d_Lg_shows_2 ⟨Nat.zero_le _, Nat.zero_le _⟩ ?_
  refine lv_if_eq (tgt := 37) hx hb d_Lg_shows_5 (by decide) (fun hc => ?_) (fun hc => ?_)
  · have hf := fn_t hc hf
    refine lv_iconst (v := 0) hx hb d_Lg_shows_37 (by decide) ?_
    cases hf
    exact hret 38 _ rfl d_Lg_shows_38
  · have hf := fn_f hc hf
    refine lv_aload_n hx hb d_Lg_shows_8 rfl (lv_at hl 0 rfl) ?_
    refine va_get (D := D) (ci := 0) (v := .ref lgC) (C := RK0) (T := TK0) (N := 4) hx hb hts iwK0 hown hK hP 0 rfl rfl 2 (by decide) (hts _ fl_Lg_18) (fun _ h9 => h9) rfl d_Lg_shows_9 ?_
    refine lv_iload_n hx hb d_Lg_shows_12 rfl (lv_at hl 1 rfl) ?_
    have hg := fn_g hf
    have hf := fn_t hg hf
    refine va_zald hx hb hK hP 2 1 rfl rfl (fn_v hg) d_Lg_shows_13 ?_
    refine lv_if_eq (tgt := 37) hx hb d_Lg_shows_14 (by decide) (fun hc => ?_) (fun hc => ?_)
    · have hf := fn_t hc hf
      refine lv_iconst (v := 0) hx hb d_Lg_shows_37 (by decide) ?_
      cases hf
      exact hret 38 _ rfl d_Lg_shows_38
    · have hf := fn_f hc hf
      refine lv_iload_n hx hb d_Lg_shows_17 rfl (lv_at hl 3 rfl) ?_
      refine lv_if_eq (tgt := 33) hx hb d_Lg_shows_18 (by decide) (fun hc => ?_) (fun hc => ?_)
      · have hf := fn_t hc hf
        refine lv_iconst (v := 1) hx hb d_Lg_shows_33 (by decide) ?_
        refine lv_goto (tgt := 38) hx hb d_Lg_shows_34 (by decide) ?_
        cases hf
        exact hret 38 _ rfl d_Lg_shows_38
      · have hf := fn_f hc hf
        refine lv_iload_n hx hb d_Lg_shows_21 rfl (lv_at hl 2 rfl) ?_
        refine lv_aload_n hx hb d_Lg_shows_22 rfl (lv_at hl 0 rfl) ?_
        refine va_get (D := D) (ci := 0) (v := .ref lgA) (C := RK0) (T := TK0) (N := 4) hx hb hts iwK0 hown hK hP 0 rfl rfl 0 (by decide) (hts _ fl_Lg_9) (fun _ h9 => h9) rfl d_Lg_shows_23 ?_
        refine lv_iload_n hx hb d_Lg_shows_26 rfl (lv_at hl 1 rfl) ?_
        have hg := fn_g hf
        have hf := fn_t hg hf
        refine va_iald hx hb hK hP 1 0 rfl rfl (fn_v hg) d_Lg_shows_27 ?_
        refine lv_isub hx hb d_Lg_shows_28 ?_
        refine lv_iload_n hx hb d_Lg_shows_29 rfl (lv_at hl 3 rfl) ?_
        refine lv_icmp_ge (tgt := 37) hx hb d_Lg_shows_30 (by decide) (fun hc => ?_) (fun hc => ?_)
        · have hf := fn_t hc hf
          refine lv_iconst (v := 0) hx hb d_Lg_shows_37 (by decide) ?_
          cases hf
          exact hret 38 _ rfl d_Lg_shows_38
        · have hf := fn_f hc hf
          refine lv_iconst (v := 1) hx hb d_Lg_shows_33 (by decide) ?_
          refine lv_goto (tgt := 38) hx hb d_Lg_shows_34 (by decide) ?_
          cases hf
          exact hret 38 _ rfl d_Lg_shows_38
end
section
abbrev rm_Qu_itemAt : Room := { frames := 0, cells := 0, slots := 0, locals := 0 }
set_option maxHeartbeats 4000000 in
set_option maxRecDepth 100000 in
theorem c_Qu_itemAt (l : Launch) (D : va_G) (cK : Nat → ClassId) (q qI qL : Nat) (qW : Int32) (qP : Int32) (qV : Int32) (qIf : Nat → Int32) (v1 : Int32) (v2 : Int32) (r : Int32) (hf : f_Qu_itemAt qIf v1 v2 = some r) : RdI l y_Qu_itemAt w_Qu_itemAt rm_Qu_itemAt D zz_cl (mt_ty cK RK2) [.ref q, .int v1, .int v2] [(q, .inr (2, [.ref qI, .ref qL, .int qW, .int qP, .int qV])), (qI, .inl (cK 0, 9, .inl qIf))] r := by
  refine mk_RdI (cc := b_Qu_itemAt) (maxL := 4) (ty := .int) (by decide +kernel) rfl (Nat.le_of_ble_eq_true rfl) ?_
  intro p e s m below meth c args Q ls hx hb hml hown hts hK hP hret hl
  have hl : lv_has ls 4 [(0, .ref q), (1, .int v1), (2, .int v2)] := hl
  unfold f_Qu_itemAt at hf
  refine lv_iload_n hx hb d_Qu_itemAt_0 rfl (lv_at hl 1 rfl) ?_
  refine lv_iconst (v := 3) hx hb d_Qu_itemAt_1 (by decide) ?_
  refine lv_imul hx hb d_Qu_itemAt_2 ?_
  refine lv_iload_n hx hb d_Qu_itemAt_3 rfl (lv_at hl 2 rfl) ?_
  refine lv_iadd hx hb d_Qu_itemAt_4 ?_
  refine lv_istore_n (lv' := [(3, .int ((v1 * 3) + v2)), (0, .ref q), (1, .int v1), (2, .int v2)]) hx hb d_Qu_itemAt_5 rfl hl (by decide) rfl (fun ls hl => ?_)
  refine lv_iload_n hx hb d_Qu_itemAt_6 rfl (lv_at hl 0 rfl) ?_
  refine lv_if_lt (tgt := 28) hx hb d_Qu_itemAt_7 (by decide) (fun hc => ?_) (fun hc => ?_)
  · have hf := fn_t hc hf
    refine lv_iconst (v := 0) hx hb d_Qu_itemAt_28 (by decide) ?_
    cases hf
    exact hret 29 _ rfl d_Qu_itemAt_29
  · have hf := fn_f hc hf
    refine lv_iload_n hx hb d_Qu_itemAt_10 rfl (lv_at hl 0 rfl) ?_
    refine lv_aload_n hx hb d_Qu_itemAt_11 rfl (lv_at hl 1 rfl) ?_
    refine va_get (D := D) (ci := 2) (v := .ref qI) (C := RK2) (T := TK2) (N := 5) hx hb hts iwK2 hown hK hP 0 rfl rfl 0 (by decide) (hts _ fl_Qu_9) (fun _ h9 => h9) rfl d_Qu_itemAt_12 ?_
    refine va_alen hx hb hK hP 1 0 rfl rfl rfl d_Qu_itemAt_15 ?_
    refine lv_icmp_ge (tgt := 28) hx hb d_Qu_itemAt_16 (by decide) (fun hc => ?_) (fun hc => ?_)
    · have hf := fn_t hc hf
      refine lv_iconst (v := 0) hx hb d_Qu_itemAt_28 (by decide) ?_
      cases hf
      exact hret 29 _ rfl d_Qu_itemAt_29
    · have hf := fn_f hc hf
      refine lv_aload_n hx hb d_Qu_itemAt_19 rfl (lv_at hl 1 rfl) ?_
      refine va_get (D := D) (ci := 2) (v := .ref qI) (C := RK2) (T := TK2) (N := 5) hx hb hts iwK2 hown hK hP 0 rfl rfl 0 (by decide) (hts _ fl_Qu_9) (fun _ h9 => h9) rfl d_Qu_itemAt_20 ?_
      refine lv_iload_n hx hb d_Qu_itemAt_23 rfl (lv_at hl 0 rfl) ?_
      have hg := fn_g hf
      have hf := fn_t hg hf
      refine va_iald hx hb hK hP 1 0 rfl rfl (fn_v hg) d_Qu_itemAt_24 ?_
      refine lv_goto (tgt := 29) hx hb d_Qu_itemAt_25 (by decide) ?_
      cases hf
      exact hret 29 _ rfl d_Qu_itemAt_29
abbrev rm_Qu_uses : Room := { frames := 0, cells := 0, slots := 0, locals := 0 }
set_option maxHeartbeats 4000000 in
set_option maxRecDepth 100000 in
theorem c_Qu_uses (l : Launch) (D : va_G) (cK : Nat → ClassId) (q qI qL : Nat) (qW : Int32) (qP : Int32) (qV : Int32) (v1 : Int32) (r : Int32) (hf : f_Qu_uses qV v1 = some r) : RdI l y_Qu_uses w_Qu_uses rm_Qu_uses D zz_cl (mt_ty cK RK2) [.ref q, .int v1] [(q, .inr (2, [.ref qI, .ref qL, .int qW, .int qP, .int qV]))] r := by
  refine mk_RdI (cc := b_Qu_uses) (maxL := 2) (ty := .boolean) (by decide +kernel) rfl (Nat.le_of_ble_eq_true rfl) ?_
  intro p e s m below meth c args Q ls hx hb hml hown hts hK hP hret hl
  have hl : lv_has ls 2 [(0, .ref q), (1, .int v1)] := hl
  unfold f_Qu_uses at hf
  refine lv_aload_n hx hb d_Qu_uses_0 rfl (lv_at hl 0 rfl) ?_
  refine va_get (D := D) (ci := 2) (v := .int qV) (C := RK2) (T := TK2) (N := 5) hx hb hts iwK2 hown hK hP 0 rfl rfl 4 (by decide) (hts _ fl_Qu_35) (fun _ h9 => h9) rfl d_Qu_uses_1 ?_
  refine lv_iload_n hx hb d_Qu_uses_4 rfl (lv_at hl 1 rfl) ?_
  refine lv_ishr hx hb d_Qu_uses_5 ?_
  refine lv_iconst (v := 1) hx hb d_Qu_uses_6 (by decide) ?_
  refine lv_iand hx hb d_Qu_uses_7 ?_
  refine lv_if_eq (tgt := 15) hx hb d_Qu_uses_8 (by decide) (fun hc => ?_) (fun hc => ?_)
  · have hf := fn_t hc hf
    refine lv_iconst (v := 0) hx hb d_Qu_uses_15 (by decide) ?_
    cases hf
    exact hret 16 _ rfl d_Qu_uses_16
  · have hf := fn_f hc hf
    refine lv_iconst (v := 1) hx hb d_Qu_uses_11 (by decide) ?_
    refine lv_goto (tgt := 16) hx hb d_Qu_uses_12 (by decide) ?_
    cases hf
    exact hret 16 _ rfl d_Qu_uses_16
abbrev rm_Qu_use : Room := { frames := 0, cells := 0, slots := 0, locals := 0 }
set_option maxHeartbeats 4000000 in
set_option maxRecDepth 100000 in
theorem c_Qu_use (l : Launch) (D : va_G) (cK : Nat → ClassId) (q qI qL : Nat) (qW : Int32) (qP : Int32) (qV : Int32) (v1 : Int32) (o_qV : Int32) (hf : f_Qu_use qV v1 = some o_qV) : WrV l y_Qu_use w_Qu_use rm_Qu_use D zz_cl (mt_ty cK RK2) [.ref q, .int v1] [(q, .inr (2, [.ref qI, .ref qL, .int qW, .int qP, .int qV]))] [(q, .inr (2, [.ref qI, .ref qL, .int qW, .int qP, .int o_qV]))] := by
  refine mk_WrV (cc := b_Qu_use) (maxL := 2) (by decide +kernel) rfl (Nat.le_of_ble_eq_true rfl) ?_
  intro p e s m below meth c args Q A ls hx hb hml hown hts hA hK hP hD hret hl
  have hS : va_S A s.heap s.heap [] := va_S.rf
  have hl : lv_has ls 2 [(0, .ref q), (1, .int v1)] := hl
  unfold f_Qu_use at hf
  refine lv_iload_n hx hb d_Qu_use_0 rfl (lv_at hl 1 rfl) ?_
  refine lv_if_ge (tgt := 18) hx hb d_Qu_use_1 (by decide) (fun hc => ?_) (fun hc => ?_)
  · have hf := fn_t hc hf
    cases hf
    exact hret _ _ 18 _ hP hD hS d_Qu_use_18
  · have hf := fn_f hc hf
    refine lv_aload_n hx hb d_Qu_use_4 rfl (lv_at hl 0 rfl) ?_
    refine lv_dup hx hb d_Qu_use_5 rfl ?_
    refine va_get (D := D) (ci := 2) (v := .int qV) (C := RK2) (T := TK2) (N := 5) hx hb hts iwK2 hown hK hP 0 rfl rfl 4 (by decide) (hts _ fl_Qu_35) (fun _ h9 => h9) rfl d_Qu_use_6 ?_
    refine lv_iconst (v := 1) hx hb d_Qu_use_9 (by decide) ?_
    refine lv_iconst (v := (-1)) hx hb d_Qu_use_10 (by decide) ?_
    refine lv_iload_n hx hb d_Qu_use_11 rfl (lv_at hl 1 rfl) ?_
    refine lv_isub hx hb d_Qu_use_12 ?_
    refine lv_ishl hx hb d_Qu_use_13 ?_
    refine lv_ior hx hb d_Qu_use_14 ?_
    refine va_put (D := D) (ci := 2) (v := .int (qV ||| ((1 : Int32) <<< (((-1) - v1) &&& 31)))) (ty := .int) (C := RK2) (T := TK2) (N := 5) hx hb hts iwK2 tyK2 tyK2_ok nmK2 hown hK hP hD hS 0 rfl rfl 4 (by decide) (hts _ fl_Qu_35) (fun _ h9 => h9) rfl (by decide +kernel) rfl rfl (Nat.le_of_ble_eq_true rfl) d_Qu_use_15 (fun H locs hP hD hS => ?_)
    have hP : va_P D zz_cl [(q, .inr (2, [.ref qI, .ref qL, .int qW, .int qP, .int (qV ||| ((1 : Int32) <<< (((-1) - v1) &&& 31)))]))] H := hP
    have hD : va_D A [(q, .inr (2, [.ref qI, .ref qL, .int qW, .int qP, .int (qV ||| ((1 : Int32) <<< (((-1) - v1) &&& 31)))]))] := hD
    cases hf
    exact hret _ _ 18 _ hP hD hS d_Qu_use_18
abbrev rm_Rs_clear : Room := { frames := 0, cells := 0, slots := 0, locals := 0 }
set_option maxHeartbeats 4000000 in
set_option maxRecDepth 100000 in
theorem c_Rs_clear (l : Launch) (D : va_G) (cK : Nat → ClassId) (x xW : Nat) (xS : Int32)  (o_xS : Int32) (hf : f_Rs_clear xS = some o_xS) : WrV l y_Rs_clear w_Rs_clear rm_Rs_clear D zz_cl (mt_ty cK RK2) [.ref x] [(x, .inr (4, [.ref xW, .int xS]))] [(x, .inr (4, [.ref xW, .int o_xS]))] := by
  refine mk_WrV (cc := b_Rs_clear) (maxL := 1) (by decide +kernel) rfl (Nat.le_of_ble_eq_true rfl) ?_
  intro p e s m below meth c args Q A ls hx hb hml hown hts hA hK hP hD hret hl
  have hS : va_S A s.heap s.heap [] := va_S.rf
  have hl : lv_has ls 1 [(0, .ref x)] := hl
  unfold f_Rs_clear at hf
  refine lv_aload_n hx hb d_Rs_clear_0 rfl (lv_at hl 0 rfl) ?_
  refine lv_iconst (v := 0) hx hb d_Rs_clear_1 (by decide) ?_
  refine va_put (D := D) (ci := 4) (v := .int 0) (ty := .int) (C := RK4) (T := TK4) (N := 2) hx hb hts iwK4 tyK4 tyK4_ok nmK4 hown hK hP hD hS 0 rfl rfl 1 (by decide) (hts _ fl_Rs_21) (fun _ h9 => h9) rfl (by decide +kernel) rfl rfl (Nat.le_of_ble_eq_true rfl) d_Rs_clear_2 (fun H locs hP hD hS => ?_)
  have hP : va_P D zz_cl [(x, .inr (4, [.ref xW, .int 0]))] H := hP
  have hD : va_D A [(x, .inr (4, [.ref xW, .int 0]))] := hD
  cases hf
  exact hret _ _ 5 _ hP hD hS d_Rs_clear_5
abbrev rm_Rs_isFull : Room := { frames := 0, cells := 0, slots := 0, locals := 0 }
set_option maxHeartbeats 4000000 in
set_option maxRecDepth 100000 in
theorem c_Rs_isFull (l : Launch) (D : va_G) (cK : Nat → ClassId) (x xW : Nat) (xS : Int32) (xM : Nat) (xWf : Nat → Int32)  (r : Int32) (hf : f_Rs_isFull xS xM = some r) : RdI l y_Rs_isFull w_Rs_isFull rm_Rs_isFull D zz_cl (mt_ty cK RK2) [.ref x] [(x, .inr (4, [.ref xW, .int xS])), (xW, .inl (cK 0, xM, .inl xWf))] r := by
  refine mk_RdI (cc := b_Rs_isFull) (maxL := 1) (ty := .boolean) (by decide +kernel) rfl (Nat.le_of_ble_eq_true rfl) ?_
  intro p e s m below meth c args Q ls hx hb hml hown hts hK hP hret hl
  have hl : lv_has ls 1 [(0, .ref x)] := hl
  unfold f_Rs_isFull at hf
  refine lv_aload_n hx hb d_Rs_isFull_0 rfl (lv_at hl 0 rfl) ?_
  refine va_get (D := D) (ci := 4) (v := .int xS) (C := RK4) (T := TK4) (N := 2) hx hb hts iwK4 hown hK hP 0 rfl rfl 1 (by decide) (hts _ fl_Rs_21) (fun _ h9 => h9) rfl d_Rs_isFull_1 ?_
  refine lv_aload_n hx hb d_Rs_isFull_4 rfl (lv_at hl 0 rfl) ?_
  refine va_get (D := D) (ci := 4) (v := .ref xW) (C := RK4) (T := TK4) (N := 2) hx hb hts iwK4 hown hK hP 0 rfl rfl 0 (by decide) (hts _ fl_Rs_15) (fun _ h9 => h9) rfl d_Rs_isFull_5 ?_
  refine va_alen hx hb hK hP 1 0 rfl rfl rfl d_Rs_isFull_8 ?_
  refine lv_icmp_lt (tgt := 16) hx hb d_Rs_isFull_9 (by decide) (fun hc => ?_) (fun hc => ?_)
  · have hf := fn_t hc hf
    refine lv_iconst (v := 0) hx hb d_Rs_isFull_16 (by decide) ?_
    cases hf
    exact hret 17 _ rfl d_Rs_isFull_17
  · have hf := fn_f hc hf
    refine lv_iconst (v := 1) hx hb d_Rs_isFull_12 (by decide) ?_
    refine lv_goto (tgt := 17) hx hb d_Rs_isFull_13 (by decide) ?_
    cases hf
    exact hret 17 _ rfl d_Rs_isFull_17
abbrev rm_Rs_add : Room := { frames := 1, cells := 0, slots := 0, locals := 20 }
set_option maxHeartbeats 4000000 in
set_option maxRecDepth 100000 in
theorem c_Rs_add (l : Launch) (D : va_G) (cK : Nat → ClassId) (x xW : Nat) (xS : Int32) (xM : Nat) (xWf : Nat → Int32) (v1 : Int32) (v2 : Int32) (o_xS : Int32) (o_xWf : Nat → Int32) (hf : f_Rs_add xS xM xWf v1 v2 = some (o_xS, o_xWf)) : WrV l y_Rs_add w_Rs_add rm_Rs_add D zz_cl (mt_ty cK RK2) [.ref x, .int v1, .int v2] [(x, .inr (4, [.ref xW, .int xS])), (xW, .inl (cK 0, xM, .inl xWf))] [(x, .inr (4, [.ref xW, .int o_xS])), (xW, .inl (cK 0, xM, .inl o_xWf))] := by
  refine mk_WrV (cc := b_Rs_add) (maxL := 3) (by decide +kernel) rfl (Nat.le_of_ble_eq_true rfl) ?_
  intro p e s m below meth c args Q A ls hx hb hml hown hts hA hK hP hD hret hl
  have hS : va_S A s.heap s.heap [] := va_S.rf
  have hl : lv_has ls 3 [(0, .ref x), (1, .int v1), (2, .int v2)] := hl
  unfold f_Rs_add at hf
  refine lv_iload_n hx hb d_Rs_add_0 rfl (lv_at hl 2 rfl) ?_
  refine lv_if_eq (tgt := 36) hx hb d_Rs_add_1 (by decide) (fun hc => ?_) (fun hc => ?_)
  · have hf := fn_t hc hf
    cases hf
    exact hret _ _ 36 _ hP hD hS d_Rs_add_36
  · have hf := fn_f hc hf
    refine lv_aload_n hx hb d_Rs_add_4 rfl (lv_at hl 0 rfl) ?_
    obtain ⟨r_5, hcl, hf⟩ := fn_e1 hf
    refine cv_RdI (rest := []) ⟨hx, hb, hml, hown, hts⟩ (c_Rs_isFull l D cK x xW xS xM xWf r_5 hcl) (cwV 0 hts (zz_V ml_Rs_25 im_Rs_isFull se_Rs_isFull in_Rs co_Rs_isFull) rfl rfl rfl ⟨rfl, hd_Rs_isFull⟩ ⟨Nat.le_of_ble_eq_true rfl, Nat.le_of_ble_eq_true rfl⟩) hK hP [0, 1] rfl 0 rfl rfl rfl rfl hl.1 rfl (Nat.le_of_ble_eq_true rfl) d_Rs_add_5 ⟨Nat.zero_le _, Nat.zero_le _⟩ ?_
    refine lv_if_ne (tgt := 36) hx hb d_Rs_add_8 (by decide) (fun hc => ?_) (fun hc => ?_)
    · have hf := fn_f hc hf
      cases hf
      exact hret _ _ 36 _ hP hD hS d_Rs_add_36
    · have hf := fn_t hc hf
      refine lv_aload_n hx hb d_Rs_add_11 rfl (lv_at hl 0 rfl) ?_
      refine va_get (D := D) (ci := 4) (v := .ref xW) (C := RK4) (T := TK4) (N := 2) hx hb hts iwK4 hown hK hP 0 rfl rfl 0 (by decide) (hts _ fl_Rs_15) (fun _ h9 => h9) rfl d_Rs_add_12 ?_
      refine lv_aload_n hx hb d_Rs_add_15 rfl (lv_at hl 0 rfl) ?_
      refine va_get (D := D) (ci := 4) (v := .int xS) (C := RK4) (T := TK4) (N := 2) hx hb hts iwK4 hown hK hP 0 rfl rfl 1 (by decide) (hts _ fl_Rs_21) (fun _ h9 => h9) rfl d_Rs_add_16 ?_
      refine lv_iload_n hx hb d_Rs_add_19 rfl (lv_at hl 1 rfl) ?_
      refine lv_bipush (v := 16) hx hb d_Rs_add_20 (by decide) ?_
      refine lv_ishl hx hb d_Rs_add_22 ?_
      refine lv_iload_n hx hb d_Rs_add_23 rfl (lv_at hl 2 rfl) ?_
      refine lv_ior hx hb d_Rs_add_24 ?_
      have hg := fn_g hf
      have hf := fn_t hg hf
      refine va_iast hx hb hK hP hD hS 1 0 rfl rfl (fn_v hg) d_Rs_add_25 (fun H locs hP hD hS => ?_)
      have hP : va_P D zz_cl [(x, .inr (4, [.ref xW, .int xS])), (xW, .inl (cK 0, xM, .inl (upd xWf (Int32.toNatClampNeg xS) ((v1 <<< (16 &&& 31)) ||| v2))))] H := hP
      have hD : va_D A [(x, .inr (4, [.ref xW, .int xS])), (xW, .inl (cK 0, xM, .inl (upd xWf (Int32.toNatClampNeg xS) ((v1 <<< (16 &&& 31)) ||| v2))))] := hD
      refine lv_aload_n hx hb d_Rs_add_26 rfl (lv_at hl 0 rfl) ?_
      refine lv_dup hx hb d_Rs_add_27 rfl ?_
      refine va_get (D := D) (ci := 4) (v := .int xS) (C := RK4) (T := TK4) (N := 2) hx hb hts iwK4 hown hK hP 0 rfl rfl 1 (by decide) (hts _ fl_Rs_21) (fun _ h9 => h9) rfl d_Rs_add_28 ?_
      refine lv_iconst (v := 1) hx hb d_Rs_add_31 (by decide) ?_
      refine lv_iadd hx hb d_Rs_add_32 ?_
      refine va_put (D := D) (ci := 4) (v := .int (xS + 1)) (ty := .int) (C := RK4) (T := TK4) (N := 2) hx hb hts iwK4 tyK4 tyK4_ok nmK4 hown hK hP hD hS 0 rfl rfl 1 (by decide) (hts _ fl_Rs_21) (fun _ h9 => h9) rfl (by decide +kernel) rfl rfl (Nat.le_of_ble_eq_true rfl) d_Rs_add_33 (fun H locs hP hD hS => ?_)
      have hP : va_P D zz_cl [(x, .inr (4, [.ref xW, .int (xS + 1)])), (xW, .inl (cK 0, xM, .inl (upd xWf (Int32.toNatClampNeg xS) ((v1 <<< (16 &&& 31)) ||| v2))))] H := hP
      have hD : va_D A [(x, .inr (4, [.ref xW, .int (xS + 1)])), (xW, .inl (cK 0, xM, .inl (upd xWf (Int32.toNatClampNeg xS) ((v1 <<< (16 &&& 31)) ||| v2))))] := hD
      cases hf
      exact hret _ _ 36 _ hP hD hS d_Rs_add_36
abbrev rm_Rs_removeAll : Room := { frames := 0, cells := 0, slots := 0, locals := 0 }
set_option maxHeartbeats 4000000 in
set_option maxRecDepth 100000 in
theorem c_Rs_removeAll (l : Launch) (D : va_G) (cK : Nat → ClassId) (x xW z zW : Nat) (xS : Int32) (xM : Nat) (xWf : Nat → Int32) (zS : Int32) (zM : Nat) (zWf : Nat → Int32) (N : Nat)  (o_xS : Int32) (o_xWf : Nat → Int32) (hf : f_Rs_removeAll N xS xM xWf zS zM zWf = some (o_xS, o_xWf)) : WrV l y_Rs_removeAll w_Rs_removeAll rm_Rs_removeAll D zz_cl (mt_ty cK RK2) [.ref x, .ref z] [(x, .inr (4, [.ref xW, .int xS])), (xW, .inl (cK 0, xM, .inl xWf)), (z, .inr (4, [.ref zW, .int zS])), (zW, .inl (cK 0, zM, .inl zWf))] [(x, .inr (4, [.ref xW, .int o_xS])), (xW, .inl (cK 0, xM, .inl o_xWf)), (z, .inr (4, [.ref zW, .int zS])), (zW, .inl (cK 0, zM, .inl zWf))] := by
  refine mk_WrV (cc := b_Rs_removeAll) (maxL := 6) (by decide +kernel) rfl (Nat.le_of_ble_eq_true rfl) ?_
  intro p e s m below meth c args Q A ls hx hb hml hown hts hA hK hP hD hret hl
  have hS : va_S A s.heap s.heap [] := va_S.rf
  have hl : lv_has ls 6 [(0, .ref x), (1, .ref z)] := hl
  have J_7 : ∀  (n_7 : Nat) (xS : Int32) (xWf : Nat → Int32) (v2 : Int32) (v3 : Int32) (v4 : Int32) (H : Heap) (locs : List Loc) (ls : Array Slot), f_Rs_removeAll_7 N xM zS zM zWf n_7 xS xWf v2 v3 v4 = some (o_xS, o_xWf) → va_P D zz_cl [(x, .inr (4, [.ref xW, .int xS])), (xW, .inl (cK 0, xM, .inl xWf)), (z, .inr (4, [.ref zW, .int zS])), (zW, .inl (cK 0, zM, .inl zWf))] H → va_D A [(x, .inr (4, [.ref xW, .int xS])), (xW, .inl (cK 0, xM, .inl xWf)), (z, .inr (4, [.ref zW, .int zS])), (zW, .inl (cK 0, zM, .inl zWf))] → va_S A s.heap H locs → lv_has ls 6 [(0, .ref x), (1, .ref z), (2, .int v2), (3, .int v3), (4, .int v4)] → W p l e rm_Rs_removeAll s m args below meth c H locs 0 0 Q (F0 m 7 ls []) := by
    intro n_7
    induction n_7 with
    | zero =>
      intro xS xWf v2 v3 v4 H locs ls hf hP hD hS hl
      exact fn_0 hf
    | succ n_7 ih_7 =>
      have J_97 : ∀ (xS : Int32) (xWf : Nat → Int32) (v2 : Int32) (v3 : Int32) (v4 : Int32) (v5 : Int32) (H : Heap) (locs : List Loc) (ls : Array Slot), f_Rs_removeAll_97 N xM zS zM zWf (f_Rs_removeAll_7 N xM zS zM zWf n_7) xS xWf v2 v3 v4 v5 = some (o_xS, o_xWf) → va_P D zz_cl [(x, .inr (4, [.ref xW, .int xS])), (xW, .inl (cK 0, xM, .inl xWf)), (z, .inr (4, [.ref zW, .int zS])), (zW, .inl (cK 0, zM, .inl zWf))] H → va_D A [(x, .inr (4, [.ref xW, .int xS])), (xW, .inl (cK 0, xM, .inl xWf)), (z, .inr (4, [.ref zW, .int zS])), (zW, .inl (cK 0, zM, .inl zWf))] → va_S A s.heap H locs → lv_has ls 6 [(0, .ref x), (1, .ref z), (2, .int v2), (3, .int v3), (4, .int v4), (5, .int v5)] → W p l e rm_Rs_removeAll s m args below meth c H locs 0 0 Q (F0 m 97 ls []) := by
        intro xS xWf v2 v3 v4 v5 H locs ls hf hP hD hS hl
        unfold f_Rs_removeAll_97 at hf
        refine lv_iload hx hb d_Rs_removeAll_97 (lv_at hl 5 rfl) ?_
        refine lv_ldc (v := 65535) hx hb hown (hts _ kn_Rs_29) d_Rs_removeAll_99 ?_
        refine lv_iand hx hb d_Rs_removeAll_101 ?_
        refine lv_if_eq (tgt := 116) hx hb d_Rs_removeAll_102 (by decide) (fun hc => ?_) (fun hc => ?_)
        · have hf := fn_t hc hf
          refine lv_iinc (v := (v4 + 1)) (lv' := [(4, .int (v4 + 1)), (0, .ref x), (1, .ref z), (2, .int v2), (3, .int v3), (5, .int v5)]) hx hb d_Rs_removeAll_116 hl (k := 4) rfl rfl (by decide) rfl (fun ls hl => ?_)
          refine lv_goto (tgt := 7) hx hb d_Rs_removeAll_119 (by decide) ?_
          exact ih_7 _ _ _ _ _ _ _ _ hf hP hD hS (lv_sub hl [1, 2, 3, 4, 0] rfl)
        · have hf := fn_f hc hf
          refine lv_aload_n hx hb d_Rs_removeAll_105 rfl (lv_at hl 0 rfl) ?_
          refine va_get (D := D) (ci := 4) (v := .ref xW) (C := RK4) (T := TK4) (N := 2) hx hb hts iwK4 hown hK hP 0 rfl rfl 0 (by decide) (hts _ fl_Rs_15) (fun _ h9 => h9) rfl d_Rs_removeAll_106 ?_
          refine lv_iload_n hx hb d_Rs_removeAll_109 rfl (lv_at hl 2 rfl) ?_
          refine lv_iload hx hb d_Rs_removeAll_110 (lv_at hl 5 rfl) ?_
          have hg := fn_g hf
          have hf := fn_t hg hf
          refine va_iast hx hb hK hP hD hS 1 0 rfl rfl (fn_v hg) d_Rs_removeAll_112 (fun H locs hP hD hS => ?_)
          have hP : va_P D zz_cl [(x, .inr (4, [.ref xW, .int xS])), (xW, .inl (cK 0, xM, .inl (upd xWf (Int32.toNatClampNeg v2) v5))), (z, .inr (4, [.ref zW, .int zS])), (zW, .inl (cK 0, zM, .inl zWf))] H := hP
          have hD : va_D A [(x, .inr (4, [.ref xW, .int xS])), (xW, .inl (cK 0, xM, .inl (upd xWf (Int32.toNatClampNeg v2) v5))), (z, .inr (4, [.ref zW, .int zS])), (zW, .inl (cK 0, zM, .inl zWf))] := hD
          refine lv_iinc (v := (v2 + 1)) (lv' := [(2, .int (v2 + 1)), (0, .ref x), (1, .ref z), (3, .int v3), (4, .int v4), (5, .int v5)]) hx hb d_Rs_removeAll_113 hl (k := 2) rfl rfl (by decide) rfl (fun ls hl => ?_)
          refine lv_iinc (v := (v4 + 1)) (lv' := [(4, .int (v4 + 1)), (2, .int (v2 + 1)), (0, .ref x), (1, .ref z), (3, .int v3), (5, .int v5)]) hx hb d_Rs_removeAll_116 hl (k := 4) rfl rfl (by decide) rfl (fun ls hl => ?_)
          refine lv_goto (tgt := 7) hx hb d_Rs_removeAll_119 (by decide) ?_
          exact ih_7 _ _ _ _ _ _ _ _ hf hP hD hS (lv_sub hl [2, 3, 1, 4, 0] rfl)
      have J_56 : ∀ (xS : Int32) (xWf : Nat → Int32) (v2 : Int32) (v3 : Int32) (v4 : Int32) (v5 : Int32) (H : Heap) (locs : List Loc) (ls : Array Slot), f_Rs_removeAll_56 N xM zS zM zWf (f_Rs_removeAll_7 N xM zS zM zWf n_7) xS xWf v2 v3 v4 v5 = some (o_xS, o_xWf) → va_P D zz_cl [(x, .inr (4, [.ref xW, .int xS])), (xW, .inl (cK 0, xM, .inl xWf)), (z, .inr (4, [.ref zW, .int zS])), (zW, .inl (cK 0, zM, .inl zWf))] H → va_D A [(x, .inr (4, [.ref xW, .int xS])), (xW, .inl (cK 0, xM, .inl xWf)), (z, .inr (4, [.ref zW, .int zS])), (zW, .inl (cK 0, zM, .inl zWf))] → va_S A s.heap H locs → lv_has ls 6 [(0, .ref x), (1, .ref z), (2, .int v2), (3, .int v3), (4, .int v4), (5, .int v5)] → W p l e rm_Rs_removeAll s m args below meth c H locs 0 0 Q (F0 m 56 ls []) := by
        intro xS xWf v2 v3 v4 v5 H locs ls hf hP hD hS hl
        unfold f_Rs_removeAll_56 at hf
        refine lv_iload_n hx hb d_Rs_removeAll_56 rfl (lv_at hl 3 rfl) ?_
        refine lv_aload_n hx hb d_Rs_removeAll_57 rfl (lv_at hl 1 rfl) ?_
        refine va_get (D := D) (ci := 4) (v := .int zS) (C := RK4) (T := TK4) (N := 2) hx hb hts iwK4 hown hK hP 2 rfl rfl 1 (by decide) (hts _ fl_Rs_21) (fun _ h9 => h9) rfl d_Rs_removeAll_58 ?_
        refine lv_icmp_ge (tgt := 97) hx hb d_Rs_removeAll_61 (by decide) (fun hc => ?_) (fun hc => ?_)
        · have hf := fn_t hc hf
          exact J_97 _ _ _ _ _ _ _ _ _ hf hP hD hS (lv_sub hl [0, 1, 2, 3, 4, 5] rfl)
        · have hf := fn_f hc hf
          refine lv_aload_n hx hb d_Rs_removeAll_64 rfl (lv_at hl 1 rfl) ?_
          refine va_get (D := D) (ci := 4) (v := .ref zW) (C := RK4) (T := TK4) (N := 2) hx hb hts iwK4 hown hK hP 2 rfl rfl 0 (by decide) (hts _ fl_Rs_15) (fun _ h9 => h9) rfl d_Rs_removeAll_65 ?_
          refine lv_iload_n hx hb d_Rs_removeAll_68 rfl (lv_at hl 3 rfl) ?_
          have hg := fn_g hf
          have hf := fn_t hg hf
          refine va_iald hx hb hK hP 3 0 rfl rfl (fn_v hg) d_Rs_removeAll_69 ?_
          refine lv_bipush (v := 16) hx hb d_Rs_removeAll_70 (by decide) ?_
          refine lv_ishr hx hb d_Rs_removeAll_72 ?_
          refine lv_iload hx hb d_Rs_removeAll_73 (lv_at hl 5 rfl) ?_
          refine lv_bipush (v := 16) hx hb d_Rs_removeAll_75 (by decide) ?_
          refine lv_ishr hx hb d_Rs_removeAll_77 ?_
          refine lv_icmp_ne (tgt := 97) hx hb d_Rs_removeAll_78 (by decide) (fun hc => ?_) (fun hc => ?_)
          · have hf := fn_f hc hf
            exact J_97 _ _ _ _ _ _ _ _ _ hf hP hD hS (lv_sub hl [0, 1, 2, 3, 4, 5] rfl)
          · have hf := fn_t hc hf
            refine lv_iload hx hb d_Rs_removeAll_81 (lv_at hl 5 rfl) ?_
            refine lv_aload_n hx hb d_Rs_removeAll_83 rfl (lv_at hl 1 rfl) ?_
            refine va_get (D := D) (ci := 4) (v := .ref zW) (C := RK4) (T := TK4) (N := 2) hx hb hts iwK4 hown hK hP 2 rfl rfl 0 (by decide) (hts _ fl_Rs_15) (fun _ h9 => h9) rfl d_Rs_removeAll_84 ?_
            refine lv_iload_n hx hb d_Rs_removeAll_87 rfl (lv_at hl 3 rfl) ?_
            have hg := fn_g hf
            have hf := fn_t hg hf
            refine va_iald hx hb hK hP 3 0 rfl rfl (fn_v hg) d_Rs_removeAll_88 ?_
            refine lv_ldc (v := 65535) hx hb hown (hts _ kn_Rs_29) d_Rs_removeAll_89 ?_
            refine lv_iand hx hb d_Rs_removeAll_91 ?_
            refine lv_iconst (v := (-1)) hx hb d_Rs_removeAll_92 (by decide) ?_
            refine lv_ixor hx hb d_Rs_removeAll_93 ?_
            refine lv_iand hx hb d_Rs_removeAll_94 ?_
            refine lv_istore (lv' := [(5, .int (v5 &&& (((zWf (Int32.toNatClampNeg v3)) &&& 65535) ^^^ (-1)))), (0, .ref x), (1, .ref z), (2, .int v2), (3, .int v3), (4, .int v4)]) hx hb d_Rs_removeAll_95 hl (by decide) rfl (fun ls hl => ?_)
            exact J_97 _ _ _ _ _ _ _ _ _ hf hP hD hS (lv_sub hl [1, 2, 3, 4, 5, 0] rfl)
      have J_25 : ∀ (v2 : Int32) (v4 : Int32) (v5 : Int32) (n_25 : Nat) (xS : Int32) (xWf : Nat → Int32) (v3 : Int32) (H : Heap) (locs : List Loc) (ls : Array Slot), f_Rs_removeAll_25 N xM zS zM zWf (f_Rs_removeAll_7 N xM zS zM zWf n_7) v2 v4 v5 n_25 xS xWf v3 = some (o_xS, o_xWf) → va_P D zz_cl [(x, .inr (4, [.ref xW, .int xS])), (xW, .inl (cK 0, xM, .inl xWf)), (z, .inr (4, [.ref zW, .int zS])), (zW, .inl (cK 0, zM, .inl zWf))] H → va_D A [(x, .inr (4, [.ref xW, .int xS])), (xW, .inl (cK 0, xM, .inl xWf)), (z, .inr (4, [.ref zW, .int zS])), (zW, .inl (cK 0, zM, .inl zWf))] → va_S A s.heap H locs → lv_has ls 6 [(0, .ref x), (1, .ref z), (2, .int v2), (3, .int v3), (4, .int v4), (5, .int v5)] → W p l e rm_Rs_removeAll s m args below meth c H locs 0 0 Q (F0 m 25 ls []) := by
        intro v2 v4 v5 n_25
        induction n_25 with
        | zero =>
          intro xS xWf v3 H locs ls hf hP hD hS hl
          exact fn_0 hf
        | succ n_25 ih_25 =>
          intro xS xWf v3 H locs ls hf hP hD hS hl
          rw [f_Rs_removeAll_25.eq_2] at hf
          refine lv_iload_n hx hb d_Rs_removeAll_25 rfl (lv_at hl 3 rfl) ?_
          refine lv_aload_n hx hb d_Rs_removeAll_26 rfl (lv_at hl 1 rfl) ?_
          refine va_get (D := D) (ci := 4) (v := .int zS) (C := RK4) (T := TK4) (N := 2) hx hb hts iwK4 hown hK hP 2 rfl rfl 1 (by decide) (hts _ fl_Rs_21) (fun _ h9 => h9) rfl d_Rs_removeAll_27 ?_
          refine lv_icmp_ge (tgt := 56) hx hb d_Rs_removeAll_30 (by decide) (fun hc => ?_) (fun hc => ?_)
          · have hf := fn_t hc hf
            exact J_56 _ _ _ _ _ _ _ _ _ hf hP hD hS (lv_sub hl [0, 1, 2, 3, 4, 5] rfl)
          · have hf := fn_f hc hf
            refine lv_aload_n hx hb d_Rs_removeAll_33 rfl (lv_at hl 1 rfl) ?_
            refine va_get (D := D) (ci := 4) (v := .ref zW) (C := RK4) (T := TK4) (N := 2) hx hb hts iwK4 hown hK hP 2 rfl rfl 0 (by decide) (hts _ fl_Rs_15) (fun _ h9 => h9) rfl d_Rs_removeAll_34 ?_
            refine lv_iload_n hx hb d_Rs_removeAll_37 rfl (lv_at hl 3 rfl) ?_
            have hg := fn_g hf
            have hf := fn_t hg hf
            refine va_iald hx hb hK hP 3 0 rfl rfl (fn_v hg) d_Rs_removeAll_38 ?_
            refine lv_bipush (v := 16) hx hb d_Rs_removeAll_39 (by decide) ?_
            refine lv_ishr hx hb d_Rs_removeAll_41 ?_
            refine lv_iload hx hb d_Rs_removeAll_42 (lv_at hl 5 rfl) ?_
            refine lv_bipush (v := 16) hx hb d_Rs_removeAll_44 (by decide) ?_
            refine lv_ishr hx hb d_Rs_removeAll_46 ?_
            refine lv_icmp_ge (tgt := 56) hx hb d_Rs_removeAll_47 (by decide) (fun hc => ?_) (fun hc => ?_)
            · have hf := fn_t hc hf
              exact J_56 _ _ _ _ _ _ _ _ _ hf hP hD hS (lv_sub hl [0, 1, 2, 3, 4, 5] rfl)
            · have hf := fn_f hc hf
              refine lv_iinc (v := (v3 + 1)) (lv' := [(3, .int (v3 + 1)), (0, .ref x), (1, .ref z), (2, .int v2), (4, .int v4), (5, .int v5)]) hx hb d_Rs_removeAll_50 hl (k := 3) rfl rfl (by decide) rfl (fun ls hl => ?_)
              refine lv_goto (tgt := 25) hx hb d_Rs_removeAll_53 (by decide) ?_
              exact ih_25 _ _ _ _ _ _ hf hP hD hS (lv_sub hl [1, 2, 3, 0, 4, 5] rfl)
      intro xS xWf v2 v3 v4 H locs ls hf hP hD hS hl
      rw [f_Rs_removeAll_7.eq_2] at hf
      refine lv_iload hx hb d_Rs_removeAll_7 (lv_at hl 4 rfl) ?_
      refine lv_aload_n hx hb d_Rs_removeAll_9 rfl (lv_at hl 0 rfl) ?_
      refine va_get (D := D) (ci := 4) (v := .int xS) (C := RK4) (T := TK4) (N := 2) hx hb hts iwK4 hown hK hP 0 rfl rfl 1 (by decide) (hts _ fl_Rs_21) (fun _ h9 => h9) rfl d_Rs_removeAll_10 ?_
      refine lv_icmp_ge (tgt := 122) hx hb d_Rs_removeAll_13 (by decide) (fun hc => ?_) (fun hc => ?_)
      · have hf := fn_t hc hf
        refine lv_aload_n hx hb d_Rs_removeAll_122 rfl (lv_at hl 0 rfl) ?_
        refine lv_iload_n hx hb d_Rs_removeAll_123 rfl (lv_at hl 2 rfl) ?_
        refine va_put (D := D) (ci := 4) (v := .int v2) (ty := .int) (C := RK4) (T := TK4) (N := 2) hx hb hts iwK4 tyK4 tyK4_ok nmK4 hown hK hP hD hS 0 rfl rfl 1 (by decide) (hts _ fl_Rs_21) (fun _ h9 => h9) rfl (by decide +kernel) rfl rfl (Nat.le_of_ble_eq_true rfl) d_Rs_removeAll_124 (fun H locs hP hD hS => ?_)
        have hP : va_P D zz_cl [(x, .inr (4, [.ref xW, .int v2])), (xW, .inl (cK 0, xM, .inl xWf)), (z, .inr (4, [.ref zW, .int zS])), (zW, .inl (cK 0, zM, .inl zWf))] H := hP
        have hD : va_D A [(x, .inr (4, [.ref xW, .int v2])), (xW, .inl (cK 0, xM, .inl xWf)), (z, .inr (4, [.ref zW, .int zS])), (zW, .inl (cK 0, zM, .inl zWf))] := hD
        cases hf
        exact hret _ _ 127 _ hP hD hS d_Rs_removeAll_127
      · have hf := fn_f hc hf
        refine lv_aload_n hx hb d_Rs_removeAll_16 rfl (lv_at hl 0 rfl) ?_
        refine va_get (D := D) (ci := 4) (v := .ref xW) (C := RK4) (T := TK4) (N := 2) hx hb hts iwK4 hown hK hP 0 rfl rfl 0 (by decide) (hts _ fl_Rs_15) (fun _ h9 => h9) rfl d_Rs_removeAll_17 ?_
        refine lv_iload hx hb d_Rs_removeAll_20 (lv_at hl 4 rfl) ?_
        have hg := fn_g hf
        have hf := fn_t hg hf
        refine va_iald hx hb hK hP 1 0 rfl rfl (fn_v hg) d_Rs_removeAll_22 ?_
        refine lv_istore (lv' := [(5, .int (xWf (Int32.toNatClampNeg v4))), (0, .ref x), (1, .ref z), (2, .int v2), (3, .int v3), (4, .int v4)]) hx hb d_Rs_removeAll_23 hl (by decide) rfl (fun ls hl => ?_)
        exact J_25 _ _ _ _ _ _ _ _ _ _ hf hP hD hS (lv_sub hl [1, 2, 3, 4, 5, 0] rfl)
  unfold f_Rs_removeAll at hf
  refine lv_iconst (v := 0) hx hb d_Rs_removeAll_0 (by decide) ?_
  refine lv_istore_n (lv' := [(2, .int 0), (0, .ref x), (1, .ref z)]) hx hb d_Rs_removeAll_1 rfl hl (by decide) rfl (fun ls hl => ?_)
  refine lv_iconst (v := 0) hx hb d_Rs_removeAll_2 (by decide) ?_
  refine lv_istore_n (lv' := [(3, .int 0), (2, .int 0), (0, .ref x), (1, .ref z)]) hx hb d_Rs_removeAll_3 rfl hl (by decide) rfl (fun ls hl => ?_)
  refine lv_iconst (v := 0) hx hb d_Rs_removeAll_4 (by decide) ?_
  refine lv_istore (lv' := [(4, .int 0), (3, .int 0), (2, .int 0), (0, .ref x), (1, .ref z)]) hx hb d_Rs_removeAll_5 hl (by decide) rfl (fun ls hl => ?_)
  exact J_7 _ _ _ _ _ _ _ _ _ hf hP hD hS (lv_sub hl [3, 4, 2, 1, 0] rfl)
abbrev rm_Rs_isSameAs : Room := { frames := 0, cells := 0, slots := 0, locals := 0 }
set_option maxHeartbeats 4000000 in
set_option maxRecDepth 100000 in
theorem c_Rs_isSameAs (l : Launch) (D : va_G) (cK : Nat → ClassId) (x xW z zW : Nat) (xS : Int32) (xM : Nat) (xWf : Nat → Int32) (zS : Int32) (zM : Nat) (zWf : Nat → Int32) (N : Nat)  (r : Int32) (hf : f_Rs_isSameAs N xS xM xWf zS zM zWf = some r) : RdI l y_Rs_isSameAs w_Rs_isSameAs rm_Rs_isSameAs D zz_cl (mt_ty cK RK2) [.ref x, .ref z] [(x, .inr (4, [.ref xW, .int xS])), (xW, .inl (cK 0, xM, .inl xWf)), (z, .inr (4, [.ref zW, .int zS])), (zW, .inl (cK 0, zM, .inl zWf))] r := by
  refine mk_RdI (cc := b_Rs_isSameAs) (maxL := 3) (ty := .boolean) (by decide +kernel) rfl (Nat.le_of_ble_eq_true rfl) ?_
  intro p e s m below meth c args Q ls hx hb hml hown hts hK hP hret hl
  have hl : lv_has ls 3 [(0, .ref x), (1, .ref z)] := hl
  have J_15 : ∀  (n_15 : Nat)  (v2 : Int32) (ls : Array Slot), f_Rs_isSameAs_15 N xS xM xWf zS zM zWf n_15 v2 = some r → lv_has ls 3 [(0, .ref x), (1, .ref z), (2, .int v2)] → W p l e rm_Rs_isSameAs s m args below meth c s.heap [] 0 0 Q (F0 m 15 ls []) := by
    intro n_15
    induction n_15 with
    | zero =>
      intro v2 ls hf hl
      exact fn_0 hf
    | succ n_15 ih_15 =>
      intro v2 ls hf hl
      rw [f_Rs_isSameAs_15.eq_2] at hf
      refine lv_iload_n hx hb d_Rs_isSameAs_15 rfl (lv_at hl 2 rfl) ?_
      refine lv_aload_n hx hb d_Rs_isSameAs_16 rfl (lv_at hl 0 rfl) ?_
      refine va_get (D := D) (ci := 4) (v := .int xS) (C := RK4) (T := TK4) (N := 2) hx hb hts iwK4 hown hK hP 0 rfl rfl 1 (by decide) (hts _ fl_Rs_21) (fun _ h9 => h9) rfl d_Rs_isSameAs_17 ?_
      refine lv_icmp_ge (tgt := 46) hx hb d_Rs_isSameAs_20 (by decide) (fun hc => ?_) (fun hc => ?_)
      · have hf := fn_t hc hf
        refine lv_iconst (v := 1) hx hb d_Rs_isSameAs_46 (by decide) ?_
        cases hf
        exact hret 47 _ rfl d_Rs_isSameAs_47
      · have hf := fn_f hc hf
        refine lv_aload_n hx hb d_Rs_isSameAs_23 rfl (lv_at hl 0 rfl) ?_
        refine va_get (D := D) (ci := 4) (v := .ref xW) (C := RK4) (T := TK4) (N := 2) hx hb hts iwK4 hown hK hP 0 rfl rfl 0 (by decide) (hts _ fl_Rs_15) (fun _ h9 => h9) rfl d_Rs_isSameAs_24 ?_
        refine lv_iload_n hx hb d_Rs_isSameAs_27 rfl (lv_at hl 2 rfl) ?_
        have hg := fn_g hf
        have hf := fn_t hg hf
        refine va_iald hx hb hK hP 1 0 rfl rfl (fn_v hg) d_Rs_isSameAs_28 ?_
        refine lv_aload_n hx hb d_Rs_isSameAs_29 rfl (lv_at hl 1 rfl) ?_
        refine va_get (D := D) (ci := 4) (v := .ref zW) (C := RK4) (T := TK4) (N := 2) hx hb hts iwK4 hown hK hP 2 rfl rfl 0 (by decide) (hts _ fl_Rs_15) (fun _ h9 => h9) rfl d_Rs_isSameAs_30 ?_
        refine lv_iload_n hx hb d_Rs_isSameAs_33 rfl (lv_at hl 2 rfl) ?_
        have hg := fn_g hf
        have hf := fn_t hg hf
        refine va_iald hx hb hK hP 3 0 rfl rfl (fn_v hg) d_Rs_isSameAs_34 ?_
        refine lv_icmp_eq (tgt := 40) hx hb d_Rs_isSameAs_35 (by decide) (fun hc => ?_) (fun hc => ?_)
        · have hf := fn_t hc hf
          refine lv_iinc (v := (v2 + 1)) (lv' := [(2, .int (v2 + 1)), (0, .ref x), (1, .ref z)]) hx hb d_Rs_isSameAs_40 hl (k := 2) rfl rfl (by decide) rfl (fun ls hl => ?_)
          refine lv_goto (tgt := 15) hx hb d_Rs_isSameAs_43 (by decide) ?_
          exact ih_15 _ _ hf (lv_sub hl [1, 2, 0] rfl)
        · have hf := fn_f hc hf
          refine lv_iconst (v := 0) hx hb d_Rs_isSameAs_38 (by decide) ?_
          cases hf
          exact hret 39 _ rfl d_Rs_isSameAs_39
  unfold f_Rs_isSameAs at hf
  refine lv_aload_n hx hb d_Rs_isSameAs_0 rfl (lv_at hl 0 rfl) ?_
  refine va_get (D := D) (ci := 4) (v := .int xS) (C := RK4) (T := TK4) (N := 2) hx hb hts iwK4 hown hK hP 0 rfl rfl 1 (by decide) (hts _ fl_Rs_21) (fun _ h9 => h9) rfl d_Rs_isSameAs_1 ?_
  refine lv_aload_n hx hb d_Rs_isSameAs_4 rfl (lv_at hl 1 rfl) ?_
  refine va_get (D := D) (ci := 4) (v := .int zS) (C := RK4) (T := TK4) (N := 2) hx hb hts iwK4 hown hK hP 2 rfl rfl 1 (by decide) (hts _ fl_Rs_21) (fun _ h9 => h9) rfl d_Rs_isSameAs_5 ?_
  refine lv_icmp_eq (tgt := 13) hx hb d_Rs_isSameAs_8 (by decide) (fun hc => ?_) (fun hc => ?_)
  · have hf := fn_t hc hf
    refine lv_iconst (v := 0) hx hb d_Rs_isSameAs_13 (by decide) ?_
    refine lv_istore_n (lv' := [(2, .int 0), (0, .ref x), (1, .ref z)]) hx hb d_Rs_isSameAs_14 rfl hl (by decide) rfl (fun ls hl => ?_)
    exact J_15 _ _ _ hf (lv_sub hl [1, 2, 0] rfl)
  · have hf := fn_f hc hf
    refine lv_iconst (v := 0) hx hb d_Rs_isSameAs_11 (by decide) ?_
    cases hf
    exact hret 12 _ rfl d_Rs_isSameAs_12
abbrev rm_Rs_valuesOf : Room := { frames := 0, cells := 0, slots := 0, locals := 0 }
set_option maxHeartbeats 4000000 in
set_option maxRecDepth 100000 in
theorem c_Rs_valuesOf (l : Launch) (D : va_G) (cK : Nat → ClassId)  (v0 : Int32) (v1 : Int32) (r : Int32) (hf : f_Rs_valuesOf v0 v1 = some r) : RdI l y_Rs_valuesOf w_Rs_valuesOf rm_Rs_valuesOf D zz_cl (mt_ty cK RK2) [.int v0, .int v1] [] r := by
  refine mk_RdI (cc := b_Rs_valuesOf) (maxL := 3) (ty := .int) (by decide +kernel) rfl (Nat.le_of_ble_eq_true rfl) ?_
  intro p e s m below meth c args Q ls hx hb hml hown hts hK hP hret hl
  have hl : lv_has ls 3 [(0, .int v0), (1, .int v1)] := hl
  unfold f_Rs_valuesOf at hf
  refine lv_iload_n hx hb d_Rs_valuesOf_0 rfl (lv_at hl 1 rfl) ?_
  refine lv_iconst (v := 4) hx hb d_Rs_valuesOf_1 (by decide) ?_
  refine lv_icmp_lt (tgt := 10) hx hb d_Rs_valuesOf_2 (by decide) (fun hc => ?_) (fun hc => ?_)
  · have hf := fn_t hc hf
    refine lv_iload_n hx hb d_Rs_valuesOf_10 rfl (lv_at hl 0 rfl) ?_
    refine lv_bipush (v := 16) hx hb d_Rs_valuesOf_11 (by decide) ?_
    refine lv_ishr hx hb d_Rs_valuesOf_13 ?_
    refine lv_istore_n (lv' := [(2, .int (v0 >>> (16 &&& 31))), (0, .int v0), (1, .int v1)]) hx hb d_Rs_valuesOf_14 rfl hl (by decide) rfl (fun ls hl => ?_)
    refine lv_iconst (v := 1) hx hb d_Rs_valuesOf_15 (by decide) ?_
    refine lv_iload_n hx hb d_Rs_valuesOf_16 rfl (lv_at hl 0 rfl) ?_
    refine lv_iconst (v := 4) hx hb d_Rs_valuesOf_17 (by decide) ?_
    refine lv_iconst (v := 3) hx hb d_Rs_valuesOf_18 (by decide) ?_
    refine lv_iload_n hx hb d_Rs_valuesOf_19 rfl (lv_at hl 2 rfl) ?_
    refine lv_isub hx hb d_Rs_valuesOf_20 ?_
    refine lv_imul hx hb d_Rs_valuesOf_21 ?_
    refine lv_ishr hx hb d_Rs_valuesOf_22 ?_
    refine lv_bipush (v := 15) hx hb d_Rs_valuesOf_23 (by decide) ?_
    refine lv_iand hx hb d_Rs_valuesOf_25 ?_
    refine lv_ishl hx hb d_Rs_valuesOf_26 ?_
    cases hf
    exact hret 27 _ rfl d_Rs_valuesOf_27
  · have hf := fn_f hc hf
    refine lv_iload_n hx hb d_Rs_valuesOf_5 rfl (lv_at hl 0 rfl) ?_
    refine lv_ldc (v := 65535) hx hb hown (hts _ kn_Rs_29) d_Rs_valuesOf_6 ?_
    refine lv_iand hx hb d_Rs_valuesOf_8 ?_
    cases hf
    exact hret 9 _ rfl d_Rs_valuesOf_9
abbrev rm_Rs_bitAt : Room := { frames := 0, cells := 0, slots := 0, locals := 0 }
set_option maxHeartbeats 4000000 in
set_option maxRecDepth 100000 in
theorem c_Rs_bitAt (l : Launch) (D : va_G) (cK : Nat → ClassId)  (N : Nat) (v0 : Int32) (v1 : Int32) (r : Int32) (hf : f_Rs_bitAt N v0 v1 = some r) : RdI l y_Rs_bitAt w_Rs_bitAt rm_Rs_bitAt D zz_cl (mt_ty cK RK2) [.int v0, .int v1] [] r := by
  refine mk_RdI (cc := b_Rs_bitAt) (maxL := 4) (ty := .int) (by decide +kernel) rfl (Nat.le_of_ble_eq_true rfl) ?_
  intro p e s m below meth c args Q ls hx hb hml hown hts hK hP hret hl
  have hl : lv_has ls 4 [(0, .int v0), (1, .int v1)] := hl
  have J_4 : ∀ (v0 : Int32) (n_4 : Nat)  (v2 : Int32) (v3 : Int32) (ls : Array Slot), f_Rs_bitAt_4 N v0 n_4 v2 v3 = some r → lv_has ls 4 [(0, .int v0), (2, .int v2), (3, .int v3)] → W p l e rm_Rs_bitAt s m args below meth c s.heap [] 0 0 Q (F0 m 4 ls []) := by
    intro v0 n_4
    induction n_4 with
    | zero =>
      intro v2 v3 ls hf hl
      exact fn_0 hf
    | succ n_4 ih_4 =>
      intro v2 v3 ls hf hl
      rw [f_Rs_bitAt_4.eq_2] at hf
      refine lv_iload_n hx hb d_Rs_bitAt_4 rfl (lv_at hl 2 rfl) ?_
      refine lv_bipush (v := 16) hx hb d_Rs_bitAt_5 (by decide) ?_
      refine lv_icmp_ge (tgt := 33) hx hb d_Rs_bitAt_7 (by decide) (fun hc => ?_) (fun hc => ?_)
      · have hf := fn_t hc hf
        refine lv_iconst (v := 0) hx hb d_Rs_bitAt_33 (by decide) ?_
        cases hf
        exact hret 34 _ rfl d_Rs_bitAt_34
      · have hf := fn_f hc hf
        refine lv_iload_n hx hb d_Rs_bitAt_10 rfl (lv_at hl 0 rfl) ?_
        refine lv_iload_n hx hb d_Rs_bitAt_11 rfl (lv_at hl 2 rfl) ?_
        refine lv_ishr hx hb d_Rs_bitAt_12 ?_
        refine lv_iconst (v := 1) hx hb d_Rs_bitAt_13 (by decide) ?_
        refine lv_iand hx hb d_Rs_bitAt_14 ?_
        refine lv_if_eq (tgt := 27) hx hb d_Rs_bitAt_15 (by decide) (fun hc => ?_) (fun hc => ?_)
        · have hf := fn_t hc hf
          refine lv_iinc (v := (v3 + 1)) (lv' := [(3, .int (v3 + 1)), (0, .int v0), (2, .int v2)]) hx hb d_Rs_bitAt_27 hl (k := 2) rfl rfl (by decide) rfl (fun ls hl => ?_)
          refine lv_goto (tgt := 4) hx hb d_Rs_bitAt_30 (by decide) ?_
          exact ih_4 _ _ _ hf (lv_sub hl [1, 2, 0] rfl)
        · have hf := fn_f hc hf
          refine lv_iload_n hx hb d_Rs_bitAt_18 rfl (lv_at hl 1 rfl) ?_
          refine lv_if_ne (tgt := 24) hx hb d_Rs_bitAt_19 (by decide) (fun hc => ?_) (fun hc => ?_)
          · have hf := fn_f hc hf
            refine lv_iinc (v := (v2 + (-1))) (lv' := [(2, .int (v2 + (-1))), (0, .int v0), (3, .int v3)]) hx hb d_Rs_bitAt_24 hl (k := 1) rfl rfl (by decide) rfl (fun ls hl => ?_)
            refine lv_iinc (v := (v3 + 1)) (lv' := [(3, .int (v3 + 1)), (2, .int (v2 + (-1))), (0, .int v0)]) hx hb d_Rs_bitAt_27 hl (k := 2) rfl rfl (by decide) rfl (fun ls hl => ?_)
            refine lv_goto (tgt := 4) hx hb d_Rs_bitAt_30 (by decide) ?_
            exact ih_4 _ _ _ hf (lv_sub hl [2, 1, 0] rfl)
          · have hf := fn_t hc hf
            refine lv_iload_n hx hb d_Rs_bitAt_22 rfl (lv_at hl 2 rfl) ?_
            cases hf
            exact hret 23 _ rfl d_Rs_bitAt_23
  unfold f_Rs_bitAt at hf
  refine lv_iload_n hx hb d_Rs_bitAt_0 rfl (lv_at hl 1 rfl) ?_
  refine lv_istore_n (lv' := [(2, .int v1), (0, .int v0), (1, .int v1)]) hx hb d_Rs_bitAt_1 rfl hl (by decide) rfl (fun ls hl => ?_)
  refine lv_iconst (v := 0) hx hb d_Rs_bitAt_2 (by decide) ?_
  refine lv_istore_n (lv' := [(3, .int 0), (2, .int v1), (0, .int v0), (1, .int v1)]) hx hb d_Rs_bitAt_3 rfl hl (by decide) rfl (fun ls hl => ?_)
  exact J_4 _ _ _ _ _ hf (lv_sub hl [2, 1, 0] rfl)
abbrev rm_Se_put : Room := { frames := 0, cells := 0, slots := 0, locals := 0 }
set_option maxHeartbeats 4000000 in
set_option maxRecDepth 100000 in
theorem c_Se_put (l : Launch) (D : va_G) (cK : Nat → ClassId) (se seO : Nat) (seOf : Nat → Int32) (v1 : Int32) (v2 : Int32) (o_seOf : Nat → Int32) (hf : f_Se_put seOf v1 v2 = some o_seOf) : WrV l y_Se_put w_Se_put rm_Se_put D zz_cl (mt_ty cK RK2) [.ref se, .int v1, .int v2] [(se, .inr (1, [.ref seO])), (seO, .inl (cK 0, 128, .inl seOf))] [(se, .inr (1, [.ref seO])), (seO, .inl (cK 0, 128, .inl o_seOf))] := by
  refine mk_WrV (cc := b_Se_put) (maxL := 5) (by decide +kernel) rfl (Nat.le_of_ble_eq_true rfl) ?_
  intro p e s m below meth c args Q A ls hx hb hml hown hts hA hK hP hD hret hl
  have hS : va_S A s.heap s.heap [] := va_S.rf
  have hl : lv_has ls 5 [(0, .ref se), (1, .int v1), (2, .int v2)] := hl
  unfold f_Se_put at hf
  refine lv_iload_n hx hb d_Se_put_0 rfl (lv_at hl 1 rfl) ?_
  refine lv_bipush (v := 16) hx hb d_Se_put_1 (by decide) ?_
  refine lv_idiv hx hb d_Se_put_3 (by decide) ?_
  refine lv_istore_n (lv' := [(3, .int (v1 / 16)), (0, .ref se), (1, .int v1), (2, .int v2)]) hx hb d_Se_put_4 rfl hl (by decide) rfl (fun ls hl => ?_)
  refine lv_iload_n hx hb d_Se_put_5 rfl (lv_at hl 0 rfl) ?_
  refine lv_if_lt (tgt := 18) hx hb d_Se_put_6 (by decide) (fun hc => ?_) (fun hc => ?_)
  · have hf := fn_t hc hf
    cases hf
    exact hret _ _ 18 _ hP hD hS d_Se_put_18
  · have hf := fn_f hc hf
    refine lv_iload_n hx hb d_Se_put_9 rfl (lv_at hl 0 rfl) ?_
    refine lv_aload_n hx hb d_Se_put_10 rfl (lv_at hl 1 rfl) ?_
    refine va_get (D := D) (ci := 1) (v := .ref seO) (C := RK1) (T := TK1) (N := 1) hx hb hts iwK1 hown hK hP 0 rfl rfl 0 (by decide) (hts _ fl_Se_9) (fun _ h9 => h9) rfl d_Se_put_11 ?_
    refine va_alen hx hb hK hP 1 0 rfl rfl rfl d_Se_put_14 ?_
    refine lv_icmp_lt (tgt := 19) hx hb d_Se_put_15 (by decide) (fun hc => ?_) (fun hc => ?_)
    · have hf := fn_t hc hf
      refine lv_iconst (v := 1) hx hb d_Se_put_19 (by decide) ?_
      refine lv_iload_n hx hb d_Se_put_20 rfl (lv_at hl 2 rfl) ?_
      refine lv_bipush (v := 16) hx hb d_Se_put_21 (by decide) ?_
      refine lv_irem hx hb d_Se_put_23 (by decide) ?_
      refine lv_ishl hx hb d_Se_put_24 ?_
      refine lv_istore (lv' := [(4, .int ((1 : Int32) <<< ((v1 - v1 / 16 * 16) &&& 31))), (3, .int (v1 / 16)), (0, .ref se), (1, .int v1), (2, .int v2)]) hx hb d_Se_put_25 hl (by decide) rfl (fun ls hl => ?_)
      refine lv_aload_n hx hb d_Se_put_27 rfl (lv_at hl 2 rfl) ?_
      refine va_get (D := D) (ci := 1) (v := .ref seO) (C := RK1) (T := TK1) (N := 1) hx hb hts iwK1 hown hK hP 0 rfl rfl 0 (by decide) (hts _ fl_Se_9) (fun _ h9 => h9) rfl d_Se_put_28 ?_
      refine lv_iload_n hx hb d_Se_put_31 rfl (lv_at hl 1 rfl) ?_
      refine lv_iload_n hx hb d_Se_put_32 rfl (lv_at hl 4 rfl) ?_
      refine lv_if_eq (tgt := 48) hx hb d_Se_put_33 (by decide) (fun hc => ?_) (fun hc => ?_)
      · have hf := fn_t hc hf
        refine lv_aload_n hx hb d_Se_put_48 rfl (lv_at hl 2 rfl) ?_
        refine va_get (D := D) (ci := 1) (v := .ref seO) (C := RK1) (T := TK1) (N := 1) hx hb hts iwK1 hown hK hP 0 rfl rfl 0 (by decide) (hts _ fl_Se_9) (fun _ h9 => h9) rfl d_Se_put_49 ?_
        refine lv_iload_n hx hb d_Se_put_52 rfl (lv_at hl 1 rfl) ?_
        have hg := fn_g hf
        have hf := fn_t hg hf
        refine va_iald hx hb hK hP 1 0 rfl rfl (fn_v hg) d_Se_put_53 ?_
        refine lv_iload hx hb d_Se_put_54 (lv_at hl 0 rfl) ?_
        refine lv_iconst (v := (-1)) hx hb d_Se_put_56 (by decide) ?_
        refine lv_ixor hx hb d_Se_put_57 ?_
        refine lv_iand hx hb d_Se_put_58 ?_
        have hg := fn_g hf
        have hf := fn_t hg hf
        refine va_iast hx hb hK hP hD hS 1 0 rfl rfl (fn_v hg) d_Se_put_59 (fun H locs hP hD hS => ?_)
        have hP : va_P D zz_cl [(se, .inr (1, [.ref seO])), (seO, .inl (cK 0, 128, .inl (upd seOf (Int32.toNatClampNeg (v1 / 16)) ((seOf (Int32.toNatClampNeg (v1 / 16))) &&& (((1 : Int32) <<< ((v1 - v1 / 16 * 16) &&& 31)) ^^^ (-1))))))] H := hP
        have hD : va_D A [(se, .inr (1, [.ref seO])), (seO, .inl (cK 0, 128, .inl (upd seOf (Int32.toNatClampNeg (v1 / 16)) ((seOf (Int32.toNatClampNeg (v1 / 16))) &&& (((1 : Int32) <<< ((v1 - v1 / 16 * 16) &&& 31)) ^^^ (-1))))))] := hD
        cases hf
        exact hret _ _ 60 _ hP hD hS d_Se_put_60
      · have hf := fn_f hc hf
        refine lv_aload_n hx hb d_Se_put_36 rfl (lv_at hl 2 rfl) ?_
        refine va_get (D := D) (ci := 1) (v := .ref seO) (C := RK1) (T := TK1) (N := 1) hx hb hts iwK1 hown hK hP 0 rfl rfl 0 (by decide) (hts _ fl_Se_9) (fun _ h9 => h9) rfl d_Se_put_37 ?_
        refine lv_iload_n hx hb d_Se_put_40 rfl (lv_at hl 1 rfl) ?_
        have hg := fn_g hf
        have hf := fn_t hg hf
        refine va_iald hx hb hK hP 1 0 rfl rfl (fn_v hg) d_Se_put_41 ?_
        refine lv_iload hx hb d_Se_put_42 (lv_at hl 0 rfl) ?_
        refine lv_ior hx hb d_Se_put_44 ?_
        refine lv_goto (tgt := 59) hx hb d_Se_put_45 (by decide) ?_
        have hg := fn_g hf
        have hf := fn_t hg hf
        refine va_iast hx hb hK hP hD hS 1 0 rfl rfl (fn_v hg) d_Se_put_59 (fun H locs hP hD hS => ?_)
        have hP : va_P D zz_cl [(se, .inr (1, [.ref seO])), (seO, .inl (cK 0, 128, .inl (upd seOf (Int32.toNatClampNeg (v1 / 16)) ((seOf (Int32.toNatClampNeg (v1 / 16))) ||| ((1 : Int32) <<< ((v1 - v1 / 16 * 16) &&& 31))))))] H := hP
        have hD : va_D A [(se, .inr (1, [.ref seO])), (seO, .inl (cK 0, 128, .inl (upd seOf (Int32.toNatClampNeg (v1 / 16)) ((seOf (Int32.toNatClampNeg (v1 / 16))) ||| ((1 : Int32) <<< ((v1 - v1 / 16 * 16) &&& 31))))))] := hD
        cases hf
        exact hret _ _ 60 _ hP hD hS d_Se_put_60
    · have hf := fn_f hc hf
      cases hf
      exact hret _ _ 18 _ hP hD hS d_Se_put_18
abbrev rm_Se_objectsOf : Room := { frames := 0, cells := 0, slots := 0, locals := 0 }
set_option maxHeartbeats 4000000 in
set_option maxRecDepth 100000 in
theorem c_Se_objectsOf (l : Launch) (D : va_G) (cK : Nat → ClassId) (se seO : Nat) (seOf : Nat → Int32) (v1 : Int32) (v2 : Int32) (r : Int32) (hf : f_Se_objectsOf seOf v1 v2 = some r) : RdI l y_Se_objectsOf w_Se_objectsOf rm_Se_objectsOf D zz_cl (mt_ty cK RK2) [.ref se, .int v1, .int v2] [(se, .inr (1, [.ref seO])), (seO, .inl (cK 0, 128, .inl seOf))] r := by
  refine mk_RdI (cc := b_Se_objectsOf) (maxL := 3) (ty := .int) (by decide +kernel) rfl (Nat.le_of_ble_eq_true rfl) ?_
  intro p e s m below meth c args Q ls hx hb hml hown hts hK hP hret hl
  have hl : lv_has ls 3 [(0, .ref se), (1, .int v1), (2, .int v2)] := hl
  unfold f_Se_objectsOf at hf
  refine lv_iload_n hx hb d_Se_objectsOf_0 rfl (lv_at hl 1 rfl) ?_
  refine lv_if_lt (tgt := 20) hx hb d_Se_objectsOf_1 (by decide) (fun hc => ?_) (fun hc => ?_)
  · have hf := fn_t hc hf
    refine lv_iconst (v := 0) hx hb d_Se_objectsOf_20 (by decide) ?_
    cases hf
    exact hret 21 _ rfl d_Se_objectsOf_21
  · have hf := fn_f hc hf
    refine lv_iload_n hx hb d_Se_objectsOf_4 rfl (lv_at hl 1 rfl) ?_
    refine lv_bipush (v := 16) hx hb d_Se_objectsOf_5 (by decide) ?_
    refine lv_icmp_ge (tgt := 20) hx hb d_Se_objectsOf_7 (by decide) (fun hc => ?_) (fun hc => ?_)
    · have hf := fn_t hc hf
      refine lv_iconst (v := 0) hx hb d_Se_objectsOf_20 (by decide) ?_
      cases hf
      exact hret 21 _ rfl d_Se_objectsOf_21
    · have hf := fn_f hc hf
      refine lv_iload_n hx hb d_Se_objectsOf_10 rfl (lv_at hl 2 rfl) ?_
      refine lv_if_lt (tgt := 20) hx hb d_Se_objectsOf_11 (by decide) (fun hc => ?_) (fun hc => ?_)
      · have hf := fn_t hc hf
        refine lv_iconst (v := 0) hx hb d_Se_objectsOf_20 (by decide) ?_
        cases hf
        exact hret 21 _ rfl d_Se_objectsOf_21
      · have hf := fn_f hc hf
        refine lv_iload_n hx hb d_Se_objectsOf_14 rfl (lv_at hl 2 rfl) ?_
        refine lv_bipush (v := 8) hx hb d_Se_objectsOf_15 (by decide) ?_
        refine lv_icmp_lt (tgt := 22) hx hb d_Se_objectsOf_17 (by decide) (fun hc => ?_) (fun hc => ?_)
        · have hf := fn_t hc hf
          refine lv_aload_n hx hb d_Se_objectsOf_22 rfl (lv_at hl 0 rfl) ?_
          refine va_get (D := D) (ci := 1) (v := .ref seO) (C := RK1) (T := TK1) (N := 1) hx hb hts iwK1 hown hK hP 0 rfl rfl 0 (by decide) (hts _ fl_Se_9) (fun _ h9 => h9) rfl d_Se_objectsOf_23 ?_
          refine lv_iload_n hx hb d_Se_objectsOf_26 rfl (lv_at hl 1 rfl) ?_
          refine lv_bipush (v := 8) hx hb d_Se_objectsOf_27 (by decide) ?_
          refine lv_imul hx hb d_Se_objectsOf_29 ?_
          refine lv_iload_n hx hb d_Se_objectsOf_30 rfl (lv_at hl 2 rfl) ?_
          refine lv_iadd hx hb d_Se_objectsOf_31 ?_
          have hg := fn_g hf
          have hf := fn_t hg hf
          refine va_iald hx hb hK hP 1 0 rfl rfl (fn_v hg) d_Se_objectsOf_32 ?_
          cases hf
          exact hret 33 _ rfl d_Se_objectsOf_33
        · have hf := fn_f hc hf
          refine lv_iconst (v := 0) hx hb d_Se_objectsOf_20 (by decide) ?_
          cases hf
          exact hret 21 _ rfl d_Se_objectsOf_21
abbrev rm_Qu_add : Room := { frames := 1, cells := 0, slots := 0, locals := 21 }
set_option maxHeartbeats 4000000 in
set_option maxRecDepth 100000 in
theorem c_Qu_add (l : Launch) (D : va_G) (cK : Nat → ClassId) (q qI qL : Nat) (qW : Int32) (qP : Int32) (qV : Int32) (qIf : Nat → Int32) (qLf : Nat → Int32) (v1 : Int32) (v2 : Int32) (v3 : Int32) (r : Int32) (o_qP : Int32) (o_qV : Int32) (o_qIf : Nat → Int32) (o_qLf : Nat → Int32) (hf : f_Qu_add qP qV qIf qLf v1 v2 v3 = some (r, o_qP, o_qV, o_qIf, o_qLf)) : WrI l y_Qu_add w_Qu_add rm_Qu_add D zz_cl (mt_ty cK RK2) [.ref q, .int v1, .int v2, .int v3] [(q, .inr (2, [.ref qI, .ref qL, .int qW, .int qP, .int qV])), (qI, .inl (cK 0, 9, .inl qIf)), (qL, .inl (cK 0, 3, .inl qLf))] [(q, .inr (2, [.ref qI, .ref qL, .int qW, .int o_qP, .int o_qV])), (qI, .inl (cK 0, 9, .inl o_qIf)), (qL, .inl (cK 0, 3, .inl o_qLf))] r := by
  refine mk_WrI (cc := b_Qu_add) (maxL := 4) (ty := .boolean) (by decide +kernel) rfl (Nat.le_of_ble_eq_true rfl) ?_
  intro p e s m below meth c args Q A ls hx hb hml hown hts hA hK hP hD hret hl
  have hS : va_S A s.heap s.heap [] := va_S.rf
  have hl : lv_has ls 4 [(0, .ref q), (1, .int v1), (2, .int v2), (3, .int v3)] := hl
  unfold f_Qu_add at hf
  refine lv_aload_n hx hb d_Qu_add_0 rfl (lv_at hl 0 rfl) ?_
  refine va_get (D := D) (ci := 2) (v := .int qP) (C := RK2) (T := TK2) (N := 5) hx hb hts iwK2 hown hK hP 0 rfl rfl 3 (by decide) (hts _ fl_Qu_22) (fun _ h9 => h9) rfl d_Qu_add_1 ?_
  refine lv_iconst (v := 3) hx hb d_Qu_add_4 (by decide) ?_
  refine lv_icmp_lt (tgt := 10) hx hb d_Qu_add_5 (by decide) (fun hc => ?_) (fun hc => ?_)
  · have hf := fn_t hc hf
    refine lv_aload_n hx hb d_Qu_add_10 rfl (lv_at hl 0 rfl) ?_
    refine va_get (D := D) (ci := 2) (v := .ref qI) (C := RK2) (T := TK2) (N := 5) hx hb hts iwK2 hown hK hP 0 rfl rfl 0 (by decide) (hts _ fl_Qu_9) (fun _ h9 => h9) rfl d_Qu_add_11 ?_
    refine lv_aload_n hx hb d_Qu_add_14 rfl (lv_at hl 0 rfl) ?_
    refine va_get (D := D) (ci := 2) (v := .int qP) (C := RK2) (T := TK2) (N := 5) hx hb hts iwK2 hown hK hP 0 rfl rfl 3 (by decide) (hts _ fl_Qu_22) (fun _ h9 => h9) rfl d_Qu_add_15 ?_
    refine lv_iconst (v := 3) hx hb d_Qu_add_18 (by decide) ?_
    refine lv_imul hx hb d_Qu_add_19 ?_
    refine lv_iload_n hx hb d_Qu_add_20 rfl (lv_at hl 1 rfl) ?_
    have hg := fn_g hf
    have hf := fn_t hg hf
    refine va_iast hx hb hK hP hD hS 1 0 rfl rfl (fn_v hg) d_Qu_add_21 (fun H locs hP hD hS => ?_)
    have hP : va_P D zz_cl [(q, .inr (2, [.ref qI, .ref qL, .int qW, .int qP, .int qV])), (qI, .inl (cK 0, 9, .inl (upd qIf (Int32.toNatClampNeg (qP * 3)) v1))), (qL, .inl (cK 0, 3, .inl qLf))] H := hP
    have hD : va_D A [(q, .inr (2, [.ref qI, .ref qL, .int qW, .int qP, .int qV])), (qI, .inl (cK 0, 9, .inl (upd qIf (Int32.toNatClampNeg (qP * 3)) v1))), (qL, .inl (cK 0, 3, .inl qLf))] := hD
    refine lv_aload_n hx hb d_Qu_add_22 rfl (lv_at hl 0 rfl) ?_
    refine va_get (D := D) (ci := 2) (v := .ref qI) (C := RK2) (T := TK2) (N := 5) hx hb hts iwK2 hown hK hP 0 rfl rfl 0 (by decide) (hts _ fl_Qu_9) (fun _ h9 => h9) rfl d_Qu_add_23 ?_
    refine lv_aload_n hx hb d_Qu_add_26 rfl (lv_at hl 0 rfl) ?_
    refine va_get (D := D) (ci := 2) (v := .int qP) (C := RK2) (T := TK2) (N := 5) hx hb hts iwK2 hown hK hP 0 rfl rfl 3 (by decide) (hts _ fl_Qu_22) (fun _ h9 => h9) rfl d_Qu_add_27 ?_
    refine lv_iconst (v := 3) hx hb d_Qu_add_30 (by decide) ?_
    refine lv_imul hx hb d_Qu_add_31 ?_
    refine lv_iconst (v := 1) hx hb d_Qu_add_32 (by decide) ?_
    refine lv_iadd hx hb d_Qu_add_33 ?_
    refine lv_iload_n hx hb d_Qu_add_34 rfl (lv_at hl 2 rfl) ?_
    have hg := fn_g hf
    have hf := fn_t hg hf
    refine va_iast hx hb hK hP hD hS 1 0 rfl rfl (fn_v hg) d_Qu_add_35 (fun H locs hP hD hS => ?_)
    have hP : va_P D zz_cl [(q, .inr (2, [.ref qI, .ref qL, .int qW, .int qP, .int qV])), (qI, .inl (cK 0, 9, .inl (upd (upd qIf (Int32.toNatClampNeg (qP * 3)) v1) (Int32.toNatClampNeg ((qP * 3) + 1)) v2))), (qL, .inl (cK 0, 3, .inl qLf))] H := hP
    have hD : va_D A [(q, .inr (2, [.ref qI, .ref qL, .int qW, .int qP, .int qV])), (qI, .inl (cK 0, 9, .inl (upd (upd qIf (Int32.toNatClampNeg (qP * 3)) v1) (Int32.toNatClampNeg ((qP * 3) + 1)) v2))), (qL, .inl (cK 0, 3, .inl qLf))] := hD
    refine lv_aload_n hx hb d_Qu_add_36 rfl (lv_at hl 0 rfl) ?_
    refine va_get (D := D) (ci := 2) (v := .ref qI) (C := RK2) (T := TK2) (N := 5) hx hb hts iwK2 hown hK hP 0 rfl rfl 0 (by decide) (hts _ fl_Qu_9) (fun _ h9 => h9) rfl d_Qu_add_37 ?_
    refine lv_aload_n hx hb d_Qu_add_40 rfl (lv_at hl 0 rfl) ?_
    refine va_get (D := D) (ci := 2) (v := .int qP) (C := RK2) (T := TK2) (N := 5) hx hb hts iwK2 hown hK hP 0 rfl rfl 3 (by decide) (hts _ fl_Qu_22) (fun _ h9 => h9) rfl d_Qu_add_41 ?_
    refine lv_iconst (v := 3) hx hb d_Qu_add_44 (by decide) ?_
    refine lv_imul hx hb d_Qu_add_45 ?_
    refine lv_iconst (v := 2) hx hb d_Qu_add_46 (by decide) ?_
    refine lv_iadd hx hb d_Qu_add_47 ?_
    refine lv_iload_n hx hb d_Qu_add_48 rfl (lv_at hl 3 rfl) ?_
    have hg := fn_g hf
    have hf := fn_t hg hf
    refine va_iast hx hb hK hP hD hS 1 0 rfl rfl (fn_v hg) d_Qu_add_49 (fun H locs hP hD hS => ?_)
    have hP : va_P D zz_cl [(q, .inr (2, [.ref qI, .ref qL, .int qW, .int qP, .int qV])), (qI, .inl (cK 0, 9, .inl (upd (upd (upd qIf (Int32.toNatClampNeg (qP * 3)) v1) (Int32.toNatClampNeg ((qP * 3) + 1)) v2) (Int32.toNatClampNeg ((qP * 3) + 2)) v3))), (qL, .inl (cK 0, 3, .inl qLf))] H := hP
    have hD : va_D A [(q, .inr (2, [.ref qI, .ref qL, .int qW, .int qP, .int qV])), (qI, .inl (cK 0, 9, .inl (upd (upd (upd qIf (Int32.toNatClampNeg (qP * 3)) v1) (Int32.toNatClampNeg ((qP * 3) + 1)) v2) (Int32.toNatClampNeg ((qP * 3) + 2)) v3))), (qL, .inl (cK 0, 3, .inl qLf))] := hD
    refine lv_aload_n hx hb d_Qu_add_50 rfl (lv_at hl 0 rfl) ?_
    refine va_get (D := D) (ci := 2) (v := .ref qL) (C := RK2) (T := TK2) (N := 5) hx hb hts iwK2 hown hK hP 0 rfl rfl 1 (by decide) (hts _ fl_Qu_15) (fun _ h9 => h9) rfl d_Qu_add_51 ?_
    refine lv_aload_n hx hb d_Qu_add_54 rfl (lv_at hl 0 rfl) ?_
    refine va_get (D := D) (ci := 2) (v := .int qP) (C := RK2) (T := TK2) (N := 5) hx hb hts iwK2 hown hK hP 0 rfl rfl 3 (by decide) (hts _ fl_Qu_22) (fun _ h9 => h9) rfl d_Qu_add_55 ?_
    refine lv_iconst (v := (-1)) hx hb d_Qu_add_58 (by decide) ?_
    refine lv_iload_n hx hb d_Qu_add_59 rfl (lv_at hl 1 rfl) ?_
    refine lv_iload_n hx hb d_Qu_add_60 rfl (lv_at hl 2 rfl) ?_
    refine lv_iload_n hx hb d_Qu_add_61 rfl (lv_at hl 3 rfl) ?_
    obtain ⟨r_62, hcl, hf⟩ := fn_e1 hf
    refine cs_RdI (rest := [.int v1, .int (-1), .int qP, .ref qL]) ⟨hx, hb, hml, hown, hts⟩ (c_Jm_min l D cK v2 v3 r_62 hcl) (va_cwS 2 hts (zz_S ml_Qu_25 st_Jm_min in_Jm co_Jm_min) rfl rfl rfl hd_Jm_min ⟨Nat.le_of_ble_eq_true rfl, Nat.le_of_ble_eq_true rfl⟩) hK hP [] rfl rfl hl.1 rfl (Nat.le_of_ble_eq_true rfl) d_Qu_add_62 ⟨Nat.zero_le _, Nat.zero_le _⟩ ?_
    obtain ⟨r_65, hcl, hf⟩ := fn_e1 hf
    refine cs_RdI (rest := [.int (-1), .int qP, .ref qL]) ⟨hx, hb, hml, hown, hts⟩ (c_Jm_min l D cK v1 r_62 r_65 hcl) (va_cwS 2 hts (zz_S ml_Qu_25 st_Jm_min in_Jm co_Jm_min) rfl rfl rfl hd_Jm_min ⟨Nat.le_of_ble_eq_true rfl, Nat.le_of_ble_eq_true rfl⟩) hK hP [] rfl rfl hl.1 rfl (Nat.le_of_ble_eq_true rfl) d_Qu_add_65 ⟨Nat.zero_le _, Nat.zero_le _⟩ ?_
    refine lv_isub hx hb d_Qu_add_68 ?_
    have hg := fn_g hf
    have hf := fn_t hg hf
    refine va_iast hx hb hK hP hD hS 2 0 rfl rfl (fn_v hg) d_Qu_add_69 (fun H locs hP hD hS => ?_)
    have hP : va_P D zz_cl [(q, .inr (2, [.ref qI, .ref qL, .int qW, .int qP, .int qV])), (qI, .inl (cK 0, 9, .inl (upd (upd (upd qIf (Int32.toNatClampNeg (qP * 3)) v1) (Int32.toNatClampNeg ((qP * 3) + 1)) v2) (Int32.toNatClampNeg ((qP * 3) + 2)) v3))), (qL, .inl (cK 0, 3, .inl (upd qLf (Int32.toNatClampNeg qP) ((-1) - r_65))))] H := hP
    have hD : va_D A [(q, .inr (2, [.ref qI, .ref qL, .int qW, .int qP, .int qV])), (qI, .inl (cK 0, 9, .inl (upd (upd (upd qIf (Int32.toNatClampNeg (qP * 3)) v1) (Int32.toNatClampNeg ((qP * 3) + 1)) v2) (Int32.toNatClampNeg ((qP * 3) + 2)) v3))), (qL, .inl (cK 0, 3, .inl (upd qLf (Int32.toNatClampNeg qP) ((-1) - r_65))))] := hD
    refine lv_aload_n hx hb d_Qu_add_70 rfl (lv_at hl 0 rfl) ?_
    refine lv_dup hx hb d_Qu_add_71 rfl ?_
    refine va_get (D := D) (ci := 2) (v := .int qP) (C := RK2) (T := TK2) (N := 5) hx hb hts iwK2 hown hK hP 0 rfl rfl 3 (by decide) (hts _ fl_Qu_22) (fun _ h9 => h9) rfl d_Qu_add_72 ?_
    refine lv_iconst (v := 1) hx hb d_Qu_add_75 (by decide) ?_
    refine lv_iadd hx hb d_Qu_add_76 ?_
    refine va_put (D := D) (ci := 2) (v := .int (qP + 1)) (ty := .int) (C := RK2) (T := TK2) (N := 5) hx hb hts iwK2 tyK2 tyK2_ok nmK2 hown hK hP hD hS 0 rfl rfl 3 (by decide) (hts _ fl_Qu_22) (fun _ h9 => h9) rfl (by decide +kernel) rfl rfl (Nat.le_of_ble_eq_true rfl) d_Qu_add_77 (fun H locs hP hD hS => ?_)
    have hP : va_P D zz_cl [(q, .inr (2, [.ref qI, .ref qL, .int qW, .int (qP + 1), .int qV])), (qI, .inl (cK 0, 9, .inl (upd (upd (upd qIf (Int32.toNatClampNeg (qP * 3)) v1) (Int32.toNatClampNeg ((qP * 3) + 1)) v2) (Int32.toNatClampNeg ((qP * 3) + 2)) v3))), (qL, .inl (cK 0, 3, .inl (upd qLf (Int32.toNatClampNeg qP) ((-1) - r_65))))] H := hP
    have hD : va_D A [(q, .inr (2, [.ref qI, .ref qL, .int qW, .int (qP + 1), .int qV])), (qI, .inl (cK 0, 9, .inl (upd (upd (upd qIf (Int32.toNatClampNeg (qP * 3)) v1) (Int32.toNatClampNeg ((qP * 3) + 1)) v2) (Int32.toNatClampNeg ((qP * 3) + 2)) v3))), (qL, .inl (cK 0, 3, .inl (upd qLf (Int32.toNatClampNeg qP) ((-1) - r_65))))] := hD
    refine lv_aload_n hx hb d_Qu_add_80 rfl (lv_at hl 0 rfl) ?_
    refine lv_iload_n hx hb d_Qu_add_81 rfl (lv_at hl 1 rfl) ?_
    obtain ⟨qV_82, hcl, hf⟩ := fn_e1 hf
    refine cv_WrV (rest := []) (wr := [(qI, .inl (cK 0, 9, .inl (upd (upd (upd qIf (Int32.toNatClampNeg (qP * 3)) v1) (Int32.toNatClampNeg ((qP * 3) + 1)) v2) (Int32.toNatClampNeg ((qP * 3) + 2)) v3))), (qL, .inl (cK 0, 3, .inl (upd qLf (Int32.toNatClampNeg qP) ((-1) - r_65))))]) (w' := [(q, .inr (2, [.ref qI, .ref qL, .int qW, .int (qP + 1), .int qV_82])), (qI, .inl (cK 0, 9, .inl (upd (upd (upd qIf (Int32.toNatClampNeg (qP * 3)) v1) (Int32.toNatClampNeg ((qP * 3) + 1)) v2) (Int32.toNatClampNeg ((qP * 3) + 2)) v3))), (qL, .inl (cK 0, 3, .inl (upd qLf (Int32.toNatClampNeg qP) ((-1) - r_65))))]) ⟨hx, hb, hml, hown, hts⟩ (c_Qu_use l D cK q qI qL qW (qP + 1) qV v1 qV_82 hcl) (cwV 1 hts (zz_V ml_Qu_31 im_Qu_use se_Qu_use in_Qu co_Qu_use) rfl rfl rfl ⟨rfl, hd_Qu_use⟩ ⟨Nat.le_of_ble_eq_true rfl, Nat.le_of_ble_eq_true rfl⟩) hK hP hD hS hA [0] [1, 2] [2, 0, 1] rfl (by decide) rfl (by decide) (by decide) rfl (by decide) 0 rfl rfl rfl rfl hl.1 rfl (Nat.le_of_ble_eq_true rfl) d_Qu_add_82 ⟨Nat.zero_le _, Nat.zero_le _⟩ (fun H locs hP hD hS => ?_)
    refine lv_aload_n hx hb d_Qu_add_85 rfl (lv_at hl 0 rfl) ?_
    refine lv_iload_n hx hb d_Qu_add_86 rfl (lv_at hl 2 rfl) ?_
    obtain ⟨qV_87, hcl, hf⟩ := fn_e1 hf
    refine cv_WrV (rest := []) (wr := [(qI, .inl (cK 0, 9, .inl (upd (upd (upd qIf (Int32.toNatClampNeg (qP * 3)) v1) (Int32.toNatClampNeg ((qP * 3) + 1)) v2) (Int32.toNatClampNeg ((qP * 3) + 2)) v3))), (qL, .inl (cK 0, 3, .inl (upd qLf (Int32.toNatClampNeg qP) ((-1) - r_65))))]) (w' := [(q, .inr (2, [.ref qI, .ref qL, .int qW, .int (qP + 1), .int qV_87])), (qI, .inl (cK 0, 9, .inl (upd (upd (upd qIf (Int32.toNatClampNeg (qP * 3)) v1) (Int32.toNatClampNeg ((qP * 3) + 1)) v2) (Int32.toNatClampNeg ((qP * 3) + 2)) v3))), (qL, .inl (cK 0, 3, .inl (upd qLf (Int32.toNatClampNeg qP) ((-1) - r_65))))]) ⟨hx, hb, hml, hown, hts⟩ (c_Qu_use l D cK q qI qL qW (qP + 1) qV_82 v2 qV_87 hcl) (cwV 1 hts (zz_V ml_Qu_31 im_Qu_use se_Qu_use in_Qu co_Qu_use) rfl rfl rfl ⟨rfl, hd_Qu_use⟩ ⟨Nat.le_of_ble_eq_true rfl, Nat.le_of_ble_eq_true rfl⟩) hK hP hD hS hA [0] [1, 2] [2, 0, 1] rfl (by decide) rfl (by decide) (by decide) rfl (by decide) 0 rfl rfl rfl rfl hl.1 rfl (Nat.le_of_ble_eq_true rfl) d_Qu_add_87 ⟨Nat.zero_le _, Nat.zero_le _⟩ (fun H locs hP hD hS => ?_)
    refine lv_aload_n hx hb d_Qu_add_90 rfl (lv_at hl 0 rfl) ?_
    refine lv_iload_n hx hb d_Qu_add_91 rfl (lv_at hl 3 rfl) ?_
    obtain ⟨qV_92, hcl, hf⟩ := fn_e1 hf
    refine cv_WrV (rest := []) (wr := [(qI, .inl (cK 0, 9, .inl (upd (upd (upd qIf (Int32.toNatClampNeg (qP * 3)) v1) (Int32.toNatClampNeg ((qP * 3) + 1)) v2) (Int32.toNatClampNeg ((qP * 3) + 2)) v3))), (qL, .inl (cK 0, 3, .inl (upd qLf (Int32.toNatClampNeg qP) ((-1) - r_65))))]) (w' := [(q, .inr (2, [.ref qI, .ref qL, .int qW, .int (qP + 1), .int qV_92])), (qI, .inl (cK 0, 9, .inl (upd (upd (upd qIf (Int32.toNatClampNeg (qP * 3)) v1) (Int32.toNatClampNeg ((qP * 3) + 1)) v2) (Int32.toNatClampNeg ((qP * 3) + 2)) v3))), (qL, .inl (cK 0, 3, .inl (upd qLf (Int32.toNatClampNeg qP) ((-1) - r_65))))]) ⟨hx, hb, hml, hown, hts⟩ (c_Qu_use l D cK q qI qL qW (qP + 1) qV_87 v3 qV_92 hcl) (cwV 1 hts (zz_V ml_Qu_31 im_Qu_use se_Qu_use in_Qu co_Qu_use) rfl rfl rfl ⟨rfl, hd_Qu_use⟩ ⟨Nat.le_of_ble_eq_true rfl, Nat.le_of_ble_eq_true rfl⟩) hK hP hD hS hA [0] [1, 2] [2, 0, 1] rfl (by decide) rfl (by decide) (by decide) rfl (by decide) 0 rfl rfl rfl rfl hl.1 rfl (Nat.le_of_ble_eq_true rfl) d_Qu_add_92 ⟨Nat.zero_le _, Nat.zero_le _⟩ (fun H locs hP hD hS => ?_)
    refine lv_iconst (v := 1) hx hb d_Qu_add_95 (by decide) ?_
    cases hf
    exact hret _ _ 96 _ hP hD hS rfl d_Qu_add_96
  · have hf := fn_f hc hf
    refine lv_iconst (v := 0) hx hb d_Qu_add_8 (by decide) ?_
    cases hf
    exact hret _ _ 9 _ hP hD hS rfl d_Qu_add_9
abbrev rm_Rs_count : Room := { frames := 1, cells := 0, slots := 0, locals := 20 }
set_option maxHeartbeats 4000000 in
set_option maxRecDepth 100000 in
theorem c_Rs_count (l : Launch) (D : va_G) (cK : Nat → ClassId) (x xW : Nat) (xS : Int32) (xM : Nat) (xWf : Nat → Int32) (N : Nat)  (r : Int32) (hf : f_Rs_count N xS xM xWf = some r) : RdI l y_Rs_count w_Rs_count rm_Rs_count D zz_cl (mt_ty cK RK2) [.ref x] [(x, .inr (4, [.ref xW, .int xS])), (xW, .inl (cK 0, xM, .inl xWf))] r := by
  refine mk_RdI (cc := b_Rs_count) (maxL := 3) (ty := .int) (by decide +kernel) rfl (Nat.le_of_ble_eq_true rfl) ?_
  intro p e s m below meth c args Q ls hx hb hml hown hts hK hP hret hl
  have hl : lv_has ls 3 [(0, .ref x)] := hl
  have J_4 : ∀  (n_4 : Nat)  (v1 : Int32) (v2 : Int32) (ls : Array Slot), f_Rs_count_4 N xS xM xWf n_4 v1 v2 = some r → lv_has ls 3 [(0, .ref x), (1, .int v1), (2, .int v2)] → W p l e rm_Rs_count s m args below meth c s.heap [] 0 0 Q (F0 m 4 ls []) := by
    intro n_4
    induction n_4 with
    | zero =>
      intro v1 v2 ls hf hl
      exact fn_0 hf
    | succ n_4 ih_4 =>
      intro v1 v2 ls hf hl
      rw [f_Rs_count_4.eq_2] at hf
      refine lv_iload_n hx hb d_Rs_count_4 rfl (lv_at hl 2 rfl) ?_
      refine lv_aload_n hx hb d_Rs_count_5 rfl (lv_at hl 0 rfl) ?_
      refine va_get (D := D) (ci := 4) (v := .int xS) (C := RK4) (T := TK4) (N := 2) hx hb hts iwK4 hown hK hP 0 rfl rfl 1 (by decide) (hts _ fl_Rs_21) (fun _ h9 => h9) rfl d_Rs_count_6 ?_
      refine lv_icmp_ge (tgt := 33) hx hb d_Rs_count_9 (by decide) (fun hc => ?_) (fun hc => ?_)
      · have hf := fn_t hc hf
        refine lv_iload_n hx hb d_Rs_count_33 rfl (lv_at hl 1 rfl) ?_
        cases hf
        exact hret 34 _ rfl d_Rs_count_34
      · have hf := fn_f hc hf
        refine lv_iload_n hx hb d_Rs_count_12 rfl (lv_at hl 1 rfl) ?_
        refine lv_aload_n hx hb d_Rs_count_13 rfl (lv_at hl 0 rfl) ?_
        refine va_get (D := D) (ci := 4) (v := .ref xW) (C := RK4) (T := TK4) (N := 2) hx hb hts iwK4 hown hK hP 0 rfl rfl 0 (by decide) (hts _ fl_Rs_15) (fun _ h9 => h9) rfl d_Rs_count_14 ?_
        refine lv_iload_n hx hb d_Rs_count_17 rfl (lv_at hl 2 rfl) ?_
        have hg := fn_g hf
        have hf := fn_t hg hf
        refine va_iald hx hb hK hP 1 0 rfl rfl (fn_v hg) d_Rs_count_18 ?_
        refine lv_ldc (v := 65535) hx hb hown (hts _ kn_Rs_29) d_Rs_count_19 ?_
        refine lv_iand hx hb d_Rs_count_21 ?_
        obtain ⟨r_22, hcl, hf⟩ := fn_e1 hf
        refine cs_RdI (rest := [.int v1]) ⟨hx, hb, hml, hown, hts⟩ (c_Ji_bitCount l D cK ((xWf (Int32.toNatClampNeg v2)) &&& 65535) r_22 hcl) (va_cwS 1 hts (zz_S ml_Rs_30 st_Ji_bitCount in_Ji co_Ji_bitCount) rfl rfl rfl hd_Ji_bitCount ⟨Nat.le_of_ble_eq_true rfl, Nat.le_of_ble_eq_true rfl⟩) hK hP [] rfl rfl hl.1 rfl (Nat.le_of_ble_eq_true rfl) d_Rs_count_22 ⟨Nat.zero_le _, Nat.zero_le _⟩ ?_
        refine lv_iadd hx hb d_Rs_count_25 ?_
        refine lv_istore_n (lv' := [(1, .int (v1 + r_22)), (0, .ref x), (2, .int v2)]) hx hb d_Rs_count_26 rfl hl (by decide) rfl (fun ls hl => ?_)
        refine lv_iinc (v := (v2 + 1)) (lv' := [(2, .int (v2 + 1)), (1, .int (v1 + r_22)), (0, .ref x)]) hx hb d_Rs_count_27 hl (k := 2) rfl rfl (by decide) rfl (fun ls hl => ?_)
        refine lv_goto (tgt := 4) hx hb d_Rs_count_30 (by decide) ?_
        exact ih_4 _ _ _ hf (lv_sub hl [2, 1, 0] rfl)
  unfold f_Rs_count at hf
  refine lv_iconst (v := 0) hx hb d_Rs_count_0 (by decide) ?_
  refine lv_istore_n (lv' := [(1, .int 0), (0, .ref x)]) hx hb d_Rs_count_1 rfl hl (by decide) rfl (fun ls hl => ?_)
  refine lv_iconst (v := 0) hx hb d_Rs_count_2 (by decide) ?_
  refine lv_istore_n (lv' := [(2, .int 0), (1, .int 0), (0, .ref x)]) hx hb d_Rs_count_3 rfl hl (by decide) rfl (fun ls hl => ?_)
  exact J_4 _ _ _ _ hf (lv_sub hl [2, 1, 0] rfl)
abbrev rm_Rs_keyAt : Room := { frames := 1, cells := 0, slots := 0, locals := 23 }
set_option maxHeartbeats 4000000 in
set_option maxRecDepth 100000 in
theorem c_Rs_keyAt (l : Launch) (D : va_G) (cK : Nat → ClassId) (x xW : Nat) (xS : Int32) (xM : Nat) (xWf : Nat → Int32) (N : Nat) (v1 : Int32) (r : Int32) (hf : f_Rs_keyAt N xS xM xWf v1 = some r) : RdI l y_Rs_keyAt w_Rs_keyAt rm_Rs_keyAt D zz_cl (mt_ty cK RK2) [.ref x, .int v1] [(x, .inr (4, [.ref xW, .int xS])), (xW, .inl (cK 0, xM, .inl xWf))] r := by
  refine mk_RdI (cc := b_Rs_keyAt) (maxL := 5) (ty := .int) (by decide +kernel) rfl (Nat.le_of_ble_eq_true rfl) ?_
  intro p e s m below meth c args Q ls hx hb hml hown hts hK hP hret hl
  have hl : lv_has ls 5 [(0, .ref x), (1, .int v1)] := hl
  have J_36 : ∀  (v2 : Int32) (v3 : Int32) (ls : Array Slot), f_Rs_keyAt_36 N xS xM xWf v2 v3 = some r → lv_has ls 5 [(0, .ref x), (2, .int v2), (3, .int v3)] → W p l e rm_Rs_keyAt s m args below meth c s.heap [] 0 0 Q (F0 m 36 ls []) := by
    intro v2 v3 ls hf hl
    unfold f_Rs_keyAt_36 at hf
    refine lv_aload_n hx hb d_Rs_keyAt_36 rfl (lv_at hl 0 rfl) ?_
    refine va_get (D := D) (ci := 4) (v := .ref xW) (C := RK4) (T := TK4) (N := 2) hx hb hts iwK4 hown hK hP 0 rfl rfl 0 (by decide) (hts _ fl_Rs_15) (fun _ h9 => h9) rfl d_Rs_keyAt_37 ?_
    refine lv_iload_n hx hb d_Rs_keyAt_40 rfl (lv_at hl 2 rfl) ?_
    have hg := fn_g hf
    have hf := fn_t hg hf
    refine va_iald hx hb hK hP 1 0 rfl rfl (fn_v hg) d_Rs_keyAt_41 ?_
    refine lv_bipush (v := 16) hx hb d_Rs_keyAt_42 (by decide) ?_
    refine lv_ishr hx hb d_Rs_keyAt_44 ?_
    refine lv_bipush (v := 16) hx hb d_Rs_keyAt_45 (by decide) ?_
    refine lv_imul hx hb d_Rs_keyAt_47 ?_
    refine lv_aload_n hx hb d_Rs_keyAt_48 rfl (lv_at hl 0 rfl) ?_
    refine va_get (D := D) (ci := 4) (v := .ref xW) (C := RK4) (T := TK4) (N := 2) hx hb hts iwK4 hown hK hP 0 rfl rfl 0 (by decide) (hts _ fl_Rs_15) (fun _ h9 => h9) rfl d_Rs_keyAt_49 ?_
    refine lv_iload_n hx hb d_Rs_keyAt_52 rfl (lv_at hl 2 rfl) ?_
    have hg := fn_g hf
    have hf := fn_t hg hf
    refine va_iald hx hb hK hP 1 0 rfl rfl (fn_v hg) d_Rs_keyAt_53 ?_
    refine lv_iload_n hx hb d_Rs_keyAt_54 rfl (lv_at hl 1 rfl) ?_
    obtain ⟨r_55, hcl, hf⟩ := fn_e1 hf
    refine cs_RdI (rest := [.int (((xWf (Int32.toNatClampNeg v3)) >>> (16 &&& 31)) * 16)]) ⟨hx, hb, hml, hown, hts⟩ (c_Rs_bitAt l D cK N (xWf (Int32.toNatClampNeg v3)) v2 r_55 hcl) (va_cwS 2 hts (zz_S ml_Rs_36 st_Rs_bitAt in_Rs co_Rs_bitAt) rfl rfl rfl hd_Rs_bitAt ⟨Nat.le_of_ble_eq_true rfl, Nat.le_of_ble_eq_true rfl⟩) hK hP [] rfl rfl hl.1 rfl (Nat.le_of_ble_eq_true rfl) d_Rs_keyAt_55 ⟨Nat.zero_le _, Nat.zero_le _⟩ ?_
    refine lv_iadd hx hb d_Rs_keyAt_58 ?_
    cases hf
    exact hret 59 _ rfl d_Rs_keyAt_59
  have J_4 : ∀  (n_4 : Nat)  (v2 : Int32) (v3 : Int32) (ls : Array Slot), f_Rs_keyAt_4 N xS xM xWf n_4 v2 v3 = some r → lv_has ls 5 [(0, .ref x), (2, .int v2), (3, .int v3)] → W p l e rm_Rs_keyAt s m args below meth c s.heap [] 0 0 Q (F0 m 4 ls []) := by
    intro n_4
    induction n_4 with
    | zero =>
      intro v2 v3 ls hf hl
      exact fn_0 hf
    | succ n_4 ih_4 =>
      intro v2 v3 ls hf hl
      rw [f_Rs_keyAt_4.eq_2] at hf
      refine lv_iload_n hx hb d_Rs_keyAt_4 rfl (lv_at hl 2 rfl) ?_
      refine lv_aload_n hx hb d_Rs_keyAt_5 rfl (lv_at hl 0 rfl) ?_
      refine va_get (D := D) (ci := 4) (v := .int xS) (C := RK4) (T := TK4) (N := 2) hx hb hts iwK4 hown hK hP 0 rfl rfl 1 (by decide) (hts _ fl_Rs_21) (fun _ h9 => h9) rfl d_Rs_keyAt_6 ?_
      refine lv_icmp_ge (tgt := 71) hx hb d_Rs_keyAt_9 (by decide) (fun hc => ?_) (fun hc => ?_)
      · have hf := fn_t hc hf
        refine lv_bipush (v := (-2)) hx hb d_Rs_keyAt_71 (by decide) ?_
        cases hf
        exact hret 73 _ rfl d_Rs_keyAt_73
      · have hf := fn_f hc hf
        refine lv_iload_n hx hb d_Rs_keyAt_12 rfl (lv_at hl 1 rfl) ?_
        refine lv_if_lt (tgt := 71) hx hb d_Rs_keyAt_13 (by decide) (fun hc => ?_) (fun hc => ?_)
        · have hf := fn_t hc hf
          refine lv_bipush (v := (-2)) hx hb d_Rs_keyAt_71 (by decide) ?_
          cases hf
          exact hret 73 _ rfl d_Rs_keyAt_73
        · have hf := fn_f hc hf
          refine lv_aload_n hx hb d_Rs_keyAt_16 rfl (lv_at hl 0 rfl) ?_
          refine va_get (D := D) (ci := 4) (v := .ref xW) (C := RK4) (T := TK4) (N := 2) hx hb hts iwK4 hown hK hP 0 rfl rfl 0 (by decide) (hts _ fl_Rs_15) (fun _ h9 => h9) rfl d_Rs_keyAt_17 ?_
          refine lv_iload_n hx hb d_Rs_keyAt_20 rfl (lv_at hl 2 rfl) ?_
          have hg := fn_g hf
          have hf := fn_t hg hf
          refine va_iald hx hb hK hP 1 0 rfl rfl (fn_v hg) d_Rs_keyAt_21 ?_
          refine lv_ldc (v := 65535) hx hb hown (hts _ kn_Rs_29) d_Rs_keyAt_22 ?_
          refine lv_iand hx hb d_Rs_keyAt_24 ?_
          obtain ⟨r_25, hcl, hf⟩ := fn_e1 hf
          refine cs_RdI (rest := []) ⟨hx, hb, hml, hown, hts⟩ (c_Ji_bitCount l D cK ((xWf (Int32.toNatClampNeg v3)) &&& 65535) r_25 hcl) (va_cwS 1 hts (zz_S ml_Rs_30 st_Ji_bitCount in_Ji co_Ji_bitCount) rfl rfl rfl hd_Ji_bitCount ⟨Nat.le_of_ble_eq_true rfl, Nat.le_of_ble_eq_true rfl⟩) hK hP [] rfl rfl hl.1 rfl (Nat.le_of_ble_eq_true rfl) d_Rs_keyAt_25 ⟨Nat.zero_le _, Nat.zero_le _⟩ ?_
          refine lv_istore (lv' := [(4, .int r_25), (0, .ref x), (2, .int v2), (3, .int v3)]) hx hb d_Rs_keyAt_28 hl (by decide) rfl (fun ls hl => ?_)
          refine lv_iload_n hx hb d_Rs_keyAt_30 rfl (lv_at hl 2 rfl) ?_
          refine lv_iload hx hb d_Rs_keyAt_31 (lv_at hl 0 rfl) ?_
          refine lv_icmp_ge (tgt := 60) hx hb d_Rs_keyAt_33 (by decide) (fun hc => ?_) (fun hc => ?_)
          · have hf := fn_t hc hf
            refine lv_iload_n hx hb d_Rs_keyAt_60 rfl (lv_at hl 2 rfl) ?_
            refine lv_iload hx hb d_Rs_keyAt_61 (lv_at hl 0 rfl) ?_
            refine lv_isub hx hb d_Rs_keyAt_63 ?_
            refine lv_istore_n (lv' := [(2, .int (v2 - r_25)), (4, .int r_25), (0, .ref x), (3, .int v3)]) hx hb d_Rs_keyAt_64 rfl hl (by decide) rfl (fun ls hl => ?_)
            refine lv_iinc (v := (v3 + 1)) (lv' := [(3, .int (v3 + 1)), (2, .int (v2 - r_25)), (4, .int r_25), (0, .ref x)]) hx hb d_Rs_keyAt_65 hl (k := 3) rfl rfl (by decide) rfl (fun ls hl => ?_)
            refine lv_goto (tgt := 4) hx hb d_Rs_keyAt_68 (by decide) ?_
            exact ih_4 _ _ _ hf (lv_sub hl [3, 1, 0] rfl)
          · have hf := fn_f hc hf
            exact J_36 _ _ _ hf (lv_sub hl [1, 2, 3] rfl)
  unfold f_Rs_keyAt at hf
  refine lv_iload_n hx hb d_Rs_keyAt_0 rfl (lv_at hl 1 rfl) ?_
  refine lv_istore_n (lv' := [(2, .int v1), (0, .ref x), (1, .int v1)]) hx hb d_Rs_keyAt_1 rfl hl (by decide) rfl (fun ls hl => ?_)
  refine lv_iconst (v := 0) hx hb d_Rs_keyAt_2 (by decide) ?_
  refine lv_istore_n (lv' := [(3, .int 0), (2, .int v1), (0, .ref x), (1, .int v1)]) hx hb d_Rs_keyAt_3 rfl hl (by decide) rfl (fun ls hl => ?_)
  exact J_4 _ _ _ _ hf (lv_sub hl [2, 1, 0] rfl)
abbrev rm_Rs_sumOf : Room := { frames := 1, cells := 0, slots := 0, locals := 22 }
set_option maxHeartbeats 4000000 in
set_option maxRecDepth 100000 in
theorem c_Rs_sumOf (l : Launch) (D : va_G) (cK : Nat → ClassId) (x xW : Nat) (xS : Int32) (xM : Nat) (xWf : Nat → Int32) (N : Nat) (v1 : Int32) (r : Int32) (hf : f_Rs_sumOf N xS xM xWf v1 = some r) : RdI l y_Rs_sumOf w_Rs_sumOf rm_Rs_sumOf D zz_cl (mt_ty cK RK2) [.ref x, .int v1] [(x, .inr (4, [.ref xW, .int xS])), (xW, .inl (cK 0, xM, .inl xWf))] r := by
  refine mk_RdI (cc := b_Rs_sumOf) (maxL := 7) (ty := .int) (by decide +kernel) rfl (Nat.le_of_ble_eq_true rfl) ?_
  intro p e s m below meth c args Q ls hx hb hml hown hts hK hP hret hl
  have hl : lv_has ls 7 [(0, .ref x), (1, .int v1)] := hl
  have J_4 : ∀ (v1 : Int32) (n_4 : Nat)  (v2 : Int32) (v3 : Int32) (ls : Array Slot), f_Rs_sumOf_4 N xS xM xWf v1 n_4 v2 v3 = some r → lv_has ls 7 [(0, .ref x), (1, .int v1), (2, .int v2), (3, .int v3)] → W p l e rm_Rs_sumOf s m args below meth c s.heap [] 0 0 Q (F0 m 4 ls []) := by
    intro v1 n_4
    induction n_4 with
    | zero =>
      intro v2 v3 ls hf hl
      exact fn_0 hf
    | succ n_4 ih_4 =>
      have J_50 : ∀ (v3 : Int32) (v4 : Int32) (v5 : Int32) (n_50 : Nat)  (v2 : Int32) (v6 : Int32) (ls : Array Slot), f_Rs_sumOf_50 N xS xM xWf (f_Rs_sumOf_4 N xS xM xWf v1 n_4) v1 v3 v4 v5 n_50 v2 v6 = some r → lv_has ls 7 [(0, .ref x), (1, .int v1), (2, .int v2), (3, .int v3), (4, .int v4), (5, .int v5), (6, .int v6)] → W p l e rm_Rs_sumOf s m args below meth c s.heap [] 0 0 Q (F0 m 50 ls []) := by
        intro v3 v4 v5 n_50
        induction n_50 with
        | zero =>
          intro v2 v6 ls hf hl
          exact fn_0 hf
        | succ n_50 ih_50 =>
          intro v2 v6 ls hf hl
          rw [f_Rs_sumOf_50.eq_2] at hf
          refine lv_iload hx hb d_Rs_sumOf_50 (lv_at hl 6 rfl) ?_
          refine lv_bipush (v := 16) hx hb d_Rs_sumOf_52 (by decide) ?_
          refine lv_icmp_ge (tgt := 87) hx hb d_Rs_sumOf_54 (by decide) (fun hc => ?_) (fun hc => ?_)
          · have hf := fn_t hc hf
            refine lv_iinc (v := (v3 + 1)) (lv' := [(3, .int (v3 + 1)), (0, .ref x), (1, .int v1), (2, .int v2), (4, .int v4), (5, .int v5), (6, .int v6)]) hx hb d_Rs_sumOf_87 hl (k := 3) rfl rfl (by decide) rfl (fun ls hl => ?_)
            refine lv_goto (tgt := 4) hx hb d_Rs_sumOf_90 (by decide) ?_
            exact ih_4 _ _ _ hf (lv_sub hl [1, 2, 3, 0] rfl)
          · have hf := fn_f hc hf
            refine lv_iload hx hb d_Rs_sumOf_57 (lv_at hl 4 rfl) ?_
            refine lv_iload hx hb d_Rs_sumOf_59 (lv_at hl 6 rfl) ?_
            refine lv_ishr hx hb d_Rs_sumOf_61 ?_
            refine lv_if_eq (tgt := 87) hx hb d_Rs_sumOf_62 (by decide) (fun hc => ?_) (fun hc => ?_)
            · have hf := fn_t hc hf
              refine lv_iinc (v := (v3 + 1)) (lv' := [(3, .int (v3 + 1)), (0, .ref x), (1, .int v1), (2, .int v2), (4, .int v4), (5, .int v5), (6, .int v6)]) hx hb d_Rs_sumOf_87 hl (k := 3) rfl rfl (by decide) rfl (fun ls hl => ?_)
              refine lv_goto (tgt := 4) hx hb d_Rs_sumOf_90 (by decide) ?_
              exact ih_4 _ _ _ hf (lv_sub hl [1, 2, 3, 0] rfl)
            · have hf := fn_f hc hf
              refine lv_iload_n hx hb d_Rs_sumOf_65 rfl (lv_at hl 2 rfl) ?_
              refine lv_iload hx hb d_Rs_sumOf_66 (lv_at hl 4 rfl) ?_
              refine lv_iload hx hb d_Rs_sumOf_68 (lv_at hl 6 rfl) ?_
              refine lv_ishr hx hb d_Rs_sumOf_70 ?_
              refine lv_iconst (v := 1) hx hb d_Rs_sumOf_71 (by decide) ?_
              refine lv_iand hx hb d_Rs_sumOf_72 ?_
              refine lv_iload hx hb d_Rs_sumOf_73 (lv_at hl 6 rfl) ?_
              refine lv_imul hx hb d_Rs_sumOf_75 ?_
              refine lv_iload hx hb d_Rs_sumOf_76 (lv_at hl 5 rfl) ?_
              refine lv_imul hx hb d_Rs_sumOf_78 ?_
              refine lv_iadd hx hb d_Rs_sumOf_79 ?_
              refine lv_istore_n (lv' := [(2, .int (v2 + ((((v4 >>> (v6 &&& 31)) &&& 1) * v6) * v5))), (0, .ref x), (1, .int v1), (3, .int v3), (4, .int v4), (5, .int v5), (6, .int v6)]) hx hb d_Rs_sumOf_80 rfl hl (by decide) rfl (fun ls hl => ?_)
              refine lv_iinc (v := (v6 + 1)) (lv' := [(6, .int (v6 + 1)), (2, .int (v2 + ((((v4 >>> (v6 &&& 31)) &&& 1) * v6) * v5))), (0, .ref x), (1, .int v1), (3, .int v3), (4, .int v4), (5, .int v5)]) hx hb d_Rs_sumOf_81 hl (k := 6) rfl rfl (by decide) rfl (fun ls hl => ?_)
              refine lv_goto (tgt := 50) hx hb d_Rs_sumOf_84 (by decide) ?_
              exact ih_50 _ _ _ hf (lv_sub hl [2, 3, 1, 4, 5, 6, 0] rfl)
      intro v2 v3 ls hf hl
      rw [f_Rs_sumOf_4.eq_2] at hf
      refine lv_iload_n hx hb d_Rs_sumOf_4 rfl (lv_at hl 3 rfl) ?_
      refine lv_aload_n hx hb d_Rs_sumOf_5 rfl (lv_at hl 0 rfl) ?_
      refine va_get (D := D) (ci := 4) (v := .int xS) (C := RK4) (T := TK4) (N := 2) hx hb hts iwK4 hown hK hP 0 rfl rfl 1 (by decide) (hts _ fl_Rs_21) (fun _ h9 => h9) rfl d_Rs_sumOf_6 ?_
      refine lv_icmp_ge (tgt := 93) hx hb d_Rs_sumOf_9 (by decide) (fun hc => ?_) (fun hc => ?_)
      · have hf := fn_t hc hf
        refine lv_iload_n hx hb d_Rs_sumOf_93 rfl (lv_at hl 2 rfl) ?_
        cases hf
        exact hret 94 _ rfl d_Rs_sumOf_94
      · have hf := fn_f hc hf
        refine lv_aload_n hx hb d_Rs_sumOf_12 rfl (lv_at hl 0 rfl) ?_
        refine va_get (D := D) (ci := 4) (v := .ref xW) (C := RK4) (T := TK4) (N := 2) hx hb hts iwK4 hown hK hP 0 rfl rfl 0 (by decide) (hts _ fl_Rs_15) (fun _ h9 => h9) rfl d_Rs_sumOf_13 ?_
        refine lv_iload_n hx hb d_Rs_sumOf_16 rfl (lv_at hl 3 rfl) ?_
        have hg := fn_g hf
        have hf := fn_t hg hf
        refine va_iald hx hb hK hP 1 0 rfl rfl (fn_v hg) d_Rs_sumOf_17 ?_
        refine lv_iload_n hx hb d_Rs_sumOf_18 rfl (lv_at hl 1 rfl) ?_
        obtain ⟨r_19, hcl, hf⟩ := fn_e1 hf
        refine cs_RdI (rest := []) ⟨hx, hb, hml, hown, hts⟩ (c_Rs_valuesOf l D cK (xWf (Int32.toNatClampNeg v3)) v1 r_19 hcl) (va_cwS 2 hts (zz_S ml_Rs_39 st_Rs_valuesOf in_Rs co_Rs_valuesOf) rfl rfl rfl hd_Rs_valuesOf ⟨Nat.le_of_ble_eq_true rfl, Nat.le_of_ble_eq_true rfl⟩) hK hP [] rfl rfl hl.1 rfl (Nat.le_of_ble_eq_true rfl) d_Rs_sumOf_19 ⟨Nat.zero_le _, Nat.zero_le _⟩ ?_
        refine lv_istore (lv' := [(4, .int r_19), (0, .ref x), (1, .int v1), (2, .int v2), (3, .int v3)]) hx hb d_Rs_sumOf_22 hl (by decide) rfl (fun ls hl => ?_)
        refine lv_iload_n hx hb d_Rs_sumOf_24 rfl (lv_at hl 2 rfl) ?_
        refine lv_iconst (v := 4) hx hb d_Rs_sumOf_25 (by decide) ?_
        refine lv_icmp_ge (tgt := 44) hx hb d_Rs_sumOf_26 (by decide) (fun hc => ?_) (fun hc => ?_)
        · have hf := fn_t hc hf
          refine lv_iconst (v := 1) hx hb d_Rs_sumOf_44 (by decide) ?_
          refine lv_istore (lv' := [(5, .int 1), (4, .int r_19), (0, .ref x), (1, .int v1), (2, .int v2), (3, .int v3)]) hx hb d_Rs_sumOf_45 hl (by decide) rfl (fun ls hl => ?_)
          refine lv_iconst (v := 0) hx hb d_Rs_sumOf_47 (by decide) ?_
          refine lv_istore (lv' := [(6, .int 0), (5, .int 1), (4, .int r_19), (0, .ref x), (1, .int v1), (2, .int v2), (3, .int v3)]) hx hb d_Rs_sumOf_48 hl (by decide) rfl (fun ls hl => ?_)
          exact J_50 _ _ _ _ _ _ _ hf (lv_sub hl [3, 4, 5, 6, 2, 1, 0] rfl)
        · have hf := fn_f hc hf
          refine lv_aload_n hx hb d_Rs_sumOf_29 rfl (lv_at hl 1 rfl) ?_
          refine va_get (D := D) (ci := 4) (v := .ref xW) (C := RK4) (T := TK4) (N := 2) hx hb hts iwK4 hown hK hP 0 rfl rfl 0 (by decide) (hts _ fl_Rs_15) (fun _ h9 => h9) rfl d_Rs_sumOf_30 ?_
          refine lv_iload_n hx hb d_Rs_sumOf_33 rfl (lv_at hl 4 rfl) ?_
          have hg := fn_g hf
          have hf := fn_t hg hf
          refine va_iald hx hb hK hP 1 0 rfl rfl (fn_v hg) d_Rs_sumOf_34 ?_
          refine lv_ldc (v := 65535) hx hb hown (hts _ kn_Rs_29) d_Rs_sumOf_35 ?_
          refine lv_iand hx hb d_Rs_sumOf_37 ?_
          obtain ⟨r_38, hcl, hf⟩ := fn_e1 hf
          refine cs_RdI (rest := []) ⟨hx, hb, hml, hown, hts⟩ (c_Ji_bitCount l D cK ((xWf (Int32.toNatClampNeg v3)) &&& 65535) r_38 hcl) (va_cwS 1 hts (zz_S ml_Rs_30 st_Ji_bitCount in_Ji co_Ji_bitCount) rfl rfl rfl hd_Ji_bitCount ⟨Nat.le_of_ble_eq_true rfl, Nat.le_of_ble_eq_true rfl⟩) hK hP [] rfl rfl hl.1 rfl (Nat.le_of_ble_eq_true rfl) d_Rs_sumOf_38 ⟨Nat.zero_le _, Nat.zero_le _⟩ ?_
          refine lv_goto (tgt := 45) hx hb d_Rs_sumOf_41 (by decide) ?_
          refine lv_istore (lv' := [(5, .int r_38), (4, .int r_19), (0, .ref x), (1, .int v1), (2, .int v2), (3, .int v3)]) hx hb d_Rs_sumOf_45 hl (by decide) rfl (fun ls hl => ?_)
          refine lv_iconst (v := 0) hx hb d_Rs_sumOf_47 (by decide) ?_
          refine lv_istore (lv' := [(6, .int 0), (5, .int r_38), (4, .int r_19), (0, .ref x), (1, .int v1), (2, .int v2), (3, .int v3)]) hx hb d_Rs_sumOf_48 hl (by decide) rfl (fun ls hl => ?_)
          exact J_50 _ _ _ _ _ _ _ hf (lv_sub hl [3, 4, 5, 6, 2, 1, 0] rfl)
  unfold f_Rs_sumOf at hf
  refine lv_iconst (v := 0) hx hb d_Rs_sumOf_0 (by decide) ?_
  refine lv_istore_n (lv' := [(2, .int 0), (0, .ref x), (1, .int v1)]) hx hb d_Rs_sumOf_1 rfl hl (by decide) rfl (fun ls hl => ?_)
  refine lv_iconst (v := 0) hx hb d_Rs_sumOf_2 (by decide) ?_
  refine lv_istore_n (lv' := [(3, .int 0), (2, .int 0), (0, .ref x), (1, .int v1)]) hx hb d_Rs_sumOf_3 rfl hl (by decide) rfl (fun ls hl => ?_)
  exact J_4 _ _ _ _ _ hf (lv_sub hl [2, 3, 1, 0] rfl)
abbrev rm_Rs_allValuesOf : Room := { frames := 1, cells := 0, slots := 0, locals := 22 }
set_option maxHeartbeats 4000000 in
set_option maxRecDepth 100000 in
theorem c_Rs_allValuesOf (l : Launch) (D : va_G) (cK : Nat → ClassId) (x xW : Nat) (xS : Int32) (xM : Nat) (xWf : Nat → Int32) (N : Nat) (v1 : Int32) (r : Int32) (hf : f_Rs_allValuesOf N xS xM xWf v1 = some r) : RdI l y_Rs_allValuesOf w_Rs_allValuesOf rm_Rs_allValuesOf D zz_cl (mt_ty cK RK2) [.ref x, .int v1] [(x, .inr (4, [.ref xW, .int xS])), (xW, .inl (cK 0, xM, .inl xWf))] r := by
  refine mk_RdI (cc := b_Rs_allValuesOf) (maxL := 4) (ty := .int) (by decide +kernel) rfl (Nat.le_of_ble_eq_true rfl) ?_
  intro p e s m below meth c args Q ls hx hb hml hown hts hK hP hret hl
  have hl : lv_has ls 4 [(0, .ref x), (1, .int v1)] := hl
  have J_4 : ∀ (v1 : Int32) (n_4 : Nat)  (v2 : Int32) (v3 : Int32) (ls : Array Slot), f_Rs_allValuesOf_4 N xS xM xWf v1 n_4 v2 v3 = some r → lv_has ls 4 [(0, .ref x), (1, .int v1), (2, .int v2), (3, .int v3)] → W p l e rm_Rs_allValuesOf s m args below meth c s.heap [] 0 0 Q (F0 m 4 ls []) := by
    intro v1 n_4
    induction n_4 with
    | zero =>
      intro v2 v3 ls hf hl
      exact fn_0 hf
    | succ n_4 ih_4 =>
      intro v2 v3 ls hf hl
      rw [f_Rs_allValuesOf_4.eq_2] at hf
      refine lv_iload_n hx hb d_Rs_allValuesOf_4 rfl (lv_at hl 3 rfl) ?_
      refine lv_aload_n hx hb d_Rs_allValuesOf_5 rfl (lv_at hl 0 rfl) ?_
      refine va_get (D := D) (ci := 4) (v := .int xS) (C := RK4) (T := TK4) (N := 2) hx hb hts iwK4 hown hK hP 0 rfl rfl 1 (by decide) (hts _ fl_Rs_21) (fun _ h9 => h9) rfl d_Rs_allValuesOf_6 ?_
      refine lv_icmp_ge (tgt := 31) hx hb d_Rs_allValuesOf_9 (by decide) (fun hc => ?_) (fun hc => ?_)
      · have hf := fn_t hc hf
        refine lv_iload_n hx hb d_Rs_allValuesOf_31 rfl (lv_at hl 2 rfl) ?_
        cases hf
        exact hret 32 _ rfl d_Rs_allValuesOf_32
      · have hf := fn_f hc hf
        refine lv_iload_n hx hb d_Rs_allValuesOf_12 rfl (lv_at hl 2 rfl) ?_
        refine lv_aload_n hx hb d_Rs_allValuesOf_13 rfl (lv_at hl 0 rfl) ?_
        refine va_get (D := D) (ci := 4) (v := .ref xW) (C := RK4) (T := TK4) (N := 2) hx hb hts iwK4 hown hK hP 0 rfl rfl 0 (by decide) (hts _ fl_Rs_15) (fun _ h9 => h9) rfl d_Rs_allValuesOf_14 ?_
        refine lv_iload_n hx hb d_Rs_allValuesOf_17 rfl (lv_at hl 3 rfl) ?_
        have hg := fn_g hf
        have hf := fn_t hg hf
        refine va_iald hx hb hK hP 1 0 rfl rfl (fn_v hg) d_Rs_allValuesOf_18 ?_
        refine lv_iload_n hx hb d_Rs_allValuesOf_19 rfl (lv_at hl 1 rfl) ?_
        obtain ⟨r_20, hcl, hf⟩ := fn_e1 hf
        refine cs_RdI (rest := [.int v2]) ⟨hx, hb, hml, hown, hts⟩ (c_Rs_valuesOf l D cK (xWf (Int32.toNatClampNeg v3)) v1 r_20 hcl) (va_cwS 2 hts (zz_S ml_Rs_39 st_Rs_valuesOf in_Rs co_Rs_valuesOf) rfl rfl rfl hd_Rs_valuesOf ⟨Nat.le_of_ble_eq_true rfl, Nat.le_of_ble_eq_true rfl⟩) hK hP [] rfl rfl hl.1 rfl (Nat.le_of_ble_eq_true rfl) d_Rs_allValuesOf_20 ⟨Nat.zero_le _, Nat.zero_le _⟩ ?_
        refine lv_ior hx hb d_Rs_allValuesOf_23 ?_
        refine lv_istore_n (lv' := [(2, .int (v2 ||| r_20)), (0, .ref x), (1, .int v1), (3, .int v3)]) hx hb d_Rs_allValuesOf_24 rfl hl (by decide) rfl (fun ls hl => ?_)
        refine lv_iinc (v := (v3 + 1)) (lv' := [(3, .int (v3 + 1)), (2, .int (v2 ||| r_20)), (0, .ref x), (1, .int v1)]) hx hb d_Rs_allValuesOf_25 hl (k := 3) rfl rfl (by decide) rfl (fun ls hl => ?_)
        refine lv_goto (tgt := 4) hx hb d_Rs_allValuesOf_28 (by decide) ?_
        exact ih_4 _ _ _ hf (lv_sub hl [2, 3, 1, 0] rfl)
  unfold f_Rs_allValuesOf at hf
  refine lv_iconst (v := 0) hx hb d_Rs_allValuesOf_0 (by decide) ?_
  refine lv_istore_n (lv' := [(2, .int 0), (0, .ref x), (1, .int v1)]) hx hb d_Rs_allValuesOf_1 rfl hl (by decide) rfl (fun ls hl => ?_)
  refine lv_iconst (v := 0) hx hb d_Rs_allValuesOf_2 (by decide) ?_
  refine lv_istore_n (lv' := [(3, .int 0), (2, .int 0), (0, .ref x), (1, .int v1)]) hx hb d_Rs_allValuesOf_3 rfl hl (by decide) rfl (fun ls hl => ?_)
  exact J_4 _ _ _ _ _ hf (lv_sub hl [2, 3, 1, 0] rfl)
abbrev rm_Se_read : Room := { frames := 2, cells := 0, slots := 0, locals := 44 }
set_option maxHeartbeats 4000000 in
set_option maxRecDepth 100000 in
theorem c_Se_read (l : Launch) (D : va_G) (cK : Nat → ClassId) (lg lgA lgT lgC se seO : Nat) (lgS : Int32) (lgAf : Nat → Int32) (lgTf : Nat → Int32) (lgCf : Nat → Int32) (seOf : Nat → Int32) (N : Nat) (v2 : Int32) (v3 : Int32) (o_seOf : Nat → Int32) (hf : f_Se_read N lgS lgAf lgTf lgCf seOf v2 v3 = some o_seOf) : WrV l y_Se_read w_Se_read rm_Se_read D zz_cl (mt_ty cK RK2) [.ref se, .ref lg, .int v2, .int v3] [(lg, .inr (0, [.ref lgA, .ref lgT, .ref lgC, .int lgS])), (lgA, .inl (cK 0, 400, .inl lgAf)), (lgT, .inl (cK 0, 400, .inl lgTf)), (lgC, .inl (cK 1, 400, .inl lgCf)), (se, .inr (1, [.ref seO])), (seO, .inl (cK 0, 128, .inl seOf))] [(lg, .inr (0, [.ref lgA, .ref lgT, .ref lgC, .int lgS])), (lgA, .inl (cK 0, 400, .inl lgAf)), (lgT, .inl (cK 0, 400, .inl lgTf)), (lgC, .inl (cK 1, 400, .inl lgCf)), (se, .inr (1, [.ref seO])), (seO, .inl (cK 0, 128, .inl o_seOf))] := by
  refine mk_WrV (cc := b_Se_read) (maxL := 5) (by decide +kernel) rfl (Nat.le_of_ble_eq_true rfl) ?_
  intro p e s m below meth c args Q A ls hx hb hml hown hts hA hK hP hD hret hl
  have hS : va_S A s.heap s.heap [] := va_S.rf
  have hl : lv_has ls 5 [(0, .ref se), (1, .ref lg), (2, .int v2), (3, .int v3)] := hl
  have J_11 : ∀ (v2 : Int32) (v3 : Int32) (n_11 : Nat) (seOf : Nat → Int32) (v4 : Int32) (H : Heap) (locs : List Loc) (ls : Array Slot), f_Se_read_11 N lgS lgAf lgTf lgCf v2 v3 n_11 seOf v4 = some o_seOf → va_P D zz_cl [(lg, .inr (0, [.ref lgA, .ref lgT, .ref lgC, .int lgS])), (lgA, .inl (cK 0, 400, .inl lgAf)), (lgT, .inl (cK 0, 400, .inl lgTf)), (lgC, .inl (cK 1, 400, .inl lgCf)), (se, .inr (1, [.ref seO])), (seO, .inl (cK 0, 128, .inl seOf))] H → va_D A [(lg, .inr (0, [.ref lgA, .ref lgT, .ref lgC, .int lgS])), (lgA, .inl (cK 0, 400, .inl lgAf)), (lgT, .inl (cK 0, 400, .inl lgTf)), (lgC, .inl (cK 1, 400, .inl lgCf)), (se, .inr (1, [.ref seO])), (seO, .inl (cK 0, 128, .inl seOf))] → va_S A s.heap H locs → lv_has ls 5 [(0, .ref se), (1, .ref lg), (2, .int v2), (3, .int v3), (4, .int v4)] → W p l e rm_Se_read s m args below meth c H locs 0 0 Q (F0 m 11 ls []) := by
    intro v2 v3 n_11
    induction n_11 with
    | zero =>
      intro seOf v4 H locs ls hf hP hD hS hl
      exact fn_0 hf
    | succ n_11 ih_11 =>
      intro seOf v4 H locs ls hf hP hD hS hl
      rw [f_Se_read_11.eq_2] at hf
      refine lv_iload hx hb d_Se_read_11 (lv_at hl 4 rfl) ?_
      refine lv_aload_n hx hb d_Se_read_13 rfl (lv_at hl 1 rfl) ?_
      refine va_get (D := D) (ci := 0) (v := .int lgS) (C := RK0) (T := TK0) (N := 4) hx hb hts iwK0 hown hK hP 0 rfl rfl 3 (by decide) (hts _ fl_Se_21) (fun _ h9 => h9) rfl d_Se_read_14 ?_
      refine lv_icmp_ge (tgt := 56) hx hb d_Se_read_17 (by decide) (fun hc => ?_) (fun hc => ?_)
      · have hf := fn_t hc hf
        cases hf
        exact hret _ _ 56 _ hP hD hS d_Se_read_56
      · have hf := fn_f hc hf
        refine lv_aload_n hx hb d_Se_read_20 rfl (lv_at hl 1 rfl) ?_
        refine va_get (D := D) (ci := 0) (v := .ref lgA) (C := RK0) (T := TK0) (N := 4) hx hb hts iwK0 hown hK hP 0 rfl rfl 0 (by decide) (hts _ fl_Se_27) (fun _ h9 => h9) rfl d_Se_read_21 ?_
        refine lv_iload hx hb d_Se_read_24 (lv_at hl 4 rfl) ?_
        have hg := fn_g hf
        have hf := fn_t hg hf
        refine va_iald hx hb hK hP 1 0 rfl rfl (fn_v hg) d_Se_read_26 ?_
        refine lv_iload_n hx hb d_Se_read_27 rfl (lv_at hl 2 rfl) ?_
        refine lv_icmp_gt (tgt := 56) hx hb d_Se_read_28 (by decide) (fun hc => ?_) (fun hc => ?_)
        · have hf := fn_t hc hf
          cases hf
          exact hret _ _ 56 _ hP hD hS d_Se_read_56
        · have hf := fn_f hc hf
          refine lv_aload_n hx hb d_Se_read_31 rfl (lv_at hl 0 rfl) ?_
          refine lv_aload_n hx hb d_Se_read_32 rfl (lv_at hl 1 rfl) ?_
          refine va_get (D := D) (ci := 0) (v := .ref lgT) (C := RK0) (T := TK0) (N := 4) hx hb hts iwK0 hown hK hP 0 rfl rfl 1 (by decide) (hts _ fl_Se_30) (fun _ h9 => h9) rfl d_Se_read_33 ?_
          refine lv_iload hx hb d_Se_read_36 (lv_at hl 4 rfl) ?_
          have hg := fn_g hf
          have hf := fn_t hg hf
          refine va_iald hx hb hK hP 2 0 rfl rfl (fn_v hg) d_Se_read_38 ?_
          refine lv_aload_n hx hb d_Se_read_39 rfl (lv_at hl 1 rfl) ?_
          refine lv_iload hx hb d_Se_read_40 (lv_at hl 4 rfl) ?_
          refine lv_iload_n hx hb d_Se_read_42 rfl (lv_at hl 2 rfl) ?_
          refine lv_iload_n hx hb d_Se_read_43 rfl (lv_at hl 3 rfl) ?_
          obtain ⟨r_44, hcl, hf⟩ := fn_e1 hf
          refine cv_RdI (rest := [.int (lgTf (Int32.toNatClampNeg v4)), .ref se]) ⟨hx, hb, hml, hown, hts⟩ (c_Lg_shows l D cK lg lgA lgT lgC lgS lgAf lgCf v4 v2 v3 r_44 hcl) (cwV 3 hts (zz_V ml_Se_33 im_Lg_shows se_Lg_shows in_Lg co_Lg_shows) rfl rfl rfl ⟨rfl, hd_Lg_shows⟩ ⟨Nat.le_of_ble_eq_true rfl, Nat.le_of_ble_eq_true rfl⟩) hK hP [0, 1, 3] rfl 0 rfl rfl rfl rfl hl.1 rfl (Nat.le_of_ble_eq_true rfl) d_Se_read_44 ⟨Nat.zero_le _, Nat.zero_le _⟩ ?_
          obtain ⟨seOf_47, hcl, hf⟩ := fn_e1 hf
          refine cv_WrV (rest := []) (wr := [(lg, .inr (0, [.ref lgA, .ref lgT, .ref lgC, .int lgS])), (lgA, .inl (cK 0, 400, .inl lgAf)), (lgT, .inl (cK 0, 400, .inl lgTf)), (lgC, .inl (cK 1, 400, .inl lgCf))]) (w' := [(lg, .inr (0, [.ref lgA, .ref lgT, .ref lgC, .int lgS])), (lgA, .inl (cK 0, 400, .inl lgAf)), (lgT, .inl (cK 0, 400, .inl lgTf)), (lgC, .inl (cK 1, 400, .inl lgCf)), (se, .inr (1, [.ref seO])), (seO, .inl (cK 0, 128, .inl seOf_47))]) ⟨hx, hb, hml, hown, hts⟩ (c_Se_put l D cK se seO seOf (lgTf (Int32.toNatClampNeg v4)) r_44 seOf_47 hcl) (cwV 2 hts (zz_V ml_Se_37 im_Se_put se_Se_put in_Se co_Se_put) rfl rfl rfl ⟨rfl, hd_Se_put⟩ ⟨Nat.le_of_ble_eq_true rfl, Nat.le_of_ble_eq_true rfl⟩) hK hP hD hS hA [4, 5] [0, 1, 2, 3] [0, 1, 2, 3, 4, 5] rfl (by decide) rfl (by decide) (by decide) rfl (by decide) 4 rfl rfl rfl rfl hl.1 rfl (Nat.le_of_ble_eq_true rfl) d_Se_read_47 ⟨Nat.zero_le _, Nat.zero_le _⟩ (fun H locs hP hD hS => ?_)
          refine lv_iinc (v := (v4 + 1)) (lv' := [(4, .int (v4 + 1)), (0, .ref se), (1, .ref lg), (2, .int v2), (3, .int v3)]) hx hb d_Se_read_50 hl (k := 4) rfl rfl (by decide) rfl (fun ls hl => ?_)
          refine lv_goto (tgt := 11) hx hb d_Se_read_53 (by decide) ?_
          exact ih_11 _ _ _ _ _ hf hP hD hS (lv_sub hl [1, 2, 3, 4, 0] rfl)
  unfold f_Se_read at hf
  refine lv_aload_n hx hb d_Se_read_0 rfl (lv_at hl 0 rfl) ?_
  refine va_get (D := D) (ci := 1) (v := .ref seO) (C := RK1) (T := TK1) (N := 1) hx hb hts iwK1 hown hK hP 4 rfl rfl 0 (by decide) (hts _ fl_Se_9) (fun _ h9 => h9) rfl d_Se_read_1 ?_
  refine lv_iconst (v := 0) hx hb d_Se_read_4 (by decide) ?_
  obtain ⟨seOf_5, hcl, hf⟩ := fn_e1 hf
  refine cs_WrV (rest := []) (wr := [(lg, .inr (0, [.ref lgA, .ref lgT, .ref lgC, .int lgS])), (lgA, .inl (cK 0, 400, .inl lgAf)), (lgT, .inl (cK 0, 400, .inl lgTf)), (lgC, .inl (cK 1, 400, .inl lgCf)), (se, .inr (1, [.ref seO]))]) (w' := [(lg, .inr (0, [.ref lgA, .ref lgT, .ref lgC, .int lgS])), (lgA, .inl (cK 0, 400, .inl lgAf)), (lgT, .inl (cK 0, 400, .inl lgTf)), (lgC, .inl (cK 1, 400, .inl lgCf)), (se, .inr (1, [.ref seO])), (seO, .inl (cK 0, 128, .inl seOf_5))]) ⟨hx, hb, hml, hown, hts⟩ (c_Ja_fill l D cK seO 128 seOf N 0 seOf_5 hcl) (va_cwS 2 hts (zz_S ml_Se_15 st_Ja_fill in_Ja co_Ja_fill) rfl rfl rfl hd_Ja_fill ⟨Nat.le_of_ble_eq_true rfl, Nat.le_of_ble_eq_true rfl⟩) hK hP hD hS hA [5] [0, 1, 2, 3, 4] [0, 1, 2, 3, 4, 5] rfl (by decide) rfl (by decide) (by decide) rfl (by decide) rfl hl.1 rfl (Nat.le_of_ble_eq_true rfl) d_Se_read_5 ⟨Nat.zero_le _, Nat.zero_le _⟩ (fun H locs hP hD hS => ?_)
  refine lv_iconst (v := 0) hx hb d_Se_read_8 (by decide) ?_
  refine lv_istore (lv' := [(4, .int 0), (0, .ref se), (1, .ref lg), (2, .int v2), (3, .int v3)]) hx hb d_Se_read_9 hl (by decide) rfl (fun ls hl => ?_)
  exact J_11 _ _ _ _ _ _ _ _ hf hP hD hS (lv_sub hl [1, 2, 3, 4, 0] rfl)
abbrev rm_Rs_leastOf : Room := { frames := 2, cells := 0, slots := 0, locals := 45 }
set_option maxHeartbeats 4000000 in
set_option maxRecDepth 100000 in
theorem c_Rs_leastOf (l : Launch) (D : va_G) (cK : Nat → ClassId) (x xW : Nat) (xS : Int32) (xM : Nat) (xWf : Nat → Int32) (N : Nat) (v1 : Int32) (r : Int32) (hf : f_Rs_leastOf N xS xM xWf v1 = some r) : RdI l y_Rs_leastOf w_Rs_leastOf rm_Rs_leastOf D zz_cl (mt_ty cK RK2) [.ref x, .int v1] [(x, .inr (4, [.ref xW, .int xS])), (xW, .inl (cK 0, xM, .inl xWf))] r := by
  refine mk_RdI (cc := b_Rs_leastOf) (maxL := 3) (ty := .int) (by decide +kernel) rfl (Nat.le_of_ble_eq_true rfl) ?_
  intro p e s m below meth c args Q ls hx hb hml hown hts hK hP hret hl
  have hl : lv_has ls 3 [(0, .ref x), (1, .int v1)] := hl
  unfold f_Rs_leastOf at hf
  refine lv_aload_n hx hb d_Rs_leastOf_0 rfl (lv_at hl 0 rfl) ?_
  refine lv_iload_n hx hb d_Rs_leastOf_1 rfl (lv_at hl 1 rfl) ?_
  obtain ⟨r_2, hcl, hf⟩ := fn_e1 hf
  refine cv_RdI (rest := []) ⟨hx, hb, hml, hown, hts⟩ (c_Rs_allValuesOf l D cK x xW xS xM xWf N v1 r_2 hcl) (cwV 1 hts (zz_V ml_Rs_42 im_Rs_allValuesOf se_Rs_allValuesOf in_Rs co_Rs_allValuesOf) rfl rfl rfl ⟨rfl, hd_Rs_allValuesOf⟩ ⟨Nat.le_of_ble_eq_true rfl, Nat.le_of_ble_eq_true rfl⟩) hK hP [0, 1] rfl 0 rfl rfl rfl rfl hl.1 rfl (Nat.le_of_ble_eq_true rfl) d_Rs_leastOf_2 ⟨Nat.zero_le _, Nat.zero_le _⟩ ?_
  refine lv_istore_n (lv' := [(2, .int r_2), (0, .ref x), (1, .int v1)]) hx hb d_Rs_leastOf_5 rfl hl (by decide) rfl (fun ls hl => ?_)
  refine lv_iload_n hx hb d_Rs_leastOf_6 rfl (lv_at hl 0 rfl) ?_
  refine lv_if_ne (tgt := 15) hx hb d_Rs_leastOf_7 (by decide) (fun hc => ?_) (fun hc => ?_)
  · have hf := fn_f hc hf
    refine lv_iload_n hx hb d_Rs_leastOf_15 rfl (lv_at hl 0 rfl) ?_
    refine lv_iconst (v := 0) hx hb d_Rs_leastOf_16 (by decide) ?_
    obtain ⟨r_17, hcl, hf⟩ := fn_e1 hf
    refine cs_RdI (rest := []) ⟨hx, hb, hml, hown, hts⟩ (c_Rs_bitAt l D cK N r_2 0 r_17 hcl) (va_cwS 2 hts (zz_S ml_Rs_36 st_Rs_bitAt in_Rs co_Rs_bitAt) rfl rfl rfl hd_Rs_bitAt ⟨Nat.le_of_ble_eq_true rfl, Nat.le_of_ble_eq_true rfl⟩) hK hP [] rfl rfl hl.1 rfl (Nat.le_of_ble_eq_true rfl) d_Rs_leastOf_17 ⟨Nat.zero_le _, Nat.zero_le _⟩ ?_
    cases hf
    exact hret 20 _ rfl d_Rs_leastOf_20
  · have hf := fn_t hc hf
    refine lv_bipush (v := (-2)) hx hb d_Rs_leastOf_10 (by decide) ?_
    refine lv_goto (tgt := 20) hx hb d_Rs_leastOf_12 (by decide) ?_
    cases hf
    exact hret 20 _ rfl d_Rs_leastOf_20
abbrev rm_Rs_greatestOf : Room := { frames := 2, cells := 0, slots := 0, locals := 45 }
set_option maxHeartbeats 4000000 in
set_option maxRecDepth 100000 in
theorem c_Rs_greatestOf (l : Launch) (D : va_G) (cK : Nat → ClassId) (x xW : Nat) (xS : Int32) (xM : Nat) (xWf : Nat → Int32) (N : Nat) (v1 : Int32) (r : Int32) (hf : f_Rs_greatestOf N xS xM xWf v1 = some r) : RdI l y_Rs_greatestOf w_Rs_greatestOf rm_Rs_greatestOf D zz_cl (mt_ty cK RK2) [.ref x, .int v1] [(x, .inr (4, [.ref xW, .int xS])), (xW, .inl (cK 0, xM, .inl xWf))] r := by
  refine mk_RdI (cc := b_Rs_greatestOf) (maxL := 3) (ty := .int) (by decide +kernel) rfl (Nat.le_of_ble_eq_true rfl) ?_
  intro p e s m below meth c args Q ls hx hb hml hown hts hK hP hret hl
  have hl : lv_has ls 3 [(0, .ref x), (1, .int v1)] := hl
  unfold f_Rs_greatestOf at hf
  refine lv_aload_n hx hb d_Rs_greatestOf_0 rfl (lv_at hl 0 rfl) ?_
  refine lv_iload_n hx hb d_Rs_greatestOf_1 rfl (lv_at hl 1 rfl) ?_
  obtain ⟨r_2, hcl, hf⟩ := fn_e1 hf
  refine cv_RdI (rest := []) ⟨hx, hb, hml, hown, hts⟩ (c_Rs_allValuesOf l D cK x xW xS xM xWf N v1 r_2 hcl) (cwV 1 hts (zz_V ml_Rs_42 im_Rs_allValuesOf se_Rs_allValuesOf in_Rs co_Rs_allValuesOf) rfl rfl rfl ⟨rfl, hd_Rs_allValuesOf⟩ ⟨Nat.le_of_ble_eq_true rfl, Nat.le_of_ble_eq_true rfl⟩) hK hP [0, 1] rfl 0 rfl rfl rfl rfl hl.1 rfl (Nat.le_of_ble_eq_true rfl) d_Rs_greatestOf_2 ⟨Nat.zero_le _, Nat.zero_le _⟩ ?_
  refine lv_istore_n (lv' := [(2, .int r_2), (0, .ref x), (1, .int v1)]) hx hb d_Rs_greatestOf_5 rfl hl (by decide) rfl (fun ls hl => ?_)
  refine lv_iload_n hx hb d_Rs_greatestOf_6 rfl (lv_at hl 0 rfl) ?_
  refine lv_if_ne (tgt := 15) hx hb d_Rs_greatestOf_7 (by decide) (fun hc => ?_) (fun hc => ?_)
  · have hf := fn_f hc hf
    refine lv_iload_n hx hb d_Rs_greatestOf_15 rfl (lv_at hl 0 rfl) ?_
    refine lv_iload_n hx hb d_Rs_greatestOf_16 rfl (lv_at hl 0 rfl) ?_
    obtain ⟨r_17, hcl, hf⟩ := fn_e1 hf
    refine cs_RdI (rest := [.int r_2]) ⟨hx, hb, hml, hown, hts⟩ (c_Ji_bitCount l D cK r_2 r_17 hcl) (va_cwS 1 hts (zz_S ml_Rs_30 st_Ji_bitCount in_Ji co_Ji_bitCount) rfl rfl rfl hd_Ji_bitCount ⟨Nat.le_of_ble_eq_true rfl, Nat.le_of_ble_eq_true rfl⟩) hK hP [] rfl rfl hl.1 rfl (Nat.le_of_ble_eq_true rfl) d_Rs_greatestOf_17 ⟨Nat.zero_le _, Nat.zero_le _⟩ ?_
    refine lv_iconst (v := 1) hx hb d_Rs_greatestOf_20 (by decide) ?_
    refine lv_isub hx hb d_Rs_greatestOf_21 ?_
    obtain ⟨r_22, hcl, hf⟩ := fn_e1 hf
    refine cs_RdI (rest := []) ⟨hx, hb, hml, hown, hts⟩ (c_Rs_bitAt l D cK N r_2 (r_17 - 1) r_22 hcl) (va_cwS 2 hts (zz_S ml_Rs_36 st_Rs_bitAt in_Rs co_Rs_bitAt) rfl rfl rfl hd_Rs_bitAt ⟨Nat.le_of_ble_eq_true rfl, Nat.le_of_ble_eq_true rfl⟩) hK hP [] rfl rfl hl.1 rfl (Nat.le_of_ble_eq_true rfl) d_Rs_greatestOf_22 ⟨Nat.zero_le _, Nat.zero_le _⟩ ?_
    cases hf
    exact hret 25 _ rfl d_Rs_greatestOf_25
  · have hf := fn_t hc hf
    refine lv_bipush (v := (-2)) hx hb d_Rs_greatestOf_10 (by decide) ?_
    refine lv_goto (tgt := 25) hx hb d_Rs_greatestOf_12 (by decide) ?_
    cases hf
    exact hret 25 _ rfl d_Rs_greatestOf_25
end
section
abbrev rm_Sr_begin : Room := { frames := 1, cells := 0, slots := 0, locals := 21 }
set_option maxHeartbeats 4000000 in
set_option maxRecDepth 100000 in
theorem c_Sr_begin (l : Launch) (D : va_G) (cK : Nat → ClassId) (sr se srO srV q qI qL : Nat) (srOf : Nat → Int32) (qW : Int32) (qP : Int32) (qV : Int32) (N : Nat)  (o_srOf : Nat → Int32) (hf : f_Sr_begin N srOf qV = some o_srOf) : WrV l y_Sr_begin w_Sr_begin rm_Sr_begin D zz_cl (mt_ty cK RK2) [.ref sr, .ref q] [(sr, .inr (3, [.ref se, .ref srO, .ref srV])), (srO, .inl (cK 0, 4, .inl srOf)), (q, .inr (2, [.ref qI, .ref qL, .int qW, .int qP, .int qV]))] [(sr, .inr (3, [.ref se, .ref srO, .ref srV])), (srO, .inl (cK 0, 4, .inl o_srOf)), (q, .inr (2, [.ref qI, .ref qL, .int qW, .int qP, .int qV]))] := by
  refine mk_WrV (cc := b_Sr_begin) (maxL := 3) (by decide +kernel) rfl (Nat.le_of_ble_eq_true rfl) ?_
  intro p e s m below meth c args Q A ls hx hb hml hown hts hA hK hP hD hret hl
  have hS : va_S A s.heap s.heap [] := va_S.rf
  have hl : lv_has ls 3 [(0, .ref sr), (1, .ref q)] := hl
  have J_2 : ∀  (n_2 : Nat) (srOf : Nat → Int32) (v2 : Int32) (H : Heap) (locs : List Loc) (ls : Array Slot), f_Sr_begin_2 N qV n_2 srOf v2 = some o_srOf → va_P D zz_cl [(sr, .inr (3, [.ref se, .ref srO, .ref srV])), (srO, .inl (cK 0, 4, .inl srOf)), (q, .inr (2, [.ref qI, .ref qL, .int qW, .int qP, .int qV]))] H → va_D A [(sr, .inr (3, [.ref se, .ref srO, .ref srV])), (srO, .inl (cK 0, 4, .inl srOf)), (q, .inr (2, [.ref qI, .ref qL, .int qW, .int qP, .int qV]))] → va_S A s.heap H locs → lv_has ls 3 [(0, .ref sr), (1, .ref q), (2, .int v2)] → W p l e rm_Sr_begin s m args below meth c H locs 0 0 Q (F0 m 2 ls []) := by
    intro n_2
    induction n_2 with
    | zero =>
      intro srOf v2 H locs ls hf hP hD hS hl
      exact fn_0 hf
    | succ n_2 ih_2 =>
      intro srOf v2 H locs ls hf hP hD hS hl
      rw [f_Sr_begin_2.eq_2] at hf
      refine lv_iload_n hx hb d_Sr_begin_2 rfl (lv_at hl 2 rfl) ?_
      refine lv_iconst (v := 4) hx hb d_Sr_begin_3 (by decide) ?_
      refine lv_icmp_ge (tgt := 33) hx hb d_Sr_begin_4 (by decide) (fun hc => ?_) (fun hc => ?_)
      · have hf := fn_t hc hf
        cases hf
        exact hret _ _ 33 _ hP hD hS d_Sr_begin_33
      · have hf := fn_f hc hf
        refine lv_aload_n hx hb d_Sr_begin_7 rfl (lv_at hl 0 rfl) ?_
        refine va_get (D := D) (ci := 3) (v := .ref srO) (C := RK3) (T := TK3) (N := 3) hx hb hts iwK3 hown hK hP 0 rfl rfl 1 (by decide) (hts _ fl_Sr_9) (fun _ h9 => h9) rfl d_Sr_begin_8 ?_
        refine lv_iload_n hx hb d_Sr_begin_11 rfl (lv_at hl 2 rfl) ?_
        refine lv_aload_n hx hb d_Sr_begin_12 rfl (lv_at hl 1 rfl) ?_
        refine lv_iload_n hx hb d_Sr_begin_13 rfl (lv_at hl 2 rfl) ?_
        obtain ⟨r_14, hcl, hf⟩ := fn_e1 hf
        refine cv_RdI (rest := [.int v2, .ref srO]) ⟨hx, hb, hml, hown, hts⟩ (c_Qu_uses l D cK q qI qL qW qP qV v2 r_14 hcl) (cwV 1 hts (zz_V ml_Sr_22 im_Qu_uses se_Qu_uses in_Qu co_Qu_uses) rfl rfl rfl ⟨rfl, hd_Qu_uses⟩ ⟨Nat.le_of_ble_eq_true rfl, Nat.le_of_ble_eq_true rfl⟩) hK hP [2] rfl 2 rfl rfl rfl rfl hl.1 rfl (Nat.le_of_ble_eq_true rfl) d_Sr_begin_14 ⟨Nat.zero_le _, Nat.zero_le _⟩ ?_
        refine lv_if_eq (tgt := 25) hx hb d_Sr_begin_17 (by decide) (fun hc => ?_) (fun hc => ?_)
        · have hf := fn_t hc hf
          refine lv_iconst (v := 1) hx hb d_Sr_begin_25 (by decide) ?_
          have hg := fn_g hf
          have hf := fn_t hg hf
          refine va_iast hx hb hK hP hD hS 1 0 rfl rfl (fn_v hg) d_Sr_begin_26 (fun H locs hP hD hS => ?_)
          have hP : va_P D zz_cl [(sr, .inr (3, [.ref se, .ref srO, .ref srV])), (srO, .inl (cK 0, 4, .inl (upd srOf (Int32.toNatClampNeg v2) 1))), (q, .inr (2, [.ref qI, .ref qL, .int qW, .int qP, .int qV]))] H := hP
          have hD : va_D A [(sr, .inr (3, [.ref se, .ref srO, .ref srV])), (srO, .inl (cK 0, 4, .inl (upd srOf (Int32.toNatClampNeg v2) 1))), (q, .inr (2, [.ref qI, .ref qL, .int qW, .int qP, .int qV]))] := hD
          refine lv_iinc (v := (v2 + 1)) (lv' := [(2, .int (v2 + 1)), (0, .ref sr), (1, .ref q)]) hx hb d_Sr_begin_27 hl (k := 2) rfl rfl (by decide) rfl (fun ls hl => ?_)
          refine lv_goto (tgt := 2) hx hb d_Sr_begin_30 (by decide) ?_
          exact ih_2 _ _ _ _ _ hf hP hD hS (lv_sub hl [1, 2, 0] rfl)
        · have hf := fn_f hc hf
          refine lv_ldc (v := 65535) hx hb hown (hts _ kn_Sr_28) d_Sr_begin_20 ?_
          refine lv_goto (tgt := 26) hx hb d_Sr_begin_22 (by decide) ?_
          have hg := fn_g hf
          have hf := fn_t hg hf
          refine va_iast hx hb hK hP hD hS 1 0 rfl rfl (fn_v hg) d_Sr_begin_26 (fun H locs hP hD hS => ?_)
          have hP : va_P D zz_cl [(sr, .inr (3, [.ref se, .ref srO, .ref srV])), (srO, .inl (cK 0, 4, .inl (upd srOf (Int32.toNatClampNeg v2) 65535))), (q, .inr (2, [.ref qI, .ref qL, .int qW, .int qP, .int qV]))] H := hP
          have hD : va_D A [(sr, .inr (3, [.ref se, .ref srO, .ref srV])), (srO, .inl (cK 0, 4, .inl (upd srOf (Int32.toNatClampNeg v2) 65535))), (q, .inr (2, [.ref qI, .ref qL, .int qW, .int qP, .int qV]))] := hD
          refine lv_iinc (v := (v2 + 1)) (lv' := [(2, .int (v2 + 1)), (0, .ref sr), (1, .ref q)]) hx hb d_Sr_begin_27 hl (k := 2) rfl rfl (by decide) rfl (fun ls hl => ?_)
          refine lv_goto (tgt := 2) hx hb d_Sr_begin_30 (by decide) ?_
          exact ih_2 _ _ _ _ _ hf hP hD hS (lv_sub hl [1, 2, 0] rfl)
  unfold f_Sr_begin at hf
  refine lv_iconst (v := 0) hx hb d_Sr_begin_0 (by decide) ?_
  refine lv_istore_n (lv' := [(2, .int 0), (0, .ref sr), (1, .ref q)]) hx hb d_Sr_begin_1 rfl hl (by decide) rfl (fun ls hl => ?_)
  exact J_2 _ _ _ _ _ _ hf hP hD hS (lv_sub hl [1, 2, 0] rfl)
abbrev rm_Sr_valueOf : Room := { frames := 0, cells := 0, slots := 0, locals := 0 }
set_option maxHeartbeats 4000000 in
set_option maxRecDepth 100000 in
theorem c_Sr_valueOf (l : Launch) (D : va_G) (cK : Nat → ClassId) (sr se srO srV : Nat) (srVf : Nat → Int32) (v1 : Int32) (r : Int32) (hf : f_Sr_valueOf srVf v1 = some r) : RdI l y_Sr_valueOf w_Sr_valueOf rm_Sr_valueOf D zz_cl (mt_ty cK RK2) [.ref sr, .int v1] [(sr, .inr (3, [.ref se, .ref srO, .ref srV])), (srV, .inl (cK 0, 4, .inl srVf))] r := by
  refine mk_RdI (cc := b_Sr_valueOf) (maxL := 3) (ty := .int) (by decide +kernel) rfl (Nat.le_of_ble_eq_true rfl) ?_
  intro p e s m below meth c args Q ls hx hb hml hown hts hK hP hret hl
  have hl : lv_has ls 3 [(0, .ref sr), (1, .int v1)] := hl
  unfold f_Sr_valueOf at hf
  refine lv_iconst (v := (-1)) hx hb d_Sr_valueOf_0 (by decide) ?_
  refine lv_iload_n hx hb d_Sr_valueOf_1 rfl (lv_at hl 1 rfl) ?_
  refine lv_isub hx hb d_Sr_valueOf_2 ?_
  refine lv_istore_n (lv' := [(2, .int ((-1) - v1)), (0, .ref sr), (1, .int v1)]) hx hb d_Sr_valueOf_3 rfl hl (by decide) rfl (fun ls hl => ?_)
  refine lv_iload_n hx hb d_Sr_valueOf_4 rfl (lv_at hl 0 rfl) ?_
  refine lv_if_lt (tgt := 22) hx hb d_Sr_valueOf_5 (by decide) (fun hc => ?_) (fun hc => ?_)
  · have hf := fn_t hc hf
    refine lv_iload_n hx hb d_Sr_valueOf_22 rfl (lv_at hl 2 rfl) ?_
    cases hf
    exact hret 23 _ rfl d_Sr_valueOf_23
  · have hf := fn_f hc hf
    refine lv_iload_n hx hb d_Sr_valueOf_8 rfl (lv_at hl 0 rfl) ?_
    refine lv_iconst (v := 4) hx hb d_Sr_valueOf_9 (by decide) ?_
    refine lv_icmp_ge (tgt := 22) hx hb d_Sr_valueOf_10 (by decide) (fun hc => ?_) (fun hc => ?_)
    · have hf := fn_t hc hf
      refine lv_iload_n hx hb d_Sr_valueOf_22 rfl (lv_at hl 2 rfl) ?_
      cases hf
      exact hret 23 _ rfl d_Sr_valueOf_23
    · have hf := fn_f hc hf
      refine lv_aload_n hx hb d_Sr_valueOf_13 rfl (lv_at hl 1 rfl) ?_
      refine va_get (D := D) (ci := 3) (v := .ref srV) (C := RK3) (T := TK3) (N := 3) hx hb hts iwK3 hown hK hP 0 rfl rfl 2 (by decide) (hts _ fl_Sr_15) (fun _ h9 => h9) rfl d_Sr_valueOf_14 ?_
      refine lv_iload_n hx hb d_Sr_valueOf_17 rfl (lv_at hl 0 rfl) ?_
      have hg := fn_g hf
      have hf := fn_t hg hf
      refine va_iald hx hb hK hP 1 0 rfl rfl (fn_v hg) d_Sr_valueOf_18 ?_
      refine lv_goto (tgt := 23) hx hb d_Sr_valueOf_19 (by decide) ?_
      cases hf
      exact hret 23 _ rfl d_Sr_valueOf_23
abbrev rm_Sr_allowed : Room := { frames := 0, cells := 0, slots := 0, locals := 0 }
set_option maxHeartbeats 4000000 in
set_option maxRecDepth 100000 in
theorem c_Sr_allowed (l : Launch) (D : va_G) (cK : Nat → ClassId) (sr se srO srV : Nat) (srOf : Nat → Int32) (v1 : Int32) (r : Int32) (hf : f_Sr_allowed srOf v1 = some r) : RdI l y_Sr_allowed w_Sr_allowed rm_Sr_allowed D zz_cl (mt_ty cK RK2) [.ref sr, .int v1] [(sr, .inr (3, [.ref se, .ref srO, .ref srV])), (srO, .inl (cK 0, 4, .inl srOf))] r := by
  refine mk_RdI (cc := b_Sr_allowed) (maxL := 3) (ty := .int) (by decide +kernel) rfl (Nat.le_of_ble_eq_true rfl) ?_
  intro p e s m below meth c args Q ls hx hb hml hown hts hK hP hret hl
  have hl : lv_has ls 3 [(0, .ref sr), (1, .int v1)] := hl
  unfold f_Sr_allowed at hf
  refine lv_iconst (v := (-1)) hx hb d_Sr_allowed_0 (by decide) ?_
  refine lv_iload_n hx hb d_Sr_allowed_1 rfl (lv_at hl 1 rfl) ?_
  refine lv_isub hx hb d_Sr_allowed_2 ?_
  refine lv_istore_n (lv' := [(2, .int ((-1) - v1)), (0, .ref sr), (1, .int v1)]) hx hb d_Sr_allowed_3 rfl hl (by decide) rfl (fun ls hl => ?_)
  refine lv_iload_n hx hb d_Sr_allowed_4 rfl (lv_at hl 0 rfl) ?_
  refine lv_if_lt (tgt := 22) hx hb d_Sr_allowed_5 (by decide) (fun hc => ?_) (fun hc => ?_)
  · have hf := fn_t hc hf
    refine lv_iconst (v := 1) hx hb d_Sr_allowed_22 (by decide) ?_
    refine lv_iload_n hx hb d_Sr_allowed_23 rfl (lv_at hl 2 rfl) ?_
    refine lv_ishl hx hb d_Sr_allowed_24 ?_
    cases hf
    exact hret 25 _ rfl d_Sr_allowed_25
  · have hf := fn_f hc hf
    refine lv_iload_n hx hb d_Sr_allowed_8 rfl (lv_at hl 0 rfl) ?_
    refine lv_iconst (v := 4) hx hb d_Sr_allowed_9 (by decide) ?_
    refine lv_icmp_ge (tgt := 22) hx hb d_Sr_allowed_10 (by decide) (fun hc => ?_) (fun hc => ?_)
    · have hf := fn_t hc hf
      refine lv_iconst (v := 1) hx hb d_Sr_allowed_22 (by decide) ?_
      refine lv_iload_n hx hb d_Sr_allowed_23 rfl (lv_at hl 2 rfl) ?_
      refine lv_ishl hx hb d_Sr_allowed_24 ?_
      cases hf
      exact hret 25 _ rfl d_Sr_allowed_25
    · have hf := fn_f hc hf
      refine lv_aload_n hx hb d_Sr_allowed_13 rfl (lv_at hl 1 rfl) ?_
      refine va_get (D := D) (ci := 3) (v := .ref srO) (C := RK3) (T := TK3) (N := 3) hx hb hts iwK3 hown hK hP 0 rfl rfl 1 (by decide) (hts _ fl_Sr_9) (fun _ h9 => h9) rfl d_Sr_allowed_14 ?_
      refine lv_iload_n hx hb d_Sr_allowed_17 rfl (lv_at hl 0 rfl) ?_
      have hg := fn_g hf
      have hf := fn_t hg hf
      refine va_iald hx hb hK hP 1 0 rfl rfl (fn_v hg) d_Sr_allowed_18 ?_
      refine lv_goto (tgt := 25) hx hb d_Sr_allowed_19 (by decide) ?_
      cases hf
      exact hret 25 _ rfl d_Sr_allowed_25
abbrev rm_Sr_keep : Room := { frames := 1, cells := 0, slots := 0, locals := 22 }
set_option maxHeartbeats 4000000 in
set_option maxRecDepth 100000 in
theorem c_Sr_keep (l : Launch) (D : va_G) (cK : Nat → ClassId) (sr se srO srV : Nat) (srOf : Nat → Int32) (v1 : Int32) (v2 : Int32) (r : Int32) (o_srOf : Nat → Int32) (hf : f_Sr_keep srOf v1 v2 = some (r, o_srOf)) : WrI l y_Sr_keep w_Sr_keep rm_Sr_keep D zz_cl (mt_ty cK RK2) [.ref sr, .int v1, .int v2] [(sr, .inr (3, [.ref se, .ref srO, .ref srV])), (srO, .inl (cK 0, 4, .inl srOf))] [(sr, .inr (3, [.ref se, .ref srO, .ref srV])), (srO, .inl (cK 0, 4, .inl o_srOf))] r := by
  refine mk_WrI (cc := b_Sr_keep) (maxL := 4) (ty := .boolean) (by decide +kernel) rfl (Nat.le_of_ble_eq_true rfl) ?_
  intro p e s m below meth c args Q A ls hx hb hml hown hts hA hK hP hD hret hl
  have hS : va_S A s.heap s.heap [] := va_S.rf
  have hl : lv_has ls 4 [(0, .ref sr), (1, .int v1), (2, .int v2)] := hl
  unfold f_Sr_keep at hf
  refine lv_iconst (v := (-1)) hx hb d_Sr_keep_0 (by decide) ?_
  refine lv_iload_n hx hb d_Sr_keep_1 rfl (lv_at hl 1 rfl) ?_
  refine lv_isub hx hb d_Sr_keep_2 ?_
  refine lv_istore_n (lv' := [(3, .int ((-1) - v1)), (0, .ref sr), (1, .int v1), (2, .int v2)]) hx hb d_Sr_keep_3 rfl hl (by decide) rfl (fun ls hl => ?_)
  refine lv_iload_n hx hb d_Sr_keep_4 rfl (lv_at hl 0 rfl) ?_
  refine lv_if_lt (tgt := 23) hx hb d_Sr_keep_5 (by decide) (fun hc => ?_) (fun hc => ?_)
  · have hf := fn_t hc hf
    refine lv_aload_n hx hb d_Sr_keep_23 rfl (lv_at hl 1 rfl) ?_
    refine lv_iload_n hx hb d_Sr_keep_24 rfl (lv_at hl 2 rfl) ?_
    obtain ⟨r_25, hcl, hf⟩ := fn_e1 hf
    refine cv_RdI (rest := []) ⟨hx, hb, hml, hown, hts⟩ (c_Sr_allowed l D cK sr se srO srV srOf v1 r_25 hcl) (cwV 1 hts (zz_V ml_Sr_49 im_Sr_allowed se_Sr_allowed in_Sr co_Sr_allowed) rfl rfl rfl ⟨rfl, hd_Sr_allowed⟩ ⟨Nat.le_of_ble_eq_true rfl, Nat.le_of_ble_eq_true rfl⟩) hK hP [0, 1] rfl 0 rfl rfl rfl rfl hl.1 rfl (Nat.le_of_ble_eq_true rfl) d_Sr_keep_25 ⟨Nat.zero_le _, Nat.zero_le _⟩ ?_
    refine lv_iload_n hx hb d_Sr_keep_28 rfl (lv_at hl 3 rfl) ?_
    refine lv_iand hx hb d_Sr_keep_29 ?_
    refine lv_if_eq (tgt := 37) hx hb d_Sr_keep_30 (by decide) (fun hc => ?_) (fun hc => ?_)
    · have hf := fn_t hc hf
      refine lv_iconst (v := 0) hx hb d_Sr_keep_37 (by decide) ?_
      cases hf
      exact hret _ _ 38 _ hP hD hS rfl d_Sr_keep_38
    · have hf := fn_f hc hf
      refine lv_iconst (v := 1) hx hb d_Sr_keep_33 (by decide) ?_
      refine lv_goto (tgt := 38) hx hb d_Sr_keep_34 (by decide) ?_
      cases hf
      exact hret _ _ 38 _ hP hD hS rfl d_Sr_keep_38
  · have hf := fn_f hc hf
    refine lv_iload_n hx hb d_Sr_keep_8 rfl (lv_at hl 0 rfl) ?_
    refine lv_iconst (v := 4) hx hb d_Sr_keep_9 (by decide) ?_
    refine lv_icmp_ge (tgt := 23) hx hb d_Sr_keep_10 (by decide) (fun hc => ?_) (fun hc => ?_)
    · have hf := fn_t hc hf
      refine lv_aload_n hx hb d_Sr_keep_23 rfl (lv_at hl 1 rfl) ?_
      refine lv_iload_n hx hb d_Sr_keep_24 rfl (lv_at hl 2 rfl) ?_
      obtain ⟨r_25, hcl, hf⟩ := fn_e1 hf
      refine cv_RdI (rest := []) ⟨hx, hb, hml, hown, hts⟩ (c_Sr_allowed l D cK sr se srO srV srOf v1 r_25 hcl) (cwV 1 hts (zz_V ml_Sr_49 im_Sr_allowed se_Sr_allowed in_Sr co_Sr_allowed) rfl rfl rfl ⟨rfl, hd_Sr_allowed⟩ ⟨Nat.le_of_ble_eq_true rfl, Nat.le_of_ble_eq_true rfl⟩) hK hP [0, 1] rfl 0 rfl rfl rfl rfl hl.1 rfl (Nat.le_of_ble_eq_true rfl) d_Sr_keep_25 ⟨Nat.zero_le _, Nat.zero_le _⟩ ?_
      refine lv_iload_n hx hb d_Sr_keep_28 rfl (lv_at hl 3 rfl) ?_
      refine lv_iand hx hb d_Sr_keep_29 ?_
      refine lv_if_eq (tgt := 37) hx hb d_Sr_keep_30 (by decide) (fun hc => ?_) (fun hc => ?_)
      · have hf := fn_t hc hf
        refine lv_iconst (v := 0) hx hb d_Sr_keep_37 (by decide) ?_
        cases hf
        exact hret _ _ 38 _ hP hD hS rfl d_Sr_keep_38
      · have hf := fn_f hc hf
        refine lv_iconst (v := 1) hx hb d_Sr_keep_33 (by decide) ?_
        refine lv_goto (tgt := 38) hx hb d_Sr_keep_34 (by decide) ?_
        cases hf
        exact hret _ _ 38 _ hP hD hS rfl d_Sr_keep_38
    · have hf := fn_f hc hf
      refine lv_aload_n hx hb d_Sr_keep_13 rfl (lv_at hl 1 rfl) ?_
      refine va_get (D := D) (ci := 3) (v := .ref srO) (C := RK3) (T := TK3) (N := 3) hx hb hts iwK3 hown hK hP 0 rfl rfl 1 (by decide) (hts _ fl_Sr_9) (fun _ h9 => h9) rfl d_Sr_keep_14 ?_
      refine lv_iload_n hx hb d_Sr_keep_17 rfl (lv_at hl 0 rfl) ?_
      refine lv_dup2_11 hx hb d_Sr_keep_18 rfl rfl ?_
      have hg := fn_g hf
      have hf := fn_t hg hf
      refine va_iald hx hb hK hP 1 0 rfl rfl (fn_v hg) d_Sr_keep_19 ?_
      refine lv_iload_n hx hb d_Sr_keep_20 rfl (lv_at hl 3 rfl) ?_
      refine lv_iand hx hb d_Sr_keep_21 ?_
      have hg := fn_g hf
      have hf := fn_t hg hf
      refine va_iast hx hb hK hP hD hS 1 0 rfl rfl (fn_v hg) d_Sr_keep_22 (fun H locs hP hD hS => ?_)
      have hP : va_P D zz_cl [(sr, .inr (3, [.ref se, .ref srO, .ref srV])), (srO, .inl (cK 0, 4, .inl (upd srOf (Int32.toNatClampNeg ((-1) - v1)) ((srOf (Int32.toNatClampNeg ((-1) - v1))) &&& v2))))] H := hP
      have hD : va_D A [(sr, .inr (3, [.ref se, .ref srO, .ref srV])), (srO, .inl (cK 0, 4, .inl (upd srOf (Int32.toNatClampNeg ((-1) - v1)) ((srOf (Int32.toNatClampNeg ((-1) - v1))) &&& v2))))] := hD
      refine lv_aload_n hx hb d_Sr_keep_23 rfl (lv_at hl 1 rfl) ?_
      refine lv_iload_n hx hb d_Sr_keep_24 rfl (lv_at hl 2 rfl) ?_
      obtain ⟨r_25, hcl, hf⟩ := fn_e1 hf
      refine cv_RdI (rest := []) ⟨hx, hb, hml, hown, hts⟩ (c_Sr_allowed l D cK sr se srO srV (upd srOf (Int32.toNatClampNeg ((-1) - v1)) ((srOf (Int32.toNatClampNeg ((-1) - v1))) &&& v2)) v1 r_25 hcl) (cwV 1 hts (zz_V ml_Sr_49 im_Sr_allowed se_Sr_allowed in_Sr co_Sr_allowed) rfl rfl rfl ⟨rfl, hd_Sr_allowed⟩ ⟨Nat.le_of_ble_eq_true rfl, Nat.le_of_ble_eq_true rfl⟩) hK hP [0, 1] rfl 0 rfl rfl rfl rfl hl.1 rfl (Nat.le_of_ble_eq_true rfl) d_Sr_keep_25 ⟨Nat.zero_le _, Nat.zero_le _⟩ ?_
      refine lv_iload_n hx hb d_Sr_keep_28 rfl (lv_at hl 3 rfl) ?_
      refine lv_iand hx hb d_Sr_keep_29 ?_
      refine lv_if_eq (tgt := 37) hx hb d_Sr_keep_30 (by decide) (fun hc => ?_) (fun hc => ?_)
      · have hf := fn_t hc hf
        refine lv_iconst (v := 0) hx hb d_Sr_keep_37 (by decide) ?_
        cases hf
        exact hret _ _ 38 _ hP hD hS rfl d_Sr_keep_38
      · have hf := fn_f hc hf
        refine lv_iconst (v := 1) hx hb d_Sr_keep_33 (by decide) ?_
        refine lv_goto (tgt := 38) hx hb d_Sr_keep_34 (by decide) ?_
        cases hf
        exact hret _ _ 38 _ hP hD hS rfl d_Sr_keep_38
abbrev rm_Sr_bind : Room := { frames := 2, cells := 0, slots := 0, locals := 45 }
set_option maxHeartbeats 4000000 in
set_option maxRecDepth 100000 in
theorem c_Sr_bind (l : Launch) (D : va_G) (cK : Nat → ClassId) (sr se srO srV q qI qL : Nat) (srOf : Nat → Int32) (qW : Int32) (qP : Int32) (qV : Int32) (qIf : Nat → Int32) (v2 : Int32) (v3 : Int32) (r : Int32) (o_srOf : Nat → Int32) (hf : f_Sr_bind srOf qIf v2 v3 = some (r, o_srOf)) : WrI l y_Sr_bind w_Sr_bind rm_Sr_bind D zz_cl (mt_ty cK RK2) [.ref sr, .ref q, .int v2, .int v3] [(sr, .inr (3, [.ref se, .ref srO, .ref srV])), (srO, .inl (cK 0, 4, .inl srOf)), (q, .inr (2, [.ref qI, .ref qL, .int qW, .int qP, .int qV])), (qI, .inl (cK 0, 9, .inl qIf))] [(sr, .inr (3, [.ref se, .ref srO, .ref srV])), (srO, .inl (cK 0, 4, .inl o_srOf)), (q, .inr (2, [.ref qI, .ref qL, .int qW, .int qP, .int qV])), (qI, .inl (cK 0, 9, .inl qIf))] r := by
  refine mk_WrI (cc := b_Sr_bind) (maxL := 7) (ty := .boolean) (by decide +kernel) rfl (Nat.le_of_ble_eq_true rfl) ?_
  intro p e s m below meth c args Q A ls hx hb hml hown hts hA hK hP hD hret hl
  have hS : va_S A s.heap s.heap [] := va_S.rf
  have hl : lv_has ls 7 [(0, .ref sr), (1, .ref q), (2, .int v2), (3, .int v3)] := hl
  unfold f_Sr_bind at hf
  refine lv_iload_n hx hb d_Sr_bind_0 rfl (lv_at hl 3 rfl) ?_
  refine lv_bipush (v := 16) hx hb d_Sr_bind_1 (by decide) ?_
  refine lv_idiv hx hb d_Sr_bind_3 (by decide) ?_
  refine lv_bipush (v := 8) hx hb d_Sr_bind_4 (by decide) ?_
  refine lv_idiv hx hb d_Sr_bind_6 (by decide) ?_
  refine lv_istore (lv' := [(4, .int ((v3 / 16) / 8)), (0, .ref sr), (1, .ref q), (2, .int v2), (3, .int v3)]) hx hb d_Sr_bind_7 hl (by decide) rfl (fun ls hl => ?_)
  refine lv_iload_n hx hb d_Sr_bind_9 rfl (lv_at hl 4 rfl) ?_
  refine lv_bipush (v := 16) hx hb d_Sr_bind_10 (by decide) ?_
  refine lv_idiv hx hb d_Sr_bind_12 (by decide) ?_
  refine lv_bipush (v := 8) hx hb d_Sr_bind_13 (by decide) ?_
  refine lv_irem hx hb d_Sr_bind_15 (by decide) ?_
  refine lv_istore (lv' := [(5, .int ((v3 / 16) - (v3 / 16) / 8 * 8)), (4, .int ((v3 / 16) / 8)), (0, .ref sr), (1, .ref q), (2, .int v2), (3, .int v3)]) hx hb d_Sr_bind_16 hl (by decide) rfl (fun ls hl => ?_)
  refine lv_iload_n hx hb d_Sr_bind_18 rfl (lv_at hl 5 rfl) ?_
  refine lv_bipush (v := 16) hx hb d_Sr_bind_19 (by decide) ?_
  refine lv_irem hx hb d_Sr_bind_21 (by decide) ?_
  refine lv_istore (lv' := [(6, .int (v3 - v3 / 16 * 16)), (5, .int ((v3 / 16) - (v3 / 16) / 8 * 8)), (4, .int ((v3 / 16) / 8)), (0, .ref sr), (1, .ref q), (2, .int v2), (3, .int v3)]) hx hb d_Sr_bind_22 hl (by decide) rfl (fun ls hl => ?_)
  refine lv_aload_n hx hb d_Sr_bind_24 rfl (lv_at hl 3 rfl) ?_
  refine lv_aload_n hx hb d_Sr_bind_25 rfl (lv_at hl 4 rfl) ?_
  refine lv_iload_n hx hb d_Sr_bind_26 rfl (lv_at hl 5 rfl) ?_
  refine lv_iconst (v := 0) hx hb d_Sr_bind_27 (by decide) ?_
  obtain ⟨r_28, hcl, hf⟩ := fn_e1 hf
  refine cv_RdI (rest := [.ref sr]) ⟨hx, hb, hml, hown, hts⟩ (c_Qu_itemAt l D cK q qI qL qW qP qV qIf v2 0 r_28 hcl) (cwV 2 hts (zz_V ml_Sr_29 im_Qu_itemAt se_Qu_itemAt in_Qu co_Qu_itemAt) rfl rfl rfl ⟨rfl, hd_Qu_itemAt⟩ ⟨Nat.le_of_ble_eq_true rfl, Nat.le_of_ble_eq_true rfl⟩) hK hP [2, 3] rfl 2 rfl rfl rfl rfl hl.1 rfl (Nat.le_of_ble_eq_true rfl) d_Sr_bind_28 ⟨Nat.zero_le _, Nat.zero_le _⟩ ?_
  refine lv_iconst (v := 1) hx hb d_Sr_bind_31 (by decide) ?_
  refine lv_iload hx hb d_Sr_bind_32 (lv_at hl 2 rfl) ?_
  refine lv_ishl hx hb d_Sr_bind_34 ?_
  obtain ⟨r_35, srOf_35, hcl, hf⟩ := fn_e2 hf
  refine cv_WrI (rest := []) (wr := [(q, .inr (2, [.ref qI, .ref qL, .int qW, .int qP, .int qV])), (qI, .inl (cK 0, 9, .inl qIf))]) (w' := [(sr, .inr (3, [.ref se, .ref srO, .ref srV])), (srO, .inl (cK 0, 4, .inl srOf_35)), (q, .inr (2, [.ref qI, .ref qL, .int qW, .int qP, .int qV])), (qI, .inl (cK 0, 9, .inl qIf))]) ⟨hx, hb, hml, hown, hts⟩ (c_Sr_keep l D cK sr se srO srV srOf r_28 ((1 : Int32) <<< (((v3 / 16) / 8) &&& 31)) r_35 srOf_35 hcl) (cwV 2 hts (zz_V ml_Sr_33 im_Sr_keep se_Sr_keep in_Sr co_Sr_keep) rfl rfl rfl ⟨rfl, hd_Sr_keep⟩ ⟨Nat.le_of_ble_eq_true rfl, Nat.le_of_ble_eq_true rfl⟩) hK hP hD hS hA [0, 1] [2, 3] [2, 3, 0, 1] rfl (by decide) rfl (by decide) (by decide) rfl (by decide) 0 rfl rfl rfl rfl hl.1 rfl (Nat.le_of_ble_eq_true rfl) d_Sr_bind_35 ⟨Nat.zero_le _, Nat.zero_le _⟩ (fun H locs hP hD hS => ?_)
  refine lv_if_eq (tgt := 79) hx hb d_Sr_bind_38 (by decide) (fun hc => ?_) (fun hc => ?_)
  · have hf := fn_t hc hf
    refine lv_iconst (v := 0) hx hb d_Sr_bind_79 (by decide) ?_
    cases hf
    exact hret _ _ 80 _ hP hD hS rfl d_Sr_bind_80
  · have hf := fn_f hc hf
    refine lv_aload_n hx hb d_Sr_bind_41 rfl (lv_at hl 3 rfl) ?_
    refine lv_aload_n hx hb d_Sr_bind_42 rfl (lv_at hl 4 rfl) ?_
    refine lv_iload_n hx hb d_Sr_bind_43 rfl (lv_at hl 5 rfl) ?_
    refine lv_iconst (v := 1) hx hb d_Sr_bind_44 (by decide) ?_
    obtain ⟨r_45, hcl, hf⟩ := fn_e1 hf
    refine cv_RdI (rest := [.ref sr]) ⟨hx, hb, hml, hown, hts⟩ (c_Qu_itemAt l D cK q qI qL qW qP qV qIf v2 1 r_45 hcl) (cwV 2 hts (zz_V ml_Sr_29 im_Qu_itemAt se_Qu_itemAt in_Qu co_Qu_itemAt) rfl rfl rfl ⟨rfl, hd_Qu_itemAt⟩ ⟨Nat.le_of_ble_eq_true rfl, Nat.le_of_ble_eq_true rfl⟩) hK hP [2, 3] rfl 2 rfl rfl rfl rfl hl.1 rfl (Nat.le_of_ble_eq_true rfl) d_Sr_bind_45 ⟨Nat.zero_le _, Nat.zero_le _⟩ ?_
    refine lv_iconst (v := 1) hx hb d_Sr_bind_48 (by decide) ?_
    refine lv_iload hx hb d_Sr_bind_49 (lv_at hl 1 rfl) ?_
    refine lv_ishl hx hb d_Sr_bind_51 ?_
    obtain ⟨r_52, srOf_52, hcl, hf⟩ := fn_e2 hf
    refine cv_WrI (rest := []) (wr := [(q, .inr (2, [.ref qI, .ref qL, .int qW, .int qP, .int qV])), (qI, .inl (cK 0, 9, .inl qIf))]) (w' := [(sr, .inr (3, [.ref se, .ref srO, .ref srV])), (srO, .inl (cK 0, 4, .inl srOf_52)), (q, .inr (2, [.ref qI, .ref qL, .int qW, .int qP, .int qV])), (qI, .inl (cK 0, 9, .inl qIf))]) ⟨hx, hb, hml, hown, hts⟩ (c_Sr_keep l D cK sr se srO srV srOf_35 r_45 ((1 : Int32) <<< (((v3 / 16) - (v3 / 16) / 8 * 8) &&& 31)) r_52 srOf_52 hcl) (cwV 2 hts (zz_V ml_Sr_33 im_Sr_keep se_Sr_keep in_Sr co_Sr_keep) rfl rfl rfl ⟨rfl, hd_Sr_keep⟩ ⟨Nat.le_of_ble_eq_true rfl, Nat.le_of_ble_eq_true rfl⟩) hK hP hD hS hA [0, 1] [2, 3] [2, 3, 0, 1] rfl (by decide) rfl (by decide) (by decide) rfl (by decide) 0 rfl rfl rfl rfl hl.1 rfl (Nat.le_of_ble_eq_true rfl) d_Sr_bind_52 ⟨Nat.zero_le _, Nat.zero_le _⟩ (fun H locs hP hD hS => ?_)
    refine lv_if_eq (tgt := 79) hx hb d_Sr_bind_55 (by decide) (fun hc => ?_) (fun hc => ?_)
    · have hf := fn_t hc hf
      refine lv_iconst (v := 0) hx hb d_Sr_bind_79 (by decide) ?_
      cases hf
      exact hret _ _ 80 _ hP hD hS rfl d_Sr_bind_80
    · have hf := fn_f hc hf
      refine lv_aload_n hx hb d_Sr_bind_58 rfl (lv_at hl 3 rfl) ?_
      refine lv_aload_n hx hb d_Sr_bind_59 rfl (lv_at hl 4 rfl) ?_
      refine lv_iload_n hx hb d_Sr_bind_60 rfl (lv_at hl 5 rfl) ?_
      refine lv_iconst (v := 2) hx hb d_Sr_bind_61 (by decide) ?_
      obtain ⟨r_62, hcl, hf⟩ := fn_e1 hf
      refine cv_RdI (rest := [.ref sr]) ⟨hx, hb, hml, hown, hts⟩ (c_Qu_itemAt l D cK q qI qL qW qP qV qIf v2 2 r_62 hcl) (cwV 2 hts (zz_V ml_Sr_29 im_Qu_itemAt se_Qu_itemAt in_Qu co_Qu_itemAt) rfl rfl rfl ⟨rfl, hd_Qu_itemAt⟩ ⟨Nat.le_of_ble_eq_true rfl, Nat.le_of_ble_eq_true rfl⟩) hK hP [2, 3] rfl 2 rfl rfl rfl rfl hl.1 rfl (Nat.le_of_ble_eq_true rfl) d_Sr_bind_62 ⟨Nat.zero_le _, Nat.zero_le _⟩ ?_
      refine lv_iconst (v := 1) hx hb d_Sr_bind_65 (by decide) ?_
      refine lv_iload hx hb d_Sr_bind_66 (lv_at hl 0 rfl) ?_
      refine lv_ishl hx hb d_Sr_bind_68 ?_
      obtain ⟨r_69, srOf_69, hcl, hf⟩ := fn_e2 hf
      refine cv_WrI (rest := []) (wr := [(q, .inr (2, [.ref qI, .ref qL, .int qW, .int qP, .int qV])), (qI, .inl (cK 0, 9, .inl qIf))]) (w' := [(sr, .inr (3, [.ref se, .ref srO, .ref srV])), (srO, .inl (cK 0, 4, .inl srOf_69)), (q, .inr (2, [.ref qI, .ref qL, .int qW, .int qP, .int qV])), (qI, .inl (cK 0, 9, .inl qIf))]) ⟨hx, hb, hml, hown, hts⟩ (c_Sr_keep l D cK sr se srO srV srOf_52 r_62 ((1 : Int32) <<< ((v3 - v3 / 16 * 16) &&& 31)) r_69 srOf_69 hcl) (cwV 2 hts (zz_V ml_Sr_33 im_Sr_keep se_Sr_keep in_Sr co_Sr_keep) rfl rfl rfl ⟨rfl, hd_Sr_keep⟩ ⟨Nat.le_of_ble_eq_true rfl, Nat.le_of_ble_eq_true rfl⟩) hK hP hD hS hA [0, 1] [2, 3] [2, 3, 0, 1] rfl (by decide) rfl (by decide) (by decide) rfl (by decide) 0 rfl rfl rfl rfl hl.1 rfl (Nat.le_of_ble_eq_true rfl) d_Sr_bind_69 ⟨Nat.zero_le _, Nat.zero_le _⟩ (fun H locs hP hD hS => ?_)
      refine lv_if_eq (tgt := 79) hx hb d_Sr_bind_72 (by decide) (fun hc => ?_) (fun hc => ?_)
      · have hf := fn_t hc hf
        refine lv_iconst (v := 0) hx hb d_Sr_bind_79 (by decide) ?_
        cases hf
        exact hret _ _ 80 _ hP hD hS rfl d_Sr_bind_80
      · have hf := fn_f hc hf
        refine lv_iconst (v := 1) hx hb d_Sr_bind_75 (by decide) ?_
        refine lv_goto (tgt := 80) hx hb d_Sr_bind_76 (by decide) ?_
        cases hf
        exact hret _ _ 80 _ hP hD hS rfl d_Sr_bind_80
abbrev rm_Sr_narrow : Room := { frames := 2, cells := 0, slots := 0, locals := 45 }
set_option maxHeartbeats 4000000 in
set_option maxRecDepth 100000 in
theorem c_Sr_narrow (l : Launch) (D : va_G) (cK : Nat → ClassId) (se seO sr srO srV : Nat) (seOf : Nat → Int32) (srOf : Nat → Int32) (N : Nat) (v1 : Int32) (v2 : Int32) (v3 : Int32) (r : Int32) (o_srOf : Nat → Int32) (hf : f_Sr_narrow N seOf srOf v1 v2 v3 = some (r, o_srOf)) : WrI l y_Sr_narrow w_Sr_narrow rm_Sr_narrow D zz_cl (mt_ty cK RK2) [.ref sr, .int v1, .int v2, .int v3] [(se, .inr (1, [.ref seO])), (seO, .inl (cK 0, 128, .inl seOf)), (sr, .inr (3, [.ref se, .ref srO, .ref srV])), (srO, .inl (cK 0, 4, .inl srOf))] [(se, .inr (1, [.ref seO])), (seO, .inl (cK 0, 128, .inl seOf)), (sr, .inr (3, [.ref se, .ref srO, .ref srV])), (srO, .inl (cK 0, 4, .inl o_srOf))] r := by
  refine mk_WrI (cc := b_Sr_narrow) (maxL := 13) (ty := .boolean) (by decide +kernel) rfl (Nat.le_of_ble_eq_true rfl) ?_
  intro p e s m below meth c args Q A ls hx hb hml hown hts hA hK hP hD hret hl
  have hS : va_S A s.heap s.heap [] := va_S.rf
  have hl : lv_has ls 13 [(0, .ref sr), (1, .int v1), (2, .int v2), (3, .int v3)] := hl
  have J_135 : ∀ (srOf : Nat → Int32) (v1 : Int32) (v2 : Int32) (v3 : Int32) (v7 : Int32) (v8 : Int32) (v9 : Int32) (H : Heap) (locs : List Loc) (ls : Array Slot), f_Sr_narrow_135 N seOf srOf v1 v2 v3 v7 v8 v9 = some (r, o_srOf) → va_P D zz_cl [(se, .inr (1, [.ref seO])), (seO, .inl (cK 0, 128, .inl seOf)), (sr, .inr (3, [.ref se, .ref srO, .ref srV])), (srO, .inl (cK 0, 4, .inl srOf))] H → va_D A [(se, .inr (1, [.ref seO])), (seO, .inl (cK 0, 128, .inl seOf)), (sr, .inr (3, [.ref se, .ref srO, .ref srV])), (srO, .inl (cK 0, 4, .inl srOf))] → va_S A s.heap H locs → lv_has ls 13 [(0, .ref sr), (1, .int v1), (2, .int v2), (3, .int v3), (7, .int v7), (8, .int v8), (9, .int v9)] → W p l e rm_Sr_narrow s m args below meth c H locs 0 0 Q (F0 m 135 ls []) := by
    intro srOf v1 v2 v3 v7 v8 v9 H locs ls hf hP hD hS hl
    unfold f_Sr_narrow_135 at hf
    refine lv_aload_n hx hb d_Sr_narrow_135 rfl (lv_at hl 0 rfl) ?_
    refine lv_iload_n hx hb d_Sr_narrow_136 rfl (lv_at hl 1 rfl) ?_
    refine lv_iload hx hb d_Sr_narrow_137 (lv_at hl 4 rfl) ?_
    obtain ⟨r_139, srOf_139, hcl, hf⟩ := fn_e2 hf
    refine cv_WrI (rest := []) (wr := [(se, .inr (1, [.ref seO])), (seO, .inl (cK 0, 128, .inl seOf))]) (w' := [(se, .inr (1, [.ref seO])), (seO, .inl (cK 0, 128, .inl seOf)), (sr, .inr (3, [.ref se, .ref srO, .ref srV])), (srO, .inl (cK 0, 4, .inl srOf_139))]) ⟨hx, hb, hml, hown, hts⟩ (c_Sr_keep l D cK sr se srO srV srOf v1 v7 r_139 srOf_139 hcl) (cwV 2 hts (zz_V ml_Sr_33 im_Sr_keep se_Sr_keep in_Sr co_Sr_keep) rfl rfl rfl ⟨rfl, hd_Sr_keep⟩ ⟨Nat.le_of_ble_eq_true rfl, Nat.le_of_ble_eq_true rfl⟩) hK hP hD hS hA [2, 3] [0, 1] [0, 1, 2, 3] rfl (by decide) rfl (by decide) (by decide) rfl (by decide) 2 rfl rfl rfl rfl hl.1 rfl (Nat.le_of_ble_eq_true rfl) d_Sr_narrow_139 ⟨Nat.zero_le _, Nat.zero_le _⟩ (fun H locs hP hD hS => ?_)
    refine lv_if_eq (tgt := 169) hx hb d_Sr_narrow_142 (by decide) (fun hc => ?_) (fun hc => ?_)
    · have hf := fn_t hc hf
      refine lv_iconst (v := 0) hx hb d_Sr_narrow_169 (by decide) ?_
      cases hf
      exact hret _ _ 170 _ hP hD hS rfl d_Sr_narrow_170
    · have hf := fn_f hc hf
      refine lv_aload_n hx hb d_Sr_narrow_145 rfl (lv_at hl 0 rfl) ?_
      refine lv_iload_n hx hb d_Sr_narrow_146 rfl (lv_at hl 2 rfl) ?_
      refine lv_iload hx hb d_Sr_narrow_147 (lv_at hl 5 rfl) ?_
      obtain ⟨r_149, srOf_149, hcl, hf⟩ := fn_e2 hf
      refine cv_WrI (rest := []) (wr := [(se, .inr (1, [.ref seO])), (seO, .inl (cK 0, 128, .inl seOf))]) (w' := [(se, .inr (1, [.ref seO])), (seO, .inl (cK 0, 128, .inl seOf)), (sr, .inr (3, [.ref se, .ref srO, .ref srV])), (srO, .inl (cK 0, 4, .inl srOf_149))]) ⟨hx, hb, hml, hown, hts⟩ (c_Sr_keep l D cK sr se srO srV srOf_139 v2 v8 r_149 srOf_149 hcl) (cwV 2 hts (zz_V ml_Sr_33 im_Sr_keep se_Sr_keep in_Sr co_Sr_keep) rfl rfl rfl ⟨rfl, hd_Sr_keep⟩ ⟨Nat.le_of_ble_eq_true rfl, Nat.le_of_ble_eq_true rfl⟩) hK hP hD hS hA [2, 3] [0, 1] [0, 1, 2, 3] rfl (by decide) rfl (by decide) (by decide) rfl (by decide) 2 rfl rfl rfl rfl hl.1 rfl (Nat.le_of_ble_eq_true rfl) d_Sr_narrow_149 ⟨Nat.zero_le _, Nat.zero_le _⟩ (fun H locs hP hD hS => ?_)
      refine lv_if_eq (tgt := 169) hx hb d_Sr_narrow_152 (by decide) (fun hc => ?_) (fun hc => ?_)
      · have hf := fn_t hc hf
        refine lv_iconst (v := 0) hx hb d_Sr_narrow_169 (by decide) ?_
        cases hf
        exact hret _ _ 170 _ hP hD hS rfl d_Sr_narrow_170
      · have hf := fn_f hc hf
        refine lv_aload_n hx hb d_Sr_narrow_155 rfl (lv_at hl 0 rfl) ?_
        refine lv_iload_n hx hb d_Sr_narrow_156 rfl (lv_at hl 3 rfl) ?_
        refine lv_iload hx hb d_Sr_narrow_157 (lv_at hl 6 rfl) ?_
        obtain ⟨r_159, srOf_159, hcl, hf⟩ := fn_e2 hf
        refine cv_WrI (rest := []) (wr := [(se, .inr (1, [.ref seO])), (seO, .inl (cK 0, 128, .inl seOf))]) (w' := [(se, .inr (1, [.ref seO])), (seO, .inl (cK 0, 128, .inl seOf)), (sr, .inr (3, [.ref se, .ref srO, .ref srV])), (srO, .inl (cK 0, 4, .inl srOf_159))]) ⟨hx, hb, hml, hown, hts⟩ (c_Sr_keep l D cK sr se srO srV srOf_149 v3 v9 r_159 srOf_159 hcl) (cwV 2 hts (zz_V ml_Sr_33 im_Sr_keep se_Sr_keep in_Sr co_Sr_keep) rfl rfl rfl ⟨rfl, hd_Sr_keep⟩ ⟨Nat.le_of_ble_eq_true rfl, Nat.le_of_ble_eq_true rfl⟩) hK hP hD hS hA [2, 3] [0, 1] [0, 1, 2, 3] rfl (by decide) rfl (by decide) (by decide) rfl (by decide) 2 rfl rfl rfl rfl hl.1 rfl (Nat.le_of_ble_eq_true rfl) d_Sr_narrow_159 ⟨Nat.zero_le _, Nat.zero_le _⟩ (fun H locs hP hD hS => ?_)
        refine lv_if_eq (tgt := 169) hx hb d_Sr_narrow_162 (by decide) (fun hc => ?_) (fun hc => ?_)
        · have hf := fn_t hc hf
          refine lv_iconst (v := 0) hx hb d_Sr_narrow_169 (by decide) ?_
          cases hf
          exact hret _ _ 170 _ hP hD hS rfl d_Sr_narrow_170
        · have hf := fn_f hc hf
          refine lv_iconst (v := 1) hx hb d_Sr_narrow_165 (by decide) ?_
          refine lv_goto (tgt := 170) hx hb d_Sr_narrow_166 (by decide) ?_
          cases hf
          exact hret _ _ 170 _ hP hD hS rfl d_Sr_narrow_170
  have J_33 : ∀ (v1 : Int32) (v2 : Int32) (v3 : Int32) (v4 : Int32) (v5 : Int32) (v6 : Int32) (n_33 : Nat) (srOf : Nat → Int32) (v7 : Int32) (v8 : Int32) (v9 : Int32) (v10 : Int32) (H : Heap) (locs : List Loc) (ls : Array Slot), f_Sr_narrow_33 N seOf v1 v2 v3 v4 v5 v6 n_33 srOf v7 v8 v9 v10 = some (r, o_srOf) → va_P D zz_cl [(se, .inr (1, [.ref seO])), (seO, .inl (cK 0, 128, .inl seOf)), (sr, .inr (3, [.ref se, .ref srO, .ref srV])), (srO, .inl (cK 0, 4, .inl srOf))] H → va_D A [(se, .inr (1, [.ref seO])), (seO, .inl (cK 0, 128, .inl seOf)), (sr, .inr (3, [.ref se, .ref srO, .ref srV])), (srO, .inl (cK 0, 4, .inl srOf))] → va_S A s.heap H locs → lv_has ls 13 [(0, .ref sr), (1, .int v1), (2, .int v2), (3, .int v3), (4, .int v4), (5, .int v5), (6, .int v6), (7, .int v7), (8, .int v8), (9, .int v9), (10, .int v10)] → W p l e rm_Sr_narrow s m args below meth c H locs 0 0 Q (F0 m 33 ls []) := by
    intro v1 v2 v3 v4 v5 v6 n_33
    induction n_33 with
    | zero =>
      intro srOf v7 v8 v9 v10 H locs ls hf hP hD hS hl
      exact fn_0 hf
    | succ n_33 ih_33 =>
      have J_56 : ∀ (v10 : Int32) (n_56 : Nat) (srOf : Nat → Int32) (v7 : Int32) (v8 : Int32) (v9 : Int32) (v11 : Int32) (H : Heap) (locs : List Loc) (ls : Array Slot), f_Sr_narrow_56 N seOf (f_Sr_narrow_33 N seOf v1 v2 v3 v4 v5 v6 n_33) v1 v2 v3 v4 v5 v6 v10 n_56 srOf v7 v8 v9 v11 = some (r, o_srOf) → va_P D zz_cl [(se, .inr (1, [.ref seO])), (seO, .inl (cK 0, 128, .inl seOf)), (sr, .inr (3, [.ref se, .ref srO, .ref srV])), (srO, .inl (cK 0, 4, .inl srOf))] H → va_D A [(se, .inr (1, [.ref seO])), (seO, .inl (cK 0, 128, .inl seOf)), (sr, .inr (3, [.ref se, .ref srO, .ref srV])), (srO, .inl (cK 0, 4, .inl srOf))] → va_S A s.heap H locs → lv_has ls 13 [(0, .ref sr), (1, .int v1), (2, .int v2), (3, .int v3), (4, .int v4), (5, .int v5), (6, .int v6), (7, .int v7), (8, .int v8), (9, .int v9), (10, .int v10), (11, .int v11)] → W p l e rm_Sr_narrow s m args below meth c H locs 0 0 Q (F0 m 56 ls []) := by
        intro v10 n_56
        induction n_56 with
        | zero =>
          intro srOf v7 v8 v9 v11 H locs ls hf hP hD hS hl
          exact fn_0 hf
        | succ n_56 ih_56 =>
          have J_91 : ∀ (srOf : Nat → Int32) (v7 : Int32) (v8 : Int32) (v9 : Int32) (v11 : Int32) (s0 : Int32) (H : Heap) (locs : List Loc) (ls : Array Slot), f_Sr_narrow_91 N seOf (f_Sr_narrow_33 N seOf v1 v2 v3 v4 v5 v6 n_33) (f_Sr_narrow_56 N seOf (f_Sr_narrow_33 N seOf v1 v2 v3 v4 v5 v6 n_33) v1 v2 v3 v4 v5 v6 v10 n_56) srOf v1 v2 v3 v4 v5 v6 v7 v8 v9 v10 v11 s0 = some (r, o_srOf) → va_P D zz_cl [(se, .inr (1, [.ref seO])), (seO, .inl (cK 0, 128, .inl seOf)), (sr, .inr (3, [.ref se, .ref srO, .ref srV])), (srO, .inl (cK 0, 4, .inl srOf))] H → va_D A [(se, .inr (1, [.ref seO])), (seO, .inl (cK 0, 128, .inl seOf)), (sr, .inr (3, [.ref se, .ref srO, .ref srV])), (srO, .inl (cK 0, 4, .inl srOf))] → va_S A s.heap H locs → lv_has ls 13 [(0, .ref sr), (1, .int v1), (2, .int v2), (3, .int v3), (4, .int v4), (5, .int v5), (6, .int v6), (7, .int v7), (8, .int v8), (9, .int v9), (10, .int v10), (11, .int v11)] → W p l e rm_Sr_narrow s m args below meth c H locs 0 0 Q (F0 m 91 ls [.int s0]) := by
            intro srOf v7 v8 v9 v11 s0 H locs ls hf hP hD hS hl
            unfold f_Sr_narrow_91 at hf
            refine lv_istore (lv' := [(12, .int s0), (0, .ref sr), (1, .int v1), (2, .int v2), (3, .int v3), (4, .int v4), (5, .int v5), (6, .int v6), (7, .int v7), (8, .int v8), (9, .int v9), (10, .int v10), (11, .int v11)]) hx hb d_Sr_narrow_91 hl (by decide) rfl (fun ls hl => ?_)
            refine lv_iload hx hb d_Sr_narrow_93 (lv_at hl 0 rfl) ?_
            refine lv_if_eq (tgt := 123) hx hb d_Sr_narrow_95 (by decide) (fun hc => ?_) (fun hc => ?_)
            · have hf := fn_t hc hf
              refine lv_iinc (v := (v11 + 1)) (lv' := [(11, .int (v11 + 1)), (12, .int s0), (0, .ref sr), (1, .int v1), (2, .int v2), (3, .int v3), (4, .int v4), (5, .int v5), (6, .int v6), (7, .int v7), (8, .int v8), (9, .int v9), (10, .int v10)]) hx hb d_Sr_narrow_123 hl (k := 12) rfl rfl (by decide) rfl (fun ls hl => ?_)
              refine lv_goto (tgt := 56) hx hb d_Sr_narrow_126 (by decide) ?_
              exact ih_56 _ _ _ _ _ _ _ _ hf hP hD hS (lv_sub hl [2, 3, 4, 5, 6, 7, 8, 9, 10, 11, 12, 0] rfl)
            · have hf := fn_f hc hf
              refine lv_iload hx hb d_Sr_narrow_98 (lv_at hl 8 rfl) ?_
              refine lv_iconst (v := 1) hx hb d_Sr_narrow_100 (by decide) ?_
              refine lv_iload hx hb d_Sr_narrow_101 (lv_at hl 11 rfl) ?_
              refine lv_ishl hx hb d_Sr_narrow_103 ?_
              refine lv_ior hx hb d_Sr_narrow_104 ?_
              refine lv_istore (lv' := [(7, .int (v7 ||| ((1 : Int32) <<< (v10 &&& 31)))), (12, .int s0), (0, .ref sr), (1, .int v1), (2, .int v2), (3, .int v3), (4, .int v4), (5, .int v5), (6, .int v6), (8, .int v8), (9, .int v9), (10, .int v10), (11, .int v11)]) hx hb d_Sr_narrow_105 hl (by decide) rfl (fun ls hl => ?_)
              refine lv_iload hx hb d_Sr_narrow_107 (lv_at hl 9 rfl) ?_
              refine lv_iconst (v := 1) hx hb d_Sr_narrow_109 (by decide) ?_
              refine lv_iload hx hb d_Sr_narrow_110 (lv_at hl 12 rfl) ?_
              refine lv_ishl hx hb d_Sr_narrow_112 ?_
              refine lv_ior hx hb d_Sr_narrow_113 ?_
              refine lv_istore (lv' := [(8, .int (v8 ||| ((1 : Int32) <<< (v11 &&& 31)))), (7, .int (v7 ||| ((1 : Int32) <<< (v10 &&& 31)))), (12, .int s0), (0, .ref sr), (1, .int v1), (2, .int v2), (3, .int v3), (4, .int v4), (5, .int v5), (6, .int v6), (9, .int v9), (10, .int v10), (11, .int v11)]) hx hb d_Sr_narrow_114 hl (by decide) rfl (fun ls hl => ?_)
              refine lv_iload hx hb d_Sr_narrow_116 (lv_at hl 10 rfl) ?_
              refine lv_iload hx hb d_Sr_narrow_118 (lv_at hl 2 rfl) ?_
              refine lv_ior hx hb d_Sr_narrow_120 ?_
              refine lv_istore (lv' := [(9, .int (v9 ||| s0)), (8, .int (v8 ||| ((1 : Int32) <<< (v11 &&& 31)))), (7, .int (v7 ||| ((1 : Int32) <<< (v10 &&& 31)))), (12, .int s0), (0, .ref sr), (1, .int v1), (2, .int v2), (3, .int v3), (4, .int v4), (5, .int v5), (6, .int v6), (10, .int v10), (11, .int v11)]) hx hb d_Sr_narrow_121 hl (by decide) rfl (fun ls hl => ?_)
              refine lv_iinc (v := (v11 + 1)) (lv' := [(11, .int (v11 + 1)), (9, .int (v9 ||| s0)), (8, .int (v8 ||| ((1 : Int32) <<< (v11 &&& 31)))), (7, .int (v7 ||| ((1 : Int32) <<< (v10 &&& 31)))), (12, .int s0), (0, .ref sr), (1, .int v1), (2, .int v2), (3, .int v3), (4, .int v4), (5, .int v5), (6, .int v6), (10, .int v10)]) hx hb d_Sr_narrow_123 hl (k := 12) rfl rfl (by decide) rfl (fun ls hl => ?_)
              refine lv_goto (tgt := 56) hx hb d_Sr_narrow_126 (by decide) ?_
              exact ih_56 _ _ _ _ _ _ _ _ hf hP hD hS (lv_sub hl [5, 6, 7, 8, 9, 10, 11, 3, 2, 1, 12, 0] rfl)
          intro srOf v7 v8 v9 v11 H locs ls hf hP hD hS hl
          rw [f_Sr_narrow_56.eq_2] at hf
          refine lv_iload hx hb d_Sr_narrow_56 (lv_at hl 11 rfl) ?_
          refine lv_bipush (v := 8) hx hb d_Sr_narrow_58 (by decide) ?_
          refine lv_icmp_ge (tgt := 129) hx hb d_Sr_narrow_60 (by decide) (fun hc => ?_) (fun hc => ?_)
          · have hf := fn_t hc hf
            refine lv_iinc (v := (v10 + 1)) (lv' := [(10, .int (v10 + 1)), (0, .ref sr), (1, .int v1), (2, .int v2), (3, .int v3), (4, .int v4), (5, .int v5), (6, .int v6), (7, .int v7), (8, .int v8), (9, .int v9), (11, .int v11)]) hx hb d_Sr_narrow_129 hl (k := 10) rfl rfl (by decide) rfl (fun ls hl => ?_)
            refine lv_goto (tgt := 33) hx hb d_Sr_narrow_132 (by decide) ?_
            exact ih_33 _ _ _ _ _ _ _ _ hf hP hD hS (lv_sub hl [1, 2, 3, 4, 5, 6, 7, 8, 9, 10, 0] rfl)
          · have hf := fn_f hc hf
            refine lv_iload hx hb d_Sr_narrow_63 (lv_at hl 5 rfl) ?_
            refine lv_iload hx hb d_Sr_narrow_65 (lv_at hl 11 rfl) ?_
            refine lv_ishr hx hb d_Sr_narrow_67 ?_
            refine lv_iconst (v := 1) hx hb d_Sr_narrow_68 (by decide) ?_
            refine lv_iand hx hb d_Sr_narrow_69 ?_
            refine lv_if_ne (tgt := 77) hx hb d_Sr_narrow_70 (by decide) (fun hc => ?_) (fun hc => ?_)
            · have hf := fn_f hc hf
              refine lv_aload_n hx hb d_Sr_narrow_77 rfl (lv_at hl 0 rfl) ?_
              refine va_get (D := D) (ci := 3) (v := .ref se) (C := RK3) (T := TK3) (N := 3) hx hb hts iwK3 hown hK hP 2 rfl rfl 0 (by decide) (hts _ fl_Sr_18) (fun _ h9 => h9) rfl d_Sr_narrow_78 ?_
              refine lv_iload hx hb d_Sr_narrow_81 (lv_at hl 10 rfl) ?_
              refine lv_iload hx hb d_Sr_narrow_83 (lv_at hl 11 rfl) ?_
              obtain ⟨r_85, hcl, hf⟩ := fn_e1 hf
              refine cv_RdI (rest := []) ⟨hx, hb, hml, hown, hts⟩ (c_Se_objectsOf l D cK se seO seOf v10 v11 r_85 hcl) (cwV 2 hts (zz_V ml_Sr_53 im_Se_objectsOf se_Se_objectsOf in_Se co_Se_objectsOf) rfl rfl rfl ⟨rfl, hd_Se_objectsOf⟩ ⟨Nat.le_of_ble_eq_true rfl, Nat.le_of_ble_eq_true rfl⟩) hK hP [0, 1] rfl 0 rfl rfl rfl rfl hl.1 rfl (Nat.le_of_ble_eq_true rfl) d_Sr_narrow_85 ⟨Nat.zero_le _, Nat.zero_le _⟩ ?_
              refine lv_iload hx hb d_Sr_narrow_88 (lv_at hl 6 rfl) ?_
              refine lv_iand hx hb d_Sr_narrow_90 ?_
              exact J_91 _ _ _ _ _ _ _ _ _ hf hP hD hS (lv_sub hl [0, 1, 2, 3, 4, 5, 6, 7, 8, 9, 10, 11] rfl)
            · have hf := fn_t hc hf
              refine lv_iconst (v := 0) hx hb d_Sr_narrow_73 (by decide) ?_
              refine lv_goto (tgt := 91) hx hb d_Sr_narrow_74 (by decide) ?_
              exact J_91 _ _ _ _ _ _ _ _ _ hf hP hD hS (lv_sub hl [0, 1, 2, 3, 4, 5, 6, 7, 8, 9, 10, 11] rfl)
      intro srOf v7 v8 v9 v10 H locs ls hf hP hD hS hl
      rw [f_Sr_narrow_33.eq_2] at hf
      refine lv_iload hx hb d_Sr_narrow_33 (lv_at hl 10 rfl) ?_
      refine lv_bipush (v := 16) hx hb d_Sr_narrow_35 (by decide) ?_
      refine lv_icmp_ge (tgt := 135) hx hb d_Sr_narrow_37 (by decide) (fun hc => ?_) (fun hc => ?_)
      · have hf := fn_t hc hf
        exact J_135 _ _ _ _ _ _ _ _ _ _ hf hP hD hS (lv_sub hl [0, 1, 2, 3, 7, 8, 9] rfl)
      · have hf := fn_f hc hf
        refine lv_iload hx hb d_Sr_narrow_40 (lv_at hl 4 rfl) ?_
        refine lv_iload hx hb d_Sr_narrow_42 (lv_at hl 10 rfl) ?_
        refine lv_ishr hx hb d_Sr_narrow_44 ?_
        refine lv_iconst (v := 1) hx hb d_Sr_narrow_45 (by decide) ?_
        refine lv_iand hx hb d_Sr_narrow_46 ?_
        refine lv_if_ne (tgt := 53) hx hb d_Sr_narrow_47 (by decide) (fun hc => ?_) (fun hc => ?_)
        · have hf := fn_f hc hf
          refine lv_iconst (v := 0) hx hb d_Sr_narrow_53 (by decide) ?_
          refine lv_istore (lv' := [(11, .int 0), (0, .ref sr), (1, .int v1), (2, .int v2), (3, .int v3), (4, .int v4), (5, .int v5), (6, .int v6), (7, .int v7), (8, .int v8), (9, .int v9), (10, .int v10)]) hx hb d_Sr_narrow_54 hl (by decide) rfl (fun ls hl => ?_)
          exact J_56 _ _ _ _ _ _ _ _ _ _ hf hP hD hS (lv_sub hl [1, 2, 3, 4, 5, 6, 7, 8, 9, 10, 11, 0] rfl)
        · have hf := fn_t hc hf
          refine lv_goto (tgt := 129) hx hb d_Sr_narrow_50 (by decide) ?_
          refine lv_iinc (v := (v10 + 1)) (lv' := [(10, .int (v10 + 1)), (0, .ref sr), (1, .int v1), (2, .int v2), (3, .int v3), (4, .int v4), (5, .int v5), (6, .int v6), (7, .int v7), (8, .int v8), (9, .int v9)]) hx hb d_Sr_narrow_129 hl (k := 10) rfl rfl (by decide) rfl (fun ls hl => ?_)
          refine lv_goto (tgt := 33) hx hb d_Sr_narrow_132 (by decide) ?_
          exact ih_33 _ _ _ _ _ _ _ _ hf hP hD hS (lv_sub hl [1, 2, 3, 4, 5, 6, 7, 8, 9, 10, 0] rfl)
  unfold f_Sr_narrow at hf
  refine lv_aload_n hx hb d_Sr_narrow_0 rfl (lv_at hl 0 rfl) ?_
  refine lv_iload_n hx hb d_Sr_narrow_1 rfl (lv_at hl 1 rfl) ?_
  obtain ⟨r_2, hcl, hf⟩ := fn_e1 hf
  refine cv_RdI (rest := []) ⟨hx, hb, hml, hown, hts⟩ (c_Sr_allowed l D cK sr se srO srV srOf v1 r_2 hcl) (cwV 1 hts (zz_V ml_Sr_49 im_Sr_allowed se_Sr_allowed in_Sr co_Sr_allowed) rfl rfl rfl ⟨rfl, hd_Sr_allowed⟩ ⟨Nat.le_of_ble_eq_true rfl, Nat.le_of_ble_eq_true rfl⟩) hK hP [2, 3] rfl 2 rfl rfl rfl rfl hl.1 rfl (Nat.le_of_ble_eq_true rfl) d_Sr_narrow_2 ⟨Nat.zero_le _, Nat.zero_le _⟩ ?_
  refine lv_istore (lv' := [(4, .int r_2), (0, .ref sr), (1, .int v1), (2, .int v2), (3, .int v3)]) hx hb d_Sr_narrow_5 hl (by decide) rfl (fun ls hl => ?_)
  refine lv_aload_n hx hb d_Sr_narrow_7 rfl (lv_at hl 1 rfl) ?_
  refine lv_iload_n hx hb d_Sr_narrow_8 rfl (lv_at hl 3 rfl) ?_
  obtain ⟨r_9, hcl, hf⟩ := fn_e1 hf
  refine cv_RdI (rest := []) ⟨hx, hb, hml, hown, hts⟩ (c_Sr_allowed l D cK sr se srO srV srOf v2 r_9 hcl) (cwV 1 hts (zz_V ml_Sr_49 im_Sr_allowed se_Sr_allowed in_Sr co_Sr_allowed) rfl rfl rfl ⟨rfl, hd_Sr_allowed⟩ ⟨Nat.le_of_ble_eq_true rfl, Nat.le_of_ble_eq_true rfl⟩) hK hP [2, 3] rfl 2 rfl rfl rfl rfl hl.1 rfl (Nat.le_of_ble_eq_true rfl) d_Sr_narrow_9 ⟨Nat.zero_le _, Nat.zero_le _⟩ ?_
  refine lv_istore (lv' := [(5, .int r_9), (4, .int r_2), (0, .ref sr), (1, .int v1), (2, .int v2), (3, .int v3)]) hx hb d_Sr_narrow_12 hl (by decide) rfl (fun ls hl => ?_)
  refine lv_aload_n hx hb d_Sr_narrow_14 rfl (lv_at hl 2 rfl) ?_
  refine lv_iload_n hx hb d_Sr_narrow_15 rfl (lv_at hl 5 rfl) ?_
  obtain ⟨r_16, hcl, hf⟩ := fn_e1 hf
  refine cv_RdI (rest := []) ⟨hx, hb, hml, hown, hts⟩ (c_Sr_allowed l D cK sr se srO srV srOf v3 r_16 hcl) (cwV 1 hts (zz_V ml_Sr_49 im_Sr_allowed se_Sr_allowed in_Sr co_Sr_allowed) rfl rfl rfl ⟨rfl, hd_Sr_allowed⟩ ⟨Nat.le_of_ble_eq_true rfl, Nat.le_of_ble_eq_true rfl⟩) hK hP [2, 3] rfl 2 rfl rfl rfl rfl hl.1 rfl (Nat.le_of_ble_eq_true rfl) d_Sr_narrow_16 ⟨Nat.zero_le _, Nat.zero_le _⟩ ?_
  refine lv_istore (lv' := [(6, .int r_16), (5, .int r_9), (4, .int r_2), (0, .ref sr), (1, .int v1), (2, .int v2), (3, .int v3)]) hx hb d_Sr_narrow_19 hl (by decide) rfl (fun ls hl => ?_)
  refine lv_iconst (v := 0) hx hb d_Sr_narrow_21 (by decide) ?_
  refine lv_istore (lv' := [(7, .int 0), (6, .int r_16), (5, .int r_9), (4, .int r_2), (0, .ref sr), (1, .int v1), (2, .int v2), (3, .int v3)]) hx hb d_Sr_narrow_22 hl (by decide) rfl (fun ls hl => ?_)
  refine lv_iconst (v := 0) hx hb d_Sr_narrow_24 (by decide) ?_
  refine lv_istore (lv' := [(8, .int 0), (7, .int 0), (6, .int r_16), (5, .int r_9), (4, .int r_2), (0, .ref sr), (1, .int v1), (2, .int v2), (3, .int v3)]) hx hb d_Sr_narrow_25 hl (by decide) rfl (fun ls hl => ?_)
  refine lv_iconst (v := 0) hx hb d_Sr_narrow_27 (by decide) ?_
  refine lv_istore (lv' := [(9, .int 0), (8, .int 0), (7, .int 0), (6, .int r_16), (5, .int r_9), (4, .int r_2), (0, .ref sr), (1, .int v1), (2, .int v2), (3, .int v3)]) hx hb d_Sr_narrow_28 hl (by decide) rfl (fun ls hl => ?_)
  refine lv_iconst (v := 0) hx hb d_Sr_narrow_30 (by decide) ?_
  refine lv_istore (lv' := [(10, .int 0), (9, .int 0), (8, .int 0), (7, .int 0), (6, .int r_16), (5, .int r_9), (4, .int r_2), (0, .ref sr), (1, .int v1), (2, .int v2), (3, .int v3)]) hx hb d_Sr_narrow_31 hl (by decide) rfl (fun ls hl => ?_)
  exact J_33 _ _ _ _ _ _ _ _ _ _ _ _ _ _ _ hf hP hD hS (lv_sub hl [7, 8, 9, 10, 6, 5, 4, 3, 2, 1, 0] rfl)
abbrev rm_Sr_filter : Room := { frames := 1, cells := 0, slots := 0, locals := 23 }
set_option maxHeartbeats 4000000 in
set_option maxRecDepth 100000 in
theorem c_Sr_filter (l : Launch) (D : va_G) (cK : Nat → ClassId) (se seO sr srO srV q qI qL : Nat) (seOf : Nat → Int32) (srVf : Nat → Int32) (qW : Int32) (qP : Int32) (qV : Int32) (qIf : Nat → Int32) (N : Nat) (v2 : Int32) (v3 : Int32) (v4 : Int32) (r : Int32) (o_srVf : Nat → Int32) (hf : f_Sr_filter N seOf srVf qIf v2 v3 v4 = some (r, o_srVf)) : WrI l y_Sr_filter w_Sr_filter rm_Sr_filter D zz_cl (mt_ty cK RK2) [.ref sr, .ref q, .int v2, .int v3, .int v4] [(se, .inr (1, [.ref seO])), (seO, .inl (cK 0, 128, .inl seOf)), (sr, .inr (3, [.ref se, .ref srO, .ref srV])), (srV, .inl (cK 0, 4, .inl srVf)), (q, .inr (2, [.ref qI, .ref qL, .int qW, .int qP, .int qV])), (qI, .inl (cK 0, 9, .inl qIf))] [(se, .inr (1, [.ref seO])), (seO, .inl (cK 0, 128, .inl seOf)), (sr, .inr (3, [.ref se, .ref srO, .ref srV])), (srV, .inl (cK 0, 4, .inl o_srVf)), (q, .inr (2, [.ref qI, .ref qL, .int qW, .int qP, .int qV])), (qI, .inl (cK 0, 9, .inl qIf))] r := by
  refine mk_WrI (cc := b_Sr_filter) (maxL := 11) (ty := .int) (by decide +kernel) rfl (Nat.le_of_ble_eq_true rfl) ?_
  intro p e s m below meth c args Q A ls hx hb hml hown hts hA hK hP hD hret hl
  have hS : va_S A s.heap s.heap [] := va_S.rf
  have hl : lv_has ls 11 [(0, .ref sr), (1, .ref q), (2, .int v2), (3, .int v3), (4, .int v4)] := hl
  have J_72 : ∀ (v3 : Int32) (v4 : Int32) (v6 : Int32) (v7 : Int32) (v8 : Int32) (n_72 : Nat) (srVf : Nat → Int32) (v9 : Int32) (v10 : Int32) (H : Heap) (locs : List Loc) (ls : Array Slot), f_Sr_filter_72 N seOf qIf v3 v4 v6 v7 v8 n_72 srVf v9 v10 = some (r, o_srVf) → va_P D zz_cl [(se, .inr (1, [.ref seO])), (seO, .inl (cK 0, 128, .inl seOf)), (sr, .inr (3, [.ref se, .ref srO, .ref srV])), (srV, .inl (cK 0, 4, .inl srVf)), (q, .inr (2, [.ref qI, .ref qL, .int qW, .int qP, .int qV])), (qI, .inl (cK 0, 9, .inl qIf))] H → va_D A [(se, .inr (1, [.ref seO])), (seO, .inl (cK 0, 128, .inl seOf)), (sr, .inr (3, [.ref se, .ref srO, .ref srV])), (srV, .inl (cK 0, 4, .inl srVf)), (q, .inr (2, [.ref qI, .ref qL, .int qW, .int qP, .int qV])), (qI, .inl (cK 0, 9, .inl qIf))] → va_S A s.heap H locs → lv_has ls 11 [(0, .ref sr), (3, .int v3), (4, .int v4), (6, .int v6), (7, .int v7), (8, .int v8), (9, .int v9), (10, .int v10)] → W p l e rm_Sr_filter s m args below meth c H locs 0 0 Q (F0 m 72 ls []) := by
    intro v3 v4 v6 v7 v8 n_72
    induction n_72 with
    | zero =>
      intro srVf v9 v10 H locs ls hf hP hD hS hl
      exact fn_0 hf
    | succ n_72 ih_72 =>
      intro srVf v9 v10 H locs ls hf hP hD hS hl
      rw [f_Sr_filter_72.eq_2] at hf
      refine lv_iload hx hb d_Sr_filter_72 (lv_at hl 7 rfl) ?_
      refine lv_bipush (v := 16) hx hb d_Sr_filter_74 (by decide) ?_
      refine lv_icmp_ge (tgt := 147) hx hb d_Sr_filter_76 (by decide) (fun hc => ?_) (fun hc => ?_)
      · have hf := fn_t hc hf
        refine lv_iload hx hb d_Sr_filter_147 (lv_at hl 6 rfl) ?_
        cases hf
        exact hret _ _ 149 _ hP hD hS rfl d_Sr_filter_149
      · have hf := fn_f hc hf
        refine lv_iload hx hb d_Sr_filter_79 (lv_at hl 2 rfl) ?_
        refine lv_iload hx hb d_Sr_filter_81 (lv_at hl 7 rfl) ?_
        refine lv_ishr hx hb d_Sr_filter_83 ?_
        refine lv_if_eq (tgt := 147) hx hb d_Sr_filter_84 (by decide) (fun hc => ?_) (fun hc => ?_)
        · have hf := fn_t hc hf
          refine lv_iload hx hb d_Sr_filter_147 (lv_at hl 6 rfl) ?_
          cases hf
          exact hret _ _ 149 _ hP hD hS rfl d_Sr_filter_149
        · have hf := fn_f hc hf
          refine lv_iload hx hb d_Sr_filter_87 (lv_at hl 2 rfl) ?_
          refine lv_iload hx hb d_Sr_filter_89 (lv_at hl 7 rfl) ?_
          refine lv_ishr hx hb d_Sr_filter_91 ?_
          refine lv_iconst (v := 1) hx hb d_Sr_filter_92 (by decide) ?_
          refine lv_iand hx hb d_Sr_filter_93 ?_
          refine lv_if_eq (tgt := 141) hx hb d_Sr_filter_94 (by decide) (fun hc => ?_) (fun hc => ?_)
          · have hf := fn_t hc hf
            refine lv_iinc (v := (v10 + 1)) (lv' := [(10, .int (v10 + 1)), (0, .ref sr), (3, .int v3), (4, .int v4), (6, .int v6), (7, .int v7), (8, .int v8), (9, .int v9)]) hx hb d_Sr_filter_141 hl (k := 7) rfl rfl (by decide) rfl (fun ls hl => ?_)
            refine lv_goto (tgt := 72) hx hb d_Sr_filter_144 (by decide) ?_
            exact ih_72 _ _ _ _ _ _ hf hP hD hS (lv_sub hl [1, 2, 3, 4, 5, 6, 7, 0] rfl)
          · have hf := fn_f hc hf
            refine lv_aload_n hx hb d_Sr_filter_97 rfl (lv_at hl 0 rfl) ?_
            refine va_get (D := D) (ci := 3) (v := .ref srV) (C := RK3) (T := TK3) (N := 3) hx hb hts iwK3 hown hK hP 2 rfl rfl 2 (by decide) (hts _ fl_Sr_15) (fun _ h9 => h9) rfl d_Sr_filter_98 ?_
            refine lv_iload_n hx hb d_Sr_filter_101 rfl (lv_at hl 1 rfl) ?_
            refine lv_iload hx hb d_Sr_filter_102 (lv_at hl 7 rfl) ?_
            have hg := fn_g hf
            have hf := fn_t hg hf
            refine va_iast hx hb hK hP hD hS 3 0 rfl rfl (fn_v hg) d_Sr_filter_104 (fun H locs hP hD hS => ?_)
            have hP : va_P D zz_cl [(se, .inr (1, [.ref seO])), (seO, .inl (cK 0, 128, .inl seOf)), (sr, .inr (3, [.ref se, .ref srO, .ref srV])), (srV, .inl (cK 0, 4, .inl (upd srVf (Int32.toNatClampNeg v3) v10))), (q, .inr (2, [.ref qI, .ref qL, .int qW, .int qP, .int qV])), (qI, .inl (cK 0, 9, .inl qIf))] H := hP
            have hD : va_D A [(se, .inr (1, [.ref seO])), (seO, .inl (cK 0, 128, .inl seOf)), (sr, .inr (3, [.ref se, .ref srO, .ref srV])), (srV, .inl (cK 0, 4, .inl (upd srVf (Int32.toNatClampNeg v3) v10))), (q, .inr (2, [.ref qI, .ref qL, .int qW, .int qP, .int qV])), (qI, .inl (cK 0, 9, .inl qIf))] := hD
            refine lv_iload hx hb d_Sr_filter_105 (lv_at hl 6 rfl) ?_
            refine lv_aload_n hx hb d_Sr_filter_107 rfl (lv_at hl 0 rfl) ?_
            refine va_get (D := D) (ci := 3) (v := .ref se) (C := RK3) (T := TK3) (N := 3) hx hb hts iwK3 hown hK hP 2 rfl rfl 0 (by decide) (hts _ fl_Sr_18) (fun _ h9 => h9) rfl d_Sr_filter_108 ?_
            refine lv_aload_n hx hb d_Sr_filter_111 rfl (lv_at hl 0 rfl) ?_
            refine lv_iload hx hb d_Sr_filter_112 (lv_at hl 3 rfl) ?_
            obtain ⟨r_114, hcl, hf⟩ := fn_e1 hf
            refine cv_RdI (rest := [.ref se, .int v9]) ⟨hx, hb, hml, hown, hts⟩ (c_Sr_valueOf l D cK sr se srO srV (upd srVf (Int32.toNatClampNeg v3) v10) v6 r_114 hcl) (cwV 1 hts (zz_V ml_Sr_75 im_Sr_valueOf se_Sr_valueOf in_Sr co_Sr_valueOf) rfl rfl rfl ⟨rfl, hd_Sr_valueOf⟩ ⟨Nat.le_of_ble_eq_true rfl, Nat.le_of_ble_eq_true rfl⟩) hK hP [2, 3] rfl 2 rfl rfl rfl rfl hl.1 rfl (Nat.le_of_ble_eq_true rfl) d_Sr_filter_114 ⟨Nat.zero_le _, Nat.zero_le _⟩ ?_
            refine lv_aload_n hx hb d_Sr_filter_117 rfl (lv_at hl 0 rfl) ?_
            refine lv_iload hx hb d_Sr_filter_118 (lv_at hl 4 rfl) ?_
            obtain ⟨r_120, hcl, hf⟩ := fn_e1 hf
            refine cv_RdI (rest := [.int r_114, .ref se, .int v9]) ⟨hx, hb, hml, hown, hts⟩ (c_Sr_valueOf l D cK sr se srO srV (upd srVf (Int32.toNatClampNeg v3) v10) v7 r_120 hcl) (cwV 1 hts (zz_V ml_Sr_75 im_Sr_valueOf se_Sr_valueOf in_Sr co_Sr_valueOf) rfl rfl rfl ⟨rfl, hd_Sr_valueOf⟩ ⟨Nat.le_of_ble_eq_true rfl, Nat.le_of_ble_eq_true rfl⟩) hK hP [2, 3] rfl 2 rfl rfl rfl rfl hl.1 rfl (Nat.le_of_ble_eq_true rfl) d_Sr_filter_120 ⟨Nat.zero_le _, Nat.zero_le _⟩ ?_
            obtain ⟨r_123, hcl, hf⟩ := fn_e1 hf
            refine cv_RdI (rest := [.int v9]) ⟨hx, hb, hml, hown, hts⟩ (c_Se_objectsOf l D cK se seO seOf r_114 r_120 r_123 hcl) (cwV 2 hts (zz_V ml_Sr_53 im_Se_objectsOf se_Se_objectsOf in_Se co_Se_objectsOf) rfl rfl rfl ⟨rfl, hd_Se_objectsOf⟩ ⟨Nat.le_of_ble_eq_true rfl, Nat.le_of_ble_eq_true rfl⟩) hK hP [0, 1] rfl 0 rfl rfl rfl rfl hl.1 rfl (Nat.le_of_ble_eq_true rfl) d_Sr_filter_123 ⟨Nat.zero_le _, Nat.zero_le _⟩ ?_
            refine lv_aload_n hx hb d_Sr_filter_126 rfl (lv_at hl 0 rfl) ?_
            refine lv_iload hx hb d_Sr_filter_127 (lv_at hl 5 rfl) ?_
            obtain ⟨r_129, hcl, hf⟩ := fn_e1 hf
            refine cv_RdI (rest := [.int r_123, .int v9]) ⟨hx, hb, hml, hown, hts⟩ (c_Sr_valueOf l D cK sr se srO srV (upd srVf (Int32.toNatClampNeg v3) v10) v8 r_129 hcl) (cwV 1 hts (zz_V ml_Sr_75 im_Sr_valueOf se_Sr_valueOf in_Sr co_Sr_valueOf) rfl rfl rfl ⟨rfl, hd_Sr_valueOf⟩ ⟨Nat.le_of_ble_eq_true rfl, Nat.le_of_ble_eq_true rfl⟩) hK hP [2, 3] rfl 2 rfl rfl rfl rfl hl.1 rfl (Nat.le_of_ble_eq_true rfl) d_Sr_filter_129 ⟨Nat.zero_le _, Nat.zero_le _⟩ ?_
            refine lv_ishr hx hb d_Sr_filter_132 ?_
            refine lv_iconst (v := 1) hx hb d_Sr_filter_133 (by decide) ?_
            refine lv_iand hx hb d_Sr_filter_134 ?_
            refine lv_iload hx hb d_Sr_filter_135 (lv_at hl 7 rfl) ?_
            refine lv_ishl hx hb d_Sr_filter_137 ?_
            refine lv_ior hx hb d_Sr_filter_138 ?_
            refine lv_istore (lv' := [(9, .int (v9 ||| (((r_123 >>> (r_129 &&& 31)) &&& 1) <<< (v10 &&& 31)))), (0, .ref sr), (3, .int v3), (4, .int v4), (6, .int v6), (7, .int v7), (8, .int v8), (10, .int v10)]) hx hb d_Sr_filter_139 hl (by decide) rfl (fun ls hl => ?_)
            refine lv_iinc (v := (v10 + 1)) (lv' := [(10, .int (v10 + 1)), (9, .int (v9 ||| (((r_123 >>> (r_129 &&& 31)) &&& 1) <<< (v10 &&& 31)))), (0, .ref sr), (3, .int v3), (4, .int v4), (6, .int v6), (7, .int v7), (8, .int v8)]) hx hb d_Sr_filter_141 hl (k := 7) rfl rfl (by decide) rfl (fun ls hl => ?_)
            refine lv_goto (tgt := 72) hx hb d_Sr_filter_144 (by decide) ?_
            exact ih_72 _ _ _ _ _ _ hf hP hD hS (lv_sub hl [2, 3, 4, 5, 6, 7, 1, 0] rfl)
  unfold f_Sr_filter at hf
  refine lv_iconst (v := (-1)) hx hb d_Sr_filter_0 (by decide) ?_
  refine lv_iload_n hx hb d_Sr_filter_1 rfl (lv_at hl 3 rfl) ?_
  refine lv_isub hx hb d_Sr_filter_2 ?_
  refine lv_istore (lv' := [(5, .int ((-1) - v3)), (0, .ref sr), (1, .ref q), (2, .int v2), (3, .int v3), (4, .int v4)]) hx hb d_Sr_filter_3 hl (by decide) rfl (fun ls hl => ?_)
  refine lv_aload_n hx hb d_Sr_filter_5 rfl (lv_at hl 2 rfl) ?_
  refine lv_iload_n hx hb d_Sr_filter_6 rfl (lv_at hl 3 rfl) ?_
  refine lv_iconst (v := 0) hx hb d_Sr_filter_7 (by decide) ?_
  obtain ⟨r_8, hcl, hf⟩ := fn_e1 hf
  refine cv_RdI (rest := []) ⟨hx, hb, hml, hown, hts⟩ (c_Qu_itemAt l D cK q qI qL qW qP qV qIf v2 0 r_8 hcl) (cwV 2 hts (zz_V ml_Sr_29 im_Qu_itemAt se_Qu_itemAt in_Qu co_Qu_itemAt) rfl rfl rfl ⟨rfl, hd_Qu_itemAt⟩ ⟨Nat.le_of_ble_eq_true rfl, Nat.le_of_ble_eq_true rfl⟩) hK hP [4, 5] rfl 4 rfl rfl rfl rfl hl.1 rfl (Nat.le_of_ble_eq_true rfl) d_Sr_filter_8 ⟨Nat.zero_le _, Nat.zero_le _⟩ ?_
  refine lv_istore (lv' := [(6, .int r_8), (5, .int ((-1) - v3)), (0, .ref sr), (1, .ref q), (2, .int v2), (3, .int v3), (4, .int v4)]) hx hb d_Sr_filter_11 hl (by decide) rfl (fun ls hl => ?_)
  refine lv_aload_n hx hb d_Sr_filter_13 rfl (lv_at hl 3 rfl) ?_
  refine lv_iload_n hx hb d_Sr_filter_14 rfl (lv_at hl 4 rfl) ?_
  refine lv_iconst (v := 1) hx hb d_Sr_filter_15 (by decide) ?_
  obtain ⟨r_16, hcl, hf⟩ := fn_e1 hf
  refine cv_RdI (rest := []) ⟨hx, hb, hml, hown, hts⟩ (c_Qu_itemAt l D cK q qI qL qW qP qV qIf v2 1 r_16 hcl) (cwV 2 hts (zz_V ml_Sr_29 im_Qu_itemAt se_Qu_itemAt in_Qu co_Qu_itemAt) rfl rfl rfl ⟨rfl, hd_Qu_itemAt⟩ ⟨Nat.le_of_ble_eq_true rfl, Nat.le_of_ble_eq_true rfl⟩) hK hP [4, 5] rfl 4 rfl rfl rfl rfl hl.1 rfl (Nat.le_of_ble_eq_true rfl) d_Sr_filter_16 ⟨Nat.zero_le _, Nat.zero_le _⟩ ?_
  refine lv_istore (lv' := [(7, .int r_16), (6, .int r_8), (5, .int ((-1) - v3)), (0, .ref sr), (1, .ref q), (2, .int v2), (3, .int v3), (4, .int v4)]) hx hb d_Sr_filter_19 hl (by decide) rfl (fun ls hl => ?_)
  refine lv_aload_n hx hb d_Sr_filter_21 rfl (lv_at hl 4 rfl) ?_
  refine lv_iload_n hx hb d_Sr_filter_22 rfl (lv_at hl 5 rfl) ?_
  refine lv_iconst (v := 2) hx hb d_Sr_filter_23 (by decide) ?_
  obtain ⟨r_24, hcl, hf⟩ := fn_e1 hf
  refine cv_RdI (rest := []) ⟨hx, hb, hml, hown, hts⟩ (c_Qu_itemAt l D cK q qI qL qW qP qV qIf v2 2 r_24 hcl) (cwV 2 hts (zz_V ml_Sr_29 im_Qu_itemAt se_Qu_itemAt in_Qu co_Qu_itemAt) rfl rfl rfl ⟨rfl, hd_Qu_itemAt⟩ ⟨Nat.le_of_ble_eq_true rfl, Nat.le_of_ble_eq_true rfl⟩) hK hP [4, 5] rfl 4 rfl rfl rfl rfl hl.1 rfl (Nat.le_of_ble_eq_true rfl) d_Sr_filter_24 ⟨Nat.zero_le _, Nat.zero_le _⟩ ?_
  refine lv_istore (lv' := [(8, .int r_24), (7, .int r_16), (6, .int r_8), (5, .int ((-1) - v3)), (0, .ref sr), (1, .ref q), (2, .int v2), (3, .int v3), (4, .int v4)]) hx hb d_Sr_filter_27 hl (by decide) rfl (fun ls hl => ?_)
  refine lv_iload hx hb d_Sr_filter_29 (lv_at hl 2 rfl) ?_
  refine lv_iload hx hb d_Sr_filter_31 (lv_at hl 3 rfl) ?_
  refine lv_icmp_eq (tgt := 66) hx hb d_Sr_filter_33 (by decide) (fun hc => ?_) (fun hc => ?_)
  · have hf := fn_t hc hf
    refine lv_iconst (v := 0) hx hb d_Sr_filter_66 (by decide) ?_
    refine lv_istore (lv' := [(9, .int 0), (8, .int r_24), (7, .int r_16), (6, .int r_8), (5, .int ((-1) - v3)), (0, .ref sr), (1, .ref q), (2, .int v2), (3, .int v3), (4, .int v4)]) hx hb d_Sr_filter_67 hl (by decide) rfl (fun ls hl => ?_)
    refine lv_iconst (v := 0) hx hb d_Sr_filter_69 (by decide) ?_
    refine lv_istore (lv' := [(10, .int 0), (9, .int 0), (8, .int r_24), (7, .int r_16), (6, .int r_8), (5, .int ((-1) - v3)), (0, .ref sr), (1, .ref q), (2, .int v2), (3, .int v3), (4, .int v4)]) hx hb d_Sr_filter_70 hl (by decide) rfl (fun ls hl => ?_)
    exact J_72 _ _ _ _ _ _ _ _ _ _ _ _ hf hP hD hS (lv_sub hl [6, 9, 10, 4, 3, 2, 1, 0] rfl)
  · have hf := fn_f hc hf
    refine lv_iload hx hb d_Sr_filter_36 (lv_at hl 1 rfl) ?_
    refine lv_iload hx hb d_Sr_filter_38 (lv_at hl 3 rfl) ?_
    refine lv_icmp_eq (tgt := 66) hx hb d_Sr_filter_40 (by decide) (fun hc => ?_) (fun hc => ?_)
    · have hf := fn_t hc hf
      refine lv_iconst (v := 0) hx hb d_Sr_filter_66 (by decide) ?_
      refine lv_istore (lv' := [(9, .int 0), (8, .int r_24), (7, .int r_16), (6, .int r_8), (5, .int ((-1) - v3)), (0, .ref sr), (1, .ref q), (2, .int v2), (3, .int v3), (4, .int v4)]) hx hb d_Sr_filter_67 hl (by decide) rfl (fun ls hl => ?_)
      refine lv_iconst (v := 0) hx hb d_Sr_filter_69 (by decide) ?_
      refine lv_istore (lv' := [(10, .int 0), (9, .int 0), (8, .int r_24), (7, .int r_16), (6, .int r_8), (5, .int ((-1) - v3)), (0, .ref sr), (1, .ref q), (2, .int v2), (3, .int v3), (4, .int v4)]) hx hb d_Sr_filter_70 hl (by decide) rfl (fun ls hl => ?_)
      exact J_72 _ _ _ _ _ _ _ _ _ _ _ _ hf hP hD hS (lv_sub hl [6, 9, 10, 4, 3, 2, 1, 0] rfl)
    · have hf := fn_f hc hf
      refine lv_iload hx hb d_Sr_filter_43 (lv_at hl 8 rfl) ?_
      refine lv_aload_n hx hb d_Sr_filter_45 rfl (lv_at hl 4 rfl) ?_
      refine va_get (D := D) (ci := 3) (v := .ref se) (C := RK3) (T := TK3) (N := 3) hx hb hts iwK3 hown hK hP 2 rfl rfl 0 (by decide) (hts _ fl_Sr_18) (fun _ h9 => h9) rfl d_Sr_filter_46 ?_
      refine lv_aload_n hx hb d_Sr_filter_49 rfl (lv_at hl 4 rfl) ?_
      refine lv_iload hx hb d_Sr_filter_50 (lv_at hl 2 rfl) ?_
      obtain ⟨r_52, hcl, hf⟩ := fn_e1 hf
      refine cv_RdI (rest := [.ref se, .int v4]) ⟨hx, hb, hml, hown, hts⟩ (c_Sr_valueOf l D cK sr se srO srV srVf r_8 r_52 hcl) (cwV 1 hts (zz_V ml_Sr_75 im_Sr_valueOf se_Sr_valueOf in_Sr co_Sr_valueOf) rfl rfl rfl ⟨rfl, hd_Sr_valueOf⟩ ⟨Nat.le_of_ble_eq_true rfl, Nat.le_of_ble_eq_true rfl⟩) hK hP [2, 3] rfl 2 rfl rfl rfl rfl hl.1 rfl (Nat.le_of_ble_eq_true rfl) d_Sr_filter_52 ⟨Nat.zero_le _, Nat.zero_le _⟩ ?_
      refine lv_aload_n hx hb d_Sr_filter_55 rfl (lv_at hl 4 rfl) ?_
      refine lv_iload hx hb d_Sr_filter_56 (lv_at hl 1 rfl) ?_
      obtain ⟨r_58, hcl, hf⟩ := fn_e1 hf
      refine cv_RdI (rest := [.int r_52, .ref se, .int v4]) ⟨hx, hb, hml, hown, hts⟩ (c_Sr_valueOf l D cK sr se srO srV srVf r_16 r_58 hcl) (cwV 1 hts (zz_V ml_Sr_75 im_Sr_valueOf se_Sr_valueOf in_Sr co_Sr_valueOf) rfl rfl rfl ⟨rfl, hd_Sr_valueOf⟩ ⟨Nat.le_of_ble_eq_true rfl, Nat.le_of_ble_eq_true rfl⟩) hK hP [2, 3] rfl 2 rfl rfl rfl rfl hl.1 rfl (Nat.le_of_ble_eq_true rfl) d_Sr_filter_58 ⟨Nat.zero_le _, Nat.zero_le _⟩ ?_
      obtain ⟨r_61, hcl, hf⟩ := fn_e1 hf
      refine cv_RdI (rest := [.int v4]) ⟨hx, hb, hml, hown, hts⟩ (c_Se_objectsOf l D cK se seO seOf r_52 r_58 r_61 hcl) (cwV 2 hts (zz_V ml_Sr_53 im_Se_objectsOf se_Se_objectsOf in_Se co_Se_objectsOf) rfl rfl rfl ⟨rfl, hd_Se_objectsOf⟩ ⟨Nat.le_of_ble_eq_true rfl, Nat.le_of_ble_eq_true rfl⟩) hK hP [0, 1] rfl 0 rfl rfl rfl rfl hl.1 rfl (Nat.le_of_ble_eq_true rfl) d_Sr_filter_61 ⟨Nat.zero_le _, Nat.zero_le _⟩ ?_
      refine lv_iand hx hb d_Sr_filter_64 ?_
      cases hf
      exact hret _ _ 65 _ hP hD hS rfl d_Sr_filter_65
abbrev rm_Sr_extend (d_ : Nat) : Room := { frames := 2 + d_, cells := 0, slots := 0, locals := 53 + d_ * 26 }
set_option maxHeartbeats 4000000 in
set_option maxRecDepth 100000 in
theorem c_Sr_extend (l : Launch) (D : va_G) (cK : Nat → ClassId) (se seO sr srO srV x xW q qI qL : Nat) (seOf : Nat → Int32) (srOf : Nat → Int32) (xM : Nat) (qW : Int32) (qP : Int32) (qV : Int32) (qIf : Nat → Int32) (qLf : Nat → Int32) (N : Nat) : ∀ (d_ : Nat) (srVf : Nat → Int32) (xS : Int32) (xWf : Nat → Int32) (v3 : Int32) (v4 : Int32) (o_srVf : Nat → Int32) (o_xS : Int32) (o_xWf : Nat → Int32), f_Sr_extend N seOf srOf xM qP qIf qLf d_ srVf xS xWf v3 v4 = some (o_srVf, o_xS, o_xWf) → WrV l y_Sr_extend w_Sr_extend (rm_Sr_extend d_) D zz_cl (mt_ty cK RK2) [.ref sr, .ref q, .ref x, .int v3, .int v4] [(se, .inr (1, [.ref seO])), (seO, .inl (cK 0, 128, .inl seOf)), (sr, .inr (3, [.ref se, .ref srO, .ref srV])), (srO, .inl (cK 0, 4, .inl srOf)), (srV, .inl (cK 0, 4, .inl srVf)), (x, .inr (4, [.ref xW, .int xS])), (xW, .inl (cK 0, xM, .inl xWf)), (q, .inr (2, [.ref qI, .ref qL, .int qW, .int qP, .int qV])), (qI, .inl (cK 0, 9, .inl qIf)), (qL, .inl (cK 0, 3, .inl qLf))] [(se, .inr (1, [.ref seO])), (seO, .inl (cK 0, 128, .inl seOf)), (sr, .inr (3, [.ref se, .ref srO, .ref srV])), (srO, .inl (cK 0, 4, .inl srOf)), (srV, .inl (cK 0, 4, .inl o_srVf)), (x, .inr (4, [.ref xW, .int o_xS])), (xW, .inl (cK 0, xM, .inl o_xWf)), (q, .inr (2, [.ref qI, .ref qL, .int qW, .int qP, .int qV])), (qI, .inl (cK 0, 9, .inl qIf)), (qL, .inl (cK 0, 3, .inl qLf))] := by
  intro d_
  induction d_ with
  | zero =>
    intro srVf xS xWf v3 v4 o_srVf o_xS o_xWf hf
    exact fn_0 hf
  | succ d_ ihd =>
  intro srVf xS xWf v3 v4 o_srVf o_xS o_xWf hf
  refine mk_WrV (cc := b_Sr_extend) (maxL := 7) (by decide +kernel) rfl (Nat.le_of_ble_eq_true rfl) ?_
  intro p e s m below meth c args Q A ls hx hb hml hown hts hA hK hP hD hret hl
  have hS : va_S A s.heap s.heap [] := va_S.rf
  have hl : lv_has ls 7 [(0, .ref sr), (1, .ref q), (2, .ref x), (3, .int v3), (4, .int v4)] := hl
  have J_81 : ∀ (v3 : Int32) (v4 : Int32) (v5 : Int32) (n_81 : Nat) (srVf : Nat → Int32) (xS : Int32) (xWf : Nat → Int32) (v6 : Int32) (H : Heap) (locs : List Loc) (ls : Array Slot), f_Sr_extend_81 N seOf srOf xM qP qIf qLf (f_Sr_extend N seOf srOf xM qP qIf qLf d_) v3 v4 v5 n_81 srVf xS xWf v6 = some (o_srVf, o_xS, o_xWf) → va_P D zz_cl [(se, .inr (1, [.ref seO])), (seO, .inl (cK 0, 128, .inl seOf)), (sr, .inr (3, [.ref se, .ref srO, .ref srV])), (srO, .inl (cK 0, 4, .inl srOf)), (srV, .inl (cK 0, 4, .inl srVf)), (x, .inr (4, [.ref xW, .int xS])), (xW, .inl (cK 0, xM, .inl xWf)), (q, .inr (2, [.ref qI, .ref qL, .int qW, .int qP, .int qV])), (qI, .inl (cK 0, 9, .inl qIf)), (qL, .inl (cK 0, 3, .inl qLf))] H → va_D A [(se, .inr (1, [.ref seO])), (seO, .inl (cK 0, 128, .inl seOf)), (sr, .inr (3, [.ref se, .ref srO, .ref srV])), (srO, .inl (cK 0, 4, .inl srOf)), (srV, .inl (cK 0, 4, .inl srVf)), (x, .inr (4, [.ref xW, .int xS])), (xW, .inl (cK 0, xM, .inl xWf)), (q, .inr (2, [.ref qI, .ref qL, .int qW, .int qP, .int qV])), (qI, .inl (cK 0, 9, .inl qIf)), (qL, .inl (cK 0, 3, .inl qLf))] → va_S A s.heap H locs → lv_has ls 7 [(0, .ref sr), (1, .ref q), (2, .ref x), (3, .int v3), (4, .int v4), (5, .int v5), (6, .int v6)] → W p l e (rm_Sr_extend (d_ + 1)) s m args below meth c H locs 0 0 Q (F0 m 81 ls []) := by
    intro v3 v4 v5 n_81
    induction n_81 with
    | zero =>
      intro srVf xS xWf v6 H locs ls hf hP hD hS hl
      exact fn_0 hf
    | succ n_81 ih_81 =>
      intro srVf xS xWf v6 H locs ls hf hP hD hS hl
      rw [f_Sr_extend_81.eq_2] at hf
      refine lv_iload hx hb d_Sr_extend_81 (lv_at hl 6 rfl) ?_
      refine lv_bipush (v := 16) hx hb d_Sr_extend_83 (by decide) ?_
      refine lv_icmp_ge (tgt := 144) hx hb d_Sr_extend_85 (by decide) (fun hc => ?_) (fun hc => ?_)
      · have hf := fn_t hc hf
        cases hf
        exact hret _ _ 144 _ hP hD hS d_Sr_extend_144
      · have hf := fn_f hc hf
        refine lv_iload hx hb d_Sr_extend_88 (lv_at hl 5 rfl) ?_
        refine lv_iload hx hb d_Sr_extend_90 (lv_at hl 6 rfl) ?_
        refine lv_ishr hx hb d_Sr_extend_92 ?_
        refine lv_if_eq (tgt := 144) hx hb d_Sr_extend_93 (by decide) (fun hc => ?_) (fun hc => ?_)
        · have hf := fn_t hc hf
          cases hf
          exact hret _ _ 144 _ hP hD hS d_Sr_extend_144
        · have hf := fn_f hc hf
          refine lv_aload_n hx hb d_Sr_extend_96 rfl (lv_at hl 2 rfl) ?_
          obtain ⟨r_97, hcl, hf⟩ := fn_e1 hf
          refine cv_RdI (rest := []) ⟨hx, hb, hml, hown, hts⟩ (c_Rs_isFull l D cK x xW xS xM xWf r_97 hcl) (cwV 0 hts (zz_V ml_Sr_71 im_Rs_isFull se_Rs_isFull in_Rs co_Rs_isFull) rfl rfl rfl ⟨rfl, hd_Rs_isFull⟩ ⟨by dsimp only [rm_Rs_isFull, rm_Sr_extend]; omega, by dsimp only [rm_Rs_isFull, rm_Sr_extend]; omega⟩) hK hP [5, 6] rfl 5 rfl rfl rfl rfl hl.1 rfl (Nat.le_of_ble_eq_true rfl) d_Sr_extend_97 ⟨Nat.zero_le _, Nat.zero_le _⟩ ?_
          refine lv_if_ne (tgt := 144) hx hb d_Sr_extend_100 (by decide) (fun hc => ?_) (fun hc => ?_)
          · have hf := fn_f hc hf
            cases hf
            exact hret _ _ 144 _ hP hD hS d_Sr_extend_144
          · have hf := fn_t hc hf
            refine lv_iload hx hb d_Sr_extend_103 (lv_at hl 5 rfl) ?_
            refine lv_iload hx hb d_Sr_extend_105 (lv_at hl 6 rfl) ?_
            refine lv_ishr hx hb d_Sr_extend_107 ?_
            refine lv_iconst (v := 1) hx hb d_Sr_extend_108 (by decide) ?_
            refine lv_iand hx hb d_Sr_extend_109 ?_
            refine lv_if_eq (tgt := 138) hx hb d_Sr_extend_110 (by decide) (fun hc => ?_) (fun hc => ?_)
            · have hf := fn_t hc hf
              refine lv_iinc (v := (v6 + 1)) (lv' := [(6, .int (v6 + 1)), (0, .ref sr), (1, .ref q), (2, .ref x), (3, .int v3), (4, .int v4), (5, .int v5)]) hx hb d_Sr_extend_138 hl (k := 6) rfl rfl (by decide) rfl (fun ls hl => ?_)
              refine lv_goto (tgt := 81) hx hb d_Sr_extend_141 (by decide) ?_
              exact ih_81 _ _ _ _ _ _ _ hf hP hD hS (lv_sub hl [1, 2, 3, 4, 5, 6, 0] rfl)
            · have hf := fn_f hc hf
              refine lv_aload_n hx hb d_Sr_extend_113 rfl (lv_at hl 0 rfl) ?_
              refine va_get (D := D) (ci := 3) (v := .ref srV) (C := RK3) (T := TK3) (N := 3) hx hb hts iwK3 hown hK hP 2 rfl rfl 2 (by decide) (hts _ fl_Sr_15) (fun _ h9 => h9) rfl d_Sr_extend_114 ?_
              refine lv_iload_n hx hb d_Sr_extend_117 rfl (lv_at hl 3 rfl) ?_
              refine lv_iload hx hb d_Sr_extend_118 (lv_at hl 6 rfl) ?_
              have hg := fn_g hf
              have hf := fn_t hg hf
              refine va_iast hx hb hK hP hD hS 4 0 rfl rfl (fn_v hg) d_Sr_extend_120 (fun H locs hP hD hS => ?_)
              have hP : va_P D zz_cl [(se, .inr (1, [.ref seO])), (seO, .inl (cK 0, 128, .inl seOf)), (sr, .inr (3, [.ref se, .ref srO, .ref srV])), (srO, .inl (cK 0, 4, .inl srOf)), (srV, .inl (cK 0, 4, .inl (upd srVf (Int32.toNatClampNeg v3) v6))), (x, .inr (4, [.ref xW, .int xS])), (xW, .inl (cK 0, xM, .inl xWf)), (q, .inr (2, [.ref qI, .ref qL, .int qW, .int qP, .int qV])), (qI, .inl (cK 0, 9, .inl qIf)), (qL, .inl (cK 0, 3, .inl qLf))] H := hP
              have hD : va_D A [(se, .inr (1, [.ref seO])), (seO, .inl (cK 0, 128, .inl seOf)), (sr, .inr (3, [.ref se, .ref srO, .ref srV])), (srO, .inl (cK 0, 4, .inl srOf)), (srV, .inl (cK 0, 4, .inl (upd srVf (Int32.toNatClampNeg v3) v6))), (x, .inr (4, [.ref xW, .int xS])), (xW, .inl (cK 0, xM, .inl xWf)), (q, .inr (2, [.ref qI, .ref qL, .int qW, .int qP, .int qV])), (qI, .inl (cK 0, 9, .inl qIf)), (qL, .inl (cK 0, 3, .inl qLf))] := hD
              refine lv_aload_n hx hb d_Sr_extend_121 rfl (lv_at hl 0 rfl) ?_
              refine lv_aload_n hx hb d_Sr_extend_122 rfl (lv_at hl 1 rfl) ?_
              refine lv_aload_n hx hb d_Sr_extend_123 rfl (lv_at hl 2 rfl) ?_
              refine lv_iload_n hx hb d_Sr_extend_124 rfl (lv_at hl 3 rfl) ?_
              refine lv_iconst (v := 1) hx hb d_Sr_extend_125 (by decide) ?_
              refine lv_iadd hx hb d_Sr_extend_126 ?_
              refine lv_iload hx hb d_Sr_extend_127 (lv_at hl 4 rfl) ?_
              refine lv_bipush (v := 16) hx hb d_Sr_extend_129 (by decide) ?_
              refine lv_imul hx hb d_Sr_extend_131 ?_
              refine lv_iload hx hb d_Sr_extend_132 (lv_at hl 6 rfl) ?_
              refine lv_iadd hx hb d_Sr_extend_134 ?_
              obtain ⟨srVf_135, xS_135, xWf_135, hcl, hf⟩ := fn_e3 hf
              refine cv_WrV (rest := []) (wr := []) (w' := [(se, .inr (1, [.ref seO])), (seO, .inl (cK 0, 128, .inl seOf)), (sr, .inr (3, [.ref se, .ref srO, .ref srV])), (srO, .inl (cK 0, 4, .inl srOf)), (srV, .inl (cK 0, 4, .inl srVf_135)), (x, .inr (4, [.ref xW, .int xS_135])), (xW, .inl (cK 0, xM, .inl xWf_135)), (q, .inr (2, [.ref qI, .ref qL, .int qW, .int qP, .int qV])), (qI, .inl (cK 0, 9, .inl qIf)), (qL, .inl (cK 0, 3, .inl qLf))]) ⟨hx, hb, hml, hown, hts⟩ (ihd (upd srVf (Int32.toNatClampNeg v3) v6) xS xWf (v3 + 1) ((v4 * 16) + v6) srVf_135 xS_135 xWf_135 hcl) (cwV 4 hts (zz_V ml_Sr_45 im_Sr_extend se_Sr_extend in_Sr co_Sr_extend) rfl rfl rfl ⟨rfl, hd_Sr_extend⟩ ⟨by dsimp only [rm_Sr_extend, rm_Sr_extend]; omega, by dsimp only [rm_Sr_extend, rm_Sr_extend]; omega⟩) hK hP hD hS hA [0, 1, 2, 3, 4, 5, 6, 7, 8, 9] [] [0, 1, 2, 3, 4, 5, 6, 7, 8, 9] rfl (by decide) rfl (by decide) (by decide) rfl (by decide) 2 rfl rfl rfl rfl hl.1 rfl (Nat.le_of_ble_eq_true rfl) d_Sr_extend_135 ⟨Nat.zero_le _, Nat.zero_le _⟩ (fun H locs hP hD hS => ?_)
              refine lv_iinc (v := (v6 + 1)) (lv' := [(6, .int (v6 + 1)), (0, .ref sr), (1, .ref q), (2, .ref x), (3, .int v3), (4, .int v4), (5, .int v5)]) hx hb d_Sr_extend_138 hl (k := 6) rfl rfl (by decide) rfl (fun ls hl => ?_)
              refine lv_goto (tgt := 81) hx hb d_Sr_extend_141 (by decide) ?_
              exact ih_81 _ _ _ _ _ _ _ hf hP hD hS (lv_sub hl [1, 2, 3, 4, 5, 6, 0] rfl)
  have J_21 : ∀ (v3 : Int32) (v4 : Int32) (n_21 : Nat) (srVf : Nat → Int32) (xS : Int32) (xWf : Nat → Int32) (v5 : Int32) (v6 : Int32) (H : Heap) (locs : List Loc) (ls : Array Slot), f_Sr_extend_21 N seOf srOf xM qP qIf qLf (f_Sr_extend N seOf srOf xM qP qIf qLf d_) v3 v4 n_21 srVf xS xWf v5 v6 = some (o_srVf, o_xS, o_xWf) → va_P D zz_cl [(se, .inr (1, [.ref seO])), (seO, .inl (cK 0, 128, .inl seOf)), (sr, .inr (3, [.ref se, .ref srO, .ref srV])), (srO, .inl (cK 0, 4, .inl srOf)), (srV, .inl (cK 0, 4, .inl srVf)), (x, .inr (4, [.ref xW, .int xS])), (xW, .inl (cK 0, xM, .inl xWf)), (q, .inr (2, [.ref qI, .ref qL, .int qW, .int qP, .int qV])), (qI, .inl (cK 0, 9, .inl qIf)), (qL, .inl (cK 0, 3, .inl qLf))] H → va_D A [(se, .inr (1, [.ref seO])), (seO, .inl (cK 0, 128, .inl seOf)), (sr, .inr (3, [.ref se, .ref srO, .ref srV])), (srO, .inl (cK 0, 4, .inl srOf)), (srV, .inl (cK 0, 4, .inl srVf)), (x, .inr (4, [.ref xW, .int xS])), (xW, .inl (cK 0, xM, .inl xWf)), (q, .inr (2, [.ref qI, .ref qL, .int qW, .int qP, .int qV])), (qI, .inl (cK 0, 9, .inl qIf)), (qL, .inl (cK 0, 3, .inl qLf))] → va_S A s.heap H locs → lv_has ls 7 [(0, .ref sr), (1, .ref q), (2, .ref x), (3, .int v3), (4, .int v4), (5, .int v5), (6, .int v6)] → W p l e (rm_Sr_extend (d_ + 1)) s m args below meth c H locs 0 0 Q (F0 m 21 ls []) := by
    intro v3 v4 n_21
    induction n_21 with
    | zero =>
      intro srVf xS xWf v5 v6 H locs ls hf hP hD hS hl
      exact fn_0 hf
    | succ n_21 ih_21 =>
      intro srVf xS xWf v5 v6 H locs ls hf hP hD hS hl
      rw [f_Sr_extend_21.eq_2] at hf
      refine lv_iload hx hb d_Sr_extend_21 (lv_at hl 6 rfl) ?_
      refine lv_aload_n hx hb d_Sr_extend_23 rfl (lv_at hl 1 rfl) ?_
      refine va_get (D := D) (ci := 2) (v := .int qP) (C := RK2) (T := TK2) (N := 5) hx hb hts iwK2 hown hK hP 7 rfl rfl 3 (by decide) (hts _ fl_Sr_37) (fun _ h9 => h9) rfl d_Sr_extend_24 ?_
      refine lv_icmp_ge (tgt := 64) hx hb d_Sr_extend_27 (by decide) (fun hc => ?_) (fun hc => ?_)
      · have hf := fn_t hc hf
        refine lv_iload_n hx hb d_Sr_extend_64 rfl (lv_at hl 3 rfl) ?_
        refine lv_iconst (v := 3) hx hb d_Sr_extend_65 (by decide) ?_
        refine lv_icmp_ne (tgt := 78) hx hb d_Sr_extend_66 (by decide) (fun hc => ?_) (fun hc => ?_)
        · have hf := fn_f hc hf
          refine lv_iconst (v := 0) hx hb d_Sr_extend_78 (by decide) ?_
          refine lv_istore (lv' := [(6, .int 0), (0, .ref sr), (1, .ref q), (2, .ref x), (3, .int v3), (4, .int v4), (5, .int v5)]) hx hb d_Sr_extend_79 hl (by decide) rfl (fun ls hl => ?_)
          exact J_81 _ _ _ _ _ _ _ _ _ _ _ hf hP hD hS (lv_sub hl [1, 2, 3, 4, 5, 6, 0] rfl)
        · have hf := fn_t hc hf
          refine lv_aload_n hx hb d_Sr_extend_69 rfl (lv_at hl 2 rfl) ?_
          refine lv_iload hx hb d_Sr_extend_70 (lv_at hl 4 rfl) ?_
          refine lv_iload hx hb d_Sr_extend_72 (lv_at hl 5 rfl) ?_
          obtain ⟨xS_74, xWf_74, hcl, hf⟩ := fn_e2 hf
          refine cv_WrV (rest := []) (wr := [(se, .inr (1, [.ref seO])), (seO, .inl (cK 0, 128, .inl seOf)), (sr, .inr (3, [.ref se, .ref srO, .ref srV])), (srO, .inl (cK 0, 4, .inl srOf)), (srV, .inl (cK 0, 4, .inl srVf)), (q, .inr (2, [.ref qI, .ref qL, .int qW, .int qP, .int qV])), (qI, .inl (cK 0, 9, .inl qIf)), (qL, .inl (cK 0, 3, .inl qLf))]) (w' := [(se, .inr (1, [.ref seO])), (seO, .inl (cK 0, 128, .inl seOf)), (sr, .inr (3, [.ref se, .ref srO, .ref srV])), (srO, .inl (cK 0, 4, .inl srOf)), (srV, .inl (cK 0, 4, .inl srVf)), (x, .inr (4, [.ref xW, .int xS_74])), (xW, .inl (cK 0, xM, .inl xWf_74)), (q, .inr (2, [.ref qI, .ref qL, .int qW, .int qP, .int qV])), (qI, .inl (cK 0, 9, .inl qIf)), (qL, .inl (cK 0, 3, .inl qLf))]) ⟨hx, hb, hml, hown, hts⟩ (c_Rs_add l D cK x xW xS xM xWf v4 v5 xS_74 xWf_74 hcl) (cwV 2 hts (zz_V ml_Sr_65 im_Rs_add se_Rs_add in_Rs co_Rs_add) rfl rfl rfl ⟨rfl, hd_Rs_add⟩ ⟨by dsimp only [rm_Rs_add, rm_Sr_extend]; omega, by dsimp only [rm_Rs_add, rm_Sr_extend]; omega⟩) hK hP hD hS hA [5, 6] [0, 1, 2, 3, 4, 7, 8, 9] [0, 1, 2, 3, 4, 8, 9, 5, 6, 7] rfl (by decide) rfl (by decide) (by decide) rfl (by decide) 5 rfl rfl rfl rfl hl.1 rfl (Nat.le_of_ble_eq_true rfl) d_Sr_extend_74 ⟨Nat.zero_le _, Nat.zero_le _⟩ (fun H locs hP hD hS => ?_)
          cases hf
          exact hret _ _ 77 _ hP hD hS d_Sr_extend_77
      · have hf := fn_f hc hf
        refine lv_iload hx hb d_Sr_extend_30 (lv_at hl 5 rfl) ?_
        refine lv_if_eq (tgt := 64) hx hb d_Sr_extend_32 (by decide) (fun hc => ?_) (fun hc => ?_)
        · have hf := fn_t hc hf
          refine lv_iload_n hx hb d_Sr_extend_64 rfl (lv_at hl 3 rfl) ?_
          refine lv_iconst (v := 3) hx hb d_Sr_extend_65 (by decide) ?_
          refine lv_icmp_ne (tgt := 78) hx hb d_Sr_extend_66 (by decide) (fun hc => ?_) (fun hc => ?_)
          · have hf := fn_f hc hf
            refine lv_iconst (v := 0) hx hb d_Sr_extend_78 (by decide) ?_
            refine lv_istore (lv' := [(6, .int 0), (0, .ref sr), (1, .ref q), (2, .ref x), (3, .int v3), (4, .int v4), (5, .int v5)]) hx hb d_Sr_extend_79 hl (by decide) rfl (fun ls hl => ?_)
            exact J_81 _ _ _ _ _ _ _ _ _ _ _ hf hP hD hS (lv_sub hl [1, 2, 3, 4, 5, 6, 0] rfl)
          · have hf := fn_t hc hf
            refine lv_aload_n hx hb d_Sr_extend_69 rfl (lv_at hl 2 rfl) ?_
            refine lv_iload hx hb d_Sr_extend_70 (lv_at hl 4 rfl) ?_
            refine lv_iload hx hb d_Sr_extend_72 (lv_at hl 5 rfl) ?_
            obtain ⟨xS_74, xWf_74, hcl, hf⟩ := fn_e2 hf
            refine cv_WrV (rest := []) (wr := [(se, .inr (1, [.ref seO])), (seO, .inl (cK 0, 128, .inl seOf)), (sr, .inr (3, [.ref se, .ref srO, .ref srV])), (srO, .inl (cK 0, 4, .inl srOf)), (srV, .inl (cK 0, 4, .inl srVf)), (q, .inr (2, [.ref qI, .ref qL, .int qW, .int qP, .int qV])), (qI, .inl (cK 0, 9, .inl qIf)), (qL, .inl (cK 0, 3, .inl qLf))]) (w' := [(se, .inr (1, [.ref seO])), (seO, .inl (cK 0, 128, .inl seOf)), (sr, .inr (3, [.ref se, .ref srO, .ref srV])), (srO, .inl (cK 0, 4, .inl srOf)), (srV, .inl (cK 0, 4, .inl srVf)), (x, .inr (4, [.ref xW, .int xS_74])), (xW, .inl (cK 0, xM, .inl xWf_74)), (q, .inr (2, [.ref qI, .ref qL, .int qW, .int qP, .int qV])), (qI, .inl (cK 0, 9, .inl qIf)), (qL, .inl (cK 0, 3, .inl qLf))]) ⟨hx, hb, hml, hown, hts⟩ (c_Rs_add l D cK x xW xS xM xWf v4 v5 xS_74 xWf_74 hcl) (cwV 2 hts (zz_V ml_Sr_65 im_Rs_add se_Rs_add in_Rs co_Rs_add) rfl rfl rfl ⟨rfl, hd_Rs_add⟩ ⟨by dsimp only [rm_Rs_add, rm_Sr_extend]; omega, by dsimp only [rm_Rs_add, rm_Sr_extend]; omega⟩) hK hP hD hS hA [5, 6] [0, 1, 2, 3, 4, 7, 8, 9] [0, 1, 2, 3, 4, 8, 9, 5, 6, 7] rfl (by decide) rfl (by decide) (by decide) rfl (by decide) 5 rfl rfl rfl rfl hl.1 rfl (Nat.le_of_ble_eq_true rfl) d_Sr_extend_74 ⟨Nat.zero_le _, Nat.zero_le _⟩ (fun H locs hP hD hS => ?_)
            cases hf
            exact hret _ _ 77 _ hP hD hS d_Sr_extend_77
        · have hf := fn_f hc hf
          refine lv_aload_n hx hb d_Sr_extend_35 rfl (lv_at hl 1 rfl) ?_
          refine va_get (D := D) (ci := 2) (v := .ref qL) (C := RK2) (T := TK2) (N := 5) hx hb hts iwK2 hown hK hP 7 rfl rfl 1 (by decide) (hts _ fl_Sr_58) (fun _ h9 => h9) rfl d_Sr_extend_36 ?_
          refine lv_iload hx hb d_Sr_extend_39 (lv_at hl 6 rfl) ?_
          have hg := fn_g hf
          have hf := fn_t hg hf
          refine va_iald hx hb hK hP 9 0 rfl rfl (fn_v hg) d_Sr_extend_41 ?_
          refine lv_iload_n hx hb d_Sr_extend_42 rfl (lv_at hl 3 rfl) ?_
          refine lv_icmp_ne (tgt := 58) hx hb d_Sr_extend_43 (by decide) (fun hc => ?_) (fun hc => ?_)
          · have hf := fn_f hc hf
            refine lv_iinc (v := (v6 + 1)) (lv' := [(6, .int (v6 + 1)), (0, .ref sr), (1, .ref q), (2, .ref x), (3, .int v3), (4, .int v4), (5, .int v5)]) hx hb d_Sr_extend_58 hl (k := 6) rfl rfl (by decide) rfl (fun ls hl => ?_)
            refine lv_goto (tgt := 21) hx hb d_Sr_extend_61 (by decide) ?_
            exact ih_21 _ _ _ _ _ _ _ _ hf hP hD hS (lv_sub hl [1, 2, 3, 4, 5, 6, 0] rfl)
          · have hf := fn_t hc hf
            refine lv_aload_n hx hb d_Sr_extend_46 rfl (lv_at hl 0 rfl) ?_
            refine lv_aload_n hx hb d_Sr_extend_47 rfl (lv_at hl 1 rfl) ?_
            refine lv_iload hx hb d_Sr_extend_48 (lv_at hl 6 rfl) ?_
            refine lv_iload_n hx hb d_Sr_extend_50 rfl (lv_at hl 3 rfl) ?_
            refine lv_iload hx hb d_Sr_extend_51 (lv_at hl 5 rfl) ?_
            obtain ⟨r_53, srVf_53, hcl, hf⟩ := fn_e2 hf
            refine cv_WrI (rest := []) (wr := [(srO, .inl (cK 0, 4, .inl srOf)), (x, .inr (4, [.ref xW, .int xS])), (xW, .inl (cK 0, xM, .inl xWf)), (qL, .inl (cK 0, 3, .inl qLf))]) (w' := [(se, .inr (1, [.ref seO])), (seO, .inl (cK 0, 128, .inl seOf)), (sr, .inr (3, [.ref se, .ref srO, .ref srV])), (srO, .inl (cK 0, 4, .inl srOf)), (srV, .inl (cK 0, 4, .inl srVf_53)), (x, .inr (4, [.ref xW, .int xS])), (xW, .inl (cK 0, xM, .inl xWf)), (q, .inr (2, [.ref qI, .ref qL, .int qW, .int qP, .int qV])), (qI, .inl (cK 0, 9, .inl qIf)), (qL, .inl (cK 0, 3, .inl qLf))]) ⟨hx, hb, hml, hown, hts⟩ (c_Sr_filter l D cK se seO sr srO srV q qI qL seOf srVf qW qP qV qIf N v6 v3 v5 r_53 srVf_53 hcl) (cwV 4 hts (zz_V ml_Sr_61 im_Sr_filter se_Sr_filter in_Sr co_Sr_filter) rfl rfl rfl ⟨rfl, hd_Sr_filter⟩ ⟨by dsimp only [rm_Sr_filter, rm_Sr_extend]; omega, by dsimp only [rm_Sr_filter, rm_Sr_extend]; omega⟩) hK hP hD hS hA [0, 1, 2, 4, 7, 8] [3, 5, 6, 9] [4, 5, 6, 0, 7, 1, 2, 8, 9, 3] rfl (by decide) rfl (by decide) (by decide) rfl (by decide) 2 rfl rfl rfl rfl hl.1 rfl (Nat.le_of_ble_eq_true rfl) d_Sr_extend_53 ⟨Nat.zero_le _, Nat.zero_le _⟩ (fun H locs hP hD hS => ?_)
            refine lv_istore (lv' := [(5, .int r_53), (0, .ref sr), (1, .ref q), (2, .ref x), (3, .int v3), (4, .int v4), (6, .int v6)]) hx hb d_Sr_extend_56 hl (by decide) rfl (fun ls hl => ?_)
            refine lv_iinc (v := (v6 + 1)) (lv' := [(6, .int (v6 + 1)), (5, .int r_53), (0, .ref sr), (1, .ref q), (2, .ref x), (3, .int v3), (4, .int v4)]) hx hb d_Sr_extend_58 hl (k := 6) rfl rfl (by decide) rfl (fun ls hl => ?_)
            refine lv_goto (tgt := 21) hx hb d_Sr_extend_61 (by decide) ?_
            exact ih_21 _ _ _ _ _ _ _ _ hf hP hD hS (lv_sub hl [2, 3, 4, 5, 6, 1, 0] rfl)
  rw [f_Sr_extend.eq_2] at hf
  refine lv_iload_n hx hb d_Sr_extend_0 rfl (lv_at hl 3 rfl) ?_
  refine lv_if_lt (tgt := 9) hx hb d_Sr_extend_1 (by decide) (fun hc => ?_) (fun hc => ?_)
  · have hf := fn_t hc hf
    cases hf
    exact hret _ _ 9 _ hP hD hS d_Sr_extend_9
  · have hf := fn_f hc hf
    refine lv_iload_n hx hb d_Sr_extend_4 rfl (lv_at hl 3 rfl) ?_
    refine lv_iconst (v := 4) hx hb d_Sr_extend_5 (by decide) ?_
    refine lv_icmp_lt (tgt := 10) hx hb d_Sr_extend_6 (by decide) (fun hc => ?_) (fun hc => ?_)
    · have hf := fn_t hc hf
      refine lv_aload_n hx hb d_Sr_extend_10 rfl (lv_at hl 0 rfl) ?_
      refine va_get (D := D) (ci := 3) (v := .ref srO) (C := RK3) (T := TK3) (N := 3) hx hb hts iwK3 hown hK hP 2 rfl rfl 1 (by decide) (hts _ fl_Sr_9) (fun _ h9 => h9) rfl d_Sr_extend_11 ?_
      refine lv_iload_n hx hb d_Sr_extend_14 rfl (lv_at hl 3 rfl) ?_
      have hg := fn_g hf
      have hf := fn_t hg hf
      refine va_iald hx hb hK hP 3 0 rfl rfl (fn_v hg) d_Sr_extend_15 ?_
      refine lv_istore (lv' := [(5, .int (srOf (Int32.toNatClampNeg v3))), (0, .ref sr), (1, .ref q), (2, .ref x), (3, .int v3), (4, .int v4)]) hx hb d_Sr_extend_16 hl (by decide) rfl (fun ls hl => ?_)
      refine lv_iconst (v := 0) hx hb d_Sr_extend_18 (by decide) ?_
      refine lv_istore (lv' := [(6, .int 0), (5, .int (srOf (Int32.toNatClampNeg v3))), (0, .ref sr), (1, .ref q), (2, .ref x), (3, .int v3), (4, .int v4)]) hx hb d_Sr_extend_19 hl (by decide) rfl (fun ls hl => ?_)
      exact J_21 _ _ _ _ _ _ _ _ _ _ _ hf hP hD hS (lv_sub hl [2, 3, 4, 5, 6, 1, 0] rfl)
    · have hf := fn_f hc hf
      cases hf
      exact hret _ _ 9 _ hP hD hS d_Sr_extend_9
abbrev rm_Sr_run : Room := { frames := 8, cells := 0, slots := 0, locals := 209 }
set_option maxHeartbeats 4000000 in
set_option maxRecDepth 100000 in
theorem c_Sr_run (l : Launch) (D : va_G) (cK : Nat → ClassId) (se seO sr srO srV x xW q qI qL : Nat) (seOf : Nat → Int32) (srOf : Nat → Int32) (srVf : Nat → Int32) (xS : Int32) (xM : Nat) (xWf : Nat → Int32) (qW : Int32) (qP : Int32) (qV : Int32) (qIf : Nat → Int32) (qLf : Nat → Int32) (N : Nat)  (o_srOf : Nat → Int32) (o_srVf : Nat → Int32) (o_xS : Int32) (o_xWf : Nat → Int32) (hf : f_Sr_run N seOf srOf srVf xS xM xWf qP qIf qLf = some (o_srOf, o_srVf, o_xS, o_xWf)) : WrV l y_Sr_run w_Sr_run rm_Sr_run D zz_cl (mt_ty cK RK2) [.ref sr, .ref q, .ref x] [(se, .inr (1, [.ref seO])), (seO, .inl (cK 0, 128, .inl seOf)), (sr, .inr (3, [.ref se, .ref srO, .ref srV])), (srO, .inl (cK 0, 4, .inl srOf)), (srV, .inl (cK 0, 4, .inl srVf)), (x, .inr (4, [.ref xW, .int xS])), (xW, .inl (cK 0, xM, .inl xWf)), (q, .inr (2, [.ref qI, .ref qL, .int qW, .int qP, .int qV])), (qI, .inl (cK 0, 9, .inl qIf)), (qL, .inl (cK 0, 3, .inl qLf))] [(se, .inr (1, [.ref seO])), (seO, .inl (cK 0, 128, .inl seOf)), (sr, .inr (3, [.ref se, .ref srO, .ref srV])), (srO, .inl (cK 0, 4, .inl o_srOf)), (srV, .inl (cK 0, 4, .inl o_srVf)), (x, .inr (4, [.ref xW, .int o_xS])), (xW, .inl (cK 0, xM, .inl o_xWf)), (q, .inr (2, [.ref qI, .ref qL, .int qW, .int qP, .int qV])), (qI, .inl (cK 0, 9, .inl qIf)), (qL, .inl (cK 0, 3, .inl qLf))] := by
  refine mk_WrV (cc := b_Sr_run) (maxL := 4) (by decide +kernel) rfl (Nat.le_of_ble_eq_true rfl) ?_
  intro p e s m below meth c args Q A ls hx hb hml hown hts hA hK hP hD hret hl
  have hS : va_S A s.heap s.heap [] := va_S.rf
  have hl : lv_has ls 4 [(0, .ref sr), (1, .ref q), (2, .ref x)] := hl
  have J_2 : ∀  (n_2 : Nat) (srOf : Nat → Int32) (srVf : Nat → Int32) (xS : Int32) (xWf : Nat → Int32) (v3 : Int32) (H : Heap) (locs : List Loc) (ls : Array Slot), f_Sr_run_2 N seOf xM qP qIf qLf n_2 srOf srVf xS xWf v3 = some (o_srOf, o_srVf, o_xS, o_xWf) → va_P D zz_cl [(se, .inr (1, [.ref seO])), (seO, .inl (cK 0, 128, .inl seOf)), (sr, .inr (3, [.ref se, .ref srO, .ref srV])), (srO, .inl (cK 0, 4, .inl srOf)), (srV, .inl (cK 0, 4, .inl srVf)), (x, .inr (4, [.ref xW, .int xS])), (xW, .inl (cK 0, xM, .inl xWf)), (q, .inr (2, [.ref qI, .ref qL, .int qW, .int qP, .int qV])), (qI, .inl (cK 0, 9, .inl qIf)), (qL, .inl (cK 0, 3, .inl qLf))] H → va_D A [(se, .inr (1, [.ref seO])), (seO, .inl (cK 0, 128, .inl seOf)), (sr, .inr (3, [.ref se, .ref srO, .ref srV])), (srO, .inl (cK 0, 4, .inl srOf)), (srV, .inl (cK 0, 4, .inl srVf)), (x, .inr (4, [.ref xW, .int xS])), (xW, .inl (cK 0, xM, .inl xWf)), (q, .inr (2, [.ref qI, .ref qL, .int qW, .int qP, .int qV])), (qI, .inl (cK 0, 9, .inl qIf)), (qL, .inl (cK 0, 3, .inl qLf))] → va_S A s.heap H locs → lv_has ls 4 [(0, .ref sr), (1, .ref q), (2, .ref x), (3, .int v3)] → W p l e rm_Sr_run s m args below meth c H locs 0 0 Q (F0 m 2 ls []) := by
    intro n_2
    induction n_2 with
    | zero =>
      intro srOf srVf xS xWf v3 H locs ls hf hP hD hS hl
      exact fn_0 hf
    | succ n_2 ih_2 =>
      intro srOf srVf xS xWf v3 H locs ls hf hP hD hS hl
      rw [f_Sr_run_2.eq_2] at hf
      refine lv_iload_n hx hb d_Sr_run_2 rfl (lv_at hl 3 rfl) ?_
      refine lv_aload_n hx hb d_Sr_run_3 rfl (lv_at hl 1 rfl) ?_
      refine va_get (D := D) (ci := 2) (v := .int qP) (C := RK2) (T := TK2) (N := 5) hx hb hts iwK2 hown hK hP 7 rfl rfl 3 (by decide) (hts _ fl_Sr_37) (fun _ h9 => h9) rfl d_Sr_run_4 ?_
      refine lv_icmp_ge (tgt := 42) hx hb d_Sr_run_7 (by decide) (fun hc => ?_) (fun hc => ?_)
      · have hf := fn_t hc hf
        refine lv_aload_n hx hb d_Sr_run_42 rfl (lv_at hl 0 rfl) ?_
        refine lv_aload_n hx hb d_Sr_run_43 rfl (lv_at hl 1 rfl) ?_
        refine lv_aload_n hx hb d_Sr_run_44 rfl (lv_at hl 2 rfl) ?_
        refine lv_iconst (v := 0) hx hb d_Sr_run_45 (by decide) ?_
        refine lv_iconst (v := 0) hx hb d_Sr_run_46 (by decide) ?_
        obtain ⟨srVf_47, xS_47, xWf_47, hcl, hf⟩ := fn_e3 hf
        refine cv_WrV (rest := []) (wr := []) (w' := [(se, .inr (1, [.ref seO])), (seO, .inl (cK 0, 128, .inl seOf)), (sr, .inr (3, [.ref se, .ref srO, .ref srV])), (srO, .inl (cK 0, 4, .inl srOf)), (srV, .inl (cK 0, 4, .inl srVf_47)), (x, .inr (4, [.ref xW, .int xS_47])), (xW, .inl (cK 0, xM, .inl xWf_47)), (q, .inr (2, [.ref qI, .ref qL, .int qW, .int qP, .int qV])), (qI, .inl (cK 0, 9, .inl qIf)), (qL, .inl (cK 0, 3, .inl qLf))]) ⟨hx, hb, hml, hown, hts⟩ (c_Sr_extend l D cK se seO sr srO srV x xW q qI qL seOf srOf xM qW qP qV qIf qLf N 5 srVf xS xWf 0 0 srVf_47 xS_47 xWf_47 hcl) (cwV 4 hts (zz_V ml_Sr_45 im_Sr_extend se_Sr_extend in_Sr co_Sr_extend) rfl rfl rfl ⟨rfl, hd_Sr_extend⟩ ⟨Nat.le_of_ble_eq_true rfl, Nat.le_of_ble_eq_true rfl⟩) hK hP hD hS hA [0, 1, 2, 3, 4, 5, 6, 7, 8, 9] [] [0, 1, 2, 3, 4, 5, 6, 7, 8, 9] rfl (by decide) rfl (by decide) (by decide) rfl (by decide) 2 rfl rfl rfl rfl hl.1 rfl (Nat.le_of_ble_eq_true rfl) d_Sr_run_47 ⟨Nat.zero_le _, Nat.zero_le _⟩ (fun H locs hP hD hS => ?_)
        cases hf
        exact hret _ _ 50 _ hP hD hS d_Sr_run_50
      · have hf := fn_f hc hf
        refine lv_aload_n hx hb d_Sr_run_10 rfl (lv_at hl 0 rfl) ?_
        refine lv_aload_n hx hb d_Sr_run_11 rfl (lv_at hl 1 rfl) ?_
        refine lv_iload_n hx hb d_Sr_run_12 rfl (lv_at hl 3 rfl) ?_
        refine lv_iconst (v := 0) hx hb d_Sr_run_13 (by decide) ?_
        obtain ⟨r_14, hcl, hf⟩ := fn_e1 hf
        refine cv_RdI (rest := [.ref sr]) ⟨hx, hb, hml, hown, hts⟩ (c_Qu_itemAt l D cK q qI qL qW qP qV qIf v3 0 r_14 hcl) (cwV 2 hts (zz_V ml_Sr_29 im_Qu_itemAt se_Qu_itemAt in_Qu co_Qu_itemAt) rfl rfl rfl ⟨rfl, hd_Qu_itemAt⟩ ⟨Nat.le_of_ble_eq_true rfl, Nat.le_of_ble_eq_true rfl⟩) hK hP [7, 8] rfl 7 rfl rfl rfl rfl hl.1 rfl (Nat.le_of_ble_eq_true rfl) d_Sr_run_14 ⟨Nat.zero_le _, Nat.zero_le _⟩ ?_
        refine lv_aload_n hx hb d_Sr_run_17 rfl (lv_at hl 1 rfl) ?_
        refine lv_iload_n hx hb d_Sr_run_18 rfl (lv_at hl 3 rfl) ?_
        refine lv_iconst (v := 1) hx hb d_Sr_run_19 (by decide) ?_
        obtain ⟨r_20, hcl, hf⟩ := fn_e1 hf
        refine cv_RdI (rest := [.int r_14, .ref sr]) ⟨hx, hb, hml, hown, hts⟩ (c_Qu_itemAt l D cK q qI qL qW qP qV qIf v3 1 r_20 hcl) (cwV 2 hts (zz_V ml_Sr_29 im_Qu_itemAt se_Qu_itemAt in_Qu co_Qu_itemAt) rfl rfl rfl ⟨rfl, hd_Qu_itemAt⟩ ⟨Nat.le_of_ble_eq_true rfl, Nat.le_of_ble_eq_true rfl⟩) hK hP [7, 8] rfl 7 rfl rfl rfl rfl hl.1 rfl (Nat.le_of_ble_eq_true rfl) d_Sr_run_20 ⟨Nat.zero_le _, Nat.zero_le _⟩ ?_
        refine lv_aload_n hx hb d_Sr_run_23 rfl (lv_at hl 1 rfl) ?_
        refine lv_iload_n hx hb d_Sr_run_24 rfl (lv_at hl 3 rfl) ?_
        refine lv_iconst (v := 2) hx hb d_Sr_run_25 (by decide) ?_
        obtain ⟨r_26, hcl, hf⟩ := fn_e1 hf
        refine cv_RdI (rest := [.int r_20, .int r_14, .ref sr]) ⟨hx, hb, hml, hown, hts⟩ (c_Qu_itemAt l D cK q qI qL qW qP qV qIf v3 2 r_26 hcl) (cwV 2 hts (zz_V ml_Sr_29 im_Qu_itemAt se_Qu_itemAt in_Qu co_Qu_itemAt) rfl rfl rfl ⟨rfl, hd_Qu_itemAt⟩ ⟨Nat.le_of_ble_eq_true rfl, Nat.le_of_ble_eq_true rfl⟩) hK hP [7, 8] rfl 7 rfl rfl rfl rfl hl.1 rfl (Nat.le_of_ble_eq_true rfl) d_Sr_run_26 ⟨Nat.zero_le _, Nat.zero_le _⟩ ?_
        obtain ⟨r_29, srOf_29, hcl, hf⟩ := fn_e2 hf
        refine cv_WrI (rest := []) (wr := [(srV, .inl (cK 0, 4, .inl srVf)), (x, .inr (4, [.ref xW, .int xS])), (xW, .inl (cK 0, xM, .inl xWf)), (q, .inr (2, [.ref qI, .ref qL, .int qW, .int qP, .int qV])), (qI, .inl (cK 0, 9, .inl qIf)), (qL, .inl (cK 0, 3, .inl qLf))]) (w' := [(se, .inr (1, [.ref seO])), (seO, .inl (cK 0, 128, .inl seOf)), (sr, .inr (3, [.ref se, .ref srO, .ref srV])), (srO, .inl (cK 0, 4, .inl srOf_29)), (srV, .inl (cK 0, 4, .inl srVf)), (x, .inr (4, [.ref xW, .int xS])), (xW, .inl (cK 0, xM, .inl xWf)), (q, .inr (2, [.ref qI, .ref qL, .int qW, .int qP, .int qV])), (qI, .inl (cK 0, 9, .inl qIf)), (qL, .inl (cK 0, 3, .inl qLf))]) ⟨hx, hb, hml, hown, hts⟩ (c_Sr_narrow l D cK se seO sr srO srV seOf srOf N r_14 r_20 r_26 r_29 srOf_29 hcl) (cwV 3 hts (zz_V ml_Sr_41 im_Sr_narrow se_Sr_narrow in_Sr co_Sr_narrow) rfl rfl rfl ⟨rfl, hd_Sr_narrow⟩ ⟨Nat.le_of_ble_eq_true rfl, Nat.le_of_ble_eq_true rfl⟩) hK hP hD hS hA [0, 1, 2, 3] [4, 5, 6, 7, 8, 9] [6, 7, 8, 9, 0, 1, 2, 3, 4, 5] rfl (by decide) rfl (by decide) (by decide) rfl (by decide) 2 rfl rfl rfl rfl hl.1 rfl (Nat.le_of_ble_eq_true rfl) d_Sr_run_29 ⟨Nat.zero_le _, Nat.zero_le _⟩ (fun H locs hP hD hS => ?_)
        refine lv_if_ne (tgt := 36) hx hb d_Sr_run_32 (by decide) (fun hc => ?_) (fun hc => ?_)
        · have hf := fn_f hc hf
          refine lv_iinc (v := (v3 + 1)) (lv' := [(3, .int (v3 + 1)), (0, .ref sr), (1, .ref q), (2, .ref x)]) hx hb d_Sr_run_36 hl (k := 3) rfl rfl (by decide) rfl (fun ls hl => ?_)
          refine lv_goto (tgt := 2) hx hb d_Sr_run_39 (by decide) ?_
          exact ih_2 _ _ _ _ _ _ _ _ hf hP hD hS (lv_sub hl [1, 2, 3, 0] rfl)
        · have hf := fn_t hc hf
          cases hf
          exact hret _ _ 35 _ hP hD hS d_Sr_run_35
  unfold f_Sr_run at hf
  refine lv_iconst (v := 0) hx hb d_Sr_run_0 (by decide) ?_
  refine lv_istore_n (lv' := [(3, .int 0), (0, .ref sr), (1, .ref q), (2, .ref x)]) hx hb d_Sr_run_1 rfl hl (by decide) rfl (fun ls hl => ?_)
  exact J_2 _ _ _ _ _ _ _ _ _ hf hP hD hS (lv_sub hl [1, 2, 3, 0] rfl)
end
