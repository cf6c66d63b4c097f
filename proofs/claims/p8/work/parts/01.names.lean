-- ===== PART A: goes FIRST, ahead of the names: the tables' words, and 'selects' of the private methods out of them =====
/-- a private method of a class that the tables say can be made, by its rows of tables_1 -/
def lw_okq (q : MethodName × Nat) : Prop := (q.1.cls ≠ "java/lang/invoke/MethodHandle" ∧ q.1.cls ≠ "java/lang/invoke/VarHandle") ∧ Cond.instantiable q.1.cls q.2 ∈ tables_1 ∧ Cond.privateMethod q.1 ∈ tables_1 ∧ Cond.instanceMethod q.1 ∈ tables_1
theorem lw_p0 : lw_okq (⟨"SerialDesk", "freeSlot", "()I"⟩, 6) := ⟨⟨by decide +kernel, by decide +kernel⟩, List.mem_of_getElem? (i := 7) (by decide +kernel), List.mem_of_getElem? (i := 55) (by decide +kernel), List.mem_of_getElem? (i := 56) (by decide +kernel)⟩
theorem lw_p1 : lw_okq (⟨"SerialDesk", "runningIn", "(I)LSerialDesk$Transaction;"⟩, 6) := ⟨⟨by decide +kernel, by decide +kernel⟩, List.mem_of_getElem? (i := 7) (by decide +kernel), List.mem_of_getElem? (i := 107) (by decide +kernel), List.mem_of_getElem? (i := 108) (by decide +kernel)⟩
theorem lw_p2 : lw_okq (⟨"SerialDesk$Transaction", "isCovered", "(ILSerialDesk$Range;)Z"⟩, 9) := ⟨⟨by decide +kernel, by decide +kernel⟩, List.mem_of_getElem? (i := 61) (by decide +kernel), List.mem_of_getElem? (i := 145) (by decide +kernel), List.mem_of_getElem? (i := 146) (by decide +kernel)⟩
theorem lw_p3 : lw_okq (⟨"SerialDesk$Range", "lacks", "(I)Z"⟩, 5) := ⟨⟨by decide +kernel, by decide +kernel⟩, List.mem_of_getElem? (i := 117) (by decide +kernel), List.mem_of_getElem? (i := 157) (by decide +kernel), List.mem_of_getElem? (i := 158) (by decide +kernel)⟩
theorem lw_p4 : lw_okq (⟨"SerialDesk$Range", "isAboveLow", "(J)Z"⟩, 5) := ⟨⟨by decide +kernel, by decide +kernel⟩, List.mem_of_getElem? (i := 117) (by decide +kernel), List.mem_of_getElem? (i := 211) (by decide +kernel), List.mem_of_getElem? (i := 212) (by decide +kernel)⟩
theorem lw_p5 : lw_okq (⟨"SerialDesk$Range", "isBelowHigh", "(J)Z"⟩, 5) := ⟨⟨by decide +kernel, by decide +kernel⟩, List.mem_of_getElem? (i := 117) (by decide +kernel), List.mem_of_getElem? (i := 215) (by decide +kernel), List.mem_of_getElem? (i := 216) (by decide +kernel)⟩
theorem lw_p6 : lw_okq (⟨"SerialDesk", "keptWithId", "(I)LSerialDesk$Transaction;"⟩, 6) := ⟨⟨by decide +kernel, by decide +kernel⟩, List.mem_of_getElem? (i := 7) (by decide +kernel), List.mem_of_getElem? (i := 238) (by decide +kernel), List.mem_of_getElem? (i := 239) (by decide +kernel)⟩
theorem lw_p7 : lw_okq (⟨"SerialDesk", "isSecondOfDanger", "(LSerialDesk$Transaction;LSerialDesk$Transaction;)Z"⟩, 6) := ⟨⟨by decide +kernel, by decide +kernel⟩, List.mem_of_getElem? (i := 7) (by decide +kernel), List.mem_of_getElem? (i := 242) (by decide +kernel), List.mem_of_getElem? (i := 243) (by decide +kernel)⟩
theorem lw_p8 : lw_okq (⟨"SerialDesk", "isPointedAtByOneNotBefore", "(LSerialDesk$Transaction;I)Z"⟩, 6) := ⟨⟨by decide +kernel, by decide +kernel⟩, List.mem_of_getElem? (i := 7) (by decide +kernel), List.mem_of_getElem? (i := 247) (by decide +kernel), List.mem_of_getElem? (i := 248) (by decide +kernel)⟩
theorem lw_p9 : lw_okq (⟨"SerialDesk", "tellCommit", "(LSerialDesk$Transaction;)V"⟩, 6) := ⟨⟨by decide +kernel, by decide +kernel⟩, List.mem_of_getElem? (i := 7) (by decide +kernel), List.mem_of_getElem? (i := 259) (by decide +kernel), List.mem_of_getElem? (i := 260) (by decide +kernel)⟩
theorem lw_p10 : lw_okq (⟨"SerialDesk", "dropNoLongerKept", "()V"⟩, 6) := ⟨⟨by decide +kernel, by decide +kernel⟩, List.mem_of_getElem? (i := 7) (by decide +kernel), List.mem_of_getElem? (i := 264) (by decide +kernel), List.mem_of_getElem? (i := 265) (by decide +kernel)⟩
theorem lw_p11 : lw_okq (⟨"SerialDesk", "commitsAtEarliestBegin", "()I"⟩, 6) := ⟨⟨by decide +kernel, by decide +kernel⟩, List.mem_of_getElem? (i := 7) (by decide +kernel), List.mem_of_getElem? (i := 268) (by decide +kernel), List.mem_of_getElem? (i := 269) (by decide +kernel)⟩
theorem lw_p12 : lw_okq (⟨"SerialDesk", "drop", "(LSerialDesk$Transaction;)V"⟩, 6) := ⟨⟨by decide +kernel, by decide +kernel⟩, List.mem_of_getElem? (i := 7) (by decide +kernel), List.mem_of_getElem? (i := 272) (by decide +kernel), List.mem_of_getElem? (i := 273) (by decide +kernel)⟩
theorem lw_p13 : lw_okq (⟨"SerialDesk", "arrowsInto", "(LSerialDesk$Transaction;)I"⟩, 6) := ⟨⟨by decide +kernel, by decide +kernel⟩, List.mem_of_getElem? (i := 7) (by decide +kernel), List.mem_of_getElem? (i := 293) (by decide +kernel), List.mem_of_getElem? (i := 294) (by decide +kernel)⟩
theorem lw_p14 : lw_okq (⟨"SerialDeskModel", "running", "(I)I"⟩, 22) := ⟨⟨by decide +kernel, by decide +kernel⟩, List.mem_of_getElem? (i := 309) (by decide +kernel), List.mem_of_getElem? (i := 386) (by decide +kernel), List.mem_of_getElem? (i := 387) (by decide +kernel)⟩
theorem lw_p15 : lw_okq (⟨"SerialDeskModel", "isSame", "(IIJJI)Z"⟩, 22) := ⟨⟨by decide +kernel, by decide +kernel⟩, List.mem_of_getElem? (i := 309) (by decide +kernel), List.mem_of_getElem? (i := 394) (by decide +kernel), List.mem_of_getElem? (i := 395) (by decide +kernel)⟩
def lw_privs_1 : List (MethodName × Nat) := [(⟨"SerialDesk", "freeSlot", "()I"⟩, 6), (⟨"SerialDesk", "runningIn", "(I)LSerialDesk$Transaction;"⟩, 6), (⟨"SerialDesk$Transaction", "isCovered", "(ILSerialDesk$Range;)Z"⟩, 9), (⟨"SerialDesk$Range", "lacks", "(I)Z"⟩, 5), (⟨"SerialDesk$Range", "isAboveLow", "(J)Z"⟩, 5), (⟨"SerialDesk$Range", "isBelowHigh", "(J)Z"⟩, 5), (⟨"SerialDesk", "keptWithId", "(I)LSerialDesk$Transaction;"⟩, 6), (⟨"SerialDesk", "isSecondOfDanger", "(LSerialDesk$Transaction;LSerialDesk$Transaction;)Z"⟩, 6), (⟨"SerialDesk", "isPointedAtByOneNotBefore", "(LSerialDesk$Transaction;I)Z"⟩, 6), (⟨"SerialDesk", "tellCommit", "(LSerialDesk$Transaction;)V"⟩, 6), (⟨"SerialDesk", "dropNoLongerKept", "()V"⟩, 6), (⟨"SerialDesk", "commitsAtEarliestBegin", "()I"⟩, 6), (⟨"SerialDesk", "drop", "(LSerialDesk$Transaction;)V"⟩, 6), (⟨"SerialDesk", "arrowsInto", "(LSerialDesk$Transaction;)I"⟩, 6), (⟨"SerialDeskModel", "running", "(I)I"⟩, 22), (⟨"SerialDeskModel", "isSame", "(IIJJI)Z"⟩, 22)]
theorem lw_r1 : ∀ q ∈ lw_privs_1, lw_okq q := List.forall_mem_cons.mpr ⟨lw_p0, List.forall_mem_cons.mpr ⟨lw_p1, List.forall_mem_cons.mpr ⟨lw_p2, List.forall_mem_cons.mpr ⟨lw_p3, List.forall_mem_cons.mpr ⟨lw_p4, List.forall_mem_cons.mpr ⟨lw_p5, List.forall_mem_cons.mpr ⟨lw_p6, List.forall_mem_cons.mpr ⟨lw_p7, List.forall_mem_cons.mpr ⟨lw_p8, List.forall_mem_cons.mpr ⟨lw_p9, List.forall_mem_cons.mpr ⟨lw_p10, List.forall_mem_cons.mpr ⟨lw_p11, List.forall_mem_cons.mpr ⟨lw_p12, List.forall_mem_cons.mpr ⟨lw_p13, List.forall_mem_cons.mpr ⟨lw_p14, List.forall_mem_cons.mpr ⟨lw_p15, fun _ h => absurd h List.not_mem_nil⟩⟩⟩⟩⟩⟩⟩⟩⟩⟩⟩⟩⟩⟩⟩⟩
theorem lw_p16 : lw_okq (⟨"SerialDeskModel", "setRange", "(IIJJI)V"⟩, 22) := ⟨⟨by decide +kernel, by decide +kernel⟩, List.mem_of_getElem? (i := 309) (by decide +kernel), List.mem_of_getElem? (i := 398) (by decide +kernel), List.mem_of_getElem? (i := 399) (by decide +kernel)⟩
theorem lw_p17 : lw_okq (⟨"SerialDeskModel", "concurrent", "(II)Z"⟩, 22) := ⟨⟨by decide +kernel, by decide +kernel⟩, List.mem_of_getElem? (i := 309) (by decide +kernel), List.mem_of_getElem? (i := 414) (by decide +kernel), List.mem_of_getElem? (i := 415) (by decide +kernel)⟩
theorem lw_p18 : lw_okq (⟨"SerialDeskModel", "hasRead", "(II)Z"⟩, 22) := ⟨⟨by decide +kernel, by decide +kernel⟩, List.mem_of_getElem? (i := 309) (by decide +kernel), List.mem_of_getElem? (i := 418) (by decide +kernel), List.mem_of_getElem? (i := 419) (by decide +kernel)⟩
theorem lw_p19 : lw_okq (⟨"SerialDeskModel", "isIn", "(I)Z"⟩, 22) := ⟨⟨by decide +kernel, by decide +kernel⟩, List.mem_of_getElem? (i := 309) (by decide +kernel), List.mem_of_getElem? (i := 422) (by decide +kernel), List.mem_of_getElem? (i := 423) (by decide +kernel)⟩
theorem lw_p20 : lw_okq (⟨"SerialDeskModel", "point", "(II)V"⟩, 22) := ⟨⟨by decide +kernel, by decide +kernel⟩, List.mem_of_getElem? (i := 309) (by decide +kernel), List.mem_of_getElem? (i := 426) (by decide +kernel), List.mem_of_getElem? (i := 427) (by decide +kernel)⟩
theorem lw_p21 : lw_okq (⟨"SerialDeskModel", "isDanger", "(II)Z"⟩, 22) := ⟨⟨by decide +kernel, by decide +kernel⟩, List.mem_of_getElem? (i := 309) (by decide +kernel), List.mem_of_getElem? (i := 430) (by decide +kernel), List.mem_of_getElem? (i := 431) (by decide +kernel)⟩
theorem lw_p22 : lw_okq (⟨"SerialDeskModel", "find", "(I)I"⟩, 22) := ⟨⟨by decide +kernel, by decide +kernel⟩, List.mem_of_getElem? (i := 309) (by decide +kernel), List.mem_of_getElem? (i := 438) (by decide +kernel), List.mem_of_getElem? (i := 439) (by decide +kernel)⟩
theorem lw_p23 : lw_okq (⟨"SerialDeskModel", "forget", "()V"⟩, 22) := ⟨⟨by decide +kernel, by decide +kernel⟩, List.mem_of_getElem? (i := 309) (by decide +kernel), List.mem_of_getElem? (i := 446) (by decide +kernel), List.mem_of_getElem? (i := 447) (by decide +kernel)⟩
theorem lw_p24 : lw_okq (⟨"SerialDeskModel", "drop", "(I)V"⟩, 22) := ⟨⟨by decide +kernel, by decide +kernel⟩, List.mem_of_getElem? (i := 309) (by decide +kernel), List.mem_of_getElem? (i := 450) (by decide +kernel), List.mem_of_getElem? (i := 451) (by decide +kernel)⟩
theorem lw_p25 : lw_okq (⟨"SerialDeskModel", "move", "(II)V"⟩, 22) := ⟨⟨by decide +kernel, by decide +kernel⟩, List.mem_of_getElem? (i := 309) (by decide +kernel), List.mem_of_getElem? (i := 454) (by decide +kernel), List.mem_of_getElem? (i := 455) (by decide +kernel)⟩
theorem lw_p26 : lw_okq (⟨"SerialDeskModel", "comesBack", "(I)Z"⟩, 22) := ⟨⟨by decide +kernel, by decide +kernel⟩, List.mem_of_getElem? (i := 309) (by decide +kernel), List.mem_of_getElem? (i := 478) (by decide +kernel), List.mem_of_getElem? (i := 479) (by decide +kernel)⟩
theorem lw_p27 : lw_okq (⟨"SerialDeskModel", "isBefore", "(II)Z"⟩, 22) := ⟨⟨by decide +kernel, by decide +kernel⟩, List.mem_of_getElem? (i := 309) (by decide +kernel), List.mem_of_getElem? (i := 482) (by decide +kernel), List.mem_of_getElem? (i := 483) (by decide +kernel)⟩
def lw_privs_2 : List (MethodName × Nat) := [(⟨"SerialDeskModel", "setRange", "(IIJJI)V"⟩, 22), (⟨"SerialDeskModel", "concurrent", "(II)Z"⟩, 22), (⟨"SerialDeskModel", "hasRead", "(II)Z"⟩, 22), (⟨"SerialDeskModel", "isIn", "(I)Z"⟩, 22), (⟨"SerialDeskModel", "point", "(II)V"⟩, 22), (⟨"SerialDeskModel", "isDanger", "(II)Z"⟩, 22), (⟨"SerialDeskModel", "find", "(I)I"⟩, 22), (⟨"SerialDeskModel", "forget", "()V"⟩, 22), (⟨"SerialDeskModel", "drop", "(I)V"⟩, 22), (⟨"SerialDeskModel", "move", "(II)V"⟩, 22), (⟨"SerialDeskModel", "comesBack", "(I)Z"⟩, 22), (⟨"SerialDeskModel", "isBefore", "(II)Z"⟩, 22)]
theorem lw_r2 : ∀ q ∈ lw_privs_2, lw_okq q := List.forall_mem_cons.mpr ⟨lw_p16, List.forall_mem_cons.mpr ⟨lw_p17, List.forall_mem_cons.mpr ⟨lw_p18, List.forall_mem_cons.mpr ⟨lw_p19, List.forall_mem_cons.mpr ⟨lw_p20, List.forall_mem_cons.mpr ⟨lw_p21, List.forall_mem_cons.mpr ⟨lw_p22, List.forall_mem_cons.mpr ⟨lw_p23, List.forall_mem_cons.mpr ⟨lw_p24, List.forall_mem_cons.mpr ⟨lw_p25, List.forall_mem_cons.mpr ⟨lw_p26, List.forall_mem_cons.mpr ⟨lw_p27, fun _ h => absurd h List.not_mem_nil⟩⟩⟩⟩⟩⟩⟩⟩⟩⟩⟩⟩
def lw_privs : List (MethodName × Nat) := lw_privs_1 ++ (lw_privs_2)
def lw_tbl : List Cond := k2_sels lw_privs ++ tables_1
theorem lw_privs_ok : ∀ q ∈ lw_privs, lw_okq q := by
  show ∀ q ∈ lw_privs_1 ++ (lw_privs_2), lw_okq q
  exact List.forall_mem_append.mpr ⟨lw_r1, lw_r2⟩

def lw_tt : List Cond := lw_tbl.filter goodWord
theorem lw_good : ∀ w ∈ lw_tt, (w.onTables && w.keeps) = true ∨ ∃ ty, w = .arrayClass ty := fun w hw => good_of_word (List.mem_filter.mp hw).2
def o_R : String := "SerialDesk$Range"
def o_T : String := "SerialDesk$Transaction"
def o_V : String := "SerialDesk$Version"
def o_D : String := "SerialDesk"
def o_M : String := "SerialDeskModel"
def o_L : String := "SerialDeskLaw"
def tb_0 : u_T := fun k => match k with
  | 0 => ("SerialDesk$Range", "column", "I", true)
  | 1 => ("SerialDesk$Range", "low", "J", true)
  | 2 => ("SerialDesk$Range", "high", "J", true)
  | 3 => ("SerialDesk$Range", "bounds", "I", true)
  | _ => ("SerialDesk$Range", "next", "LSerialDesk$Range;", false)
def ft_0 : Nat → FieldType := fun k => match k with
  | 0 => .int
  | 1 => .long
  | 2 => .long
  | 3 => .int
  | _ => .object "SerialDesk$Range"
theorem fn_0 : ∀ a, a < 5 → ∀ b, b < 5 → a ≠ b → (tb_0 a).2.1 ≠ (tb_0 b).2.1 := by decide +kernel
theorem ft_0_ok : ∀ k, k < 5 → parseFieldDescriptor (tb_0 k).2.2.1 = some (ft_0 k) := by decide +kernel
theorem iw_0 : ∀ w ∈ u_ws o_R tb_0 5, w ∈ lw_tt := fun w hw => List.mem_filter.mpr ⟨(by decide +kernel : ∀ w ∈ u_ws o_R tb_0 5, w ∈ lw_tbl) w hw, (by decide +kernel : ∀ w ∈ u_ws o_R tb_0 5, goodWord w = true) w hw⟩
def tb_1 : u_T := fun k => match k with
  | 0 => ("SerialDesk$Transaction", "id", "I", true)
  | 1 => ("SerialDesk$Transaction", "slot", "I", true)
  | 2 => ("SerialDesk$Transaction", "commitsAtBegin", "I", true)
  | 3 => ("SerialDesk$Transaction", "commitNumber", "I", false)
  | 4 => ("SerialDesk$Transaction", "doomed", "Z", false)
  | 5 => ("SerialDesk$Transaction", "arrows", "J", false)
  | 6 => ("SerialDesk$Transaction", "firstCommitPointedAt", "I", false)
  | 7 => ("SerialDesk$Transaction", "firstRange", "[LSerialDesk$Range;", true)
  | _ => ("SerialDesk$Transaction", "rangeCount", "[I", true)
def ft_1 : Nat → FieldType := fun k => match k with
  | 0 => .int
  | 1 => .int
  | 2 => .int
  | 3 => .int
  | 4 => .boolean
  | 5 => .long
  | 6 => .int
  | 7 => .array (.object "SerialDesk$Range")
  | _ => .array .int
theorem fn_1 : ∀ a, a < 9 → ∀ b, b < 9 → a ≠ b → (tb_1 a).2.1 ≠ (tb_1 b).2.1 := by decide +kernel
theorem ft_1_ok : ∀ k, k < 9 → parseFieldDescriptor (tb_1 k).2.2.1 = some (ft_1 k) := by decide +kernel
theorem iw_1 : ∀ w ∈ u_ws o_T tb_1 9, w ∈ lw_tt := fun w hw => List.mem_filter.mpr ⟨(by decide +kernel : ∀ w ∈ u_ws o_T tb_1 9, w ∈ lw_tbl) w hw, (by decide +kernel : ∀ w ∈ u_ws o_T tb_1 9, goodWord w = true) w hw⟩
def tb_2 : u_T := fun k => match k with
  | 0 => ("SerialDesk$Version", "values", "[J", true)
  | _ => ("SerialDesk$Version", "filled", "[Z", true)
def ft_2 : Nat → FieldType := fun k => match k with
  | 0 => .array .long
  | _ => .array .boolean
theorem fn_2 : ∀ a, a < 2 → ∀ b, b < 2 → a ≠ b → (tb_2 a).2.1 ≠ (tb_2 b).2.1 := by decide +kernel
theorem ft_2_ok : ∀ k, k < 2 → parseFieldDescriptor (tb_2 k).2.2.1 = some (ft_2 k) := by decide +kernel
theorem iw_2 : ∀ w ∈ u_ws o_V tb_2 2, w ∈ lw_tt := fun w hw => List.mem_filter.mpr ⟨(by decide +kernel : ∀ w ∈ u_ws o_V tb_2 2, w ∈ lw_tbl) w hw, (by decide +kernel : ∀ w ∈ u_ws o_V tb_2 2, goodWord w = true) w hw⟩
def tb_3 : u_T := fun k => match k with
  | 0 => ("SerialDesk", "inHand", "LSerialDesk$Version;", true)
  | 1 => ("SerialDesk", "bySession", "[LSerialDesk$Transaction;", true)
  | 2 => ("SerialDesk", "bySlot", "[LSerialDesk$Transaction;", true)
  | 3 => ("SerialDesk", "keptCount", "I", false)
  | 4 => ("SerialDesk", "begunCount", "I", false)
  | _ => ("SerialDesk", "commitCount", "I", false)
def ft_3 : Nat → FieldType := fun k => match k with
  | 0 => .object "SerialDesk$Version"
  | 1 => .array (.object "SerialDesk$Transaction")
  | 2 => .array (.object "SerialDesk$Transaction")
  | 3 => .int
  | 4 => .int
  | _ => .int
theorem fn_3 : ∀ a, a < 6 → ∀ b, b < 6 → a ≠ b → (tb_3 a).2.1 ≠ (tb_3 b).2.1 := by decide +kernel
theorem ft_3_ok : ∀ k, k < 6 → parseFieldDescriptor (tb_3 k).2.2.1 = some (ft_3 k) := by decide +kernel
theorem iw_3 : ∀ w ∈ u_ws o_D tb_3 6, w ∈ lw_tt := fun w hw => List.mem_filter.mpr ⟨(by decide +kernel : ∀ w ∈ u_ws o_D tb_3 6, w ∈ lw_tbl) w hw, (by decide +kernel : ∀ w ∈ u_ws o_D tb_3 6, goodWord w = true) w hw⟩
def tb_4 : u_T := fun k => match k with
  | 0 => ("SerialDeskModel", "begun", "I", false)
  | 1 => ("SerialDeskModel", "commits", "I", false)
  | 2 => ("SerialDeskModel", "kept", "I", false)
  | 3 => ("SerialDeskModel", "id", "[I", true)
  | 4 => ("SerialDeskModel", "session", "[I", true)
  | 5 => ("SerialDeskModel", "since", "[I", true)
  | 6 => ("SerialDeskModel", "place", "[I", true)
  | 7 => ("SerialDeskModel", "doomed", "[Z", true)
  | 8 => ("SerialDeskModel", "least", "[I", true)
  | 9 => ("SerialDeskModel", "arrows", "[Z", true)
  | 10 => ("SerialDeskModel", "ranges", "[I", true)
  | 11 => ("SerialDeskModel", "columns", "[I", true)
  | 12 => ("SerialDeskModel", "bounds", "[I", true)
  | 13 => ("SerialDeskModel", "lows", "[J", true)
  | 14 => ("SerialDeskModel", "highs", "[J", true)
  | 15 => ("SerialDeskModel", "sinceOf", "[I", true)
  | 16 => ("SerialDeskModel", "commitOf", "[I", true)
  | 17 => ("SerialDeskModel", "ever", "[J", true)
  | 18 => ("SerialDeskModel", "met", "[Z", true)
  | 19 => ("SerialDeskModel", "row", "[I", true)
  | 20 => ("SerialDeskModel", "has", "[Z", true)
  | _ => ("SerialDeskModel", "cells", "[J", true)
def ft_4 : Nat → FieldType := fun k => match k with
  | 0 => .int
  | 1 => .int
  | 2 => .int
  | 3 => .array .int
  | 4 => .array .int
  | 5 => .array .int
  | 6 => .array .int
  | 7 => .array .boolean
  | 8 => .array .int
  | 9 => .array .boolean
  | 10 => .array .int
  | 11 => .array .int
  | 12 => .array .int
  | 13 => .array .long
  | 14 => .array .long
  | 15 => .array .int
  | 16 => .array .int
  | 17 => .array .long
  | 18 => .array .boolean
  | 19 => .array .int
  | 20 => .array .boolean
  | _ => .array .long
theorem fn_4 : ∀ a, a < 22 → ∀ b, b < 22 → a ≠ b → (tb_4 a).2.1 ≠ (tb_4 b).2.1 := by decide +kernel
theorem ft_4_ok : ∀ k, k < 22 → parseFieldDescriptor (tb_4 k).2.2.1 = some (ft_4 k) := by decide +kernel
theorem iw_4 : ∀ w ∈ u_ws o_M tb_4 22, w ∈ lw_tt := fun w hw => List.mem_filter.mpr ⟨(by decide +kernel : ∀ w ∈ u_ws o_M tb_4 22, w ∈ lw_tbl) w hw, (by decide +kernel : ∀ w ∈ u_ws o_M tb_4 22, goodWord w = true) w hw⟩
abbrev vwCl : List vw_C := [(o_R, tb_0, 5), (o_T, tb_1, 9), (o_V, tb_2, 2), (o_D, tb_3, 6), (o_M, tb_4, 22)]
def aTys : List FieldType := [.long, .boolean, .object "SerialDesk$Transaction", .object "SerialDesk$Range", .int]
def nwF : List (String × Nat × String × String × String × String) := [("SerialDesk", 46, "SerialDesk$Transaction", "id", "I", "SerialDesk"), ("SerialDesk$Transaction", 67, "SerialDesk$Range", "next", "LSerialDesk$Range;", "SerialDesk"), ("SerialDesk", 124, "SerialDesk$Transaction", "firstCommitPointedAt", "I", "SerialDesk"), ("SerialDesk", 95, "SerialDesk$Transaction", "doomed", "Z", "SerialDesk"), ("SerialDesk", 105, "SerialDesk$Transaction", "commitNumber", "I", "SerialDesk"), ("SerialDesk", 121, "SerialDesk$Transaction", "commitsAtBegin", "I", "SerialDesk")]
def nwM : List (String × Nat × MethodName × String) := [("SerialDesk", 11, ⟨"SerialDesk$Version", "<init>", "()V"⟩, "SerialDesk"), ("SerialDesk$Transaction", 55, ⟨"SerialDesk", "isTable", "(I)Z"⟩, "SerialDesk"), ("SerialDesk$Transaction", 63, ⟨"SerialDesk", "wholeTable", "()LSerialDesk$Range;"⟩, "SerialDesk"), ("SerialDesk$Version", 19, ⟨"SerialDesk", "isColumn", "(I)Z"⟩, "SerialDesk")]
def nwO : List String := ["SerialDesk$Transaction", "SerialDesk$Range"]
abbrev b_V_init : ByteArray := prog_4_method_1_code
def y_V_init : MethodName := ⟨o_V, "<init>", "()V"⟩
abbrev b_D_init : ByteArray := prog_1_method_1_code
def y_D_init : MethodName := ⟨o_D, "<init>", "()V"⟩
abbrev b_D_freeSlot : ByteArray := prog_1_method_20_code
def y_D_freeSlot : MethodName := ⟨o_D, "freeSlot", "()I"⟩
abbrev b_D_isSession : ByteArray := prog_1_method_15_code
def y_D_isSession : MethodName := ⟨o_D, "isSession", "(I)Z"⟩
abbrev b_T_init : ByteArray := prog_3_method_1_code
def y_T_init : MethodName := ⟨o_T, "<init>", "(III)V"⟩
abbrev b_D_begin : ByteArray := prog_1_method_2_code
def y_D_begin : MethodName := ⟨o_D, "begin", "(I)I"⟩
abbrev b_D_isColumn : ByteArray := prog_1_method_17_code
def y_D_isColumn : MethodName := ⟨o_D, "isColumn", "(I)Z"⟩
abbrev b_D_isTable : ByteArray := prog_1_method_16_code
def y_D_isTable : MethodName := ⟨o_D, "isTable", "(I)Z"⟩
abbrev b_D_runningIn : ByteArray := prog_1_method_19_code
def y_D_runningIn : MethodName := ⟨o_D, "runningIn", "(I)LSerialDesk$Transaction;"⟩
abbrev b_R_init : ByteArray := prog_2_method_1_code
def y_R_init : MethodName := ⟨o_R, "<init>", "(IJJI)V"⟩
abbrev b_D_wholeTable : ByteArray := prog_1_method_18_code
def y_D_wholeTable : MethodName := ⟨o_D, "wholeTable", "()LSerialDesk$Range;"⟩
abbrev b_R_lacks : ByteArray := prog_2_method_5_code
def y_R_lacks : MethodName := ⟨o_R, "lacks", "(I)Z"⟩
abbrev b_R_isSameAs : ByteArray := prog_2_method_3_code
def y_R_isSameAs : MethodName := ⟨o_R, "isSameAs", "(LSerialDesk$Range;)Z"⟩
abbrev b_R_isWholeTable : ByteArray := prog_2_method_2_code
def y_R_isWholeTable : MethodName := ⟨o_R, "isWholeTable", "()Z"⟩
abbrev b_T_isCovered : ByteArray := prog_3_method_10_code
def y_T_isCovered : MethodName := ⟨o_T, "isCovered", "(ILSerialDesk$Range;)Z"⟩
abbrev b_T_addRange : ByteArray := prog_3_method_9_code
def y_T_addRange : MethodName := ⟨o_T, "addRange", "(ILSerialDesk$Range;)I"⟩
abbrev b_D_read : ByteArray := prog_1_method_3_code
def y_D_read : MethodName := ⟨o_D, "read", "(IIIJJI)I"⟩
abbrev b_V_fill : ByteArray := prog_4_method_2_code
def y_V_fill : MethodName := ⟨o_V, "fill", "(IJ)V"⟩
abbrev b_D_cell : ByteArray := prog_1_method_4_code
def y_D_cell : MethodName := ⟨o_D, "cell", "(IJ)Z"⟩
abbrev b_V_empty : ByteArray := prog_4_method_3_code
def y_V_empty : MethodName := ⟨o_V, "empty", "()V"⟩
abbrev b_D_clear : ByteArray := prog_1_method_5_code
def y_D_clear : MethodName := ⟨o_D, "clear", "()V"⟩
abbrev b_T_isRunning : ByteArray := prog_3_method_2_code
def y_T_isRunning : MethodName := ⟨o_T, "isRunning", "()Z"⟩
abbrev b_T_committedBefore : ByteArray := prog_3_method_3_code
def y_T_committedBefore : MethodName := ⟨o_T, "committedBefore", "(I)Z"⟩
abbrev b_D_isFirstOfDanger : ByteArray := prog_1_method_23_code
def y_D_isFirstOfDanger : MethodName := ⟨o_D, "isFirstOfDanger", "(LSerialDesk$Transaction;LSerialDesk$Transaction;)Z"⟩
abbrev b_R_isAboveLow : ByteArray := prog_2_method_6_code
def y_R_isAboveLow : MethodName := ⟨o_R, "isAboveLow", "(J)Z"⟩
abbrev b_R_isBelowHigh : ByteArray := prog_2_method_7_code
def y_R_isBelowHigh : MethodName := ⟨o_R, "isBelowHigh", "(J)Z"⟩
abbrev b_V_isFilled : ByteArray := prog_4_method_4_code
def y_V_isFilled : MethodName := ⟨o_V, "isFilled", "(I)Z"⟩
abbrev b_V_valueOf : ByteArray := prog_4_method_5_code
def y_V_valueOf : MethodName := ⟨o_V, "valueOf", "(I)J"⟩
abbrev b_R_holds : ByteArray := prog_2_method_4_code
def y_R_holds : MethodName := ⟨o_R, "holds", "(LSerialDesk$Version;)Z"⟩
abbrev b_T_hasRangeWith : ByteArray := prog_3_method_11_code
def y_T_hasRangeWith : MethodName := ⟨o_T, "hasRangeWith", "(ILSerialDesk$Version;)Z"⟩
abbrev b_T_isConcurrentWith : ByteArray := prog_3_method_4_code
def y_T_isConcurrentWith : MethodName := ⟨o_T, "isConcurrentWith", "(LSerialDesk$Transaction;)Z"⟩
abbrev b_T_noteCommitPointedAt : ByteArray := prog_3_method_8_code
def y_T_noteCommitPointedAt : MethodName := ⟨o_T, "noteCommitPointedAt", "(I)V"⟩
abbrev b_T_pointAt : ByteArray := prog_3_method_6_code
def y_T_pointAt : MethodName := ⟨o_T, "pointAt", "(LSerialDesk$Transaction;)V"⟩
abbrev b_D_write : ByteArray := prog_1_method_6_code
def y_D_write : MethodName := ⟨o_D, "write", "(II)Z"⟩
abbrev b_T_pointsAt : ByteArray := prog_3_method_5_code
def y_T_pointsAt : MethodName := ⟨o_T, "pointsAt", "(LSerialDesk$Transaction;)Z"⟩
abbrev b_D_isPointedAtByOneNotBefore : ByteArray := prog_1_method_25_code
def y_D_isPointedAtByOneNotBefore : MethodName := ⟨o_D, "isPointedAtByOneNotBefore", "(LSerialDesk$Transaction;I)Z"⟩
abbrev b_D_isSecondOfDanger : ByteArray := prog_1_method_24_code
def y_D_isSecondOfDanger : MethodName := ⟨o_D, "isSecondOfDanger", "(LSerialDesk$Transaction;LSerialDesk$Transaction;)Z"⟩
abbrev b_D_keptWithId : ByteArray := prog_1_method_21_code
def y_D_keptWithId : MethodName := ⟨o_D, "keptWithId", "(I)LSerialDesk$Transaction;"⟩
abbrev b_D_miss : ByteArray := prog_1_method_7_code
def y_D_miss : MethodName := ⟨o_D, "miss", "(II)Z"⟩
abbrev b_D_commitsAtEarliestBegin : ByteArray := prog_1_method_28_code
def y_D_commitsAtEarliestBegin : MethodName := ⟨o_D, "commitsAtEarliestBegin", "()I"⟩
abbrev b_T_forgetArrowTo : ByteArray := prog_3_method_7_code
def y_T_forgetArrowTo : MethodName := ⟨o_T, "forgetArrowTo", "(LSerialDesk$Transaction;)V"⟩
abbrev b_D_drop : ByteArray := prog_1_method_29_code
def y_D_drop : MethodName := ⟨o_D, "drop", "(LSerialDesk$Transaction;)V"⟩
abbrev b_D_dropNoLongerKept : ByteArray := prog_1_method_27_code
def y_D_dropNoLongerKept : MethodName := ⟨o_D, "dropNoLongerKept", "()V"⟩
abbrev b_D_tellCommit : ByteArray := prog_1_method_26_code
def y_D_tellCommit : MethodName := ⟨o_D, "tellCommit", "(LSerialDesk$Transaction;)V"⟩
abbrev b_D_commit : ByteArray := prog_1_method_8_code
def y_D_commit : MethodName := ⟨o_D, "commit", "(I)I"⟩
abbrev b_D_abort : ByteArray := prog_1_method_9_code
def y_D_abort : MethodName := ⟨o_D, "abort", "(I)Z"⟩
abbrev b_D_doom : ByteArray := prog_1_method_10_code
def y_D_doom : MethodName := ⟨o_D, "doom", "(I)Z"⟩
abbrev b_D_arrowsInto : ByteArray := prog_1_method_22_code
def y_D_arrowsInto : MethodName := ⟨o_D, "arrowsInto", "(LSerialDesk$Transaction;)I"⟩
abbrev b_D_look : ByteArray := prog_1_method_11_code
def y_D_look : MethodName := ⟨o_D, "look", "(II)I"⟩
abbrev b_D_arrow : ByteArray := prog_1_method_12_code
def y_D_arrow : MethodName := ⟨o_D, "arrow", "(II)Z"⟩
abbrev b_D_rings : ByteArray := prog_1_method_13_code
def y_D_rings : MethodName := ⟨o_D, "rings", "()I"⟩
abbrev b_D_count : ByteArray := prog_1_method_14_code
def y_D_count : MethodName := ⟨o_D, "count", "(I)I"⟩
abbrev b_M_init : ByteArray := prog_6_method_1_code
def y_M_init : MethodName := ⟨o_M, "<init>", "()V"⟩
abbrev b_M_running : ByteArray := prog_6_method_2_code
def y_M_running : MethodName := ⟨o_M, "running", "(I)I"⟩
abbrev b_M_find : ByteArray := prog_6_method_3_code
def y_M_find : MethodName := ⟨o_M, "find", "(I)I"⟩
abbrev b_M_concurrent : ByteArray := prog_6_method_4_code
def y_M_concurrent : MethodName := ⟨o_M, "concurrent", "(II)Z"⟩
abbrev b_M_begin : ByteArray := prog_6_method_5_code
def y_M_begin : MethodName := ⟨o_M, "begin", "(I)I"⟩
abbrev b_M_isSame : ByteArray := prog_6_method_6_code
def y_M_isSame : MethodName := ⟨o_M, "isSame", "(IIJJI)Z"⟩
abbrev b_M_setRange : ByteArray := prog_6_method_7_code
def y_M_setRange : MethodName := ⟨o_M, "setRange", "(IIJJI)V"⟩
abbrev b_M_read : ByteArray := prog_6_method_8_code
def y_M_read : MethodName := ⟨o_M, "read", "(IIIJJI)I"⟩
abbrev b_M_cell : ByteArray := prog_6_method_9_code
def y_M_cell : MethodName := ⟨o_M, "cell", "(IJ)Z"⟩
abbrev b_M_clear : ByteArray := prog_6_method_10_code
def y_M_clear : MethodName := ⟨o_M, "clear", "()V"⟩
abbrev b_M_isIn : ByteArray := prog_6_method_11_code
def y_M_isIn : MethodName := ⟨o_M, "isIn", "(I)Z"⟩
abbrev b_M_hasRead : ByteArray := prog_6_method_12_code
def y_M_hasRead : MethodName := ⟨o_M, "hasRead", "(II)Z"⟩
abbrev b_M_isDanger : ByteArray := prog_6_method_13_code
def y_M_isDanger : MethodName := ⟨o_M, "isDanger", "(II)Z"⟩
abbrev b_M_point : ByteArray := prog_6_method_14_code
def y_M_point : MethodName := ⟨o_M, "point", "(II)V"⟩
abbrev b_M_write : ByteArray := prog_6_method_15_code
def y_M_write : MethodName := ⟨o_M, "write", "(II)Z"⟩
abbrev b_M_miss : ByteArray := prog_6_method_16_code
def y_M_miss : MethodName := ⟨o_M, "miss", "(II)Z"⟩
abbrev b_M_move : ByteArray := prog_6_method_17_code
def y_M_move : MethodName := ⟨o_M, "move", "(II)V"⟩
abbrev b_M_drop : ByteArray := prog_6_method_18_code
def y_M_drop : MethodName := ⟨o_M, "drop", "(I)V"⟩
abbrev b_M_forget : ByteArray := prog_6_method_19_code
def y_M_forget : MethodName := ⟨o_M, "forget", "()V"⟩
abbrev b_M_commit : ByteArray := prog_6_method_20_code
def y_M_commit : MethodName := ⟨o_M, "commit", "(I)I"⟩
abbrev b_M_abort : ByteArray := prog_6_method_21_code
def y_M_abort : MethodName := ⟨o_M, "abort", "(I)Z"⟩
abbrev b_M_doom : ByteArray := prog_6_method_22_code
def y_M_doom : MethodName := ⟨o_M, "doom", "(I)Z"⟩
abbrev b_M_look : ByteArray := prog_6_method_23_code
def y_M_look : MethodName := ⟨o_M, "look", "(II)I"⟩
abbrev b_M_arrow : ByteArray := prog_6_method_24_code
def y_M_arrow : MethodName := ⟨o_M, "arrow", "(II)Z"⟩
abbrev b_M_isBefore : ByteArray := prog_6_method_25_code
def y_M_isBefore : MethodName := ⟨o_M, "isBefore", "(II)Z"⟩
abbrev b_M_comesBack : ByteArray := prog_6_method_26_code
def y_M_comesBack : MethodName := ⟨o_M, "comesBack", "(I)Z"⟩
abbrev b_M_rings : ByteArray := prog_6_method_27_code
def y_M_rings : MethodName := ⟨o_M, "rings", "()I"⟩
abbrev b_M_count : ByteArray := prog_6_method_28_code
def y_M_count : MethodName := ⟨o_M, "count", "(I)I"⟩
set_option maxRecDepth 20000 in
theorem tv_27 : (Jvm.Cond.selects "SerialDeskModel" ({ cls := "SerialDeskModel", name := "isBefore", desc := "(II)Z" } : Jvm.MethodName) ({ cls := "SerialDeskModel", name := "isBefore", desc := "(II)Z" } : Jvm.MethodName)) ∈ lw_tt := List.mem_filter.mpr ⟨List.mem_of_getElem? (i := 27) rfl, rfl⟩
set_option maxRecDepth 20000 in
theorem tv_26 : (Jvm.Cond.selects "SerialDeskModel" ({ cls := "SerialDeskModel", name := "comesBack", desc := "(I)Z" } : Jvm.MethodName) ({ cls := "SerialDeskModel", name := "comesBack", desc := "(I)Z" } : Jvm.MethodName)) ∈ lw_tt := List.mem_filter.mpr ⟨List.mem_of_getElem? (i := 26) rfl, rfl⟩
set_option maxRecDepth 20000 in
theorem tv_25 : (Jvm.Cond.selects "SerialDeskModel" ({ cls := "SerialDeskModel", name := "move", desc := "(II)V" } : Jvm.MethodName) ({ cls := "SerialDeskModel", name := "move", desc := "(II)V" } : Jvm.MethodName)) ∈ lw_tt := List.mem_filter.mpr ⟨List.mem_of_getElem? (i := 25) rfl, rfl⟩
set_option maxRecDepth 20000 in
theorem tv_24 : (Jvm.Cond.selects "SerialDeskModel" ({ cls := "SerialDeskModel", name := "drop", desc := "(I)V" } : Jvm.MethodName) ({ cls := "SerialDeskModel", name := "drop", desc := "(I)V" } : Jvm.MethodName)) ∈ lw_tt := List.mem_filter.mpr ⟨List.mem_of_getElem? (i := 24) rfl, rfl⟩
set_option maxRecDepth 20000 in
theorem tv_23 : (Jvm.Cond.selects "SerialDeskModel" ({ cls := "SerialDeskModel", name := "forget", desc := "()V" } : Jvm.MethodName) ({ cls := "SerialDeskModel", name := "forget", desc := "()V" } : Jvm.MethodName)) ∈ lw_tt := List.mem_filter.mpr ⟨List.mem_of_getElem? (i := 23) rfl, rfl⟩
set_option maxRecDepth 20000 in
theorem tv_22 : (Jvm.Cond.selects "SerialDeskModel" ({ cls := "SerialDeskModel", name := "find", desc := "(I)I" } : Jvm.MethodName) ({ cls := "SerialDeskModel", name := "find", desc := "(I)I" } : Jvm.MethodName)) ∈ lw_tt := List.mem_filter.mpr ⟨List.mem_of_getElem? (i := 22) rfl, rfl⟩
set_option maxRecDepth 20000 in
theorem tv_21 : (Jvm.Cond.selects "SerialDeskModel" ({ cls := "SerialDeskModel", name := "isDanger", desc := "(II)Z" } : Jvm.MethodName) ({ cls := "SerialDeskModel", name := "isDanger", desc := "(II)Z" } : Jvm.MethodName)) ∈ lw_tt := List.mem_filter.mpr ⟨List.mem_of_getElem? (i := 21) rfl, rfl⟩
set_option maxRecDepth 20000 in
theorem tv_20 : (Jvm.Cond.selects "SerialDeskModel" ({ cls := "SerialDeskModel", name := "point", desc := "(II)V" } : Jvm.MethodName) ({ cls := "SerialDeskModel", name := "point", desc := "(II)V" } : Jvm.MethodName)) ∈ lw_tt := List.mem_filter.mpr ⟨List.mem_of_getElem? (i := 20) rfl, rfl⟩
set_option maxRecDepth 20000 in
theorem tv_19 : (Jvm.Cond.selects "SerialDeskModel" ({ cls := "SerialDeskModel", name := "isIn", desc := "(I)Z" } : Jvm.MethodName) ({ cls := "SerialDeskModel", name := "isIn", desc := "(I)Z" } : Jvm.MethodName)) ∈ lw_tt := List.mem_filter.mpr ⟨List.mem_of_getElem? (i := 19) rfl, rfl⟩
set_option maxRecDepth 20000 in
theorem tv_18 : (Jvm.Cond.selects "SerialDeskModel" ({ cls := "SerialDeskModel", name := "hasRead", desc := "(II)Z" } : Jvm.MethodName) ({ cls := "SerialDeskModel", name := "hasRead", desc := "(II)Z" } : Jvm.MethodName)) ∈ lw_tt := List.mem_filter.mpr ⟨List.mem_of_getElem? (i := 18) rfl, rfl⟩
set_option maxRecDepth 20000 in
theorem tv_17 : (Jvm.Cond.selects "SerialDeskModel" ({ cls := "SerialDeskModel", name := "concurrent", desc := "(II)Z" } : Jvm.MethodName) ({ cls := "SerialDeskModel", name := "concurrent", desc := "(II)Z" } : Jvm.MethodName)) ∈ lw_tt := List.mem_filter.mpr ⟨List.mem_of_getElem? (i := 17) rfl, rfl⟩
set_option maxRecDepth 20000 in
theorem tv_16 : (Jvm.Cond.selects "SerialDeskModel" ({ cls := "SerialDeskModel", name := "setRange", desc := "(IIJJI)V" } : Jvm.MethodName) ({ cls := "SerialDeskModel", name := "setRange", desc := "(IIJJI)V" } : Jvm.MethodName)) ∈ lw_tt := List.mem_filter.mpr ⟨List.mem_of_getElem? (i := 16) rfl, rfl⟩
set_option maxRecDepth 20000 in
theorem tv_15 : (Jvm.Cond.selects "SerialDeskModel" ({ cls := "SerialDeskModel", name := "isSame", desc := "(IIJJI)Z" } : Jvm.MethodName) ({ cls := "SerialDeskModel", name := "isSame", desc := "(IIJJI)Z" } : Jvm.MethodName)) ∈ lw_tt := List.mem_filter.mpr ⟨List.mem_of_getElem? (i := 15) rfl, rfl⟩
set_option maxRecDepth 20000 in
theorem tv_14 : (Jvm.Cond.selects "SerialDeskModel" ({ cls := "SerialDeskModel", name := "running", desc := "(I)I" } : Jvm.MethodName) ({ cls := "SerialDeskModel", name := "running", desc := "(I)I" } : Jvm.MethodName)) ∈ lw_tt := List.mem_filter.mpr ⟨List.mem_of_getElem? (i := 14) rfl, rfl⟩
set_option maxRecDepth 20000 in
theorem tv_13 : (Jvm.Cond.selects "SerialDesk" ({ cls := "SerialDesk", name := "arrowsInto", desc := "(LSerialDesk$Transaction;)I" } : Jvm.MethodName) ({ cls := "SerialDesk", name := "arrowsInto", desc := "(LSerialDesk$Transaction;)I" } : Jvm.MethodName)) ∈ lw_tt := List.mem_filter.mpr ⟨List.mem_of_getElem? (i := 13) rfl, rfl⟩
set_option maxRecDepth 20000 in
theorem tv_12 : (Jvm.Cond.selects "SerialDesk" ({ cls := "SerialDesk", name := "drop", desc := "(LSerialDesk$Transaction;)V" } : Jvm.MethodName) ({ cls := "SerialDesk", name := "drop", desc := "(LSerialDesk$Transaction;)V" } : Jvm.MethodName)) ∈ lw_tt := List.mem_filter.mpr ⟨List.mem_of_getElem? (i := 12) rfl, rfl⟩
set_option maxRecDepth 20000 in
theorem tv_11 : (Jvm.Cond.selects "SerialDesk" ({ cls := "SerialDesk", name := "commitsAtEarliestBegin", desc := "()I" } : Jvm.MethodName) ({ cls := "SerialDesk", name := "commitsAtEarliestBegin", desc := "()I" } : Jvm.MethodName)) ∈ lw_tt := List.mem_filter.mpr ⟨List.mem_of_getElem? (i := 11) rfl, rfl⟩
set_option maxRecDepth 20000 in
theorem tv_10 : (Jvm.Cond.selects "SerialDesk" ({ cls := "SerialDesk", name := "dropNoLongerKept", desc := "()V" } : Jvm.MethodName) ({ cls := "SerialDesk", name := "dropNoLongerKept", desc := "()V" } : Jvm.MethodName)) ∈ lw_tt := List.mem_filter.mpr ⟨List.mem_of_getElem? (i := 10) rfl, rfl⟩
set_option maxRecDepth 20000 in
theorem tv_9 : (Jvm.Cond.selects "SerialDesk" ({ cls := "SerialDesk", name := "tellCommit", desc := "(LSerialDesk$Transaction;)V" } : Jvm.MethodName) ({ cls := "SerialDesk", name := "tellCommit", desc := "(LSerialDesk$Transaction;)V" } : Jvm.MethodName)) ∈ lw_tt := List.mem_filter.mpr ⟨List.mem_of_getElem? (i := 9) rfl, rfl⟩
set_option maxRecDepth 20000 in
theorem tv_8 : (Jvm.Cond.selects "SerialDesk" ({ cls := "SerialDesk", name := "isPointedAtByOneNotBefore", desc := "(LSerialDesk$Transaction;I)Z" } : Jvm.MethodName) ({ cls := "SerialDesk", name := "isPointedAtByOneNotBefore", desc := "(LSerialDesk$Transaction;I)Z" } : Jvm.MethodName)) ∈ lw_tt := List.mem_filter.mpr ⟨List.mem_of_getElem? (i := 8) rfl, rfl⟩
set_option maxRecDepth 20000 in
theorem tv_7 : (Jvm.Cond.selects "SerialDesk" ({ cls := "SerialDesk", name := "isSecondOfDanger", desc := "(LSerialDesk$Transaction;LSerialDesk$Transaction;)Z" } : Jvm.MethodName) ({ cls := "SerialDesk", name := "isSecondOfDanger", desc := "(LSerialDesk$Transaction;LSerialDesk$Transaction;)Z" } : Jvm.MethodName)) ∈ lw_tt := List.mem_filter.mpr ⟨List.mem_of_getElem? (i := 7) rfl, rfl⟩
set_option maxRecDepth 20000 in
theorem tv_6 : (Jvm.Cond.selects "SerialDesk" ({ cls := "SerialDesk", name := "keptWithId", desc := "(I)LSerialDesk$Transaction;" } : Jvm.MethodName) ({ cls := "SerialDesk", name := "keptWithId", desc := "(I)LSerialDesk$Transaction;" } : Jvm.MethodName)) ∈ lw_tt := List.mem_filter.mpr ⟨List.mem_of_getElem? (i := 6) rfl, rfl⟩
set_option maxRecDepth 20000 in
theorem tv_5 : (Jvm.Cond.selects "SerialDesk$Range" ({ cls := "SerialDesk$Range", name := "isBelowHigh", desc := "(J)Z" } : Jvm.MethodName) ({ cls := "SerialDesk$Range", name := "isBelowHigh", desc := "(J)Z" } : Jvm.MethodName)) ∈ lw_tt := List.mem_filter.mpr ⟨List.mem_of_getElem? (i := 5) rfl, rfl⟩
set_option maxRecDepth 20000 in
theorem tv_4 : (Jvm.Cond.selects "SerialDesk$Range" ({ cls := "SerialDesk$Range", name := "isAboveLow", desc := "(J)Z" } : Jvm.MethodName) ({ cls := "SerialDesk$Range", name := "isAboveLow", desc := "(J)Z" } : Jvm.MethodName)) ∈ lw_tt := List.mem_filter.mpr ⟨List.mem_of_getElem? (i := 4) rfl, rfl⟩
set_option maxRecDepth 20000 in
theorem tv_3 : (Jvm.Cond.selects "SerialDesk$Range" ({ cls := "SerialDesk$Range", name := "lacks", desc := "(I)Z" } : Jvm.MethodName) ({ cls := "SerialDesk$Range", name := "lacks", desc := "(I)Z" } : Jvm.MethodName)) ∈ lw_tt := List.mem_filter.mpr ⟨List.mem_of_getElem? (i := 3) rfl, rfl⟩
set_option maxRecDepth 20000 in
theorem tv_2 : (Jvm.Cond.selects "SerialDesk$Transaction" ({ cls := "SerialDesk$Transaction", name := "isCovered", desc := "(ILSerialDesk$Range;)Z" } : Jvm.MethodName) ({ cls := "SerialDesk$Transaction", name := "isCovered", desc := "(ILSerialDesk$Range;)Z" } : Jvm.MethodName)) ∈ lw_tt := List.mem_filter.mpr ⟨List.mem_of_getElem? (i := 2) rfl, rfl⟩
set_option maxRecDepth 20000 in
theorem tv_1 : (Jvm.Cond.selects "SerialDesk" ({ cls := "SerialDesk", name := "runningIn", desc := "(I)LSerialDesk$Transaction;" } : Jvm.MethodName) ({ cls := "SerialDesk", name := "runningIn", desc := "(I)LSerialDesk$Transaction;" } : Jvm.MethodName)) ∈ lw_tt := List.mem_filter.mpr ⟨List.mem_of_getElem? (i := 1) rfl, rfl⟩
set_option maxRecDepth 20000 in
theorem tv_0 : (Jvm.Cond.selects "SerialDesk" ({ cls := "SerialDesk", name := "freeSlot", desc := "()I" } : Jvm.MethodName) ({ cls := "SerialDesk", name := "freeSlot", desc := "()I" } : Jvm.MethodName)) ∈ lw_tt := List.mem_filter.mpr ⟨List.mem_of_getElem? (i := 0) rfl, rfl⟩
set_option maxRecDepth 20000 in
theorem tw_1 : (Jvm.Cond.initialized "SerialDesk") ∈ lw_tt := List.mem_filter.mpr ⟨List.mem_of_getElem? (i := 29) rfl, rfl⟩
set_option maxRecDepth 20000 in
theorem tw_2 : (Jvm.Cond.initialized "SerialDesk$Version") ∈ lw_tt := List.mem_filter.mpr ⟨List.mem_of_getElem? (i := 30) rfl, rfl⟩
set_option maxRecDepth 20000 in
theorem tw_3 : (Jvm.Cond.initialized "SerialDeskModel") ∈ lw_tt := List.mem_filter.mpr ⟨List.mem_of_getElem? (i := 31) rfl, rfl⟩
set_option maxRecDepth 20000 in
theorem tw_4 : (Jvm.Cond.initialized "SerialDesk$Transaction") ∈ lw_tt := List.mem_filter.mpr ⟨List.mem_of_getElem? (i := 32) rfl, rfl⟩
set_option maxRecDepth 20000 in
theorem tw_5 : (Jvm.Cond.initialized "SerialDesk$Range") ∈ lw_tt := List.mem_filter.mpr ⟨List.mem_of_getElem? (i := 33) rfl, rfl⟩
set_option maxRecDepth 20000 in
theorem tw_6 : (Jvm.Cond.classLink "SerialDeskLaw" (7 : Nat) "SerialDesk") ∈ lw_tt := List.mem_filter.mpr ⟨List.mem_of_getElem? (i := 34) rfl, rfl⟩
set_option maxRecDepth 20000 in
theorem tw_7 : (Jvm.Cond.instantiable "SerialDesk" (6 : Nat)) ∈ lw_tt := List.mem_filter.mpr ⟨List.mem_of_getElem? (i := 35) rfl, rfl⟩
set_option maxRecDepth 20000 in
theorem tw_8 : (Jvm.Cond.methodLink "SerialDeskLaw" (9 : Nat) ({ cls := "SerialDesk", name := "<init>", desc := "()V" } : Jvm.MethodName)) ∈ lw_tt := List.mem_filter.mpr ⟨List.mem_of_getElem? (i := 36) rfl, rfl⟩
set_option maxRecDepth 20000 in
theorem tw_9 : (Jvm.Cond.instanceMethod ({ cls := "SerialDesk", name := "<init>", desc := "()V" } : Jvm.MethodName)) ∈ lw_tt := List.mem_filter.mpr ⟨List.mem_of_getElem? (i := 37) rfl, rfl⟩
set_option maxRecDepth 20000 in
theorem tw_10 : (Jvm.Cond.code ({ cls := "SerialDesk", name := "<init>", desc := "()V" } : Jvm.MethodName) prog_1_method_1_code (1 : Nat) (Option.none : Option Jvm.ClassFile.FieldType)) ∈ lw_tt := List.mem_filter.mpr ⟨List.mem_of_getElem? (i := 38) rfl, rfl⟩
set_option maxRecDepth 20000 in
theorem tw_11 : (Jvm.Cond.methodLink "SerialDesk" (3 : Nat) ({ cls := "java/lang/Object", name := "<init>", desc := "()V" } : Jvm.MethodName)) ∈ lw_tt := List.mem_filter.mpr ⟨List.mem_of_getElem? (i := 39) rfl, rfl⟩
set_option maxRecDepth 20000 in
theorem tw_12 : (Jvm.Cond.instanceMethod ({ cls := "java/lang/Object", name := "<init>", desc := "()V" } : Jvm.MethodName)) ∈ lw_tt := List.mem_filter.mpr ⟨List.mem_of_getElem? (i := 40) rfl, rfl⟩
set_option maxRecDepth 20000 in
theorem tw_13 : (Jvm.Cond.code ({ cls := "java/lang/Object", name := "<init>", desc := "()V" } : Jvm.MethodName) object_method_1_code (1 : Nat) (Option.none : Option Jvm.ClassFile.FieldType)) ∈ lw_tt := List.mem_filter.mpr ⟨List.mem_of_getElem? (i := 41) rfl, rfl⟩
set_option maxRecDepth 20000 in
theorem tw_14 : (Jvm.Cond.classLink "SerialDesk" (9 : Nat) "SerialDesk$Version") ∈ lw_tt := List.mem_filter.mpr ⟨List.mem_of_getElem? (i := 42) rfl, rfl⟩
set_option maxRecDepth 20000 in
theorem tw_15 : (Jvm.Cond.instantiable "SerialDesk$Version" (2 : Nat)) ∈ lw_tt := List.mem_filter.mpr ⟨List.mem_of_getElem? (i := 43) rfl, rfl⟩
set_option maxRecDepth 20000 in
theorem tw_17 : (Jvm.Cond.instanceMethod ({ cls := "SerialDesk$Version", name := "<init>", desc := "()V" } : Jvm.MethodName)) ∈ lw_tt := List.mem_filter.mpr ⟨List.mem_of_getElem? (i := 45) rfl, rfl⟩
set_option maxRecDepth 20000 in
theorem tw_18 : (Jvm.Cond.code ({ cls := "SerialDesk$Version", name := "<init>", desc := "()V" } : Jvm.MethodName) prog_4_method_1_code (1 : Nat) (Option.none : Option Jvm.ClassFile.FieldType)) ∈ lw_tt := List.mem_filter.mpr ⟨List.mem_of_getElem? (i := 46) rfl, rfl⟩
set_option maxRecDepth 20000 in
theorem tw_19 : (Jvm.Cond.methodLink "SerialDesk$Version" (3 : Nat) ({ cls := "java/lang/Object", name := "<init>", desc := "()V" } : Jvm.MethodName)) ∈ lw_tt := List.mem_filter.mpr ⟨List.mem_of_getElem? (i := 47) rfl, rfl⟩
set_option maxRecDepth 20000 in
theorem tw_20 : (Jvm.Cond.fieldLink "SerialDesk$Version" (9 : Nat) "SerialDesk$Version" "values" "[J") ∈ lw_tt := List.mem_filter.mpr ⟨List.mem_of_getElem? (i := 48) rfl, rfl⟩
set_option maxRecDepth 20000 in
theorem tw_21 : (Jvm.Cond.fieldLink "SerialDesk$Version" (15 : Nat) "SerialDesk$Version" "filled" "[Z") ∈ lw_tt := List.mem_filter.mpr ⟨List.mem_of_getElem? (i := 49) rfl, rfl⟩
set_option maxRecDepth 20000 in
theorem tw_27 : (Jvm.Cond.arrayClass Jvm.ClassFile.FieldType.long) ∈ lw_tt := List.mem_filter.mpr ⟨List.mem_of_getElem? (i := 55) rfl, rfl⟩
set_option maxRecDepth 20000 in
theorem tw_28 : (Jvm.Cond.arrayClass Jvm.ClassFile.FieldType.boolean) ∈ lw_tt := List.mem_filter.mpr ⟨List.mem_of_getElem? (i := 56) rfl, rfl⟩
set_option maxRecDepth 20000 in
theorem tw_29 : (Jvm.Cond.classLink "SerialDesk" (16 : Nat) "SerialDesk$Transaction") ∈ lw_tt := List.mem_filter.mpr ⟨List.mem_of_getElem? (i := 57) rfl, rfl⟩
set_option maxRecDepth 20000 in
theorem tw_31 : (Jvm.Cond.fieldLink "SerialDesk" (12 : Nat) "SerialDesk" "inHand" "LSerialDesk$Version;") ∈ lw_tt := List.mem_filter.mpr ⟨List.mem_of_getElem? (i := 59) rfl, rfl⟩
set_option maxRecDepth 20000 in
theorem tw_32 : (Jvm.Cond.fieldLink "SerialDesk" (18 : Nat) "SerialDesk" "bySession" "[LSerialDesk$Transaction;") ∈ lw_tt := List.mem_filter.mpr ⟨List.mem_of_getElem? (i := 60) rfl, rfl⟩
set_option maxRecDepth 20000 in
theorem tw_33 : (Jvm.Cond.fieldLink "SerialDesk" (22 : Nat) "SerialDesk" "bySlot" "[LSerialDesk$Transaction;") ∈ lw_tt := List.mem_filter.mpr ⟨List.mem_of_getElem? (i := 61) rfl, rfl⟩
set_option maxRecDepth 20000 in
theorem tw_34 : (Jvm.Cond.fieldLink "SerialDesk" (25 : Nat) "SerialDesk" "keptCount" "I") ∈ lw_tt := List.mem_filter.mpr ⟨List.mem_of_getElem? (i := 62) rfl, rfl⟩
set_option maxRecDepth 20000 in
theorem tw_35 : (Jvm.Cond.fieldLink "SerialDesk" (29 : Nat) "SerialDesk" "begunCount" "I") ∈ lw_tt := List.mem_filter.mpr ⟨List.mem_of_getElem? (i := 63) rfl, rfl⟩
set_option maxRecDepth 20000 in
theorem tw_36 : (Jvm.Cond.fieldLink "SerialDesk" (32 : Nat) "SerialDesk" "commitCount" "I") ∈ lw_tt := List.mem_filter.mpr ⟨List.mem_of_getElem? (i := 64) rfl, rfl⟩
set_option maxRecDepth 20000 in
theorem tw_50 : (Jvm.Cond.methodLink "SerialDeskLaw" (13 : Nat) ({ cls := "SerialDesk", name := "begin", desc := "(I)I" } : Jvm.MethodName)) ∈ lw_tt := List.mem_filter.mpr ⟨List.mem_of_getElem? (i := 78) rfl, rfl⟩
set_option maxRecDepth 20000 in
theorem tw_51 : (Jvm.Cond.instanceMethod ({ cls := "SerialDesk", name := "begin", desc := "(I)I" } : Jvm.MethodName)) ∈ lw_tt := List.mem_filter.mpr ⟨List.mem_of_getElem? (i := 79) rfl, rfl⟩
set_option maxRecDepth 20000 in
theorem tw_52 : (Jvm.Cond.selects "SerialDesk" ({ cls := "SerialDesk", name := "begin", desc := "(I)I" } : Jvm.MethodName) ({ cls := "SerialDesk", name := "begin", desc := "(I)I" } : Jvm.MethodName)) ∈ lw_tt := List.mem_filter.mpr ⟨List.mem_of_getElem? (i := 80) rfl, rfl⟩
set_option maxRecDepth 20000 in
theorem tw_53 : (Jvm.Cond.code ({ cls := "SerialDesk", name := "begin", desc := "(I)I" } : Jvm.MethodName) prog_1_method_2_code (4 : Nat) (Option.some Jvm.ClassFile.FieldType.int)) ∈ lw_tt := List.mem_filter.mpr ⟨List.mem_of_getElem? (i := 81) rfl, rfl⟩
set_option maxRecDepth 20000 in
theorem tw_54 : (Jvm.Cond.methodLink "SerialDesk" (35 : Nat) ({ cls := "SerialDesk", name := "freeSlot", desc := "()I" } : Jvm.MethodName)) ∈ lw_tt := List.mem_filter.mpr ⟨List.mem_of_getElem? (i := 82) rfl, rfl⟩
set_option maxRecDepth 20000 in
theorem tw_56 : (Jvm.Cond.instanceMethod ({ cls := "SerialDesk", name := "freeSlot", desc := "()I" } : Jvm.MethodName)) ∈ lw_tt := List.mem_filter.mpr ⟨List.mem_of_getElem? (i := 84) rfl, rfl⟩
set_option maxRecDepth 20000 in
theorem tw_57 : (Jvm.Cond.code ({ cls := "SerialDesk", name := "freeSlot", desc := "()I" } : Jvm.MethodName) prog_1_method_20_code (2 : Nat) (Option.some Jvm.ClassFile.FieldType.int)) ∈ lw_tt := List.mem_filter.mpr ⟨List.mem_of_getElem? (i := 85) rfl, rfl⟩
set_option maxRecDepth 20000 in
theorem tw_58 : (Jvm.Cond.methodLink "SerialDesk" (39 : Nat) ({ cls := "SerialDesk", name := "isSession", desc := "(I)Z" } : Jvm.MethodName)) ∈ lw_tt := List.mem_filter.mpr ⟨List.mem_of_getElem? (i := 86) rfl, rfl⟩
set_option maxRecDepth 20000 in
theorem tw_59 : (Jvm.Cond.static ({ cls := "SerialDesk", name := "isSession", desc := "(I)Z" } : Jvm.MethodName)) ∈ lw_tt := List.mem_filter.mpr ⟨List.mem_of_getElem? (i := 87) rfl, rfl⟩
set_option maxRecDepth 20000 in
theorem tw_60 : (Jvm.Cond.code ({ cls := "SerialDesk", name := "isSession", desc := "(I)Z" } : Jvm.MethodName) prog_1_method_15_code (1 : Nat) (Option.some Jvm.ClassFile.FieldType.boolean)) ∈ lw_tt := List.mem_filter.mpr ⟨List.mem_of_getElem? (i := 88) rfl, rfl⟩
set_option maxRecDepth 20000 in
theorem tw_61 : (Jvm.Cond.instantiable "SerialDesk$Transaction" (9 : Nat)) ∈ lw_tt := List.mem_filter.mpr ⟨List.mem_of_getElem? (i := 89) rfl, rfl⟩
set_option maxRecDepth 20000 in
theorem tw_62 : (Jvm.Cond.methodLink "SerialDesk" (43 : Nat) ({ cls := "SerialDesk$Transaction", name := "<init>", desc := "(III)V" } : Jvm.MethodName)) ∈ lw_tt := List.mem_filter.mpr ⟨List.mem_of_getElem? (i := 90) rfl, rfl⟩
set_option maxRecDepth 20000 in
theorem tw_63 : (Jvm.Cond.instanceMethod ({ cls := "SerialDesk$Transaction", name := "<init>", desc := "(III)V" } : Jvm.MethodName)) ∈ lw_tt := List.mem_filter.mpr ⟨List.mem_of_getElem? (i := 91) rfl, rfl⟩
set_option maxRecDepth 20000 in
theorem tw_64 : (Jvm.Cond.code ({ cls := "SerialDesk$Transaction", name := "<init>", desc := "(III)V" } : Jvm.MethodName) prog_3_method_1_code (4 : Nat) (Option.none : Option Jvm.ClassFile.FieldType)) ∈ lw_tt := List.mem_filter.mpr ⟨List.mem_of_getElem? (i := 92) rfl, rfl⟩
set_option maxRecDepth 20000 in
theorem tw_65 : (Jvm.Cond.methodLink "SerialDesk$Transaction" (3 : Nat) ({ cls := "java/lang/Object", name := "<init>", desc := "()V" } : Jvm.MethodName)) ∈ lw_tt := List.mem_filter.mpr ⟨List.mem_of_getElem? (i := 93) rfl, rfl⟩
set_option maxRecDepth 20000 in
theorem tw_66 : (Jvm.Cond.classLink "SerialDesk$Transaction" (35 : Nat) "SerialDesk$Range") ∈ lw_tt := List.mem_filter.mpr ⟨List.mem_of_getElem? (i := 94) rfl, rfl⟩
set_option maxRecDepth 20000 in
theorem tw_68 : (Jvm.Cond.fieldLink "SerialDesk$Transaction" (9 : Nat) "SerialDesk$Transaction" "id" "I") ∈ lw_tt := List.mem_filter.mpr ⟨List.mem_of_getElem? (i := 96) rfl, rfl⟩
set_option maxRecDepth 20000 in
theorem tw_70 : (Jvm.Cond.fieldLink "SerialDesk$Transaction" (15 : Nat) "SerialDesk$Transaction" "slot" "I") ∈ lw_tt := List.mem_filter.mpr ⟨List.mem_of_getElem? (i := 98) rfl, rfl⟩
set_option maxRecDepth 20000 in
theorem tw_71 : (Jvm.Cond.fieldLink "SerialDesk$Transaction" (18 : Nat) "SerialDesk$Transaction" "commitsAtBegin" "I") ∈ lw_tt := List.mem_filter.mpr ⟨List.mem_of_getElem? (i := 99) rfl, rfl⟩
set_option maxRecDepth 20000 in
theorem tw_73 : (Jvm.Cond.fieldLink "SerialDesk$Transaction" (21 : Nat) "SerialDesk$Transaction" "commitNumber" "I") ∈ lw_tt := List.mem_filter.mpr ⟨List.mem_of_getElem? (i := 101) rfl, rfl⟩
set_option maxRecDepth 20000 in
theorem tw_75 : (Jvm.Cond.fieldLink "SerialDesk$Transaction" (24 : Nat) "SerialDesk$Transaction" "doomed" "Z") ∈ lw_tt := List.mem_filter.mpr ⟨List.mem_of_getElem? (i := 103) rfl, rfl⟩
set_option maxRecDepth 20000 in
theorem tw_77 : (Jvm.Cond.fieldLink "SerialDesk$Transaction" (28 : Nat) "SerialDesk$Transaction" "arrows" "J") ∈ lw_tt := List.mem_filter.mpr ⟨List.mem_of_getElem? (i := 105) rfl, rfl⟩
set_option maxRecDepth 20000 in
theorem tw_78 : (Jvm.Cond.fieldLink "SerialDesk$Transaction" (32 : Nat) "SerialDesk$Transaction" "firstCommitPointedAt" "I") ∈ lw_tt := List.mem_filter.mpr ⟨List.mem_of_getElem? (i := 106) rfl, rfl⟩
set_option maxRecDepth 20000 in
theorem tw_80 : (Jvm.Cond.fieldLink "SerialDesk$Transaction" (37 : Nat) "SerialDesk$Transaction" "firstRange" "[LSerialDesk$Range;") ∈ lw_tt := List.mem_filter.mpr ⟨List.mem_of_getElem? (i := 108) rfl, rfl⟩
set_option maxRecDepth 20000 in
theorem tw_81 : (Jvm.Cond.fieldLink "SerialDesk$Transaction" (41 : Nat) "SerialDesk$Transaction" "rangeCount" "[I") ∈ lw_tt := List.mem_filter.mpr ⟨List.mem_of_getElem? (i := 109) rfl, rfl⟩
set_option maxRecDepth 20000 in
theorem tw_101 : (Jvm.Cond.arrayClass Jvm.ClassFile.FieldType.int) ∈ lw_tt := List.mem_filter.mpr ⟨List.mem_of_getElem? (i := 129) rfl, rfl⟩
set_option maxRecDepth 20000 in
theorem tw_102 : (Jvm.Cond.methodLink "SerialDeskLaw" (20 : Nat) ({ cls := "SerialDesk", name := "read", desc := "(IIIJJI)I" } : Jvm.MethodName)) ∈ lw_tt := List.mem_filter.mpr ⟨List.mem_of_getElem? (i := 130) rfl, rfl⟩
set_option maxRecDepth 20000 in
theorem tw_103 : (Jvm.Cond.instanceMethod ({ cls := "SerialDesk", name := "read", desc := "(IIIJJI)I" } : Jvm.MethodName)) ∈ lw_tt := List.mem_filter.mpr ⟨List.mem_of_getElem? (i := 131) rfl, rfl⟩
set_option maxRecDepth 20000 in
theorem tw_104 : (Jvm.Cond.selects "SerialDesk" ({ cls := "SerialDesk", name := "read", desc := "(IIIJJI)I" } : Jvm.MethodName) ({ cls := "SerialDesk", name := "read", desc := "(IIIJJI)I" } : Jvm.MethodName)) ∈ lw_tt := List.mem_filter.mpr ⟨List.mem_of_getElem? (i := 132) rfl, rfl⟩
set_option maxRecDepth 20000 in
theorem tw_105 : (Jvm.Cond.code ({ cls := "SerialDesk", name := "read", desc := "(IIIJJI)I" } : Jvm.MethodName) prog_1_method_3_code (10 : Nat) (Option.some Jvm.ClassFile.FieldType.int)) ∈ lw_tt := List.mem_filter.mpr ⟨List.mem_of_getElem? (i := 133) rfl, rfl⟩
set_option maxRecDepth 20000 in
theorem tw_106 : (Jvm.Cond.methodLink "SerialDesk" (49 : Nat) ({ cls := "SerialDesk", name := "runningIn", desc := "(I)LSerialDesk$Transaction;" } : Jvm.MethodName)) ∈ lw_tt := List.mem_filter.mpr ⟨List.mem_of_getElem? (i := 134) rfl, rfl⟩
set_option maxRecDepth 20000 in
theorem tw_108 : (Jvm.Cond.instanceMethod ({ cls := "SerialDesk", name := "runningIn", desc := "(I)LSerialDesk$Transaction;" } : Jvm.MethodName)) ∈ lw_tt := List.mem_filter.mpr ⟨List.mem_of_getElem? (i := 136) rfl, rfl⟩
set_option maxRecDepth 20000 in
theorem tw_109 : (Jvm.Cond.code ({ cls := "SerialDesk", name := "runningIn", desc := "(I)LSerialDesk$Transaction;" } : Jvm.MethodName) prog_1_method_19_code (2 : Nat) (Option.some (Jvm.ClassFile.FieldType.object "SerialDesk$Transaction"))) ∈ lw_tt := List.mem_filter.mpr ⟨List.mem_of_getElem? (i := 137) rfl, rfl⟩
set_option maxRecDepth 20000 in
theorem tw_110 : (Jvm.Cond.methodLink "SerialDesk" (53 : Nat) ({ cls := "SerialDesk", name := "isTable", desc := "(I)Z" } : Jvm.MethodName)) ∈ lw_tt := List.mem_filter.mpr ⟨List.mem_of_getElem? (i := 138) rfl, rfl⟩
set_option maxRecDepth 20000 in
theorem tw_111 : (Jvm.Cond.static ({ cls := "SerialDesk", name := "isTable", desc := "(I)Z" } : Jvm.MethodName)) ∈ lw_tt := List.mem_filter.mpr ⟨List.mem_of_getElem? (i := 139) rfl, rfl⟩
set_option maxRecDepth 20000 in
theorem tw_112 : (Jvm.Cond.code ({ cls := "SerialDesk", name := "isTable", desc := "(I)Z" } : Jvm.MethodName) prog_1_method_16_code (1 : Nat) (Option.some Jvm.ClassFile.FieldType.boolean)) ∈ lw_tt := List.mem_filter.mpr ⟨List.mem_of_getElem? (i := 140) rfl, rfl⟩
set_option maxRecDepth 20000 in
theorem tw_113 : (Jvm.Cond.methodLink "SerialDesk" (56 : Nat) ({ cls := "SerialDesk", name := "wholeTable", desc := "()LSerialDesk$Range;" } : Jvm.MethodName)) ∈ lw_tt := List.mem_filter.mpr ⟨List.mem_of_getElem? (i := 141) rfl, rfl⟩
set_option maxRecDepth 20000 in
theorem tw_114 : (Jvm.Cond.static ({ cls := "SerialDesk", name := "wholeTable", desc := "()LSerialDesk$Range;" } : Jvm.MethodName)) ∈ lw_tt := List.mem_filter.mpr ⟨List.mem_of_getElem? (i := 142) rfl, rfl⟩
set_option maxRecDepth 20000 in
theorem tw_115 : (Jvm.Cond.code ({ cls := "SerialDesk", name := "wholeTable", desc := "()LSerialDesk$Range;" } : Jvm.MethodName) prog_1_method_18_code (0 : Nat) (Option.some (Jvm.ClassFile.FieldType.object "SerialDesk$Range"))) ∈ lw_tt := List.mem_filter.mpr ⟨List.mem_of_getElem? (i := 143) rfl, rfl⟩
set_option maxRecDepth 20000 in
theorem tw_116 : (Jvm.Cond.classLink "SerialDesk" (67 : Nat) "SerialDesk$Range") ∈ lw_tt := List.mem_filter.mpr ⟨List.mem_of_getElem? (i := 144) rfl, rfl⟩
set_option maxRecDepth 20000 in
theorem tw_117 : (Jvm.Cond.instantiable "SerialDesk$Range" (5 : Nat)) ∈ lw_tt := List.mem_filter.mpr ⟨List.mem_of_getElem? (i := 145) rfl, rfl⟩
set_option maxRecDepth 20000 in
theorem tw_118 : (Jvm.Cond.methodLink "SerialDesk" (69 : Nat) ({ cls := "SerialDesk$Range", name := "<init>", desc := "(IJJI)V" } : Jvm.MethodName)) ∈ lw_tt := List.mem_filter.mpr ⟨List.mem_of_getElem? (i := 146) rfl, rfl⟩
set_option maxRecDepth 20000 in
theorem tw_119 : (Jvm.Cond.instanceMethod ({ cls := "SerialDesk$Range", name := "<init>", desc := "(IJJI)V" } : Jvm.MethodName)) ∈ lw_tt := List.mem_filter.mpr ⟨List.mem_of_getElem? (i := 147) rfl, rfl⟩
set_option maxRecDepth 20000 in
theorem tw_120 : (Jvm.Cond.code ({ cls := "SerialDesk$Range", name := "<init>", desc := "(IJJI)V" } : Jvm.MethodName) prog_2_method_1_code (7 : Nat) (Option.none : Option Jvm.ClassFile.FieldType)) ∈ lw_tt := List.mem_filter.mpr ⟨List.mem_of_getElem? (i := 148) rfl, rfl⟩
set_option maxRecDepth 20000 in
theorem tw_121 : (Jvm.Cond.methodLink "SerialDesk$Range" (3 : Nat) ({ cls := "java/lang/Object", name := "<init>", desc := "()V" } : Jvm.MethodName)) ∈ lw_tt := List.mem_filter.mpr ⟨List.mem_of_getElem? (i := 149) rfl, rfl⟩
set_option maxRecDepth 20000 in
theorem tw_122 : (Jvm.Cond.fieldLink "SerialDesk$Range" (9 : Nat) "SerialDesk$Range" "column" "I") ∈ lw_tt := List.mem_filter.mpr ⟨List.mem_of_getElem? (i := 150) rfl, rfl⟩
set_option maxRecDepth 20000 in
theorem tw_123 : (Jvm.Cond.fieldLink "SerialDesk$Range" (15 : Nat) "SerialDesk$Range" "low" "J") ∈ lw_tt := List.mem_filter.mpr ⟨List.mem_of_getElem? (i := 151) rfl, rfl⟩
set_option maxRecDepth 20000 in
theorem tw_124 : (Jvm.Cond.fieldLink "SerialDesk$Range" (19 : Nat) "SerialDesk$Range" "high" "J") ∈ lw_tt := List.mem_filter.mpr ⟨List.mem_of_getElem? (i := 152) rfl, rfl⟩
set_option maxRecDepth 20000 in
theorem tw_125 : (Jvm.Cond.fieldLink "SerialDesk$Range" (22 : Nat) "SerialDesk$Range" "bounds" "I") ∈ lw_tt := List.mem_filter.mpr ⟨List.mem_of_getElem? (i := 153) rfl, rfl⟩
set_option maxRecDepth 20000 in
theorem tw_126 : (Jvm.Cond.fieldLink "SerialDesk$Range" (25 : Nat) "SerialDesk$Range" "next" "LSerialDesk$Range;") ∈ lw_tt := List.mem_filter.mpr ⟨List.mem_of_getElem? (i := 154) rfl, rfl⟩
set_option maxRecDepth 20000 in
theorem tw_139 : (Jvm.Cond.methodLink "SerialDesk" (60 : Nat) ({ cls := "SerialDesk$Transaction", name := "addRange", desc := "(ILSerialDesk$Range;)I" } : Jvm.MethodName)) ∈ lw_tt := List.mem_filter.mpr ⟨List.mem_of_getElem? (i := 167) rfl, rfl⟩
set_option maxRecDepth 20000 in
theorem tw_140 : (Jvm.Cond.instanceMethod ({ cls := "SerialDesk$Transaction", name := "addRange", desc := "(ILSerialDesk$Range;)I" } : Jvm.MethodName)) ∈ lw_tt := List.mem_filter.mpr ⟨List.mem_of_getElem? (i := 168) rfl, rfl⟩
set_option maxRecDepth 20000 in
theorem tw_141 : (Jvm.Cond.selects "SerialDesk$Transaction" ({ cls := "SerialDesk$Transaction", name := "addRange", desc := "(ILSerialDesk$Range;)I" } : Jvm.MethodName) ({ cls := "SerialDesk$Transaction", name := "addRange", desc := "(ILSerialDesk$Range;)I" } : Jvm.MethodName)) ∈ lw_tt := List.mem_filter.mpr ⟨List.mem_of_getElem? (i := 169) rfl, rfl⟩
set_option maxRecDepth 20000 in
theorem tw_142 : (Jvm.Cond.code ({ cls := "SerialDesk$Transaction", name := "addRange", desc := "(ILSerialDesk$Range;)I" } : Jvm.MethodName) prog_3_method_9_code (3 : Nat) (Option.some Jvm.ClassFile.FieldType.int)) ∈ lw_tt := List.mem_filter.mpr ⟨List.mem_of_getElem? (i := 170) rfl, rfl⟩
set_option maxRecDepth 20000 in
theorem tw_144 : (Jvm.Cond.methodLink "SerialDesk$Transaction" (59 : Nat) ({ cls := "SerialDesk$Transaction", name := "isCovered", desc := "(ILSerialDesk$Range;)Z" } : Jvm.MethodName)) ∈ lw_tt := List.mem_filter.mpr ⟨List.mem_of_getElem? (i := 172) rfl, rfl⟩
set_option maxRecDepth 20000 in
theorem tw_146 : (Jvm.Cond.instanceMethod ({ cls := "SerialDesk$Transaction", name := "isCovered", desc := "(ILSerialDesk$Range;)Z" } : Jvm.MethodName)) ∈ lw_tt := List.mem_filter.mpr ⟨List.mem_of_getElem? (i := 174) rfl, rfl⟩
set_option maxRecDepth 20000 in
theorem tw_147 : (Jvm.Cond.code ({ cls := "SerialDesk$Transaction", name := "isCovered", desc := "(ILSerialDesk$Range;)Z" } : Jvm.MethodName) prog_3_method_10_code (4 : Nat) (Option.some Jvm.ClassFile.FieldType.boolean)) ∈ lw_tt := List.mem_filter.mpr ⟨List.mem_of_getElem? (i := 175) rfl, rfl⟩
set_option maxRecDepth 20000 in
theorem tw_148 : (Jvm.Cond.methodLink "SerialDesk$Transaction" (71 : Nat) ({ cls := "SerialDesk$Range", name := "isWholeTable", desc := "()Z" } : Jvm.MethodName)) ∈ lw_tt := List.mem_filter.mpr ⟨List.mem_of_getElem? (i := 176) rfl, rfl⟩
set_option maxRecDepth 20000 in
theorem tw_149 : (Jvm.Cond.instanceMethod ({ cls := "SerialDesk$Range", name := "isWholeTable", desc := "()Z" } : Jvm.MethodName)) ∈ lw_tt := List.mem_filter.mpr ⟨List.mem_of_getElem? (i := 177) rfl, rfl⟩
set_option maxRecDepth 20000 in
theorem tw_150 : (Jvm.Cond.selects "SerialDesk$Range" ({ cls := "SerialDesk$Range", name := "isWholeTable", desc := "()Z" } : Jvm.MethodName) ({ cls := "SerialDesk$Range", name := "isWholeTable", desc := "()Z" } : Jvm.MethodName)) ∈ lw_tt := List.mem_filter.mpr ⟨List.mem_of_getElem? (i := 178) rfl, rfl⟩
set_option maxRecDepth 20000 in
theorem tw_151 : (Jvm.Cond.code ({ cls := "SerialDesk$Range", name := "isWholeTable", desc := "()Z" } : Jvm.MethodName) prog_2_method_2_code (1 : Nat) (Option.some Jvm.ClassFile.FieldType.boolean)) ∈ lw_tt := List.mem_filter.mpr ⟨List.mem_of_getElem? (i := 179) rfl, rfl⟩
set_option maxRecDepth 20000 in
theorem tw_152 : (Jvm.Cond.methodLink "SerialDesk$Transaction" (74 : Nat) ({ cls := "SerialDesk$Range", name := "isSameAs", desc := "(LSerialDesk$Range;)Z" } : Jvm.MethodName)) ∈ lw_tt := List.mem_filter.mpr ⟨List.mem_of_getElem? (i := 180) rfl, rfl⟩
set_option maxRecDepth 20000 in
theorem tw_153 : (Jvm.Cond.instanceMethod ({ cls := "SerialDesk$Range", name := "isSameAs", desc := "(LSerialDesk$Range;)Z" } : Jvm.MethodName)) ∈ lw_tt := List.mem_filter.mpr ⟨List.mem_of_getElem? (i := 181) rfl, rfl⟩
set_option maxRecDepth 20000 in
theorem tw_154 : (Jvm.Cond.selects "SerialDesk$Range" ({ cls := "SerialDesk$Range", name := "isSameAs", desc := "(LSerialDesk$Range;)Z" } : Jvm.MethodName) ({ cls := "SerialDesk$Range", name := "isSameAs", desc := "(LSerialDesk$Range;)Z" } : Jvm.MethodName)) ∈ lw_tt := List.mem_filter.mpr ⟨List.mem_of_getElem? (i := 182) rfl, rfl⟩
set_option maxRecDepth 20000 in
theorem tw_155 : (Jvm.Cond.code ({ cls := "SerialDesk$Range", name := "isSameAs", desc := "(LSerialDesk$Range;)Z" } : Jvm.MethodName) prog_2_method_3_code (2 : Nat) (Option.some Jvm.ClassFile.FieldType.boolean)) ∈ lw_tt := List.mem_filter.mpr ⟨List.mem_of_getElem? (i := 183) rfl, rfl⟩
set_option maxRecDepth 20000 in
theorem tw_156 : (Jvm.Cond.methodLink "SerialDesk$Range" (29 : Nat) ({ cls := "SerialDesk$Range", name := "lacks", desc := "(I)Z" } : Jvm.MethodName)) ∈ lw_tt := List.mem_filter.mpr ⟨List.mem_of_getElem? (i := 184) rfl, rfl⟩
set_option maxRecDepth 20000 in
theorem tw_158 : (Jvm.Cond.instanceMethod ({ cls := "SerialDesk$Range", name := "lacks", desc := "(I)Z" } : Jvm.MethodName)) ∈ lw_tt := List.mem_filter.mpr ⟨List.mem_of_getElem? (i := 186) rfl, rfl⟩
set_option maxRecDepth 20000 in
theorem tw_159 : (Jvm.Cond.code ({ cls := "SerialDesk$Range", name := "lacks", desc := "(I)Z" } : Jvm.MethodName) prog_2_method_5_code (2 : Nat) (Option.some Jvm.ClassFile.FieldType.boolean)) ∈ lw_tt := List.mem_filter.mpr ⟨List.mem_of_getElem? (i := 187) rfl, rfl⟩
set_option maxRecDepth 20000 in
theorem tw_161 : (Jvm.Cond.methodLink "SerialDesk" (64 : Nat) ({ cls := "SerialDesk", name := "isColumn", desc := "(I)Z" } : Jvm.MethodName)) ∈ lw_tt := List.mem_filter.mpr ⟨List.mem_of_getElem? (i := 189) rfl, rfl⟩
set_option maxRecDepth 20000 in
theorem tw_162 : (Jvm.Cond.static ({ cls := "SerialDesk", name := "isColumn", desc := "(I)Z" } : Jvm.MethodName)) ∈ lw_tt := List.mem_filter.mpr ⟨List.mem_of_getElem? (i := 190) rfl, rfl⟩
set_option maxRecDepth 20000 in
theorem tw_163 : (Jvm.Cond.code ({ cls := "SerialDesk", name := "isColumn", desc := "(I)Z" } : Jvm.MethodName) prog_1_method_17_code (1 : Nat) (Option.some Jvm.ClassFile.FieldType.boolean)) ∈ lw_tt := List.mem_filter.mpr ⟨List.mem_of_getElem? (i := 191) rfl, rfl⟩
set_option maxRecDepth 20000 in
theorem tw_164 : (Jvm.Cond.methodLink "SerialDeskLaw" (25 : Nat) ({ cls := "SerialDesk", name := "cell", desc := "(IJ)Z" } : Jvm.MethodName)) ∈ lw_tt := List.mem_filter.mpr ⟨List.mem_of_getElem? (i := 192) rfl, rfl⟩
set_option maxRecDepth 20000 in
theorem tw_165 : (Jvm.Cond.instanceMethod ({ cls := "SerialDesk", name := "cell", desc := "(IJ)Z" } : Jvm.MethodName)) ∈ lw_tt := List.mem_filter.mpr ⟨List.mem_of_getElem? (i := 193) rfl, rfl⟩
set_option maxRecDepth 20000 in
theorem tw_166 : (Jvm.Cond.selects "SerialDesk" ({ cls := "SerialDesk", name := "cell", desc := "(IJ)Z" } : Jvm.MethodName) ({ cls := "SerialDesk", name := "cell", desc := "(IJ)Z" } : Jvm.MethodName)) ∈ lw_tt := List.mem_filter.mpr ⟨List.mem_of_getElem? (i := 194) rfl, rfl⟩
set_option maxRecDepth 20000 in
theorem tw_167 : (Jvm.Cond.code ({ cls := "SerialDesk", name := "cell", desc := "(IJ)Z" } : Jvm.MethodName) prog_1_method_4_code (4 : Nat) (Option.some Jvm.ClassFile.FieldType.boolean)) ∈ lw_tt := List.mem_filter.mpr ⟨List.mem_of_getElem? (i := 195) rfl, rfl⟩
set_option maxRecDepth 20000 in
theorem tw_168 : (Jvm.Cond.methodLink "SerialDesk" (72 : Nat) ({ cls := "SerialDesk$Version", name := "fill", desc := "(IJ)V" } : Jvm.MethodName)) ∈ lw_tt := List.mem_filter.mpr ⟨List.mem_of_getElem? (i := 196) rfl, rfl⟩
set_option maxRecDepth 20000 in
theorem tw_169 : (Jvm.Cond.instanceMethod ({ cls := "SerialDesk$Version", name := "fill", desc := "(IJ)V" } : Jvm.MethodName)) ∈ lw_tt := List.mem_filter.mpr ⟨List.mem_of_getElem? (i := 197) rfl, rfl⟩
set_option maxRecDepth 20000 in
theorem tw_170 : (Jvm.Cond.selects "SerialDesk$Version" ({ cls := "SerialDesk$Version", name := "fill", desc := "(IJ)V" } : Jvm.MethodName) ({ cls := "SerialDesk$Version", name := "fill", desc := "(IJ)V" } : Jvm.MethodName)) ∈ lw_tt := List.mem_filter.mpr ⟨List.mem_of_getElem? (i := 198) rfl, rfl⟩
set_option maxRecDepth 20000 in
theorem tw_171 : (Jvm.Cond.code ({ cls := "SerialDesk$Version", name := "fill", desc := "(IJ)V" } : Jvm.MethodName) prog_4_method_2_code (4 : Nat) (Option.none : Option Jvm.ClassFile.FieldType)) ∈ lw_tt := List.mem_filter.mpr ⟨List.mem_of_getElem? (i := 199) rfl, rfl⟩
set_option maxRecDepth 20000 in
theorem tw_173 : (Jvm.Cond.methodLink "SerialDeskLaw" (30 : Nat) ({ cls := "SerialDesk", name := "clear", desc := "()V" } : Jvm.MethodName)) ∈ lw_tt := List.mem_filter.mpr ⟨List.mem_of_getElem? (i := 201) rfl, rfl⟩
set_option maxRecDepth 20000 in
theorem tw_174 : (Jvm.Cond.instanceMethod ({ cls := "SerialDesk", name := "clear", desc := "()V" } : Jvm.MethodName)) ∈ lw_tt := List.mem_filter.mpr ⟨List.mem_of_getElem? (i := 202) rfl, rfl⟩
set_option maxRecDepth 20000 in
theorem tw_175 : (Jvm.Cond.selects "SerialDesk" ({ cls := "SerialDesk", name := "clear", desc := "()V" } : Jvm.MethodName) ({ cls := "SerialDesk", name := "clear", desc := "()V" } : Jvm.MethodName)) ∈ lw_tt := List.mem_filter.mpr ⟨List.mem_of_getElem? (i := 203) rfl, rfl⟩
set_option maxRecDepth 20000 in
theorem tw_176 : (Jvm.Cond.code ({ cls := "SerialDesk", name := "clear", desc := "()V" } : Jvm.MethodName) prog_1_method_5_code (1 : Nat) (Option.none : Option Jvm.ClassFile.FieldType)) ∈ lw_tt := List.mem_filter.mpr ⟨List.mem_of_getElem? (i := 204) rfl, rfl⟩
set_option maxRecDepth 20000 in
theorem tw_177 : (Jvm.Cond.methodLink "SerialDesk" (76 : Nat) ({ cls := "SerialDesk$Version", name := "empty", desc := "()V" } : Jvm.MethodName)) ∈ lw_tt := List.mem_filter.mpr ⟨List.mem_of_getElem? (i := 205) rfl, rfl⟩
set_option maxRecDepth 20000 in
theorem tw_178 : (Jvm.Cond.instanceMethod ({ cls := "SerialDesk$Version", name := "empty", desc := "()V" } : Jvm.MethodName)) ∈ lw_tt := List.mem_filter.mpr ⟨List.mem_of_getElem? (i := 206) rfl, rfl⟩
set_option maxRecDepth 20000 in
theorem tw_179 : (Jvm.Cond.selects "SerialDesk$Version" ({ cls := "SerialDesk$Version", name := "empty", desc := "()V" } : Jvm.MethodName) ({ cls := "SerialDesk$Version", name := "empty", desc := "()V" } : Jvm.MethodName)) ∈ lw_tt := List.mem_filter.mpr ⟨List.mem_of_getElem? (i := 207) rfl, rfl⟩
set_option maxRecDepth 20000 in
theorem tw_180 : (Jvm.Cond.code ({ cls := "SerialDesk$Version", name := "empty", desc := "()V" } : Jvm.MethodName) prog_4_method_3_code (2 : Nat) (Option.none : Option Jvm.ClassFile.FieldType)) ∈ lw_tt := List.mem_filter.mpr ⟨List.mem_of_getElem? (i := 208) rfl, rfl⟩
set_option maxRecDepth 20000 in
theorem tw_181 : (Jvm.Cond.methodLink "SerialDeskLaw" (34 : Nat) ({ cls := "SerialDesk", name := "write", desc := "(II)Z" } : Jvm.MethodName)) ∈ lw_tt := List.mem_filter.mpr ⟨List.mem_of_getElem? (i := 209) rfl, rfl⟩
set_option maxRecDepth 20000 in
theorem tw_182 : (Jvm.Cond.instanceMethod ({ cls := "SerialDesk", name := "write", desc := "(II)Z" } : Jvm.MethodName)) ∈ lw_tt := List.mem_filter.mpr ⟨List.mem_of_getElem? (i := 210) rfl, rfl⟩
set_option maxRecDepth 20000 in
theorem tw_183 : (Jvm.Cond.selects "SerialDesk" ({ cls := "SerialDesk", name := "write", desc := "(II)Z" } : Jvm.MethodName) ({ cls := "SerialDesk", name := "write", desc := "(II)Z" } : Jvm.MethodName)) ∈ lw_tt := List.mem_filter.mpr ⟨List.mem_of_getElem? (i := 211) rfl, rfl⟩
set_option maxRecDepth 20000 in
theorem tw_184 : (Jvm.Cond.code ({ cls := "SerialDesk", name := "write", desc := "(II)Z" } : Jvm.MethodName) prog_1_method_6_code (6 : Nat) (Option.some Jvm.ClassFile.FieldType.boolean)) ∈ lw_tt := List.mem_filter.mpr ⟨List.mem_of_getElem? (i := 212) rfl, rfl⟩
set_option maxRecDepth 20000 in
theorem tw_185 : (Jvm.Cond.methodLink "SerialDesk" (79 : Nat) ({ cls := "SerialDesk$Transaction", name := "isConcurrentWith", desc := "(LSerialDesk$Transaction;)Z" } : Jvm.MethodName)) ∈ lw_tt := List.mem_filter.mpr ⟨List.mem_of_getElem? (i := 213) rfl, rfl⟩
set_option maxRecDepth 20000 in
theorem tw_186 : (Jvm.Cond.instanceMethod ({ cls := "SerialDesk$Transaction", name := "isConcurrentWith", desc := "(LSerialDesk$Transaction;)Z" } : Jvm.MethodName)) ∈ lw_tt := List.mem_filter.mpr ⟨List.mem_of_getElem? (i := 214) rfl, rfl⟩
set_option maxRecDepth 20000 in
theorem tw_187 : (Jvm.Cond.selects "SerialDesk$Transaction" ({ cls := "SerialDesk$Transaction", name := "isConcurrentWith", desc := "(LSerialDesk$Transaction;)Z" } : Jvm.MethodName) ({ cls := "SerialDesk$Transaction", name := "isConcurrentWith", desc := "(LSerialDesk$Transaction;)Z" } : Jvm.MethodName)) ∈ lw_tt := List.mem_filter.mpr ⟨List.mem_of_getElem? (i := 215) rfl, rfl⟩
set_option maxRecDepth 20000 in
theorem tw_188 : (Jvm.Cond.code ({ cls := "SerialDesk$Transaction", name := "isConcurrentWith", desc := "(LSerialDesk$Transaction;)Z" } : Jvm.MethodName) prog_3_method_4_code (2 : Nat) (Option.some Jvm.ClassFile.FieldType.boolean)) ∈ lw_tt := List.mem_filter.mpr ⟨List.mem_of_getElem? (i := 216) rfl, rfl⟩
set_option maxRecDepth 20000 in
theorem tw_189 : (Jvm.Cond.methodLink "SerialDesk$Transaction" (45 : Nat) ({ cls := "SerialDesk$Transaction", name := "isRunning", desc := "()Z" } : Jvm.MethodName)) ∈ lw_tt := List.mem_filter.mpr ⟨List.mem_of_getElem? (i := 217) rfl, rfl⟩
set_option maxRecDepth 20000 in
theorem tw_190 : (Jvm.Cond.instanceMethod ({ cls := "SerialDesk$Transaction", name := "isRunning", desc := "()Z" } : Jvm.MethodName)) ∈ lw_tt := List.mem_filter.mpr ⟨List.mem_of_getElem? (i := 218) rfl, rfl⟩
set_option maxRecDepth 20000 in
theorem tw_191 : (Jvm.Cond.selects "SerialDesk$Transaction" ({ cls := "SerialDesk$Transaction", name := "isRunning", desc := "()Z" } : Jvm.MethodName) ({ cls := "SerialDesk$Transaction", name := "isRunning", desc := "()Z" } : Jvm.MethodName)) ∈ lw_tt := List.mem_filter.mpr ⟨List.mem_of_getElem? (i := 219) rfl, rfl⟩
set_option maxRecDepth 20000 in
theorem tw_192 : (Jvm.Cond.code ({ cls := "SerialDesk$Transaction", name := "isRunning", desc := "()Z" } : Jvm.MethodName) prog_3_method_2_code (1 : Nat) (Option.some Jvm.ClassFile.FieldType.boolean)) ∈ lw_tt := List.mem_filter.mpr ⟨List.mem_of_getElem? (i := 220) rfl, rfl⟩
set_option maxRecDepth 20000 in
theorem tw_193 : (Jvm.Cond.methodLink "SerialDesk" (83 : Nat) ({ cls := "SerialDesk$Transaction", name := "hasRangeWith", desc := "(ILSerialDesk$Version;)Z" } : Jvm.MethodName)) ∈ lw_tt := List.mem_filter.mpr ⟨List.mem_of_getElem? (i := 221) rfl, rfl⟩
set_option maxRecDepth 20000 in
theorem tw_194 : (Jvm.Cond.instanceMethod ({ cls := "SerialDesk$Transaction", name := "hasRangeWith", desc := "(ILSerialDesk$Version;)Z" } : Jvm.MethodName)) ∈ lw_tt := List.mem_filter.mpr ⟨List.mem_of_getElem? (i := 222) rfl, rfl⟩
set_option maxRecDepth 20000 in
theorem tw_195 : (Jvm.Cond.selects "SerialDesk$Transaction" ({ cls := "SerialDesk$Transaction", name := "hasRangeWith", desc := "(ILSerialDesk$Version;)Z" } : Jvm.MethodName) ({ cls := "SerialDesk$Transaction", name := "hasRangeWith", desc := "(ILSerialDesk$Version;)Z" } : Jvm.MethodName)) ∈ lw_tt := List.mem_filter.mpr ⟨List.mem_of_getElem? (i := 223) rfl, rfl⟩
set_option maxRecDepth 20000 in
theorem tw_196 : (Jvm.Cond.code ({ cls := "SerialDesk$Transaction", name := "hasRangeWith", desc := "(ILSerialDesk$Version;)Z" } : Jvm.MethodName) prog_3_method_11_code (4 : Nat) (Option.some Jvm.ClassFile.FieldType.boolean)) ∈ lw_tt := List.mem_filter.mpr ⟨List.mem_of_getElem? (i := 224) rfl, rfl⟩
set_option maxRecDepth 20000 in
theorem tw_197 : (Jvm.Cond.methodLink "SerialDesk$Transaction" (78 : Nat) ({ cls := "SerialDesk$Range", name := "holds", desc := "(LSerialDesk$Version;)Z" } : Jvm.MethodName)) ∈ lw_tt := List.mem_filter.mpr ⟨List.mem_of_getElem? (i := 225) rfl, rfl⟩
set_option maxRecDepth 20000 in
theorem tw_198 : (Jvm.Cond.instanceMethod ({ cls := "SerialDesk$Range", name := "holds", desc := "(LSerialDesk$Version;)Z" } : Jvm.MethodName)) ∈ lw_tt := List.mem_filter.mpr ⟨List.mem_of_getElem? (i := 226) rfl, rfl⟩
set_option maxRecDepth 20000 in
theorem tw_199 : (Jvm.Cond.selects "SerialDesk$Range" ({ cls := "SerialDesk$Range", name := "holds", desc := "(LSerialDesk$Version;)Z" } : Jvm.MethodName) ({ cls := "SerialDesk$Range", name := "holds", desc := "(LSerialDesk$Version;)Z" } : Jvm.MethodName)) ∈ lw_tt := List.mem_filter.mpr ⟨List.mem_of_getElem? (i := 227) rfl, rfl⟩
set_option maxRecDepth 20000 in
theorem tw_200 : (Jvm.Cond.code ({ cls := "SerialDesk$Range", name := "holds", desc := "(LSerialDesk$Version;)Z" } : Jvm.MethodName) prog_2_method_4_code (4 : Nat) (Option.some Jvm.ClassFile.FieldType.boolean)) ∈ lw_tt := List.mem_filter.mpr ⟨List.mem_of_getElem? (i := 228) rfl, rfl⟩
set_option maxRecDepth 20000 in
theorem tw_201 : (Jvm.Cond.methodLink "SerialDesk$Range" (33 : Nat) ({ cls := "SerialDesk$Range", name := "isWholeTable", desc := "()Z" } : Jvm.MethodName)) ∈ lw_tt := List.mem_filter.mpr ⟨List.mem_of_getElem? (i := 229) rfl, rfl⟩
set_option maxRecDepth 20000 in
theorem tw_202 : (Jvm.Cond.methodLink "SerialDesk$Range" (37 : Nat) ({ cls := "SerialDesk$Version", name := "isFilled", desc := "(I)Z" } : Jvm.MethodName)) ∈ lw_tt := List.mem_filter.mpr ⟨List.mem_of_getElem? (i := 230) rfl, rfl⟩
set_option maxRecDepth 20000 in
theorem tw_203 : (Jvm.Cond.instanceMethod ({ cls := "SerialDesk$Version", name := "isFilled", desc := "(I)Z" } : Jvm.MethodName)) ∈ lw_tt := List.mem_filter.mpr ⟨List.mem_of_getElem? (i := 231) rfl, rfl⟩
set_option maxRecDepth 20000 in
theorem tw_204 : (Jvm.Cond.selects "SerialDesk$Version" ({ cls := "SerialDesk$Version", name := "isFilled", desc := "(I)Z" } : Jvm.MethodName) ({ cls := "SerialDesk$Version", name := "isFilled", desc := "(I)Z" } : Jvm.MethodName)) ∈ lw_tt := List.mem_filter.mpr ⟨List.mem_of_getElem? (i := 232) rfl, rfl⟩
set_option maxRecDepth 20000 in
theorem tw_205 : (Jvm.Cond.code ({ cls := "SerialDesk$Version", name := "isFilled", desc := "(I)Z" } : Jvm.MethodName) prog_4_method_4_code (2 : Nat) (Option.some Jvm.ClassFile.FieldType.boolean)) ∈ lw_tt := List.mem_filter.mpr ⟨List.mem_of_getElem? (i := 233) rfl, rfl⟩
set_option maxRecDepth 20000 in
theorem tw_206 : (Jvm.Cond.methodLink "SerialDesk$Range" (42 : Nat) ({ cls := "SerialDesk$Version", name := "valueOf", desc := "(I)J" } : Jvm.MethodName)) ∈ lw_tt := List.mem_filter.mpr ⟨List.mem_of_getElem? (i := 234) rfl, rfl⟩
set_option maxRecDepth 20000 in
theorem tw_207 : (Jvm.Cond.instanceMethod ({ cls := "SerialDesk$Version", name := "valueOf", desc := "(I)J" } : Jvm.MethodName)) ∈ lw_tt := List.mem_filter.mpr ⟨List.mem_of_getElem? (i := 235) rfl, rfl⟩
set_option maxRecDepth 20000 in
theorem tw_208 : (Jvm.Cond.selects "SerialDesk$Version" ({ cls := "SerialDesk$Version", name := "valueOf", desc := "(I)J" } : Jvm.MethodName) ({ cls := "SerialDesk$Version", name := "valueOf", desc := "(I)J" } : Jvm.MethodName)) ∈ lw_tt := List.mem_filter.mpr ⟨List.mem_of_getElem? (i := 236) rfl, rfl⟩
set_option maxRecDepth 20000 in
theorem tw_209 : (Jvm.Cond.code ({ cls := "SerialDesk$Version", name := "valueOf", desc := "(I)J" } : Jvm.MethodName) prog_4_method_5_code (2 : Nat) (Option.some Jvm.ClassFile.FieldType.long)) ∈ lw_tt := List.mem_filter.mpr ⟨List.mem_of_getElem? (i := 237) rfl, rfl⟩
set_option maxRecDepth 20000 in
theorem tw_210 : (Jvm.Cond.methodLink "SerialDesk$Range" (46 : Nat) ({ cls := "SerialDesk$Range", name := "isAboveLow", desc := "(J)Z" } : Jvm.MethodName)) ∈ lw_tt := List.mem_filter.mpr ⟨List.mem_of_getElem? (i := 238) rfl, rfl⟩
set_option maxRecDepth 20000 in
theorem tw_212 : (Jvm.Cond.instanceMethod ({ cls := "SerialDesk$Range", name := "isAboveLow", desc := "(J)Z" } : Jvm.MethodName)) ∈ lw_tt := List.mem_filter.mpr ⟨List.mem_of_getElem? (i := 240) rfl, rfl⟩
set_option maxRecDepth 20000 in
theorem tw_213 : (Jvm.Cond.code ({ cls := "SerialDesk$Range", name := "isAboveLow", desc := "(J)Z" } : Jvm.MethodName) prog_2_method_6_code (3 : Nat) (Option.some Jvm.ClassFile.FieldType.boolean)) ∈ lw_tt := List.mem_filter.mpr ⟨List.mem_of_getElem? (i := 241) rfl, rfl⟩
set_option maxRecDepth 20000 in
theorem tw_214 : (Jvm.Cond.methodLink "SerialDesk$Range" (50 : Nat) ({ cls := "SerialDesk$Range", name := "isBelowHigh", desc := "(J)Z" } : Jvm.MethodName)) ∈ lw_tt := List.mem_filter.mpr ⟨List.mem_of_getElem? (i := 242) rfl, rfl⟩
set_option maxRecDepth 20000 in
theorem tw_216 : (Jvm.Cond.instanceMethod ({ cls := "SerialDesk$Range", name := "isBelowHigh", desc := "(J)Z" } : Jvm.MethodName)) ∈ lw_tt := List.mem_filter.mpr ⟨List.mem_of_getElem? (i := 244) rfl, rfl⟩
set_option maxRecDepth 20000 in
theorem tw_217 : (Jvm.Cond.code ({ cls := "SerialDesk$Range", name := "isBelowHigh", desc := "(J)Z" } : Jvm.MethodName) prog_2_method_7_code (3 : Nat) (Option.some Jvm.ClassFile.FieldType.boolean)) ∈ lw_tt := List.mem_filter.mpr ⟨List.mem_of_getElem? (i := 245) rfl, rfl⟩
set_option maxRecDepth 20000 in
theorem tw_218 : (Jvm.Cond.methodLink "SerialDesk" (87 : Nat) ({ cls := "SerialDesk$Transaction", name := "pointAt", desc := "(LSerialDesk$Transaction;)V" } : Jvm.MethodName)) ∈ lw_tt := List.mem_filter.mpr ⟨List.mem_of_getElem? (i := 246) rfl, rfl⟩
set_option maxRecDepth 20000 in
theorem tw_219 : (Jvm.Cond.instanceMethod ({ cls := "SerialDesk$Transaction", name := "pointAt", desc := "(LSerialDesk$Transaction;)V" } : Jvm.MethodName)) ∈ lw_tt := List.mem_filter.mpr ⟨List.mem_of_getElem? (i := 247) rfl, rfl⟩
set_option maxRecDepth 20000 in
theorem tw_220 : (Jvm.Cond.selects "SerialDesk$Transaction" ({ cls := "SerialDesk$Transaction", name := "pointAt", desc := "(LSerialDesk$Transaction;)V" } : Jvm.MethodName) ({ cls := "SerialDesk$Transaction", name := "pointAt", desc := "(LSerialDesk$Transaction;)V" } : Jvm.MethodName)) ∈ lw_tt := List.mem_filter.mpr ⟨List.mem_of_getElem? (i := 248) rfl, rfl⟩
set_option maxRecDepth 20000 in
theorem tw_221 : (Jvm.Cond.code ({ cls := "SerialDesk$Transaction", name := "pointAt", desc := "(LSerialDesk$Transaction;)V" } : Jvm.MethodName) prog_3_method_6_code (2 : Nat) (Option.none : Option Jvm.ClassFile.FieldType)) ∈ lw_tt := List.mem_filter.mpr ⟨List.mem_of_getElem? (i := 249) rfl, rfl⟩
set_option maxRecDepth 20000 in
theorem tw_222 : (Jvm.Cond.methodLink "SerialDesk$Transaction" (49 : Nat) ({ cls := "SerialDesk$Transaction", name := "noteCommitPointedAt", desc := "(I)V" } : Jvm.MethodName)) ∈ lw_tt := List.mem_filter.mpr ⟨List.mem_of_getElem? (i := 250) rfl, rfl⟩
set_option maxRecDepth 20000 in
theorem tw_223 : (Jvm.Cond.instanceMethod ({ cls := "SerialDesk$Transaction", name := "noteCommitPointedAt", desc := "(I)V" } : Jvm.MethodName)) ∈ lw_tt := List.mem_filter.mpr ⟨List.mem_of_getElem? (i := 251) rfl, rfl⟩
set_option maxRecDepth 20000 in
theorem tw_224 : (Jvm.Cond.selects "SerialDesk$Transaction" ({ cls := "SerialDesk$Transaction", name := "noteCommitPointedAt", desc := "(I)V" } : Jvm.MethodName) ({ cls := "SerialDesk$Transaction", name := "noteCommitPointedAt", desc := "(I)V" } : Jvm.MethodName)) ∈ lw_tt := List.mem_filter.mpr ⟨List.mem_of_getElem? (i := 252) rfl, rfl⟩
set_option maxRecDepth 20000 in
theorem tw_225 : (Jvm.Cond.code ({ cls := "SerialDesk$Transaction", name := "noteCommitPointedAt", desc := "(I)V" } : Jvm.MethodName) prog_3_method_8_code (2 : Nat) (Option.none : Option Jvm.ClassFile.FieldType)) ∈ lw_tt := List.mem_filter.mpr ⟨List.mem_of_getElem? (i := 253) rfl, rfl⟩
set_option maxRecDepth 20000 in
theorem tw_226 : (Jvm.Cond.methodLink "SerialDesk" (91 : Nat) ({ cls := "SerialDesk", name := "isFirstOfDanger", desc := "(LSerialDesk$Transaction;LSerialDesk$Transaction;)Z" } : Jvm.MethodName)) ∈ lw_tt := List.mem_filter.mpr ⟨List.mem_of_getElem? (i := 254) rfl, rfl⟩
set_option maxRecDepth 20000 in
theorem tw_227 : (Jvm.Cond.static ({ cls := "SerialDesk", name := "isFirstOfDanger", desc := "(LSerialDesk$Transaction;LSerialDesk$Transaction;)Z" } : Jvm.MethodName)) ∈ lw_tt := List.mem_filter.mpr ⟨List.mem_of_getElem? (i := 255) rfl, rfl⟩
set_option maxRecDepth 20000 in
theorem tw_228 : (Jvm.Cond.code ({ cls := "SerialDesk", name := "isFirstOfDanger", desc := "(LSerialDesk$Transaction;LSerialDesk$Transaction;)Z" } : Jvm.MethodName) prog_1_method_23_code (3 : Nat) (Option.some Jvm.ClassFile.FieldType.boolean)) ∈ lw_tt := List.mem_filter.mpr ⟨List.mem_of_getElem? (i := 256) rfl, rfl⟩
set_option maxRecDepth 20000 in
theorem tw_229 : (Jvm.Cond.methodLink "SerialDesk" (134 : Nat) ({ cls := "SerialDesk$Transaction", name := "committedBefore", desc := "(I)Z" } : Jvm.MethodName)) ∈ lw_tt := List.mem_filter.mpr ⟨List.mem_of_getElem? (i := 257) rfl, rfl⟩
set_option maxRecDepth 20000 in
theorem tw_230 : (Jvm.Cond.instanceMethod ({ cls := "SerialDesk$Transaction", name := "committedBefore", desc := "(I)Z" } : Jvm.MethodName)) ∈ lw_tt := List.mem_filter.mpr ⟨List.mem_of_getElem? (i := 258) rfl, rfl⟩
set_option maxRecDepth 20000 in
theorem tw_231 : (Jvm.Cond.selects "SerialDesk$Transaction" ({ cls := "SerialDesk$Transaction", name := "committedBefore", desc := "(I)Z" } : Jvm.MethodName) ({ cls := "SerialDesk$Transaction", name := "committedBefore", desc := "(I)Z" } : Jvm.MethodName)) ∈ lw_tt := List.mem_filter.mpr ⟨List.mem_of_getElem? (i := 259) rfl, rfl⟩
set_option maxRecDepth 20000 in
theorem tw_232 : (Jvm.Cond.code ({ cls := "SerialDesk$Transaction", name := "committedBefore", desc := "(I)Z" } : Jvm.MethodName) prog_3_method_3_code (2 : Nat) (Option.some Jvm.ClassFile.FieldType.boolean)) ∈ lw_tt := List.mem_filter.mpr ⟨List.mem_of_getElem? (i := 260) rfl, rfl⟩
set_option maxRecDepth 20000 in
theorem tw_233 : (Jvm.Cond.methodLink "SerialDeskLaw" (39 : Nat) ({ cls := "SerialDesk", name := "miss", desc := "(II)Z" } : Jvm.MethodName)) ∈ lw_tt := List.mem_filter.mpr ⟨List.mem_of_getElem? (i := 261) rfl, rfl⟩
set_option maxRecDepth 20000 in
theorem tw_234 : (Jvm.Cond.instanceMethod ({ cls := "SerialDesk", name := "miss", desc := "(II)Z" } : Jvm.MethodName)) ∈ lw_tt := List.mem_filter.mpr ⟨List.mem_of_getElem? (i := 262) rfl, rfl⟩
set_option maxRecDepth 20000 in
theorem tw_235 : (Jvm.Cond.selects "SerialDesk" ({ cls := "SerialDesk", name := "miss", desc := "(II)Z" } : Jvm.MethodName) ({ cls := "SerialDesk", name := "miss", desc := "(II)Z" } : Jvm.MethodName)) ∈ lw_tt := List.mem_filter.mpr ⟨List.mem_of_getElem? (i := 263) rfl, rfl⟩
set_option maxRecDepth 20000 in
theorem tw_236 : (Jvm.Cond.code ({ cls := "SerialDesk", name := "miss", desc := "(II)Z" } : Jvm.MethodName) prog_1_method_7_code (5 : Nat) (Option.some Jvm.ClassFile.FieldType.boolean)) ∈ lw_tt := List.mem_filter.mpr ⟨List.mem_of_getElem? (i := 264) rfl, rfl⟩
set_option maxRecDepth 20000 in
theorem tw_237 : (Jvm.Cond.methodLink "SerialDesk" (99 : Nat) ({ cls := "SerialDesk", name := "keptWithId", desc := "(I)LSerialDesk$Transaction;" } : Jvm.MethodName)) ∈ lw_tt := List.mem_filter.mpr ⟨List.mem_of_getElem? (i := 265) rfl, rfl⟩
set_option maxRecDepth 20000 in
theorem tw_239 : (Jvm.Cond.instanceMethod ({ cls := "SerialDesk", name := "keptWithId", desc := "(I)LSerialDesk$Transaction;" } : Jvm.MethodName)) ∈ lw_tt := List.mem_filter.mpr ⟨List.mem_of_getElem? (i := 267) rfl, rfl⟩
set_option maxRecDepth 20000 in
theorem tw_240 : (Jvm.Cond.code ({ cls := "SerialDesk", name := "keptWithId", desc := "(I)LSerialDesk$Transaction;" } : Jvm.MethodName) prog_1_method_21_code (4 : Nat) (Option.some (Jvm.ClassFile.FieldType.object "SerialDesk$Transaction"))) ∈ lw_tt := List.mem_filter.mpr ⟨List.mem_of_getElem? (i := 268) rfl, rfl⟩
set_option maxRecDepth 20000 in
theorem tw_241 : (Jvm.Cond.methodLink "SerialDesk" (102 : Nat) ({ cls := "SerialDesk", name := "isSecondOfDanger", desc := "(LSerialDesk$Transaction;LSerialDesk$Transaction;)Z" } : Jvm.MethodName)) ∈ lw_tt := List.mem_filter.mpr ⟨List.mem_of_getElem? (i := 269) rfl, rfl⟩
set_option maxRecDepth 20000 in
theorem tw_243 : (Jvm.Cond.instanceMethod ({ cls := "SerialDesk", name := "isSecondOfDanger", desc := "(LSerialDesk$Transaction;LSerialDesk$Transaction;)Z" } : Jvm.MethodName)) ∈ lw_tt := List.mem_filter.mpr ⟨List.mem_of_getElem? (i := 271) rfl, rfl⟩
set_option maxRecDepth 20000 in
theorem tw_244 : (Jvm.Cond.code ({ cls := "SerialDesk", name := "isSecondOfDanger", desc := "(LSerialDesk$Transaction;LSerialDesk$Transaction;)Z" } : Jvm.MethodName) prog_1_method_24_code (3 : Nat) (Option.some Jvm.ClassFile.FieldType.boolean)) ∈ lw_tt := List.mem_filter.mpr ⟨List.mem_of_getElem? (i := 272) rfl, rfl⟩
set_option maxRecDepth 20000 in
theorem tw_245 : (Jvm.Cond.methodLink "SerialDesk" (117 : Nat) ({ cls := "SerialDesk$Transaction", name := "isRunning", desc := "()Z" } : Jvm.MethodName)) ∈ lw_tt := List.mem_filter.mpr ⟨List.mem_of_getElem? (i := 273) rfl, rfl⟩
set_option maxRecDepth 20000 in
theorem tw_246 : (Jvm.Cond.methodLink "SerialDesk" (137 : Nat) ({ cls := "SerialDesk", name := "isPointedAtByOneNotBefore", desc := "(LSerialDesk$Transaction;I)Z" } : Jvm.MethodName)) ∈ lw_tt := List.mem_filter.mpr ⟨List.mem_of_getElem? (i := 274) rfl, rfl⟩
set_option maxRecDepth 20000 in
theorem tw_248 : (Jvm.Cond.instanceMethod ({ cls := "SerialDesk", name := "isPointedAtByOneNotBefore", desc := "(LSerialDesk$Transaction;I)Z" } : Jvm.MethodName)) ∈ lw_tt := List.mem_filter.mpr ⟨List.mem_of_getElem? (i := 276) rfl, rfl⟩
set_option maxRecDepth 20000 in
theorem tw_249 : (Jvm.Cond.code ({ cls := "SerialDesk", name := "isPointedAtByOneNotBefore", desc := "(LSerialDesk$Transaction;I)Z" } : Jvm.MethodName) prog_1_method_25_code (5 : Nat) (Option.some Jvm.ClassFile.FieldType.boolean)) ∈ lw_tt := List.mem_filter.mpr ⟨List.mem_of_getElem? (i := 277) rfl, rfl⟩
set_option maxRecDepth 20000 in
theorem tw_250 : (Jvm.Cond.methodLink "SerialDesk" (131 : Nat) ({ cls := "SerialDesk$Transaction", name := "pointsAt", desc := "(LSerialDesk$Transaction;)Z" } : Jvm.MethodName)) ∈ lw_tt := List.mem_filter.mpr ⟨List.mem_of_getElem? (i := 278) rfl, rfl⟩
set_option maxRecDepth 20000 in
theorem tw_251 : (Jvm.Cond.instanceMethod ({ cls := "SerialDesk$Transaction", name := "pointsAt", desc := "(LSerialDesk$Transaction;)Z" } : Jvm.MethodName)) ∈ lw_tt := List.mem_filter.mpr ⟨List.mem_of_getElem? (i := 279) rfl, rfl⟩
set_option maxRecDepth 20000 in
theorem tw_252 : (Jvm.Cond.selects "SerialDesk$Transaction" ({ cls := "SerialDesk$Transaction", name := "pointsAt", desc := "(LSerialDesk$Transaction;)Z" } : Jvm.MethodName) ({ cls := "SerialDesk$Transaction", name := "pointsAt", desc := "(LSerialDesk$Transaction;)Z" } : Jvm.MethodName)) ∈ lw_tt := List.mem_filter.mpr ⟨List.mem_of_getElem? (i := 280) rfl, rfl⟩
set_option maxRecDepth 20000 in
theorem tw_253 : (Jvm.Cond.code ({ cls := "SerialDesk$Transaction", name := "pointsAt", desc := "(LSerialDesk$Transaction;)Z" } : Jvm.MethodName) prog_3_method_5_code (2 : Nat) (Option.some Jvm.ClassFile.FieldType.boolean)) ∈ lw_tt := List.mem_filter.mpr ⟨List.mem_of_getElem? (i := 281) rfl, rfl⟩
set_option maxRecDepth 20000 in
theorem tw_254 : (Jvm.Cond.methodLink "SerialDeskLaw" (43 : Nat) ({ cls := "SerialDesk", name := "commit", desc := "(I)I" } : Jvm.MethodName)) ∈ lw_tt := List.mem_filter.mpr ⟨List.mem_of_getElem? (i := 282) rfl, rfl⟩
set_option maxRecDepth 20000 in
theorem tw_255 : (Jvm.Cond.instanceMethod ({ cls := "SerialDesk", name := "commit", desc := "(I)I" } : Jvm.MethodName)) ∈ lw_tt := List.mem_filter.mpr ⟨List.mem_of_getElem? (i := 283) rfl, rfl⟩
set_option maxRecDepth 20000 in
theorem tw_256 : (Jvm.Cond.selects "SerialDesk" ({ cls := "SerialDesk", name := "commit", desc := "(I)I" } : Jvm.MethodName) ({ cls := "SerialDesk", name := "commit", desc := "(I)I" } : Jvm.MethodName)) ∈ lw_tt := List.mem_filter.mpr ⟨List.mem_of_getElem? (i := 284) rfl, rfl⟩
set_option maxRecDepth 20000 in
theorem tw_257 : (Jvm.Cond.code ({ cls := "SerialDesk", name := "commit", desc := "(I)I" } : Jvm.MethodName) prog_1_method_8_code (3 : Nat) (Option.some Jvm.ClassFile.FieldType.int)) ∈ lw_tt := List.mem_filter.mpr ⟨List.mem_of_getElem? (i := 285) rfl, rfl⟩
set_option maxRecDepth 20000 in
theorem tw_258 : (Jvm.Cond.methodLink "SerialDesk" (108 : Nat) ({ cls := "SerialDesk", name := "tellCommit", desc := "(LSerialDesk$Transaction;)V" } : Jvm.MethodName)) ∈ lw_tt := List.mem_filter.mpr ⟨List.mem_of_getElem? (i := 286) rfl, rfl⟩
set_option maxRecDepth 20000 in
theorem tw_260 : (Jvm.Cond.instanceMethod ({ cls := "SerialDesk", name := "tellCommit", desc := "(LSerialDesk$Transaction;)V" } : Jvm.MethodName)) ∈ lw_tt := List.mem_filter.mpr ⟨List.mem_of_getElem? (i := 288) rfl, rfl⟩
set_option maxRecDepth 20000 in
theorem tw_261 : (Jvm.Cond.code ({ cls := "SerialDesk", name := "tellCommit", desc := "(LSerialDesk$Transaction;)V" } : Jvm.MethodName) prog_1_method_26_code (4 : Nat) (Option.none : Option Jvm.ClassFile.FieldType)) ∈ lw_tt := List.mem_filter.mpr ⟨List.mem_of_getElem? (i := 289) rfl, rfl⟩
set_option maxRecDepth 20000 in
theorem tw_262 : (Jvm.Cond.methodLink "SerialDesk" (141 : Nat) ({ cls := "SerialDesk$Transaction", name := "noteCommitPointedAt", desc := "(I)V" } : Jvm.MethodName)) ∈ lw_tt := List.mem_filter.mpr ⟨List.mem_of_getElem? (i := 290) rfl, rfl⟩
set_option maxRecDepth 20000 in
theorem tw_263 : (Jvm.Cond.methodLink "SerialDesk" (111 : Nat) ({ cls := "SerialDesk", name := "dropNoLongerKept", desc := "()V" } : Jvm.MethodName)) ∈ lw_tt := List.mem_filter.mpr ⟨List.mem_of_getElem? (i := 291) rfl, rfl⟩
set_option maxRecDepth 20000 in
theorem tw_265 : (Jvm.Cond.instanceMethod ({ cls := "SerialDesk", name := "dropNoLongerKept", desc := "()V" } : Jvm.MethodName)) ∈ lw_tt := List.mem_filter.mpr ⟨List.mem_of_getElem? (i := 293) rfl, rfl⟩
set_option maxRecDepth 20000 in
theorem tw_266 : (Jvm.Cond.code ({ cls := "SerialDesk", name := "dropNoLongerKept", desc := "()V" } : Jvm.MethodName) prog_1_method_27_code (4 : Nat) (Option.none : Option Jvm.ClassFile.FieldType)) ∈ lw_tt := List.mem_filter.mpr ⟨List.mem_of_getElem? (i := 294) rfl, rfl⟩
set_option maxRecDepth 20000 in
theorem tw_267 : (Jvm.Cond.methodLink "SerialDesk" (145 : Nat) ({ cls := "SerialDesk", name := "commitsAtEarliestBegin", desc := "()I" } : Jvm.MethodName)) ∈ lw_tt := List.mem_filter.mpr ⟨List.mem_of_getElem? (i := 295) rfl, rfl⟩
set_option maxRecDepth 20000 in
theorem tw_269 : (Jvm.Cond.instanceMethod ({ cls := "SerialDesk", name := "commitsAtEarliestBegin", desc := "()I" } : Jvm.MethodName)) ∈ lw_tt := List.mem_filter.mpr ⟨List.mem_of_getElem? (i := 297) rfl, rfl⟩
set_option maxRecDepth 20000 in
theorem tw_270 : (Jvm.Cond.code ({ cls := "SerialDesk", name := "commitsAtEarliestBegin", desc := "()I" } : Jvm.MethodName) prog_1_method_28_code (4 : Nat) (Option.some Jvm.ClassFile.FieldType.int)) ∈ lw_tt := List.mem_filter.mpr ⟨List.mem_of_getElem? (i := 298) rfl, rfl⟩
set_option maxRecDepth 20000 in
theorem tw_271 : (Jvm.Cond.methodLink "SerialDesk" (114 : Nat) ({ cls := "SerialDesk", name := "drop", desc := "(LSerialDesk$Transaction;)V" } : Jvm.MethodName)) ∈ lw_tt := List.mem_filter.mpr ⟨List.mem_of_getElem? (i := 299) rfl, rfl⟩
set_option maxRecDepth 20000 in
theorem tw_273 : (Jvm.Cond.instanceMethod ({ cls := "SerialDesk", name := "drop", desc := "(LSerialDesk$Transaction;)V" } : Jvm.MethodName)) ∈ lw_tt := List.mem_filter.mpr ⟨List.mem_of_getElem? (i := 301) rfl, rfl⟩
set_option maxRecDepth 20000 in
theorem tw_274 : (Jvm.Cond.code ({ cls := "SerialDesk", name := "drop", desc := "(LSerialDesk$Transaction;)V" } : Jvm.MethodName) prog_1_method_29_code (4 : Nat) (Option.none : Option Jvm.ClassFile.FieldType)) ∈ lw_tt := List.mem_filter.mpr ⟨List.mem_of_getElem? (i := 302) rfl, rfl⟩
set_option maxRecDepth 20000 in
theorem tw_275 : (Jvm.Cond.methodLink "SerialDesk" (148 : Nat) ({ cls := "SerialDesk$Transaction", name := "forgetArrowTo", desc := "(LSerialDesk$Transaction;)V" } : Jvm.MethodName)) ∈ lw_tt := List.mem_filter.mpr ⟨List.mem_of_getElem? (i := 303) rfl, rfl⟩
set_option maxRecDepth 20000 in
theorem tw_276 : (Jvm.Cond.instanceMethod ({ cls := "SerialDesk$Transaction", name := "forgetArrowTo", desc := "(LSerialDesk$Transaction;)V" } : Jvm.MethodName)) ∈ lw_tt := List.mem_filter.mpr ⟨List.mem_of_getElem? (i := 304) rfl, rfl⟩
set_option maxRecDepth 20000 in
theorem tw_277 : (Jvm.Cond.selects "SerialDesk$Transaction" ({ cls := "SerialDesk$Transaction", name := "forgetArrowTo", desc := "(LSerialDesk$Transaction;)V" } : Jvm.MethodName) ({ cls := "SerialDesk$Transaction", name := "forgetArrowTo", desc := "(LSerialDesk$Transaction;)V" } : Jvm.MethodName)) ∈ lw_tt := List.mem_filter.mpr ⟨List.mem_of_getElem? (i := 305) rfl, rfl⟩
set_option maxRecDepth 20000 in
theorem tw_278 : (Jvm.Cond.code ({ cls := "SerialDesk$Transaction", name := "forgetArrowTo", desc := "(LSerialDesk$Transaction;)V" } : Jvm.MethodName) prog_3_method_7_code (2 : Nat) (Option.none : Option Jvm.ClassFile.FieldType)) ∈ lw_tt := List.mem_filter.mpr ⟨List.mem_of_getElem? (i := 306) rfl, rfl⟩
set_option maxRecDepth 20000 in
theorem tw_279 : (Jvm.Cond.constantLong "SerialDesk$Transaction" (53 : Nat) (-1 : Int64)) ∈ lw_tt := List.mem_filter.mpr ⟨List.mem_of_getElem? (i := 307) rfl, rfl⟩
set_option maxRecDepth 20000 in
theorem tw_280 : (Jvm.Cond.methodLink "SerialDeskLaw" (47 : Nat) ({ cls := "SerialDesk", name := "abort", desc := "(I)Z" } : Jvm.MethodName)) ∈ lw_tt := List.mem_filter.mpr ⟨List.mem_of_getElem? (i := 308) rfl, rfl⟩
set_option maxRecDepth 20000 in
theorem tw_281 : (Jvm.Cond.instanceMethod ({ cls := "SerialDesk", name := "abort", desc := "(I)Z" } : Jvm.MethodName)) ∈ lw_tt := List.mem_filter.mpr ⟨List.mem_of_getElem? (i := 309) rfl, rfl⟩
set_option maxRecDepth 20000 in
theorem tw_282 : (Jvm.Cond.selects "SerialDesk" ({ cls := "SerialDesk", name := "abort", desc := "(I)Z" } : Jvm.MethodName) ({ cls := "SerialDesk", name := "abort", desc := "(I)Z" } : Jvm.MethodName)) ∈ lw_tt := List.mem_filter.mpr ⟨List.mem_of_getElem? (i := 310) rfl, rfl⟩
set_option maxRecDepth 20000 in
theorem tw_283 : (Jvm.Cond.code ({ cls := "SerialDesk", name := "abort", desc := "(I)Z" } : Jvm.MethodName) prog_1_method_9_code (3 : Nat) (Option.some Jvm.ClassFile.FieldType.boolean)) ∈ lw_tt := List.mem_filter.mpr ⟨List.mem_of_getElem? (i := 311) rfl, rfl⟩
set_option maxRecDepth 20000 in
theorem tw_284 : (Jvm.Cond.methodLink "SerialDeskLaw" (52 : Nat) ({ cls := "SerialDesk", name := "doom", desc := "(I)Z" } : Jvm.MethodName)) ∈ lw_tt := List.mem_filter.mpr ⟨List.mem_of_getElem? (i := 312) rfl, rfl⟩
set_option maxRecDepth 20000 in
theorem tw_285 : (Jvm.Cond.instanceMethod ({ cls := "SerialDesk", name := "doom", desc := "(I)Z" } : Jvm.MethodName)) ∈ lw_tt := List.mem_filter.mpr ⟨List.mem_of_getElem? (i := 313) rfl, rfl⟩
set_option maxRecDepth 20000 in
theorem tw_286 : (Jvm.Cond.selects "SerialDesk" ({ cls := "SerialDesk", name := "doom", desc := "(I)Z" } : Jvm.MethodName) ({ cls := "SerialDesk", name := "doom", desc := "(I)Z" } : Jvm.MethodName)) ∈ lw_tt := List.mem_filter.mpr ⟨List.mem_of_getElem? (i := 314) rfl, rfl⟩
set_option maxRecDepth 20000 in
theorem tw_287 : (Jvm.Cond.code ({ cls := "SerialDesk", name := "doom", desc := "(I)Z" } : Jvm.MethodName) prog_1_method_10_code (3 : Nat) (Option.some Jvm.ClassFile.FieldType.boolean)) ∈ lw_tt := List.mem_filter.mpr ⟨List.mem_of_getElem? (i := 315) rfl, rfl⟩
set_option maxRecDepth 20000 in
theorem tw_288 : (Jvm.Cond.methodLink "SerialDeskLaw" (56 : Nat) ({ cls := "SerialDesk", name := "look", desc := "(II)I" } : Jvm.MethodName)) ∈ lw_tt := List.mem_filter.mpr ⟨List.mem_of_getElem? (i := 316) rfl, rfl⟩
set_option maxRecDepth 20000 in
theorem tw_289 : (Jvm.Cond.instanceMethod ({ cls := "SerialDesk", name := "look", desc := "(II)I" } : Jvm.MethodName)) ∈ lw_tt := List.mem_filter.mpr ⟨List.mem_of_getElem? (i := 317) rfl, rfl⟩
set_option maxRecDepth 20000 in
theorem tw_290 : (Jvm.Cond.selects "SerialDesk" ({ cls := "SerialDesk", name := "look", desc := "(II)I" } : Jvm.MethodName) ({ cls := "SerialDesk", name := "look", desc := "(II)I" } : Jvm.MethodName)) ∈ lw_tt := List.mem_filter.mpr ⟨List.mem_of_getElem? (i := 318) rfl, rfl⟩
set_option maxRecDepth 20000 in
theorem tw_291 : (Jvm.Cond.code ({ cls := "SerialDesk", name := "look", desc := "(II)I" } : Jvm.MethodName) prog_1_method_11_code (4 : Nat) (Option.some Jvm.ClassFile.FieldType.int)) ∈ lw_tt := List.mem_filter.mpr ⟨List.mem_of_getElem? (i := 319) rfl, rfl⟩
set_option maxRecDepth 20000 in
theorem tw_292 : (Jvm.Cond.methodLink "SerialDesk" (127 : Nat) ({ cls := "SerialDesk", name := "arrowsInto", desc := "(LSerialDesk$Transaction;)I" } : Jvm.MethodName)) ∈ lw_tt := List.mem_filter.mpr ⟨List.mem_of_getElem? (i := 320) rfl, rfl⟩
set_option maxRecDepth 20000 in
theorem tw_294 : (Jvm.Cond.instanceMethod ({ cls := "SerialDesk", name := "arrowsInto", desc := "(LSerialDesk$Transaction;)I" } : Jvm.MethodName)) ∈ lw_tt := List.mem_filter.mpr ⟨List.mem_of_getElem? (i := 322) rfl, rfl⟩
set_option maxRecDepth 20000 in
theorem tw_295 : (Jvm.Cond.code ({ cls := "SerialDesk", name := "arrowsInto", desc := "(LSerialDesk$Transaction;)I" } : Jvm.MethodName) prog_1_method_22_code (5 : Nat) (Option.some Jvm.ClassFile.FieldType.int)) ∈ lw_tt := List.mem_filter.mpr ⟨List.mem_of_getElem? (i := 323) rfl, rfl⟩
set_option maxRecDepth 20000 in
theorem tw_296 : (Jvm.Cond.methodLink "SerialDeskLaw" (61 : Nat) ({ cls := "SerialDesk", name := "arrow", desc := "(II)Z" } : Jvm.MethodName)) ∈ lw_tt := List.mem_filter.mpr ⟨List.mem_of_getElem? (i := 324) rfl, rfl⟩
set_option maxRecDepth 20000 in
theorem tw_297 : (Jvm.Cond.instanceMethod ({ cls := "SerialDesk", name := "arrow", desc := "(II)Z" } : Jvm.MethodName)) ∈ lw_tt := List.mem_filter.mpr ⟨List.mem_of_getElem? (i := 325) rfl, rfl⟩
set_option maxRecDepth 20000 in
theorem tw_298 : (Jvm.Cond.selects "SerialDesk" ({ cls := "SerialDesk", name := "arrow", desc := "(II)Z" } : Jvm.MethodName) ({ cls := "SerialDesk", name := "arrow", desc := "(II)Z" } : Jvm.MethodName)) ∈ lw_tt := List.mem_filter.mpr ⟨List.mem_of_getElem? (i := 326) rfl, rfl⟩
set_option maxRecDepth 20000 in
theorem tw_299 : (Jvm.Cond.code ({ cls := "SerialDesk", name := "arrow", desc := "(II)Z" } : Jvm.MethodName) prog_1_method_12_code (5 : Nat) (Option.some Jvm.ClassFile.FieldType.boolean)) ∈ lw_tt := List.mem_filter.mpr ⟨List.mem_of_getElem? (i := 327) rfl, rfl⟩
set_option maxRecDepth 20000 in
theorem tw_300 : (Jvm.Cond.methodLink "SerialDeskLaw" (65 : Nat) ({ cls := "SerialDesk", name := "rings", desc := "()I" } : Jvm.MethodName)) ∈ lw_tt := List.mem_filter.mpr ⟨List.mem_of_getElem? (i := 328) rfl, rfl⟩
set_option maxRecDepth 20000 in
theorem tw_301 : (Jvm.Cond.instanceMethod ({ cls := "SerialDesk", name := "rings", desc := "()I" } : Jvm.MethodName)) ∈ lw_tt := List.mem_filter.mpr ⟨List.mem_of_getElem? (i := 329) rfl, rfl⟩
set_option maxRecDepth 20000 in
theorem tw_302 : (Jvm.Cond.selects "SerialDesk" ({ cls := "SerialDesk", name := "rings", desc := "()I" } : Jvm.MethodName) ({ cls := "SerialDesk", name := "rings", desc := "()I" } : Jvm.MethodName)) ∈ lw_tt := List.mem_filter.mpr ⟨List.mem_of_getElem? (i := 330) rfl, rfl⟩
set_option maxRecDepth 20000 in
theorem tw_303 : (Jvm.Cond.code ({ cls := "SerialDesk", name := "rings", desc := "()I" } : Jvm.MethodName) prog_1_method_13_code (1 : Nat) (Option.some Jvm.ClassFile.FieldType.int)) ∈ lw_tt := List.mem_filter.mpr ⟨List.mem_of_getElem? (i := 331) rfl, rfl⟩
set_option maxRecDepth 20000 in
theorem tw_304 : (Jvm.Cond.methodLink "SerialDeskLaw" (70 : Nat) ({ cls := "SerialDesk", name := "count", desc := "(I)I" } : Jvm.MethodName)) ∈ lw_tt := List.mem_filter.mpr ⟨List.mem_of_getElem? (i := 332) rfl, rfl⟩
set_option maxRecDepth 20000 in
theorem tw_305 : (Jvm.Cond.instanceMethod ({ cls := "SerialDesk", name := "count", desc := "(I)I" } : Jvm.MethodName)) ∈ lw_tt := List.mem_filter.mpr ⟨List.mem_of_getElem? (i := 333) rfl, rfl⟩
set_option maxRecDepth 20000 in
theorem tw_306 : (Jvm.Cond.selects "SerialDesk" ({ cls := "SerialDesk", name := "count", desc := "(I)I" } : Jvm.MethodName) ({ cls := "SerialDesk", name := "count", desc := "(I)I" } : Jvm.MethodName)) ∈ lw_tt := List.mem_filter.mpr ⟨List.mem_of_getElem? (i := 334) rfl, rfl⟩
set_option maxRecDepth 20000 in
theorem tw_307 : (Jvm.Cond.code ({ cls := "SerialDesk", name := "count", desc := "(I)I" } : Jvm.MethodName) prog_1_method_14_code (2 : Nat) (Option.some Jvm.ClassFile.FieldType.int)) ∈ lw_tt := List.mem_filter.mpr ⟨List.mem_of_getElem? (i := 335) rfl, rfl⟩
set_option maxRecDepth 20000 in
theorem tw_308 : (Jvm.Cond.classLink "SerialDeskLaw" (10 : Nat) "SerialDeskModel") ∈ lw_tt := List.mem_filter.mpr ⟨List.mem_of_getElem? (i := 336) rfl, rfl⟩
set_option maxRecDepth 20000 in
theorem tw_309 : (Jvm.Cond.instantiable "SerialDeskModel" (22 : Nat)) ∈ lw_tt := List.mem_filter.mpr ⟨List.mem_of_getElem? (i := 337) rfl, rfl⟩
set_option maxRecDepth 20000 in
theorem tw_310 : (Jvm.Cond.methodLink "SerialDeskLaw" (12 : Nat) ({ cls := "SerialDeskModel", name := "<init>", desc := "()V" } : Jvm.MethodName)) ∈ lw_tt := List.mem_filter.mpr ⟨List.mem_of_getElem? (i := 338) rfl, rfl⟩
set_option maxRecDepth 20000 in
theorem tw_311 : (Jvm.Cond.instanceMethod ({ cls := "SerialDeskModel", name := "<init>", desc := "()V" } : Jvm.MethodName)) ∈ lw_tt := List.mem_filter.mpr ⟨List.mem_of_getElem? (i := 339) rfl, rfl⟩
set_option maxRecDepth 20000 in
theorem tw_312 : (Jvm.Cond.code ({ cls := "SerialDeskModel", name := "<init>", desc := "()V" } : Jvm.MethodName) prog_6_method_1_code (1 : Nat) (Option.none : Option Jvm.ClassFile.FieldType)) ∈ lw_tt := List.mem_filter.mpr ⟨List.mem_of_getElem? (i := 340) rfl, rfl⟩
set_option maxRecDepth 20000 in
theorem tw_313 : (Jvm.Cond.methodLink "SerialDeskModel" (1 : Nat) ({ cls := "java/lang/Object", name := "<init>", desc := "()V" } : Jvm.MethodName)) ∈ lw_tt := List.mem_filter.mpr ⟨List.mem_of_getElem? (i := 341) rfl, rfl⟩
set_option maxRecDepth 20000 in
theorem tw_314 : (Jvm.Cond.fieldLink "SerialDeskModel" (77 : Nat) "SerialDeskModel" "begun" "I") ∈ lw_tt := List.mem_filter.mpr ⟨List.mem_of_getElem? (i := 342) rfl, rfl⟩
set_option maxRecDepth 20000 in
theorem tw_315 : (Jvm.Cond.fieldLink "SerialDeskModel" (80 : Nat) "SerialDeskModel" "commits" "I") ∈ lw_tt := List.mem_filter.mpr ⟨List.mem_of_getElem? (i := 343) rfl, rfl⟩
set_option maxRecDepth 20000 in
theorem tw_316 : (Jvm.Cond.fieldLink "SerialDeskModel" (69 : Nat) "SerialDeskModel" "kept" "I") ∈ lw_tt := List.mem_filter.mpr ⟨List.mem_of_getElem? (i := 344) rfl, rfl⟩
set_option maxRecDepth 20000 in
theorem tw_317 : (Jvm.Cond.fieldLink "SerialDeskModel" (7 : Nat) "SerialDeskModel" "id" "[I") ∈ lw_tt := List.mem_filter.mpr ⟨List.mem_of_getElem? (i := 345) rfl, rfl⟩
set_option maxRecDepth 20000 in
theorem tw_318 : (Jvm.Cond.fieldLink "SerialDeskModel" (13 : Nat) "SerialDeskModel" "session" "[I") ∈ lw_tt := List.mem_filter.mpr ⟨List.mem_of_getElem? (i := 346) rfl, rfl⟩
set_option maxRecDepth 20000 in
theorem tw_319 : (Jvm.Cond.fieldLink "SerialDeskModel" (16 : Nat) "SerialDeskModel" "since" "[I") ∈ lw_tt := List.mem_filter.mpr ⟨List.mem_of_getElem? (i := 347) rfl, rfl⟩
set_option maxRecDepth 20000 in
theorem tw_320 : (Jvm.Cond.fieldLink "SerialDeskModel" (19 : Nat) "SerialDeskModel" "place" "[I") ∈ lw_tt := List.mem_filter.mpr ⟨List.mem_of_getElem? (i := 348) rfl, rfl⟩
set_option maxRecDepth 20000 in
theorem tw_321 : (Jvm.Cond.fieldLink "SerialDeskModel" (22 : Nat) "SerialDeskModel" "doomed" "[Z") ∈ lw_tt := List.mem_filter.mpr ⟨List.mem_of_getElem? (i := 349) rfl, rfl⟩
set_option maxRecDepth 20000 in
theorem tw_322 : (Jvm.Cond.fieldLink "SerialDeskModel" (26 : Nat) "SerialDeskModel" "least" "[I") ∈ lw_tt := List.mem_filter.mpr ⟨List.mem_of_getElem? (i := 350) rfl, rfl⟩
set_option maxRecDepth 20000 in
theorem tw_323 : (Jvm.Cond.fieldLink "SerialDeskModel" (29 : Nat) "SerialDeskModel" "arrows" "[Z") ∈ lw_tt := List.mem_filter.mpr ⟨List.mem_of_getElem? (i := 351) rfl, rfl⟩
set_option maxRecDepth 20000 in
theorem tw_324 : (Jvm.Cond.fieldLink "SerialDeskModel" (32 : Nat) "SerialDeskModel" "ranges" "[I") ∈ lw_tt := List.mem_filter.mpr ⟨List.mem_of_getElem? (i := 352) rfl, rfl⟩
set_option maxRecDepth 20000 in
theorem tw_325 : (Jvm.Cond.fieldLink "SerialDeskModel" (35 : Nat) "SerialDeskModel" "columns" "[I") ∈ lw_tt := List.mem_filter.mpr ⟨List.mem_of_getElem? (i := 353) rfl, rfl⟩
set_option maxRecDepth 20000 in
theorem tw_326 : (Jvm.Cond.fieldLink "SerialDeskModel" (38 : Nat) "SerialDeskModel" "bounds" "[I") ∈ lw_tt := List.mem_filter.mpr ⟨List.mem_of_getElem? (i := 354) rfl, rfl⟩
set_option maxRecDepth 20000 in
theorem tw_327 : (Jvm.Cond.fieldLink "SerialDeskModel" (41 : Nat) "SerialDeskModel" "lows" "[J") ∈ lw_tt := List.mem_filter.mpr ⟨List.mem_of_getElem? (i := 355) rfl, rfl⟩
set_option maxRecDepth 20000 in
theorem tw_328 : (Jvm.Cond.fieldLink "SerialDeskModel" (45 : Nat) "SerialDeskModel" "highs" "[J") ∈ lw_tt := List.mem_filter.mpr ⟨List.mem_of_getElem? (i := 356) rfl, rfl⟩
set_option maxRecDepth 20000 in
theorem tw_329 : (Jvm.Cond.fieldLink "SerialDeskModel" (48 : Nat) "SerialDeskModel" "sinceOf" "[I") ∈ lw_tt := List.mem_filter.mpr ⟨List.mem_of_getElem? (i := 357) rfl, rfl⟩
set_option maxRecDepth 20000 in
theorem tw_330 : (Jvm.Cond.fieldLink "SerialDeskModel" (51 : Nat) "SerialDeskModel" "commitOf" "[I") ∈ lw_tt := List.mem_filter.mpr ⟨List.mem_of_getElem? (i := 358) rfl, rfl⟩
set_option maxRecDepth 20000 in
theorem tw_331 : (Jvm.Cond.fieldLink "SerialDeskModel" (54 : Nat) "SerialDeskModel" "ever" "[J") ∈ lw_tt := List.mem_filter.mpr ⟨List.mem_of_getElem? (i := 359) rfl, rfl⟩
set_option maxRecDepth 20000 in
theorem tw_332 : (Jvm.Cond.fieldLink "SerialDeskModel" (57 : Nat) "SerialDeskModel" "met" "[Z") ∈ lw_tt := List.mem_filter.mpr ⟨List.mem_of_getElem? (i := 360) rfl, rfl⟩
set_option maxRecDepth 20000 in
theorem tw_333 : (Jvm.Cond.fieldLink "SerialDeskModel" (60 : Nat) "SerialDeskModel" "row" "[I") ∈ lw_tt := List.mem_filter.mpr ⟨List.mem_of_getElem? (i := 361) rfl, rfl⟩
set_option maxRecDepth 20000 in
theorem tw_334 : (Jvm.Cond.fieldLink "SerialDeskModel" (63 : Nat) "SerialDeskModel" "has" "[Z") ∈ lw_tt := List.mem_filter.mpr ⟨List.mem_of_getElem? (i := 362) rfl, rfl⟩
set_option maxRecDepth 20000 in
theorem tw_335 : (Jvm.Cond.fieldLink "SerialDeskModel" (66 : Nat) "SerialDeskModel" "cells" "[J") ∈ lw_tt := List.mem_filter.mpr ⟨List.mem_of_getElem? (i := 363) rfl, rfl⟩
set_option maxRecDepth 20000 in
theorem tw_381 : (Jvm.Cond.methodLink "SerialDeskLaw" (17 : Nat) ({ cls := "SerialDeskModel", name := "begin", desc := "(I)I" } : Jvm.MethodName)) ∈ lw_tt := List.mem_filter.mpr ⟨List.mem_of_getElem? (i := 409) rfl, rfl⟩
set_option maxRecDepth 20000 in
theorem tw_382 : (Jvm.Cond.instanceMethod ({ cls := "SerialDeskModel", name := "begin", desc := "(I)I" } : Jvm.MethodName)) ∈ lw_tt := List.mem_filter.mpr ⟨List.mem_of_getElem? (i := 410) rfl, rfl⟩
set_option maxRecDepth 20000 in
theorem tw_383 : (Jvm.Cond.selects "SerialDeskModel" ({ cls := "SerialDeskModel", name := "begin", desc := "(I)I" } : Jvm.MethodName) ({ cls := "SerialDeskModel", name := "begin", desc := "(I)I" } : Jvm.MethodName)) ∈ lw_tt := List.mem_filter.mpr ⟨List.mem_of_getElem? (i := 411) rfl, rfl⟩
set_option maxRecDepth 20000 in
theorem tw_384 : (Jvm.Cond.code ({ cls := "SerialDeskModel", name := "begin", desc := "(I)I" } : Jvm.MethodName) prog_6_method_5_code (3 : Nat) (Option.some Jvm.ClassFile.FieldType.int)) ∈ lw_tt := List.mem_filter.mpr ⟨List.mem_of_getElem? (i := 412) rfl, rfl⟩
set_option maxRecDepth 20000 in
theorem tw_385 : (Jvm.Cond.methodLink "SerialDeskModel" (73 : Nat) ({ cls := "SerialDeskModel", name := "running", desc := "(I)I" } : Jvm.MethodName)) ∈ lw_tt := List.mem_filter.mpr ⟨List.mem_of_getElem? (i := 413) rfl, rfl⟩
set_option maxRecDepth 20000 in
theorem tw_387 : (Jvm.Cond.instanceMethod ({ cls := "SerialDeskModel", name := "running", desc := "(I)I" } : Jvm.MethodName)) ∈ lw_tt := List.mem_filter.mpr ⟨List.mem_of_getElem? (i := 415) rfl, rfl⟩
set_option maxRecDepth 20000 in
theorem tw_388 : (Jvm.Cond.code ({ cls := "SerialDeskModel", name := "running", desc := "(I)I" } : Jvm.MethodName) prog_6_method_2_code (4 : Nat) (Option.some Jvm.ClassFile.FieldType.int)) ∈ lw_tt := List.mem_filter.mpr ⟨List.mem_of_getElem? (i := 416) rfl, rfl⟩
set_option maxRecDepth 20000 in
theorem tw_389 : (Jvm.Cond.methodLink "SerialDeskLaw" (24 : Nat) ({ cls := "SerialDeskModel", name := "read", desc := "(IIIJJI)I" } : Jvm.MethodName)) ∈ lw_tt := List.mem_filter.mpr ⟨List.mem_of_getElem? (i := 417) rfl, rfl⟩
set_option maxRecDepth 20000 in
theorem tw_390 : (Jvm.Cond.instanceMethod ({ cls := "SerialDeskModel", name := "read", desc := "(IIIJJI)I" } : Jvm.MethodName)) ∈ lw_tt := List.mem_filter.mpr ⟨List.mem_of_getElem? (i := 418) rfl, rfl⟩
set_option maxRecDepth 20000 in
theorem tw_391 : (Jvm.Cond.selects "SerialDeskModel" ({ cls := "SerialDeskModel", name := "read", desc := "(IIIJJI)I" } : Jvm.MethodName) ({ cls := "SerialDeskModel", name := "read", desc := "(IIIJJI)I" } : Jvm.MethodName)) ∈ lw_tt := List.mem_filter.mpr ⟨List.mem_of_getElem? (i := 419) rfl, rfl⟩
set_option maxRecDepth 20000 in
theorem tw_392 : (Jvm.Cond.code ({ cls := "SerialDeskModel", name := "read", desc := "(IIIJJI)I" } : Jvm.MethodName) prog_6_method_8_code (15 : Nat) (Option.some Jvm.ClassFile.FieldType.int)) ∈ lw_tt := List.mem_filter.mpr ⟨List.mem_of_getElem? (i := 420) rfl, rfl⟩
set_option maxRecDepth 20000 in
theorem tw_393 : (Jvm.Cond.methodLink "SerialDeskModel" (83 : Nat) ({ cls := "SerialDeskModel", name := "isSame", desc := "(IIJJI)Z" } : Jvm.MethodName)) ∈ lw_tt := List.mem_filter.mpr ⟨List.mem_of_getElem? (i := 421) rfl, rfl⟩
set_option maxRecDepth 20000 in
theorem tw_395 : (Jvm.Cond.instanceMethod ({ cls := "SerialDeskModel", name := "isSame", desc := "(IIJJI)Z" } : Jvm.MethodName)) ∈ lw_tt := List.mem_filter.mpr ⟨List.mem_of_getElem? (i := 423) rfl, rfl⟩
set_option maxRecDepth 20000 in
theorem tw_396 : (Jvm.Cond.code ({ cls := "SerialDeskModel", name := "isSame", desc := "(IIJJI)Z" } : Jvm.MethodName) prog_6_method_6_code (9 : Nat) (Option.some Jvm.ClassFile.FieldType.boolean)) ∈ lw_tt := List.mem_filter.mpr ⟨List.mem_of_getElem? (i := 424) rfl, rfl⟩
set_option maxRecDepth 20000 in
theorem tw_397 : (Jvm.Cond.methodLink "SerialDeskModel" (87 : Nat) ({ cls := "SerialDeskModel", name := "setRange", desc := "(IIJJI)V" } : Jvm.MethodName)) ∈ lw_tt := List.mem_filter.mpr ⟨List.mem_of_getElem? (i := 425) rfl, rfl⟩
set_option maxRecDepth 20000 in
theorem tw_399 : (Jvm.Cond.instanceMethod ({ cls := "SerialDeskModel", name := "setRange", desc := "(IIJJI)V" } : Jvm.MethodName)) ∈ lw_tt := List.mem_filter.mpr ⟨List.mem_of_getElem? (i := 427) rfl, rfl⟩
set_option maxRecDepth 20000 in
theorem tw_400 : (Jvm.Cond.code ({ cls := "SerialDeskModel", name := "setRange", desc := "(IIJJI)V" } : Jvm.MethodName) prog_6_method_7_code (8 : Nat) (Option.none : Option Jvm.ClassFile.FieldType)) ∈ lw_tt := List.mem_filter.mpr ⟨List.mem_of_getElem? (i := 428) rfl, rfl⟩
set_option maxRecDepth 20000 in
theorem tw_401 : (Jvm.Cond.methodLink "SerialDeskLaw" (29 : Nat) ({ cls := "SerialDeskModel", name := "cell", desc := "(IJ)Z" } : Jvm.MethodName)) ∈ lw_tt := List.mem_filter.mpr ⟨List.mem_of_getElem? (i := 429) rfl, rfl⟩
set_option maxRecDepth 20000 in
theorem tw_402 : (Jvm.Cond.instanceMethod ({ cls := "SerialDeskModel", name := "cell", desc := "(IJ)Z" } : Jvm.MethodName)) ∈ lw_tt := List.mem_filter.mpr ⟨List.mem_of_getElem? (i := 430) rfl, rfl⟩
set_option maxRecDepth 20000 in
theorem tw_403 : (Jvm.Cond.selects "SerialDeskModel" ({ cls := "SerialDeskModel", name := "cell", desc := "(IJ)Z" } : Jvm.MethodName) ({ cls := "SerialDeskModel", name := "cell", desc := "(IJ)Z" } : Jvm.MethodName)) ∈ lw_tt := List.mem_filter.mpr ⟨List.mem_of_getElem? (i := 431) rfl, rfl⟩
set_option maxRecDepth 20000 in
theorem tw_404 : (Jvm.Cond.code ({ cls := "SerialDeskModel", name := "cell", desc := "(IJ)Z" } : Jvm.MethodName) prog_6_method_9_code (4 : Nat) (Option.some Jvm.ClassFile.FieldType.boolean)) ∈ lw_tt := List.mem_filter.mpr ⟨List.mem_of_getElem? (i := 432) rfl, rfl⟩
set_option maxRecDepth 20000 in
theorem tw_405 : (Jvm.Cond.methodLink "SerialDeskLaw" (33 : Nat) ({ cls := "SerialDeskModel", name := "clear", desc := "()V" } : Jvm.MethodName)) ∈ lw_tt := List.mem_filter.mpr ⟨List.mem_of_getElem? (i := 433) rfl, rfl⟩
set_option maxRecDepth 20000 in
theorem tw_406 : (Jvm.Cond.instanceMethod ({ cls := "SerialDeskModel", name := "clear", desc := "()V" } : Jvm.MethodName)) ∈ lw_tt := List.mem_filter.mpr ⟨List.mem_of_getElem? (i := 434) rfl, rfl⟩
set_option maxRecDepth 20000 in
theorem tw_407 : (Jvm.Cond.selects "SerialDeskModel" ({ cls := "SerialDeskModel", name := "clear", desc := "()V" } : Jvm.MethodName) ({ cls := "SerialDeskModel", name := "clear", desc := "()V" } : Jvm.MethodName)) ∈ lw_tt := List.mem_filter.mpr ⟨List.mem_of_getElem? (i := 435) rfl, rfl⟩
set_option maxRecDepth 20000 in
theorem tw_408 : (Jvm.Cond.code ({ cls := "SerialDeskModel", name := "clear", desc := "()V" } : Jvm.MethodName) prog_6_method_10_code (2 : Nat) (Option.none : Option Jvm.ClassFile.FieldType)) ∈ lw_tt := List.mem_filter.mpr ⟨List.mem_of_getElem? (i := 436) rfl, rfl⟩
set_option maxRecDepth 20000 in
theorem tw_409 : (Jvm.Cond.methodLink "SerialDeskLaw" (38 : Nat) ({ cls := "SerialDeskModel", name := "write", desc := "(II)Z" } : Jvm.MethodName)) ∈ lw_tt := List.mem_filter.mpr ⟨List.mem_of_getElem? (i := 437) rfl, rfl⟩
set_option maxRecDepth 20000 in
theorem tw_410 : (Jvm.Cond.instanceMethod ({ cls := "SerialDeskModel", name := "write", desc := "(II)Z" } : Jvm.MethodName)) ∈ lw_tt := List.mem_filter.mpr ⟨List.mem_of_getElem? (i := 438) rfl, rfl⟩
set_option maxRecDepth 20000 in
theorem tw_411 : (Jvm.Cond.selects "SerialDeskModel" ({ cls := "SerialDeskModel", name := "write", desc := "(II)Z" } : Jvm.MethodName) ({ cls := "SerialDeskModel", name := "write", desc := "(II)Z" } : Jvm.MethodName)) ∈ lw_tt := List.mem_filter.mpr ⟨List.mem_of_getElem? (i := 439) rfl, rfl⟩
set_option maxRecDepth 20000 in
theorem tw_412 : (Jvm.Cond.code ({ cls := "SerialDeskModel", name := "write", desc := "(II)Z" } : Jvm.MethodName) prog_6_method_15_code (5 : Nat) (Option.some Jvm.ClassFile.FieldType.boolean)) ∈ lw_tt := List.mem_filter.mpr ⟨List.mem_of_getElem? (i := 440) rfl, rfl⟩
set_option maxRecDepth 20000 in
theorem tw_413 : (Jvm.Cond.methodLink "SerialDeskModel" (95 : Nat) ({ cls := "SerialDeskModel", name := "concurrent", desc := "(II)Z" } : Jvm.MethodName)) ∈ lw_tt := List.mem_filter.mpr ⟨List.mem_of_getElem? (i := 441) rfl, rfl⟩
set_option maxRecDepth 20000 in
theorem tw_415 : (Jvm.Cond.instanceMethod ({ cls := "SerialDeskModel", name := "concurrent", desc := "(II)Z" } : Jvm.MethodName)) ∈ lw_tt := List.mem_filter.mpr ⟨List.mem_of_getElem? (i := 443) rfl, rfl⟩
set_option maxRecDepth 20000 in
theorem tw_416 : (Jvm.Cond.code ({ cls := "SerialDeskModel", name := "concurrent", desc := "(II)Z" } : Jvm.MethodName) prog_6_method_4_code (3 : Nat) (Option.some Jvm.ClassFile.FieldType.boolean)) ∈ lw_tt := List.mem_filter.mpr ⟨List.mem_of_getElem? (i := 444) rfl, rfl⟩
set_option maxRecDepth 20000 in
theorem tw_417 : (Jvm.Cond.methodLink "SerialDeskModel" (99 : Nat) ({ cls := "SerialDeskModel", name := "hasRead", desc := "(II)Z" } : Jvm.MethodName)) ∈ lw_tt := List.mem_filter.mpr ⟨List.mem_of_getElem? (i := 445) rfl, rfl⟩
set_option maxRecDepth 20000 in
theorem tw_419 : (Jvm.Cond.instanceMethod ({ cls := "SerialDeskModel", name := "hasRead", desc := "(II)Z" } : Jvm.MethodName)) ∈ lw_tt := List.mem_filter.mpr ⟨List.mem_of_getElem? (i := 447) rfl, rfl⟩
set_option maxRecDepth 20000 in
theorem tw_420 : (Jvm.Cond.code ({ cls := "SerialDeskModel", name := "hasRead", desc := "(II)Z" } : Jvm.MethodName) prog_6_method_12_code (5 : Nat) (Option.some Jvm.ClassFile.FieldType.boolean)) ∈ lw_tt := List.mem_filter.mpr ⟨List.mem_of_getElem? (i := 448) rfl, rfl⟩
set_option maxRecDepth 20000 in
theorem tw_421 : (Jvm.Cond.methodLink "SerialDeskModel" (91 : Nat) ({ cls := "SerialDeskModel", name := "isIn", desc := "(I)Z" } : Jvm.MethodName)) ∈ lw_tt := List.mem_filter.mpr ⟨List.mem_of_getElem? (i := 449) rfl, rfl⟩
set_option maxRecDepth 20000 in
theorem tw_423 : (Jvm.Cond.instanceMethod ({ cls := "SerialDeskModel", name := "isIn", desc := "(I)Z" } : Jvm.MethodName)) ∈ lw_tt := List.mem_filter.mpr ⟨List.mem_of_getElem? (i := 451) rfl, rfl⟩
set_option maxRecDepth 20000 in
theorem tw_424 : (Jvm.Cond.code ({ cls := "SerialDeskModel", name := "isIn", desc := "(I)Z" } : Jvm.MethodName) prog_6_method_11_code (7 : Nat) (Option.some Jvm.ClassFile.FieldType.boolean)) ∈ lw_tt := List.mem_filter.mpr ⟨List.mem_of_getElem? (i := 452) rfl, rfl⟩
set_option maxRecDepth 20000 in
theorem tw_425 : (Jvm.Cond.methodLink "SerialDeskModel" (102 : Nat) ({ cls := "SerialDeskModel", name := "point", desc := "(II)V" } : Jvm.MethodName)) ∈ lw_tt := List.mem_filter.mpr ⟨List.mem_of_getElem? (i := 453) rfl, rfl⟩
set_option maxRecDepth 20000 in
theorem tw_427 : (Jvm.Cond.instanceMethod ({ cls := "SerialDeskModel", name := "point", desc := "(II)V" } : Jvm.MethodName)) ∈ lw_tt := List.mem_filter.mpr ⟨List.mem_of_getElem? (i := 455) rfl, rfl⟩
set_option maxRecDepth 20000 in
theorem tw_428 : (Jvm.Cond.code ({ cls := "SerialDeskModel", name := "point", desc := "(II)V" } : Jvm.MethodName) prog_6_method_14_code (3 : Nat) (Option.none : Option Jvm.ClassFile.FieldType)) ∈ lw_tt := List.mem_filter.mpr ⟨List.mem_of_getElem? (i := 456) rfl, rfl⟩
set_option maxRecDepth 20000 in
theorem tw_429 : (Jvm.Cond.methodLink "SerialDeskModel" (106 : Nat) ({ cls := "SerialDeskModel", name := "isDanger", desc := "(II)Z" } : Jvm.MethodName)) ∈ lw_tt := List.mem_filter.mpr ⟨List.mem_of_getElem? (i := 457) rfl, rfl⟩
set_option maxRecDepth 20000 in
theorem tw_431 : (Jvm.Cond.instanceMethod ({ cls := "SerialDeskModel", name := "isDanger", desc := "(II)Z" } : Jvm.MethodName)) ∈ lw_tt := List.mem_filter.mpr ⟨List.mem_of_getElem? (i := 459) rfl, rfl⟩
set_option maxRecDepth 20000 in
theorem tw_432 : (Jvm.Cond.code ({ cls := "SerialDeskModel", name := "isDanger", desc := "(II)Z" } : Jvm.MethodName) prog_6_method_13_code (4 : Nat) (Option.some Jvm.ClassFile.FieldType.boolean)) ∈ lw_tt := List.mem_filter.mpr ⟨List.mem_of_getElem? (i := 460) rfl, rfl⟩
set_option maxRecDepth 20000 in
theorem tw_433 : (Jvm.Cond.methodLink "SerialDeskLaw" (42 : Nat) ({ cls := "SerialDeskModel", name := "miss", desc := "(II)Z" } : Jvm.MethodName)) ∈ lw_tt := List.mem_filter.mpr ⟨List.mem_of_getElem? (i := 461) rfl, rfl⟩
set_option maxRecDepth 20000 in
theorem tw_434 : (Jvm.Cond.instanceMethod ({ cls := "SerialDeskModel", name := "miss", desc := "(II)Z" } : Jvm.MethodName)) ∈ lw_tt := List.mem_filter.mpr ⟨List.mem_of_getElem? (i := 462) rfl, rfl⟩
set_option maxRecDepth 20000 in
theorem tw_435 : (Jvm.Cond.selects "SerialDeskModel" ({ cls := "SerialDeskModel", name := "miss", desc := "(II)Z" } : Jvm.MethodName) ({ cls := "SerialDeskModel", name := "miss", desc := "(II)Z" } : Jvm.MethodName)) ∈ lw_tt := List.mem_filter.mpr ⟨List.mem_of_getElem? (i := 463) rfl, rfl⟩
set_option maxRecDepth 20000 in
theorem tw_436 : (Jvm.Cond.code ({ cls := "SerialDeskModel", name := "miss", desc := "(II)Z" } : Jvm.MethodName) prog_6_method_16_code (6 : Nat) (Option.some Jvm.ClassFile.FieldType.boolean)) ∈ lw_tt := List.mem_filter.mpr ⟨List.mem_of_getElem? (i := 464) rfl, rfl⟩
set_option maxRecDepth 20000 in
theorem tw_437 : (Jvm.Cond.methodLink "SerialDeskModel" (109 : Nat) ({ cls := "SerialDeskModel", name := "find", desc := "(I)I" } : Jvm.MethodName)) ∈ lw_tt := List.mem_filter.mpr ⟨List.mem_of_getElem? (i := 465) rfl, rfl⟩
set_option maxRecDepth 20000 in
theorem tw_439 : (Jvm.Cond.instanceMethod ({ cls := "SerialDeskModel", name := "find", desc := "(I)I" } : Jvm.MethodName)) ∈ lw_tt := List.mem_filter.mpr ⟨List.mem_of_getElem? (i := 467) rfl, rfl⟩
set_option maxRecDepth 20000 in
theorem tw_440 : (Jvm.Cond.code ({ cls := "SerialDeskModel", name := "find", desc := "(I)I" } : Jvm.MethodName) prog_6_method_3_code (4 : Nat) (Option.some Jvm.ClassFile.FieldType.int)) ∈ lw_tt := List.mem_filter.mpr ⟨List.mem_of_getElem? (i := 468) rfl, rfl⟩
set_option maxRecDepth 20000 in
theorem tw_441 : (Jvm.Cond.methodLink "SerialDeskLaw" (46 : Nat) ({ cls := "SerialDeskModel", name := "commit", desc := "(I)I" } : Jvm.MethodName)) ∈ lw_tt := List.mem_filter.mpr ⟨List.mem_of_getElem? (i := 469) rfl, rfl⟩
set_option maxRecDepth 20000 in
theorem tw_442 : (Jvm.Cond.instanceMethod ({ cls := "SerialDeskModel", name := "commit", desc := "(I)I" } : Jvm.MethodName)) ∈ lw_tt := List.mem_filter.mpr ⟨List.mem_of_getElem? (i := 470) rfl, rfl⟩
set_option maxRecDepth 20000 in
theorem tw_443 : (Jvm.Cond.selects "SerialDeskModel" ({ cls := "SerialDeskModel", name := "commit", desc := "(I)I" } : Jvm.MethodName) ({ cls := "SerialDeskModel", name := "commit", desc := "(I)I" } : Jvm.MethodName)) ∈ lw_tt := List.mem_filter.mpr ⟨List.mem_of_getElem? (i := 471) rfl, rfl⟩
set_option maxRecDepth 20000 in
theorem tw_444 : (Jvm.Cond.code ({ cls := "SerialDeskModel", name := "commit", desc := "(I)I" } : Jvm.MethodName) prog_6_method_20_code (5 : Nat) (Option.some Jvm.ClassFile.FieldType.int)) ∈ lw_tt := List.mem_filter.mpr ⟨List.mem_of_getElem? (i := 472) rfl, rfl⟩
set_option maxRecDepth 20000 in
theorem tw_445 : (Jvm.Cond.methodLink "SerialDeskModel" (119 : Nat) ({ cls := "SerialDeskModel", name := "forget", desc := "()V" } : Jvm.MethodName)) ∈ lw_tt := List.mem_filter.mpr ⟨List.mem_of_getElem? (i := 473) rfl, rfl⟩
set_option maxRecDepth 20000 in
theorem tw_447 : (Jvm.Cond.instanceMethod ({ cls := "SerialDeskModel", name := "forget", desc := "()V" } : Jvm.MethodName)) ∈ lw_tt := List.mem_filter.mpr ⟨List.mem_of_getElem? (i := 475) rfl, rfl⟩
set_option maxRecDepth 20000 in
theorem tw_448 : (Jvm.Cond.code ({ cls := "SerialDeskModel", name := "forget", desc := "()V" } : Jvm.MethodName) prog_6_method_19_code (4 : Nat) (Option.none : Option Jvm.ClassFile.FieldType)) ∈ lw_tt := List.mem_filter.mpr ⟨List.mem_of_getElem? (i := 476) rfl, rfl⟩
set_option maxRecDepth 20000 in
theorem tw_449 : (Jvm.Cond.methodLink "SerialDeskModel" (115 : Nat) ({ cls := "SerialDeskModel", name := "drop", desc := "(I)V" } : Jvm.MethodName)) ∈ lw_tt := List.mem_filter.mpr ⟨List.mem_of_getElem? (i := 477) rfl, rfl⟩
set_option maxRecDepth 20000 in
theorem tw_451 : (Jvm.Cond.instanceMethod ({ cls := "SerialDeskModel", name := "drop", desc := "(I)V" } : Jvm.MethodName)) ∈ lw_tt := List.mem_filter.mpr ⟨List.mem_of_getElem? (i := 479) rfl, rfl⟩
set_option maxRecDepth 20000 in
theorem tw_452 : (Jvm.Cond.code ({ cls := "SerialDeskModel", name := "drop", desc := "(I)V" } : Jvm.MethodName) prog_6_method_18_code (4 : Nat) (Option.none : Option Jvm.ClassFile.FieldType)) ∈ lw_tt := List.mem_filter.mpr ⟨List.mem_of_getElem? (i := 480) rfl, rfl⟩
set_option maxRecDepth 20000 in
theorem tw_453 : (Jvm.Cond.methodLink "SerialDeskModel" (112 : Nat) ({ cls := "SerialDeskModel", name := "move", desc := "(II)V" } : Jvm.MethodName)) ∈ lw_tt := List.mem_filter.mpr ⟨List.mem_of_getElem? (i := 481) rfl, rfl⟩
set_option maxRecDepth 20000 in
theorem tw_455 : (Jvm.Cond.instanceMethod ({ cls := "SerialDeskModel", name := "move", desc := "(II)V" } : Jvm.MethodName)) ∈ lw_tt := List.mem_filter.mpr ⟨List.mem_of_getElem? (i := 483) rfl, rfl⟩
set_option maxRecDepth 20000 in
theorem tw_456 : (Jvm.Cond.code ({ cls := "SerialDeskModel", name := "move", desc := "(II)V" } : Jvm.MethodName) prog_6_method_17_code (4 : Nat) (Option.none : Option Jvm.ClassFile.FieldType)) ∈ lw_tt := List.mem_filter.mpr ⟨List.mem_of_getElem? (i := 484) rfl, rfl⟩
set_option maxRecDepth 20000 in
theorem tw_457 : (Jvm.Cond.methodLink "SerialDeskLaw" (51 : Nat) ({ cls := "SerialDeskModel", name := "abort", desc := "(I)Z" } : Jvm.MethodName)) ∈ lw_tt := List.mem_filter.mpr ⟨List.mem_of_getElem? (i := 485) rfl, rfl⟩
set_option maxRecDepth 20000 in
theorem tw_458 : (Jvm.Cond.instanceMethod ({ cls := "SerialDeskModel", name := "abort", desc := "(I)Z" } : Jvm.MethodName)) ∈ lw_tt := List.mem_filter.mpr ⟨List.mem_of_getElem? (i := 486) rfl, rfl⟩
set_option maxRecDepth 20000 in
theorem tw_459 : (Jvm.Cond.selects "SerialDeskModel" ({ cls := "SerialDeskModel", name := "abort", desc := "(I)Z" } : Jvm.MethodName) ({ cls := "SerialDeskModel", name := "abort", desc := "(I)Z" } : Jvm.MethodName)) ∈ lw_tt := List.mem_filter.mpr ⟨List.mem_of_getElem? (i := 487) rfl, rfl⟩
set_option maxRecDepth 20000 in
theorem tw_460 : (Jvm.Cond.code ({ cls := "SerialDeskModel", name := "abort", desc := "(I)Z" } : Jvm.MethodName) prog_6_method_21_code (3 : Nat) (Option.some Jvm.ClassFile.FieldType.boolean)) ∈ lw_tt := List.mem_filter.mpr ⟨List.mem_of_getElem? (i := 488) rfl, rfl⟩
set_option maxRecDepth 20000 in
theorem tw_461 : (Jvm.Cond.methodLink "SerialDeskLaw" (55 : Nat) ({ cls := "SerialDeskModel", name := "doom", desc := "(I)Z" } : Jvm.MethodName)) ∈ lw_tt := List.mem_filter.mpr ⟨List.mem_of_getElem? (i := 489) rfl, rfl⟩
set_option maxRecDepth 20000 in
theorem tw_462 : (Jvm.Cond.instanceMethod ({ cls := "SerialDeskModel", name := "doom", desc := "(I)Z" } : Jvm.MethodName)) ∈ lw_tt := List.mem_filter.mpr ⟨List.mem_of_getElem? (i := 490) rfl, rfl⟩
set_option maxRecDepth 20000 in
theorem tw_463 : (Jvm.Cond.selects "SerialDeskModel" ({ cls := "SerialDeskModel", name := "doom", desc := "(I)Z" } : Jvm.MethodName) ({ cls := "SerialDeskModel", name := "doom", desc := "(I)Z" } : Jvm.MethodName)) ∈ lw_tt := List.mem_filter.mpr ⟨List.mem_of_getElem? (i := 491) rfl, rfl⟩
set_option maxRecDepth 20000 in
theorem tw_464 : (Jvm.Cond.code ({ cls := "SerialDeskModel", name := "doom", desc := "(I)Z" } : Jvm.MethodName) prog_6_method_22_code (3 : Nat) (Option.some Jvm.ClassFile.FieldType.boolean)) ∈ lw_tt := List.mem_filter.mpr ⟨List.mem_of_getElem? (i := 492) rfl, rfl⟩
set_option maxRecDepth 20000 in
theorem tw_465 : (Jvm.Cond.methodLink "SerialDeskLaw" (60 : Nat) ({ cls := "SerialDeskModel", name := "look", desc := "(II)I" } : Jvm.MethodName)) ∈ lw_tt := List.mem_filter.mpr ⟨List.mem_of_getElem? (i := 493) rfl, rfl⟩
set_option maxRecDepth 20000 in
theorem tw_466 : (Jvm.Cond.instanceMethod ({ cls := "SerialDeskModel", name := "look", desc := "(II)I" } : Jvm.MethodName)) ∈ lw_tt := List.mem_filter.mpr ⟨List.mem_of_getElem? (i := 494) rfl, rfl⟩
set_option maxRecDepth 20000 in
theorem tw_467 : (Jvm.Cond.selects "SerialDeskModel" ({ cls := "SerialDeskModel", name := "look", desc := "(II)I" } : Jvm.MethodName) ({ cls := "SerialDeskModel", name := "look", desc := "(II)I" } : Jvm.MethodName)) ∈ lw_tt := List.mem_filter.mpr ⟨List.mem_of_getElem? (i := 495) rfl, rfl⟩
set_option maxRecDepth 20000 in
theorem tw_468 : (Jvm.Cond.code ({ cls := "SerialDeskModel", name := "look", desc := "(II)I" } : Jvm.MethodName) prog_6_method_23_code (6 : Nat) (Option.some Jvm.ClassFile.FieldType.int)) ∈ lw_tt := List.mem_filter.mpr ⟨List.mem_of_getElem? (i := 496) rfl, rfl⟩
set_option maxRecDepth 20000 in
theorem tw_469 : (Jvm.Cond.methodLink "SerialDeskLaw" (64 : Nat) ({ cls := "SerialDeskModel", name := "arrow", desc := "(II)Z" } : Jvm.MethodName)) ∈ lw_tt := List.mem_filter.mpr ⟨List.mem_of_getElem? (i := 497) rfl, rfl⟩
set_option maxRecDepth 20000 in
theorem tw_470 : (Jvm.Cond.instanceMethod ({ cls := "SerialDeskModel", name := "arrow", desc := "(II)Z" } : Jvm.MethodName)) ∈ lw_tt := List.mem_filter.mpr ⟨List.mem_of_getElem? (i := 498) rfl, rfl⟩
set_option maxRecDepth 20000 in
theorem tw_471 : (Jvm.Cond.selects "SerialDeskModel" ({ cls := "SerialDeskModel", name := "arrow", desc := "(II)Z" } : Jvm.MethodName) ({ cls := "SerialDeskModel", name := "arrow", desc := "(II)Z" } : Jvm.MethodName)) ∈ lw_tt := List.mem_filter.mpr ⟨List.mem_of_getElem? (i := 499) rfl, rfl⟩
set_option maxRecDepth 20000 in
theorem tw_472 : (Jvm.Cond.code ({ cls := "SerialDeskModel", name := "arrow", desc := "(II)Z" } : Jvm.MethodName) prog_6_method_24_code (5 : Nat) (Option.some Jvm.ClassFile.FieldType.boolean)) ∈ lw_tt := List.mem_filter.mpr ⟨List.mem_of_getElem? (i := 500) rfl, rfl⟩
set_option maxRecDepth 20000 in
theorem tw_473 : (Jvm.Cond.methodLink "SerialDeskLaw" (69 : Nat) ({ cls := "SerialDeskModel", name := "rings", desc := "()I" } : Jvm.MethodName)) ∈ lw_tt := List.mem_filter.mpr ⟨List.mem_of_getElem? (i := 501) rfl, rfl⟩
set_option maxRecDepth 20000 in
theorem tw_474 : (Jvm.Cond.instanceMethod ({ cls := "SerialDeskModel", name := "rings", desc := "()I" } : Jvm.MethodName)) ∈ lw_tt := List.mem_filter.mpr ⟨List.mem_of_getElem? (i := 502) rfl, rfl⟩
set_option maxRecDepth 20000 in
theorem tw_475 : (Jvm.Cond.selects "SerialDeskModel" ({ cls := "SerialDeskModel", name := "rings", desc := "()I" } : Jvm.MethodName) ({ cls := "SerialDeskModel", name := "rings", desc := "()I" } : Jvm.MethodName)) ∈ lw_tt := List.mem_filter.mpr ⟨List.mem_of_getElem? (i := 503) rfl, rfl⟩
set_option maxRecDepth 20000 in
theorem tw_476 : (Jvm.Cond.code ({ cls := "SerialDeskModel", name := "rings", desc := "()I" } : Jvm.MethodName) prog_6_method_27_code (3 : Nat) (Option.some Jvm.ClassFile.FieldType.int)) ∈ lw_tt := List.mem_filter.mpr ⟨List.mem_of_getElem? (i := 504) rfl, rfl⟩
set_option maxRecDepth 20000 in
theorem tw_477 : (Jvm.Cond.methodLink "SerialDeskModel" (125 : Nat) ({ cls := "SerialDeskModel", name := "comesBack", desc := "(I)Z" } : Jvm.MethodName)) ∈ lw_tt := List.mem_filter.mpr ⟨List.mem_of_getElem? (i := 505) rfl, rfl⟩
set_option maxRecDepth 20000 in
theorem tw_479 : (Jvm.Cond.instanceMethod ({ cls := "SerialDeskModel", name := "comesBack", desc := "(I)Z" } : Jvm.MethodName)) ∈ lw_tt := List.mem_filter.mpr ⟨List.mem_of_getElem? (i := 507) rfl, rfl⟩
set_option maxRecDepth 20000 in
theorem tw_480 : (Jvm.Cond.code ({ cls := "SerialDeskModel", name := "comesBack", desc := "(I)Z" } : Jvm.MethodName) prog_6_method_26_code (5 : Nat) (Option.some Jvm.ClassFile.FieldType.boolean)) ∈ lw_tt := List.mem_filter.mpr ⟨List.mem_of_getElem? (i := 508) rfl, rfl⟩
set_option maxRecDepth 20000 in
theorem tw_481 : (Jvm.Cond.methodLink "SerialDeskModel" (122 : Nat) ({ cls := "SerialDeskModel", name := "isBefore", desc := "(II)Z" } : Jvm.MethodName)) ∈ lw_tt := List.mem_filter.mpr ⟨List.mem_of_getElem? (i := 509) rfl, rfl⟩
set_option maxRecDepth 20000 in
theorem tw_483 : (Jvm.Cond.instanceMethod ({ cls := "SerialDeskModel", name := "isBefore", desc := "(II)Z" } : Jvm.MethodName)) ∈ lw_tt := List.mem_filter.mpr ⟨List.mem_of_getElem? (i := 511) rfl, rfl⟩
set_option maxRecDepth 20000 in
theorem tw_484 : (Jvm.Cond.code ({ cls := "SerialDeskModel", name := "isBefore", desc := "(II)Z" } : Jvm.MethodName) prog_6_method_25_code (3 : Nat) (Option.some Jvm.ClassFile.FieldType.boolean)) ∈ lw_tt := List.mem_filter.mpr ⟨List.mem_of_getElem? (i := 512) rfl, rfl⟩
set_option maxRecDepth 20000 in
theorem tw_485 : (Jvm.Cond.methodLink "SerialDeskLaw" (73 : Nat) ({ cls := "SerialDeskModel", name := "count", desc := "(I)I" } : Jvm.MethodName)) ∈ lw_tt := List.mem_filter.mpr ⟨List.mem_of_getElem? (i := 513) rfl, rfl⟩
set_option maxRecDepth 20000 in
theorem tw_486 : (Jvm.Cond.instanceMethod ({ cls := "SerialDeskModel", name := "count", desc := "(I)I" } : Jvm.MethodName)) ∈ lw_tt := List.mem_filter.mpr ⟨List.mem_of_getElem? (i := 514) rfl, rfl⟩
set_option maxRecDepth 20000 in
theorem tw_487 : (Jvm.Cond.selects "SerialDeskModel" ({ cls := "SerialDeskModel", name := "count", desc := "(I)I" } : Jvm.MethodName) ({ cls := "SerialDeskModel", name := "count", desc := "(I)I" } : Jvm.MethodName)) ∈ lw_tt := List.mem_filter.mpr ⟨List.mem_of_getElem? (i := 515) rfl, rfl⟩
set_option maxRecDepth 20000 in
theorem tw_488 : (Jvm.Cond.code ({ cls := "SerialDeskModel", name := "count", desc := "(I)I" } : Jvm.MethodName) prog_6_method_28_code (2 : Nat) (Option.some Jvm.ClassFile.FieldType.int)) ∈ lw_tt := List.mem_filter.mpr ⟨List.mem_of_getElem? (i := 516) rfl, rfl⟩
set_option maxRecDepth 20000 in
theorem tw_489 : (Jvm.Cond.constantLong "SerialDeskLaw" (18 : Nat) (4294967295 : Int64)) ∈ lw_tt := List.mem_filter.mpr ⟨List.mem_of_getElem? (i := 517) rfl, rfl⟩
