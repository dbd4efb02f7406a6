/-- a private method of a class that the tables say can be made, by its rows of tables_1 -/
def lw_okq (q : MethodName × Nat) : Prop := (q.1.cls ≠ "java/lang/invoke/MethodHandle" ∧ q.1.cls ≠ "java/lang/invoke/VarHandle") ∧ Cond.instantiable q.1.cls q.2 ∈ tables_1 ∧ Cond.privateMethod q.1 ∈ tables_1 ∧ Cond.instanceMethod q.1 ∈ tables_1
theorem lw_p0 : lw_okq (⟨"KeptOrders", "rowComes", "(I)V"⟩, 9) := ⟨⟨by decide +kernel, by decide +kernel⟩, List.mem_of_getElem? (i := 17) (by decide +kernel), List.mem_of_getElem? (i := 312) (by decide +kernel), List.mem_of_getElem? (i := 313) (by decide +kernel)⟩
theorem lw_p1 : lw_okq (⟨"KeptOrders$Order", "placeFor", "(I)I"⟩, 12) := ⟨⟨by decide +kernel, by decide +kernel⟩, List.mem_of_getElem? (i := 338) (by decide +kernel), List.mem_of_getElem? (i := 336) (by decide +kernel), List.mem_of_getElem? (i := 337) (by decide +kernel)⟩
theorem lw_p2 : lw_okq (⟨"KeptOrders$Order", "isAhead", "(II)Z"⟩, 12) := ⟨⟨by decide +kernel, by decide +kernel⟩, List.mem_of_getElem? (i := 338) (by decide +kernel), List.mem_of_getElem? (i := 345) (by decide +kernel), List.mem_of_getElem? (i := 346) (by decide +kernel)⟩
theorem lw_p3 : lw_okq (⟨"KeptOrders$Order", "leafFor", "(I)I"⟩, 12) := ⟨⟨by decide +kernel, by decide +kernel⟩, List.mem_of_getElem? (i := 338) (by decide +kernel), List.mem_of_getElem? (i := 354) (by decide +kernel), List.mem_of_getElem? (i := 355) (by decide +kernel)⟩
theorem lw_p4 : lw_okq (⟨"KeptOrders$Order", "leafAt", "(I)I"⟩, 12) := ⟨⟨by decide +kernel, by decide +kernel⟩, List.mem_of_getElem? (i := 338) (by decide +kernel), List.mem_of_getElem? (i := 358) (by decide +kernel), List.mem_of_getElem? (i := 359) (by decide +kernel)⟩
theorem lw_p5 : lw_okq (⟨"KeptOrders$Order", "cut", "(I)V"⟩, 12) := ⟨⟨by decide +kernel, by decide +kernel⟩, List.mem_of_getElem? (i := 338) (by decide +kernel), List.mem_of_getElem? (i := 373) (by decide +kernel), List.mem_of_getElem? (i := 374) (by decide +kernel)⟩
theorem lw_p6 : lw_okq (⟨"KeptOrders$Question", "rowsAhead", "(LKeptOrders$Table;JI)I"⟩, 7) := ⟨⟨by decide +kernel, by decide +kernel⟩, List.mem_of_getElem? (i := 42) (by decide +kernel), List.mem_of_getElem? (i := 627) (by decide +kernel), List.mem_of_getElem? (i := 628) (by decide +kernel)⟩
theorem lw_p7 : lw_okq (⟨"KeptOrders$Question", "sortNumber", "(LKeptOrders$Table;I)I"⟩, 7) := ⟨⟨by decide +kernel, by decide +kernel⟩, List.mem_of_getElem? (i := 42) (by decide +kernel), List.mem_of_getElem? (i := 631) (by decide +kernel), List.mem_of_getElem? (i := 632) (by decide +kernel)⟩
theorem lw_p8 : lw_okq (⟨"KeptOrders$Ways", "add", "(III)V"⟩, 8) := ⟨⟨by decide +kernel, by decide +kernel⟩, List.mem_of_getElem? (i := 146) (by decide +kernel), List.mem_of_getElem? (i := 662) (by decide +kernel), List.mem_of_getElem? (i := 663) (by decide +kernel)⟩
theorem lw_p9 : lw_okq (⟨"KeptOrders$Ways", "listAlone", "(LKeptOrders$Question;II)V"⟩, 8) := ⟨⟨by decide +kernel, by decide +kernel⟩, List.mem_of_getElem? (i := 146) (by decide +kernel), List.mem_of_getElem? (i := 667) (by decide +kernel), List.mem_of_getElem? (i := 668) (by decide +kernel)⟩
theorem lw_p10 : lw_okq (⟨"KeptOrders$Order", "hasSome", "(JII)Z"⟩, 12) := ⟨⟨by decide +kernel, by decide +kernel⟩, List.mem_of_getElem? (i := 338) (by decide +kernel), List.mem_of_getElem? (i := 690) (by decide +kernel), List.mem_of_getElem? (i := 691) (by decide +kernel)⟩
theorem lw_p11 : lw_okq (⟨"KeptOrders$Ways", "listBoth", "(III)V"⟩, 8) := ⟨⟨by decide +kernel, by decide +kernel⟩, List.mem_of_getElem? (i := 146) (by decide +kernel), List.mem_of_getElem? (i := 714) (by decide +kernel), List.mem_of_getElem? (i := 715) (by decide +kernel)⟩
theorem lw_p12 : lw_okq (⟨"KeptOrders$Ways", "leftBy", "(I)J"⟩, 8) := ⟨⟨by decide +kernel, by decide +kernel⟩, List.mem_of_getElem? (i := 146) (by decide +kernel), List.mem_of_getElem? (i := 719) (by decide +kernel), List.mem_of_getElem? (i := 720) (by decide +kernel)⟩
theorem lw_p13 : lw_okq (⟨"KeptOrders$Workload", "workOutAll", "()V"⟩, 9) := ⟨⟨by decide +kernel, by decide +kernel⟩, List.mem_of_getElem? (i := 180) (by decide +kernel), List.mem_of_getElem? (i := 789) (by decide +kernel), List.mem_of_getElem? (i := 790) (by decide +kernel)⟩
theorem lw_p14 : lw_okq (⟨"KeptOrders$Workload", "isBetter", "(II)Z"⟩, 9) := ⟨⟨by decide +kernel, by decide +kernel⟩, List.mem_of_getElem? (i := 180) (by decide +kernel), List.mem_of_getElem? (i := 814) (by decide +kernel), List.mem_of_getElem? (i := 815) (by decide +kernel)⟩
theorem lw_p15 : lw_okq (⟨"KeptOrders$Workload", "nextStep", "(II)I"⟩, 9) := ⟨⟨by decide +kernel, by decide +kernel⟩, List.mem_of_getElem? (i := 180) (by decide +kernel), List.mem_of_getElem? (i := 831) (by decide +kernel), List.mem_of_getElem? (i := 832) (by decide +kernel)⟩
def lw_privs_1 : List (MethodName × Nat) := [(⟨"KeptOrders", "rowComes", "(I)V"⟩, 9), (⟨"KeptOrders$Order", "placeFor", "(I)I"⟩, 12), (⟨"KeptOrders$Order", "isAhead", "(II)Z"⟩, 12), (⟨"KeptOrders$Order", "leafFor", "(I)I"⟩, 12), (⟨"KeptOrders$Order", "leafAt", "(I)I"⟩, 12), (⟨"KeptOrders$Order", "cut", "(I)V"⟩, 12), (⟨"KeptOrders$Question", "rowsAhead", "(LKeptOrders$Table;JI)I"⟩, 7), (⟨"KeptOrders$Question", "sortNumber", "(LKeptOrders$Table;I)I"⟩, 7), (⟨"KeptOrders$Ways", "add", "(III)V"⟩, 8), (⟨"KeptOrders$Ways", "listAlone", "(LKeptOrders$Question;II)V"⟩, 8), (⟨"KeptOrders$Order", "hasSome", "(JII)Z"⟩, 12), (⟨"KeptOrders$Ways", "listBoth", "(III)V"⟩, 8), (⟨"KeptOrders$Ways", "leftBy", "(I)J"⟩, 8), (⟨"KeptOrders$Workload", "workOutAll", "()V"⟩, 9), (⟨"KeptOrders$Workload", "isBetter", "(II)Z"⟩, 9), (⟨"KeptOrders$Workload", "nextStep", "(II)I"⟩, 9)]
theorem lw_r1 : ∀ q ∈ lw_privs_1, lw_okq q := List.forall_mem_cons.mpr ⟨lw_p0, List.forall_mem_cons.mpr ⟨lw_p1, List.forall_mem_cons.mpr ⟨lw_p2, List.forall_mem_cons.mpr ⟨lw_p3, List.forall_mem_cons.mpr ⟨lw_p4, List.forall_mem_cons.mpr ⟨lw_p5, List.forall_mem_cons.mpr ⟨lw_p6, List.forall_mem_cons.mpr ⟨lw_p7, List.forall_mem_cons.mpr ⟨lw_p8, List.forall_mem_cons.mpr ⟨lw_p9, List.forall_mem_cons.mpr ⟨lw_p10, List.forall_mem_cons.mpr ⟨lw_p11, List.forall_mem_cons.mpr ⟨lw_p12, List.forall_mem_cons.mpr ⟨lw_p13, List.forall_mem_cons.mpr ⟨lw_p14, List.forall_mem_cons.mpr ⟨lw_p15, fun _ h => absurd h List.not_mem_nil⟩⟩⟩⟩⟩⟩⟩⟩⟩⟩⟩⟩⟩⟩⟩⟩
theorem lw_p16 : lw_okq (⟨"KeptOrders$Sheet", "takes", "(I)Z"⟩, 7) := ⟨⟨by decide +kernel, by decide +kernel⟩, List.mem_of_getElem? (i := 25) (by decide +kernel), List.mem_of_getElem? (i := 902) (by decide +kernel), List.mem_of_getElem? (i := 903) (by decide +kernel)⟩
theorem lw_p17 : lw_okq (⟨"KeptOrders$Sheet", "moves", "(I)Z"⟩, 7) := ⟨⟨by decide +kernel, by decide +kernel⟩, List.mem_of_getElem? (i := 25) (by decide +kernel), List.mem_of_getElem? (i := 906) (by decide +kernel), List.mem_of_getElem? (i := 907) (by decide +kernel)⟩
theorem lw_p18 : lw_okq (⟨"KeptOrders$Sheet", "takesColumn", "(I)Z"⟩, 7) := ⟨⟨by decide +kernel, by decide +kernel⟩, List.mem_of_getElem? (i := 25) (by decide +kernel), List.mem_of_getElem? (i := 910) (by decide +kernel), List.mem_of_getElem? (i := 911) (by decide +kernel)⟩
theorem lw_p19 : lw_okq (⟨"KeptOrders$Sheet", "takesSign", "(I)Z"⟩, 7) := ⟨⟨by decide +kernel, by decide +kernel⟩, List.mem_of_getElem? (i := 25) (by decide +kernel), List.mem_of_getElem? (i := 917) (by decide +kernel), List.mem_of_getElem? (i := 918) (by decide +kernel)⟩
theorem lw_p20 : lw_okq (⟨"KeptOrders$Sheet", "takesDigit", "(III)Z"⟩, 7) := ⟨⟨by decide +kernel, by decide +kernel⟩, List.mem_of_getElem? (i := 25) (by decide +kernel), List.mem_of_getElem? (i := 921) (by decide +kernel), List.mem_of_getElem? (i := 922) (by decide +kernel)⟩
theorem lw_p21 : lw_okq (⟨"KeptOrders$Sheet", "endsCondition", "(I)Z"⟩, 7) := ⟨⟨by decide +kernel, by decide +kernel⟩, List.mem_of_getElem? (i := 25) (by decide +kernel), List.mem_of_getElem? (i := 925) (by decide +kernel), List.mem_of_getElem? (i := 926) (by decide +kernel)⟩
theorem lw_p22 : lw_okq (⟨"KeptOrders$Sheet", "takesShown", "(I)Z"⟩, 7) := ⟨⟨by decide +kernel, by decide +kernel⟩, List.mem_of_getElem? (i := 25) (by decide +kernel), List.mem_of_getElem? (i := 938) (by decide +kernel), List.mem_of_getElem? (i := 939) (by decide +kernel)⟩
theorem lw_p23 : lw_okq (⟨"KeptOrders$Sheet", "takesSort", "(I)Z"⟩, 7) := ⟨⟨by decide +kernel, by decide +kernel⟩, List.mem_of_getElem? (i := 25) (by decide +kernel), List.mem_of_getElem? (i := 950) (by decide +kernel), List.mem_of_getElem? (i := 951) (by decide +kernel)⟩
def lw_privs_2 : List (MethodName × Nat) := [(⟨"KeptOrders$Sheet", "takes", "(I)Z"⟩, 7), (⟨"KeptOrders$Sheet", "moves", "(I)Z"⟩, 7), (⟨"KeptOrders$Sheet", "takesColumn", "(I)Z"⟩, 7), (⟨"KeptOrders$Sheet", "takesSign", "(I)Z"⟩, 7), (⟨"KeptOrders$Sheet", "takesDigit", "(III)Z"⟩, 7), (⟨"KeptOrders$Sheet", "endsCondition", "(I)Z"⟩, 7), (⟨"KeptOrders$Sheet", "takesShown", "(I)Z"⟩, 7), (⟨"KeptOrders$Sheet", "takesSort", "(I)Z"⟩, 7)]
theorem lw_r2 : ∀ q ∈ lw_privs_2, lw_okq q := List.forall_mem_cons.mpr ⟨lw_p16, List.forall_mem_cons.mpr ⟨lw_p17, List.forall_mem_cons.mpr ⟨lw_p18, List.forall_mem_cons.mpr ⟨lw_p19, List.forall_mem_cons.mpr ⟨lw_p20, List.forall_mem_cons.mpr ⟨lw_p21, List.forall_mem_cons.mpr ⟨lw_p22, List.forall_mem_cons.mpr ⟨lw_p23, fun _ h => absurd h List.not_mem_nil⟩⟩⟩⟩⟩⟩⟩⟩
def lw_privs : List (MethodName × Nat) := lw_privs_1 ++ (lw_privs_2)
def lw_tbl : List Cond := k2_sels lw_privs ++ tables_1
theorem lw_privs_ok : ∀ q ∈ lw_privs, lw_okq q := by
  show ∀ q ∈ lw_privs_1 ++ (lw_privs_2), lw_okq q
  exact List.forall_mem_append.mpr ⟨lw_r1, lw_r2⟩
def RX0 : String := "KeptOrders$Marks"
def TX0 : u_T := fun k => match k with
  | 0 => ("KeptOrders$Marks", "list", "[LKeptOrders$Table;", true)
  | _ => ("KeptOrders$Marks", "marked", "I", false)
def tyX0 : Nat → FieldType := fun k => match k with
  | 0 => .array (.object "KeptOrders$Table")
  | _ => .int
theorem nmX0 : ∀ a, a < 2 → ∀ b, b < 2 → a ≠ b → (TX0 a).2.1 ≠ (TX0 b).2.1 := by decide +kernel
theorem tyX0_ok : ∀ k, k < 2 → parseFieldDescriptor (TX0 k).2.2.1 = some (tyX0 k) := by decide +kernel
abbrev cX0_init : ByteArray := prog_2_method_1_code
def yX0_init : MethodName := ⟨RX0, "<init>", "()V"⟩
abbrev cX0_marked : ByteArray := prog_2_method_2_code
def yX0_marked : MethodName := ⟨RX0, "marked", "()I"⟩
def RX1 : String := "KeptOrders$Numbers"
def TX1 : u_T := fun k => match k with
  | _ => ("KeptOrders$Numbers", "held", "[I", true)
def tyX1 : Nat → FieldType := fun k => match k with
  | _ => .array .int
theorem nmX1 : ∀ a, a < 1 → ∀ b, b < 1 → a ≠ b → (TX1 a).2.1 ≠ (TX1 b).2.1 := by decide +kernel
theorem tyX1_ok : ∀ k, k < 1 → parseFieldDescriptor (TX1 k).2.2.1 = some (tyX1 k) := by decide +kernel
abbrev cX1_init : ByteArray := prog_3_method_1_code
def yX1_init : MethodName := ⟨RX1, "<init>", "(I)V"⟩
abbrev cX1_at : ByteArray := prog_3_method_2_code
def yX1_at : MethodName := ⟨RX1, "at", "(I)I"⟩
abbrev cX1_put : ByteArray := prog_3_method_3_code
def yX1_put : MethodName := ⟨RX1, "put", "(II)V"⟩
abbrev cX1_raise : ByteArray := prog_3_method_4_code
def yX1_raise : MethodName := ⟨RX1, "raise", "(II)V"⟩
abbrev cX1_insert : ByteArray := prog_3_method_5_code
def yX1_insert : MethodName := ⟨RX1, "insert", "(III)V"⟩
abbrev cX1_remove : ByteArray := prog_3_method_6_code
def yX1_remove : MethodName := ⟨RX1, "remove", "(II)V"⟩
abbrev cX1_placeOf : ByteArray := prog_3_method_7_code
def yX1_placeOf : MethodName := ⟨RX1, "placeOf", "(II)I"⟩
def RX2 : String := "KeptOrders$Order"
def TX2 : u_T := fun k => match k with
  | 0 => ("KeptOrders$Order", "table", "LKeptOrders$Table;", true)
  | 1 => ("KeptOrders$Order", "key", "I", true)
  | 2 => ("KeptOrders$Order", "width", "I", true)
  | 3 => ("KeptOrders$Order", "room", "I", true)
  | 4 => ("KeptOrders$Order", "columns", "I", true)
  | 5 => ("KeptOrders$Order", "along", "LKeptOrders$Numbers;", true)
  | 6 => ("KeptOrders$Order", "slots", "LKeptOrders$Numbers;", true)
  | 7 => ("KeptOrders$Order", "sizes", "LKeptOrders$Numbers;", true)
  | 8 => ("KeptOrders$Order", "entries", "I", false)
  | 9 => ("KeptOrders$Order", "leaves", "I", false)
  | 10 => ("KeptOrders$Order", "cuts", "I", false)
  | _ => ("KeptOrders$Order", "dropped", "Z", false)
def tyX2 : Nat → FieldType := fun k => match k with
  | 0 => .object "KeptOrders$Table"
  | 1 => .int
  | 2 => .int
  | 3 => .int
  | 4 => .int
  | 5 => .object "KeptOrders$Numbers"
  | 6 => .object "KeptOrders$Numbers"
  | 7 => .object "KeptOrders$Numbers"
  | 8 => .int
  | 9 => .int
  | 10 => .int
  | _ => .boolean
theorem nmX2 : ∀ a, a < 12 → ∀ b, b < 12 → a ≠ b → (TX2 a).2.1 ≠ (TX2 b).2.1 := by decide +kernel
theorem tyX2_ok : ∀ k, k < 12 → parseFieldDescriptor (TX2 k).2.2.1 = some (tyX2 k) := by decide +kernel
abbrev cX2_init : ByteArray := prog_4_method_1_code
def yX2_init : MethodName := ⟨RX2, "<init>", "(LKeptOrders$Table;I)V"⟩
abbrev cX2_isKey : ByteArray := prog_4_method_2_code
def yX2_isKey : MethodName := ⟨RX2, "isKey", "(I)Z"⟩
abbrev cX2_key : ByteArray := prog_4_method_3_code
def yX2_key : MethodName := ⟨RX2, "key", "()I"⟩
abbrev cX2_columns : ByteArray := prog_4_method_4_code
def yX2_columns : MethodName := ⟨RX2, "columns", "()I"⟩
abbrev cX2_leaves : ByteArray := prog_4_method_7_code
def yX2_leaves : MethodName := ⟨RX2, "leaves", "()I"⟩
abbrev cX2_cuts : ByteArray := prog_4_method_8_code
def yX2_cuts : MethodName := ⟨RX2, "cuts", "()I"⟩
abbrev cX2_isDropped : ByteArray := prog_4_method_9_code
def yX2_isDropped : MethodName := ⟨RX2, "isDropped", "()Z"⟩
abbrev cX2_slotAt : ByteArray := prog_4_method_11_code
def yX2_slotAt : MethodName := ⟨RX2, "slotAt", "(I)I"⟩
abbrev cX2_entriesInLeaf : ByteArray := prog_4_method_12_code
def yX2_entriesInLeaf : MethodName := ⟨RX2, "entriesInLeaf", "(I)I"⟩
abbrev cX2_height : ByteArray := prog_4_method_13_code
def yX2_height : MethodName := ⟨RX2, "height", "()I"⟩
abbrev cX2_size : ByteArray := prog_4_method_14_code
def yX2_size : MethodName := ⟨RX2, "size", "()I"⟩
abbrev cX2_rebuild : ByteArray := prog_4_method_15_code
def yX2_rebuild : MethodName := ⟨RX2, "rebuild", "()V"⟩
abbrev cX2_fillLeaves : ByteArray := prog_4_method_16_code
def yX2_fillLeaves : MethodName := ⟨RX2, "fillLeaves", "()V"⟩
abbrev cX2_entryComes : ByteArray := prog_4_method_17_code
def yX2_entryComes : MethodName := ⟨RX2, "entryComes", "(I)V"⟩
abbrev cX2_entryGoes : ByteArray := prog_4_method_18_code
def yX2_entryGoes : MethodName := ⟨RX2, "entryGoes", "(I)V"⟩
abbrev cX2_cut : ByteArray := prog_4_method_19_code
def yX2_cut : MethodName := ⟨RX2, "cut", "(I)V"⟩
abbrev cX2_leafAt : ByteArray := prog_4_method_20_code
def yX2_leafAt : MethodName := ⟨RX2, "leafAt", "(I)I"⟩
abbrev cX2_leafFor : ByteArray := prog_4_method_21_code
def yX2_leafFor : MethodName := ⟨RX2, "leafFor", "(I)I"⟩
abbrev cX2_placeFor : ByteArray := prog_4_method_22_code
def yX2_placeFor : MethodName := ⟨RX2, "placeFor", "(I)I"⟩
abbrev cX2_isAhead : ByteArray := prog_4_method_23_code
def yX2_isAhead : MethodName := ⟨RX2, "isAhead", "(II)Z"⟩
abbrev cX2_runColumns : ByteArray := prog_4_method_24_code
def yX2_runColumns : MethodName := ⟨RX2, "runColumns", "(LKeptOrders$Question;)I"⟩
abbrev cX2_leavesOf : ByteArray := prog_4_method_25_code
def yX2_leavesOf : MethodName := ⟨RX2, "leavesOf", "(J)I"⟩
abbrev cX2_hasSome : ByteArray := prog_4_method_26_code
def yX2_hasSome : MethodName := ⟨RX2, "hasSome", "(JII)Z"⟩
abbrev cX2_covers : ByteArray := prog_4_method_27_code
def yX2_covers : MethodName := ⟨RX2, "covers", "(LKeptOrders$Question;)Z"⟩
abbrev cX2_sortsFor : ByteArray := prog_4_method_28_code
def yX2_sortsFor : MethodName := ⟨RX2, "sortsFor", "(LKeptOrders$Question;)Z"⟩
def RX3 : String := "KeptOrders$Orders"
def TX3 : u_T := fun k => match k with
  | 0 => ("KeptOrders$Orders", "table", "LKeptOrders$Table;", true)
  | 1 => ("KeptOrders$Orders", "list", "[LKeptOrders$Order;", true)
  | _ => ("KeptOrders$Orders", "told", "I", false)
def tyX3 : Nat → FieldType := fun k => match k with
  | 0 => .object "KeptOrders$Table"
  | 1 => .array (.object "KeptOrders$Order")
  | _ => .int
theorem nmX3 : ∀ a, a < 3 → ∀ b, b < 3 → a ≠ b → (TX3 a).2.1 ≠ (TX3 b).2.1 := by decide +kernel
theorem tyX3_ok : ∀ k, k < 3 → parseFieldDescriptor (TX3 k).2.2.1 = some (tyX3 k) := by decide +kernel
abbrev cX3_init : ByteArray := prog_5_method_1_code
def yX3_init : MethodName := ⟨RX3, "<init>", "(LKeptOrders$Table;)V"⟩
abbrev cX3_told : ByteArray := prog_5_method_2_code
def yX3_told : MethodName := ⟨RX3, "told", "()I"⟩
abbrev cX3_kept : ByteArray := prog_5_method_3_code
def yX3_kept : MethodName := ⟨RX3, "kept", "(I)LKeptOrders$Order;"⟩
abbrev cX3_haveKey : ByteArray := prog_5_method_4_code
def yX3_haveKey : MethodName := ⟨RX3, "haveKey", "(I)Z"⟩
abbrev cX3_tell : ByteArray := prog_5_method_5_code
def yX3_tell : MethodName := ⟨RX3, "tell", "(I)I"⟩
abbrev cX3_entriesGo : ByteArray := prog_5_method_6_code
def yX3_entriesGo : MethodName := ⟨RX3, "entriesGo", "(I)V"⟩
abbrev cX3_entriesCome : ByteArray := prog_5_method_7_code
def yX3_entriesCome : MethodName := ⟨RX3, "entriesCome", "(I)V"⟩
abbrev cX3_keptSet : ByteArray := prog_5_method_9_code
def yX3_keptSet : MethodName := ⟨RX3, "keptSet", "()I"⟩
abbrev cX3_sizesOf : ByteArray := prog_5_method_10_code
def yX3_sizesOf : MethodName := ⟨RX3, "sizesOf", "(I)I"⟩
abbrev cX3_burdenOf : ByteArray := prog_5_method_11_code
def yX3_burdenOf : MethodName := ⟨RX3, "burdenOf", "(I)I"⟩
def RX4 : String := "KeptOrders$Picture"
def TX4 : u_T := fun k => match k with
  | 0 => ("KeptOrders$Picture", "counts", "LKeptOrders$Numbers;", true)
  | 1 => ("KeptOrders$Picture", "leasts", "LKeptOrders$Numbers;", true)
  | 2 => ("KeptOrders$Picture", "greatests", "LKeptOrders$Numbers;", true)
  | _ => ("KeptOrders$Picture", "taken", "Z", false)
def tyX4 : Nat → FieldType := fun k => match k with
  | 0 => .object "KeptOrders$Numbers"
  | 1 => .object "KeptOrders$Numbers"
  | 2 => .object "KeptOrders$Numbers"
  | _ => .boolean
theorem nmX4 : ∀ a, a < 4 → ∀ b, b < 4 → a ≠ b → (TX4 a).2.1 ≠ (TX4 b).2.1 := by decide +kernel
theorem tyX4_ok : ∀ k, k < 4 → parseFieldDescriptor (TX4 k).2.2.1 = some (tyX4 k) := by decide +kernel
abbrev cX4_init : ByteArray := prog_6_method_1_code
def yX4_init : MethodName := ⟨RX4, "<init>", "()V"⟩
def RX5 : String := "KeptOrders$Pictures"
def TX5 : u_T := fun k => match k with
  | 0 => ("KeptOrders$Pictures", "table", "LKeptOrders$Table;", true)
  | 1 => ("KeptOrders$Pictures", "orders", "LKeptOrders$Orders;", true)
  | 2 => ("KeptOrders$Pictures", "list", "[LKeptOrders$Picture;", true)
  | 3 => ("KeptOrders$Pictures", "sorted", "LKeptOrders$Numbers;", true)
  | _ => ("KeptOrders$Pictures", "rows", "I", false)
def tyX5 : Nat → FieldType := fun k => match k with
  | 0 => .object "KeptOrders$Table"
  | 1 => .object "KeptOrders$Orders"
  | 2 => .array (.object "KeptOrders$Picture")
  | 3 => .object "KeptOrders$Numbers"
  | _ => .int
theorem nmX5 : ∀ a, a < 5 → ∀ b, b < 5 → a ≠ b → (TX5 a).2.1 ≠ (TX5 b).2.1 := by decide +kernel
theorem tyX5_ok : ∀ k, k < 5 → parseFieldDescriptor (TX5 k).2.2.1 = some (tyX5 k) := by decide +kernel
abbrev cX5_init : ByteArray := prog_7_method_1_code
def yX5_init : MethodName := ⟨RX5, "<init>", "(LKeptOrders$Table;LKeptOrders$Orders;)V"⟩
def RX6 : String := "KeptOrders$Question"
def TX6 : u_T := fun k => match k with
  | 0 => ("KeptOrders$Question", "leasts", "LKeptOrders$Numbers;", true)
  | 1 => ("KeptOrders$Question", "greatests", "LKeptOrders$Numbers;", true)
  | 2 => ("KeptOrders$Question", "bound", "I", false)
  | 3 => ("KeptOrders$Question", "fixed", "I", false)
  | 4 => ("KeptOrders$Question", "shown", "I", false)
  | 5 => ("KeptOrders$Question", "sortColumn", "I", false)
  | _ => ("KeptOrders$Question", "heft", "I", false)
def tyX6 : Nat → FieldType := fun k => match k with
  | 0 => .object "KeptOrders$Numbers"
  | 1 => .object "KeptOrders$Numbers"
  | 2 => .int
  | 3 => .int
  | 4 => .int
  | 5 => .int
  | _ => .int
theorem nmX6 : ∀ a, a < 7 → ∀ b, b < 7 → a ≠ b → (TX6 a).2.1 ≠ (TX6 b).2.1 := by decide +kernel
theorem tyX6_ok : ∀ k, k < 7 → parseFieldDescriptor (TX6 k).2.2.1 = some (tyX6 k) := by decide +kernel
abbrev cX6_init : ByteArray := prog_8_method_1_code
def yX6_init : MethodName := ⟨RX6, "<init>", "()V"⟩
abbrev cX6_clear : ByteArray := prog_8_method_2_code
def yX6_clear : MethodName := ⟨RX6, "clear", "()V"⟩
abbrev cX6_narrow : ByteArray := prog_8_method_3_code
def yX6_narrow : MethodName := ⟨RX6, "narrow", "(III)V"⟩
abbrev cX6_shows : ByteArray := prog_8_method_4_code
def yX6_shows : MethodName := ⟨RX6, "shows", "(I)Z"⟩
abbrev cX6_show : ByteArray := prog_8_method_5_code
def yX6_show : MethodName := ⟨RX6, "show", "(I)V"⟩
abbrev cX6_sortBy : ByteArray := prog_8_method_6_code
def yX6_sortBy : MethodName := ⟨RX6, "sortBy", "(I)V"⟩
abbrev cX6_sortColumn : ByteArray := prog_8_method_7_code
def yX6_sortColumn : MethodName := ⟨RX6, "sortColumn", "()I"⟩
abbrev cX6_heft : ByteArray := prog_8_method_8_code
def yX6_heft : MethodName := ⟨RX6, "heft", "()I"⟩
abbrev cX6_weigh : ByteArray := prog_8_method_9_code
def yX6_weigh : MethodName := ⟨RX6, "weigh", "(I)V"⟩
abbrev cX6_least : ByteArray := prog_8_method_10_code
def yX6_least : MethodName := ⟨RX6, "least", "(I)I"⟩
abbrev cX6_greatest : ByteArray := prog_8_method_11_code
def yX6_greatest : MethodName := ⟨RX6, "greatest", "(I)I"⟩
abbrev cX6_letsNone : ByteArray := prog_8_method_12_code
def yX6_letsNone : MethodName := ⟨RX6, "letsNone", "(I)Z"⟩
abbrev cX6_isFixed : ByteArray := prog_8_method_13_code
def yX6_isFixed : MethodName := ⟨RX6, "isFixed", "(I)Z"⟩
abbrev cX6_isBound : ByteArray := prog_8_method_14_code
def yX6_isBound : MethodName := ⟨RX6, "isBound", "(I)Z"⟩
abbrev cX6_usedColumns : ByteArray := prog_8_method_15_code
def yX6_usedColumns : MethodName := ⟨RX6, "usedColumns", "()I"⟩
abbrev cX6_mustSort : ByteArray := prog_8_method_16_code
def yX6_mustSort : MethodName := ⟨RX6, "mustSort", "()Z"⟩
abbrev cX6_rowsWithin : ByteArray := prog_8_method_17_code
def yX6_rowsWithin : MethodName := ⟨RX6, "rowsWithin", "(LKeptOrders$Table;I)J"⟩
abbrev cX6_placed : ByteArray := prog_8_method_18_code
def yX6_placed : MethodName := ⟨RX6, "placed", "(LKeptOrders$Table;I)I"⟩
abbrev cX6_rowsAhead : ByteArray := prog_8_method_19_code
def yX6_rowsAhead : MethodName := ⟨RX6, "rowsAhead", "(LKeptOrders$Table;JI)I"⟩
abbrev cX6_sortNumber : ByteArray := prog_8_method_20_code
def yX6_sortNumber : MethodName := ⟨RX6, "sortNumber", "(LKeptOrders$Table;I)I"⟩
def RX7 : String := "KeptOrders$Sheet"
def TX7 : u_T := fun k => match k with
  | 0 => ("KeptOrders$Sheet", "codes", "LKeptOrders$Numbers;", true)
  | 1 => ("KeptOrders$Sheet", "length", "I", false)
  | 2 => ("KeptOrders$Sheet", "draft", "LKeptOrders$Question;", false)
  | 3 => ("KeptOrders$Sheet", "state", "I", false)
  | 4 => ("KeptOrders$Sheet", "column", "I", false)
  | 5 => ("KeptOrders$Sheet", "sign", "I", false)
  | _ => ("KeptOrders$Sheet", "number", "I", false)
def tyX7 : Nat → FieldType := fun k => match k with
  | 0 => .object "KeptOrders$Numbers"
  | 1 => .int
  | 2 => .object "KeptOrders$Question"
  | 3 => .int
  | 4 => .int
  | 5 => .int
  | _ => .int
theorem nmX7 : ∀ a, a < 7 → ∀ b, b < 7 → a ≠ b → (TX7 a).2.1 ≠ (TX7 b).2.1 := by decide +kernel
theorem tyX7_ok : ∀ k, k < 7 → parseFieldDescriptor (TX7 k).2.2.1 = some (tyX7 k) := by decide +kernel
abbrev cX7_init : ByteArray := prog_9_method_1_code
def yX7_init : MethodName := ⟨RX7, "<init>", "()V"⟩
abbrev cX7_length : ByteArray := prog_9_method_2_code
def yX7_length : MethodName := ⟨RX7, "length", "()I"⟩
abbrev cX7_write : ByteArray := prog_9_method_4_code
def yX7_write : MethodName := ⟨RX7, "write", "(I)V"⟩
abbrev cX7_clear : ByteArray := prog_9_method_5_code
def yX7_clear : MethodName := ⟨RX7, "clear", "()V"⟩
abbrev cX7_read : ByteArray := prog_9_method_6_code
def yX7_read : MethodName := ⟨RX7, "read", "()I"⟩
abbrev cX7_isWhole : ByteArray := prog_9_method_7_code
def yX7_isWhole : MethodName := ⟨RX7, "isWhole", "()Z"⟩
abbrev cX7_handOver : ByteArray := prog_9_method_8_code
def yX7_handOver : MethodName := ⟨RX7, "handOver", "()LKeptOrders$Question;"⟩
abbrev cX7_takes : ByteArray := prog_9_method_9_code
def yX7_takes : MethodName := ⟨RX7, "takes", "(I)Z"⟩
abbrev cX7_moves : ByteArray := prog_9_method_10_code
def yX7_moves : MethodName := ⟨RX7, "moves", "(I)Z"⟩
abbrev cX7_isLetter : ByteArray := prog_9_method_11_code
def yX7_isLetter : MethodName := ⟨RX7, "isLetter", "(I)Z"⟩
abbrev cX7_takesColumn : ByteArray := prog_9_method_12_code
def yX7_takesColumn : MethodName := ⟨RX7, "takesColumn", "(I)Z"⟩
abbrev cX7_takesSign : ByteArray := prog_9_method_13_code
def yX7_takesSign : MethodName := ⟨RX7, "takesSign", "(I)Z"⟩
abbrev cX7_takesDigit : ByteArray := prog_9_method_14_code
def yX7_takesDigit : MethodName := ⟨RX7, "takesDigit", "(III)Z"⟩
abbrev cX7_endsCondition : ByteArray := prog_9_method_15_code
def yX7_endsCondition : MethodName := ⟨RX7, "endsCondition", "(I)Z"⟩
abbrev cX7_takesShown : ByteArray := prog_9_method_16_code
def yX7_takesShown : MethodName := ⟨RX7, "takesShown", "(I)Z"⟩
abbrev cX7_takesSort : ByteArray := prog_9_method_17_code
def yX7_takesSort : MethodName := ⟨RX7, "takesSort", "(I)Z"⟩
def RX8 : String := "KeptOrders$Table"
def TX8 : u_T := fun k => match k with
  | 0 => ("KeptOrders$Table", "numbers", "LKeptOrders$Numbers;", true)
  | 1 => ("KeptOrders$Table", "taken", "J", false)
  | _ => ("KeptOrders$Table", "wide", "I", false)
def tyX8 : Nat → FieldType := fun k => match k with
  | 0 => .object "KeptOrders$Numbers"
  | 1 => .long
  | _ => .int
theorem nmX8 : ∀ a, a < 3 → ∀ b, b < 3 → a ≠ b → (TX8 a).2.1 ≠ (TX8 b).2.1 := by decide +kernel
theorem tyX8_ok : ∀ k, k < 3 → parseFieldDescriptor (TX8 k).2.2.1 = some (tyX8 k) := by decide +kernel
abbrev cX8_init : ByteArray := prog_10_method_1_code
def yX8_init : MethodName := ⟨RX8, "<init>", "()V"⟩
abbrev cX8_holds : ByteArray := prog_10_method_2_code
def yX8_holds : MethodName := ⟨RX8, "holds", "(I)Z"⟩
abbrev cX8_hold : ByteArray := prog_10_method_3_code
def yX8_hold : MethodName := ⟨RX8, "hold", "(I)V"⟩
abbrev cX8_release : ByteArray := prog_10_method_4_code
def yX8_release : MethodName := ⟨RX8, "release", "(I)V"⟩
abbrev cX8_taken : ByteArray := prog_10_method_5_code
def yX8_taken : MethodName := ⟨RX8, "taken", "()J"⟩
abbrev cX8_rows : ByteArray := prog_10_method_6_code
def yX8_rows : MethodName := ⟨RX8, "rows", "()I"⟩
abbrev cX8_emptySlot : ByteArray := prog_10_method_7_code
def yX8_emptySlot : MethodName := ⟨RX8, "emptySlot", "()I"⟩
abbrev cX8_number : ByteArray := prog_10_method_8_code
def yX8_number : MethodName := ⟨RX8, "number", "(II)I"⟩
abbrev cX8_put : ByteArray := prog_10_method_9_code
def yX8_put : MethodName := ⟨RX8, "put", "(III)V"⟩
abbrev cX8_pageWidth : ByteArray := prog_10_method_10_code
def yX8_pageWidth : MethodName := ⟨RX8, "pageWidth", "()I"⟩
abbrev cX8_widen : ByteArray := prog_10_method_11_code
def yX8_widen : MethodName := ⟨RX8, "widen", "(I)V"⟩
abbrev cX8_fullPages : ByteArray := prog_10_method_12_code
def yX8_fullPages : MethodName := ⟨RX8, "fullPages", "()I"⟩
abbrev cX8_pagesOf : ByteArray := prog_10_method_13_code
def yX8_pagesOf : MethodName := ⟨RX8, "pagesOf", "(J)I"⟩
abbrev cX8_rowsWithin : ByteArray := prog_10_method_14_code
def yX8_rowsWithin : MethodName := ⟨RX8, "rowsWithin", "(III)J"⟩
def RX9 : String := "KeptOrders$Ways"
def TX9 : u_T := fun k => match k with
  | 0 => ("KeptOrders$Ways", "table", "LKeptOrders$Table;", true)
  | 1 => ("KeptOrders$Ways", "orders", "LKeptOrders$Orders;", true)
  | 2 => ("KeptOrders$Ways", "numbers", "LKeptOrders$Numbers;", true)
  | 3 => ("KeptOrders$Ways", "sets", "LKeptOrders$Numbers;", true)
  | 4 => ("KeptOrders$Ways", "costs", "LKeptOrders$Numbers;", true)
  | 5 => ("KeptOrders$Ways", "reaches", "LKeptOrders$Numbers;", true)
  | 6 => ("KeptOrders$Ways", "left", "[J", true)
  | _ => ("KeptOrders$Ways", "listed", "I", false)
def tyX9 : Nat → FieldType := fun k => match k with
  | 0 => .object "KeptOrders$Table"
  | 1 => .object "KeptOrders$Orders"
  | 2 => .object "KeptOrders$Numbers"
  | 3 => .object "KeptOrders$Numbers"
  | 4 => .object "KeptOrders$Numbers"
  | 5 => .object "KeptOrders$Numbers"
  | 6 => .array .long
  | _ => .int
theorem nmX9 : ∀ a, a < 8 → ∀ b, b < 8 → a ≠ b → (TX9 a).2.1 ≠ (TX9 b).2.1 := by decide +kernel
theorem tyX9_ok : ∀ k, k < 8 → parseFieldDescriptor (TX9 k).2.2.1 = some (tyX9 k) := by decide +kernel
abbrev cX9_init : ByteArray := prog_11_method_1_code
def yX9_init : MethodName := ⟨RX9, "<init>", "(LKeptOrders$Table;LKeptOrders$Orders;)V"⟩
abbrev cX9_list : ByteArray := prog_11_method_2_code
def yX9_list : MethodName := ⟨RX9, "list", "(LKeptOrders$Question;)V"⟩
abbrev cX9_listAlone : ByteArray := prog_11_method_3_code
def yX9_listAlone : MethodName := ⟨RX9, "listAlone", "(LKeptOrders$Question;II)V"⟩
abbrev cX9_listBoth : ByteArray := prog_11_method_4_code
def yX9_listBoth : MethodName := ⟨RX9, "listBoth", "(III)V"⟩
abbrev cX9_leftBy : ByteArray := prog_11_method_5_code
def yX9_leftBy : MethodName := ⟨RX9, "leftBy", "(I)J"⟩
abbrev cX9_add : ByteArray := prog_11_method_6_code
def yX9_add : MethodName := ⟨RX9, "add", "(III)V"⟩
abbrev cX9_placeOf : ByteArray := prog_11_method_7_code
def yX9_placeOf : MethodName := ⟨RX9, "placeOf", "(I)I"⟩
abbrev cX9_numberAt : ByteArray := prog_11_method_8_code
def yX9_numberAt : MethodName := ⟨RX9, "numberAt", "(I)I"⟩
abbrev cX9_costAt : ByteArray := prog_11_method_9_code
def yX9_costAt : MethodName := ⟨RX9, "costAt", "(I)I"⟩
abbrev cX9_bestPlace : ByteArray := prog_11_method_10_code
def yX9_bestPlace : MethodName := ⟨RX9, "bestPlace", "(I)I"⟩
abbrev cX9_fewestOfAll : ByteArray := prog_11_method_11_code
def yX9_fewestOfAll : MethodName := ⟨RX9, "fewestOfAll", "(LKeptOrders$Numbers;)V"⟩
def RX10 : String := "KeptOrders$Workload"
def TX10 : u_T := fun k => match k with
  | 0 => ("KeptOrders$Workload", "orders", "LKeptOrders$Orders;", true)
  | 1 => ("KeptOrders$Workload", "ways", "LKeptOrders$Ways;", true)
  | 2 => ("KeptOrders$Workload", "questions", "[LKeptOrders$Question;", true)
  | 3 => ("KeptOrders$Workload", "works", "LKeptOrders$Numbers;", true)
  | 4 => ("KeptOrders$Workload", "fewest", "LKeptOrders$Numbers;", true)
  | 5 => ("KeptOrders$Workload", "stepped", "LKeptOrders$Numbers;", true)
  | 6 => ("KeptOrders$Workload", "asked", "I", false)
  | 7 => ("KeptOrders$Workload", "steppedCount", "I", false)
  | _ => ("KeptOrders$Workload", "upkeepNow", "I", false)
def tyX10 : Nat → FieldType := fun k => match k with
  | 0 => .object "KeptOrders$Orders"
  | 1 => .object "KeptOrders$Ways"
  | 2 => .array (.object "KeptOrders$Question")
  | 3 => .object "KeptOrders$Numbers"
  | 4 => .object "KeptOrders$Numbers"
  | 5 => .object "KeptOrders$Numbers"
  | 6 => .int
  | 7 => .int
  | _ => .int
theorem nmX10 : ∀ a, a < 9 → ∀ b, b < 9 → a ≠ b → (TX10 a).2.1 ≠ (TX10 b).2.1 := by decide +kernel
theorem tyX10_ok : ∀ k, k < 9 → parseFieldDescriptor (TX10 k).2.2.1 = some (tyX10 k) := by decide +kernel
abbrev cX10_init : ByteArray := prog_12_method_1_code
def yX10_init : MethodName := ⟨RX10, "<init>", "(LKeptOrders$Orders;LKeptOrders$Ways;)V"⟩
abbrev cX10_asked : ByteArray := prog_12_method_2_code
def yX10_asked : MethodName := ⟨RX10, "asked", "()I"⟩
abbrev cX10_question : ByteArray := prog_12_method_3_code
def yX10_question : MethodName := ⟨RX10, "question", "(I)LKeptOrders$Question;"⟩
abbrev cX10_add : ByteArray := prog_12_method_4_code
def yX10_add : MethodName := ⟨RX10, "add", "(LKeptOrders$Question;)I"⟩
abbrev cX10_upkeepNow : ByteArray := prog_12_method_5_code
def yX10_upkeepNow : MethodName := ⟨RX10, "upkeepNow", "()I"⟩
abbrev cX10_setUpkeep : ByteArray := prog_12_method_6_code
def yX10_setUpkeep : MethodName := ⟨RX10, "setUpkeep", "(I)V"⟩
abbrev cX10_workOf : ByteArray := prog_12_method_7_code
def yX10_workOf : MethodName := ⟨RX10, "workOf", "(I)I"⟩
abbrev cX10_bestSet : ByteArray := prog_12_method_8_code
def yX10_bestSet : MethodName := ⟨RX10, "bestSet", "(I)I"⟩
abbrev cX10_stepByStep : ByteArray := prog_12_method_9_code
def yX10_stepByStep : MethodName := ⟨RX10, "stepByStep", "(I)I"⟩
abbrev cX10_stepAt : ByteArray := prog_12_method_10_code
def yX10_stepAt : MethodName := ⟨RX10, "stepAt", "(I)I"⟩
abbrev cX10_workedOut : ByteArray := prog_12_method_11_code
def yX10_workedOut : MethodName := ⟨RX10, "workedOut", "(I)I"⟩
abbrev cX10_workOutAll : ByteArray := prog_12_method_12_code
def yX10_workOutAll : MethodName := ⟨RX10, "workOutAll", "()V"⟩
abbrev cX10_isBetter : ByteArray := prog_12_method_13_code
def yX10_isBetter : MethodName := ⟨RX10, "isBetter", "(II)Z"⟩
abbrev cX10_nextStep : ByteArray := prog_12_method_14_code
def yX10_nextStep : MethodName := ⟨RX10, "nextStep", "(II)I"⟩
def RX11 : String := "KeptOrders"
def TX11 : u_T := fun k => match k with
  | 0 => ("KeptOrders", "table", "LKeptOrders$Table;", true)
  | 1 => ("KeptOrders", "orders", "LKeptOrders$Orders;", true)
  | 2 => ("KeptOrders", "ways", "LKeptOrders$Ways;", true)
  | 3 => ("KeptOrders", "workload", "LKeptOrders$Workload;", true)
  | 4 => ("KeptOrders", "pictures", "LKeptOrders$Pictures;", true)
  | 5 => ("KeptOrders", "sheet", "LKeptOrders$Sheet;", true)
  | 6 => ("KeptOrders", "marks", "LKeptOrders$Marks;", true)
  | 7 => ("KeptOrders", "choices", "I", false)
  | _ => ("KeptOrders", "stepwise", "I", false)
def tyX11 : Nat → FieldType := fun k => match k with
  | 0 => .object "KeptOrders$Table"
  | 1 => .object "KeptOrders$Orders"
  | 2 => .object "KeptOrders$Ways"
  | 3 => .object "KeptOrders$Workload"
  | 4 => .object "KeptOrders$Pictures"
  | 5 => .object "KeptOrders$Sheet"
  | 6 => .object "KeptOrders$Marks"
  | 7 => .int
  | _ => .int
theorem nmX11 : ∀ a, a < 9 → ∀ b, b < 9 → a ≠ b → (TX11 a).2.1 ≠ (TX11 b).2.1 := by decide +kernel
theorem tyX11_ok : ∀ k, k < 9 → parseFieldDescriptor (TX11 k).2.2.1 = some (tyX11 k) := by decide +kernel
abbrev cX11_init : ByteArray := prog_1_method_1_code
def yX11_init : MethodName := ⟨RX11, "<init>", "()V"⟩
abbrev cX11_row : ByteArray := prog_1_method_2_code
def yX11_row : MethodName := ⟨RX11, "row", "(IIII)I"⟩
abbrev cX11_drop : ByteArray := prog_1_method_4_code
def yX11_drop : MethodName := ⟨RX11, "drop", "(I)I"⟩
abbrev cX11_fill : ByteArray := prog_1_method_5_code
def yX11_fill : MethodName := ⟨RX11, "fill", "(III)I"⟩
abbrev cX11_get : ByteArray := prog_1_method_6_code
def yX11_get : MethodName := ⟨RX11, "get", "(II)I"⟩
abbrev cX11_wide : ByteArray := prog_1_method_7_code
def yX11_wide : MethodName := ⟨RX11, "wide", "(I)I"⟩
abbrev cX11_order : ByteArray := prog_1_method_8_code
def yX11_order : MethodName := ⟨RX11, "order", "(I)I"⟩
abbrev cX11_about : ByteArray := prog_1_method_11_code
def yX11_about : MethodName := ⟨RX11, "about", "(II)I"⟩
abbrev cX11_entry : ByteArray := prog_1_method_12_code
def yX11_entry : MethodName := ⟨RX11, "entry", "(II)I"⟩
abbrev cX11_leaf : ByteArray := prog_1_method_13_code
def yX11_leaf : MethodName := ⟨RX11, "leaf", "(II)I"⟩
abbrev cX11_letters : ByteArray := prog_1_method_14_code
def yX11_letters : MethodName := ⟨RX11, "letters", "(J)I"⟩
abbrev cX11_good : ByteArray := prog_1_method_16_code
def yX11_good : MethodName := ⟨RX11, "good", "()I"⟩
abbrev cX11_ask : ByteArray := prog_1_method_17_code
def yX11_ask : MethodName := ⟨RX11, "ask", "()I"⟩
abbrev cX11_bound : ByteArray := prog_1_method_18_code
def yX11_bound : MethodName := ⟨RX11, "bound", "(III)I"⟩
abbrev cX11_weight : ByteArray := prog_1_method_19_code
def yX11_weight : MethodName := ⟨RX11, "weight", "(II)I"⟩
abbrev cX11_answers : ByteArray := prog_1_method_20_code
def yX11_answers : MethodName := ⟨RX11, "answers", "(I)I"⟩
abbrev cX11_answer : ByteArray := prog_1_method_21_code
def yX11_answer : MethodName := ⟨RX11, "answer", "(II)I"⟩
abbrev cX11_looks : ByteArray := prog_1_method_22_code
def yX11_looks : MethodName := ⟨RX11, "looks", "(II)I"⟩
abbrev cX11_best : ByteArray := prog_1_method_24_code
def yX11_best : MethodName := ⟨RX11, "best", "(II)I"⟩
abbrev cX11_work : ByteArray := prog_1_method_25_code
def yX11_work : MethodName := ⟨RX11, "work", "(I)I"⟩
abbrev cX11_upkeep : ByteArray := prog_1_method_26_code
def yX11_upkeep : MethodName := ⟨RX11, "upkeep", "(I)I"⟩
abbrev cX11_choose : ByteArray := prog_1_method_27_code
def yX11_choose : MethodName := ⟨RX11, "choose", "(II)I"⟩
abbrev cX11_steps : ByteArray := prog_1_method_28_code
def yX11_steps : MethodName := ⟨RX11, "steps", "(II)I"⟩
abbrev cX11_worth : ByteArray := prog_1_method_29_code
def yX11_worth : MethodName := ⟨RX11, "worth", "(II)I"⟩
abbrev cX11_count : ByteArray := prog_1_method_39_code
def yX11_count : MethodName := ⟨RX11, "count", "(I)I"⟩
abbrev cX11_rowComes : ByteArray := prog_1_method_46_code
def yX11_rowComes : MethodName := ⟨RX11, "rowComes", "(I)V"⟩
abbrev cX11_lettersIn : ByteArray := prog_1_method_47_code
def yX11_lettersIn : MethodName := ⟨RX11, "lettersIn", "(J)I"⟩
abbrev cX11_byteOf : ByteArray := prog_1_method_48_code
def yX11_byteOf : MethodName := ⟨RX11, "byteOf", "(JI)I"⟩
abbrev cX11_isSlot : ByteArray := prog_1_method_49_code
def yX11_isSlot : MethodName := ⟨RX11, "isSlot", "(I)Z"⟩
abbrev cX11_isColumn : ByteArray := prog_1_method_50_code
def yX11_isColumn : MethodName := ⟨RX11, "isColumn", "(I)Z"⟩
abbrev cX11_isNumber : ByteArray := prog_1_method_51_code
def yX11_isNumber : MethodName := ⟨RX11, "isNumber", "(I)Z"⟩
abbrev cX11_isSet : ByteArray := prog_1_method_52_code
def yX11_isSet : MethodName := ⟨RX11, "isSet", "(I)Z"⟩
abbrev cX11_isSpace : ByteArray := prog_1_method_53_code
def yX11_isSpace : MethodName := ⟨RX11, "isSpace", "(I)Z"⟩
abbrev cX11_has : ByteArray := prog_1_method_54_code
def yX11_has : MethodName := ⟨RX11, "has", "(II)Z"⟩
abbrev cX11_with : ByteArray := prog_1_method_55_code
def yX11_with : MethodName := ⟨RX11, "with", "(II)I"⟩
abbrev cX11_without : ByteArray := prog_1_method_56_code
def yX11_without : MethodName := ⟨RX11, "without", "(II)I"⟩
abbrev cX11_hasSlot : ByteArray := prog_1_method_57_code
def yX11_hasSlot : MethodName := ⟨RX11, "hasSlot", "(JI)Z"⟩
abbrev cX11_quotient : ByteArray := prog_1_method_58_code
def yX11_quotient : MethodName := ⟨RX11, "quotient", "(II)I"⟩
abbrev cX11_roundedUp : ByteArray := prog_1_method_59_code
def yX11_roundedUp : MethodName := ⟨RX11, "roundedUp", "(II)I"⟩
abbrev cX11_rest : ByteArray := prog_1_method_60_code
def yX11_rest : MethodName := ⟨RX11, "rest", "(II)I"⟩
def RX12 : String := "KeptOrdersModel"
def TX12 : u_T := fun k => match k with
  | _ => ("", "", "", false)
def tyX12 : Nat → FieldType := fun k => match k with
  | _ => .int
theorem nmX12 : ∀ a, a < 0 → ∀ b, b < 0 → a ≠ b → (TX12 a).2.1 ≠ (TX12 b).2.1 := by decide +kernel
theorem tyX12_ok : ∀ k, k < 0 → parseFieldDescriptor (TX12 k).2.2.1 = some (tyX12 k) := by decide +kernel
def RJ6 : String := "java/lang/Integer"
def TJ6 : u_T := fun k => match k with
  | _ => ("", "", "", false)
def tyJ6 : Nat → FieldType := fun k => match k with
  | _ => .int
theorem nmJ6 : ∀ a, a < 0 → ∀ b, b < 0 → a ≠ b → (TJ6 a).2.1 ≠ (TJ6 b).2.1 := by decide +kernel
theorem tyJ6_ok : ∀ k, k < 0 → parseFieldDescriptor (TJ6 k).2.2.1 = some (tyJ6 k) := by decide +kernel
abbrev cJ6_bitCount_0f7a4 : ByteArray := prog_15_method_49_code
def yJ6_bitCount_0f7a4 : MethodName := ⟨RJ6, "bitCount", "(I)I"⟩
def RJ13 : String := "java/lang/Long"
def TJ13 : u_T := fun k => match k with
  | _ => ("", "", "", false)
def tyJ13 : Nat → FieldType := fun k => match k with
  | _ => .int
theorem nmJ13 : ∀ a, a < 0 → ∀ b, b < 0 → a ≠ b → (TJ13 a).2.1 ≠ (TJ13 b).2.1 := by decide +kernel
theorem tyJ13_ok : ∀ k, k < 0 → parseFieldDescriptor (TJ13 k).2.2.1 = some (tyJ13 k) := by decide +kernel
abbrev cJ13_bitCount_95d88 : ByteArray := prog_16_method_50_code
def yJ13_bitCount_95d88 : MethodName := ⟨RJ13, "bitCount", "(J)I"⟩
def RJ9 : String := "java/lang/Math"
def TJ9 : u_T := fun k => match k with
  | _ => ("", "", "", false)
def tyJ9 : Nat → FieldType := fun k => match k with
  | _ => .int
theorem nmJ9 : ∀ a, a < 0 → ∀ b, b < 0 → a ≠ b → (TJ9 a).2.1 ≠ (TJ9 b).2.1 := by decide +kernel
theorem tyJ9_ok : ∀ k, k < 0 → parseFieldDescriptor (TJ9 k).2.2.1 = some (tyJ9 k) := by decide +kernel
abbrev cJ9_max_7cf53 : ByteArray := prog_17_method_65_code
def yJ9_max_7cf53 : MethodName := ⟨RJ9, "max", "(II)I"⟩
abbrev cJ9_min_7cf53 : ByteArray := prog_17_method_69_code
def yJ9_min_7cf53 : MethodName := ⟨RJ9, "min", "(II)I"⟩
def RL : String := "KeptOrdersLaw"
abbrev cL_cell : ByteArray := method_2_code
def yL_cell : MethodName := ⟨RL, "cell", "([II)I"⟩
abbrev cL_put : ByteArray := method_3_code
def yL_put : MethodName := ⟨RL, "put", "(LKeptOrders;I)Z"⟩
abbrev cL_key : ByteArray := method_7_code
def yL_key : MethodName := ⟨RL, "key", "(I)I"⟩
abbrev cL_ask : ByteArray := method_8_code
def yL_ask : MethodName := ⟨RL, "ask", "(LKeptOrders;III[I)Z"⟩
abbrev cL_fixed : ByteArray := method_9_code
def yL_fixed : MethodName := ⟨RL, "fixed", "([III)Z"⟩
abbrev cL_bound : ByteArray := method_10_code
def yL_bound : MethodName := ⟨RL, "bound", "([III)Z"⟩
abbrev cL_within : ByteArray := method_11_code
def yL_within : MethodName := ⟨RL, "within", "(LKeptOrders;[IIII)Z"⟩
abbrev cL_column : ByteArray := method_12_code
def yL_column : MethodName := ⟨RL, "column", "(II)I"⟩
abbrev cL_run : ByteArray := method_13_code
def yL_run : MethodName := ⟨RL, "run", "([III)I"⟩
abbrev cL_leaves : ByteArray := method_14_code
def yL_leaves : MethodName := ⟨RL, "leaves", "(LKeptOrders;[III[I)I"⟩
abbrev cL_pages : ByteArray := method_15_code
def yL_pages : MethodName := ⟨RL, "pages", "([II)I"⟩
abbrev cL_all : ByteArray := method_16_code
def yL_all : MethodName := ⟨RL, "all", "(LKeptOrders;[I)V"⟩
abbrev cL_looks : ByteArray := method_17_code
def yL_looks : MethodName := ⟨RL, "looks", "(LKeptOrders;[IIIII)I"⟩
abbrev cL_law : ByteArray := code
def yL_law : MethodName := ⟨RL, "law", "([I)Z"⟩
abbrev vwCl : List vw_C := [(RX0, TX0, 2), (RX1, TX1, 1), (RX2, TX2, 12), (RX3, TX3, 3), (RX4, TX4, 4), (RX5, TX5, 5), (RX6, TX6, 7), (RX7, TX7, 7), (RX8, TX8, 3), (RX9, TX9, 8), (RX10, TX10, 9), (RX11, TX11, 9)]
def wsL_law : List Cond := lw_tbl.filter goodWord
theorem wsL_law_in : ∀ w ∈ wsL_law, w ∈ lw_tbl := fun w h => (List.mem_filter.mp h).1
theorem law_good : ∀ w ∈ wsL_law, goodWord w = true := fun w h => (List.mem_filter.mp h).2
def nwM : List (String × Nat × MethodName × String) := [(RX11, 9, yX7_init, RX11), (RX7, 22, yX6_init, RX11), (RX0, 17, yX8_init, RX11), (RX11, 25, yX8_init, RX11), (RX5, 34, yX4_init, RX11), (RX8, 32, yX11_hasSlot, RX11), (RX2, 72, yX11_roundedUp, RX11), (RX8, 24, yX11_isSlot, RX11), (RX2, 51, yX11_has, RX11), (RX2, 44, yX11_with, RX11), (RX6, 62, yX11_has, RX11), (RX6, 89, yX11_hasSlot, RX11), (RX2, 136, yX11_hasSlot, RX11), (RX6, 56, yX11_with, RX11), (RX9, 110, yX11_with, RX11), (RX3, 54, yX11_has, RX11), (RX9, 133, yX11_without, RX11), (RX3, 50, yX11_with, RX11), (RX10, 97, yX11_with, RX11), (RX6, 59, yX11_without, RX11)]
def nwO : List String := [RX8, RX2, RX6, RX4]
