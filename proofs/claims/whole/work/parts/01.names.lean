/-- a private method of a class that the tables say can be made, by its rows of tables_1 -/
def lw_okq (q : MethodName × Nat) : Prop := (q.1.cls ≠ "java/lang/invoke/MethodHandle" ∧ q.1.cls ≠ "java/lang/invoke/VarHandle") ∧ Cond.instantiable q.1.cls q.2 ∈ tables_1 ∧ Cond.privateMethod q.1 ∈ tables_1 ∧ Cond.instanceMethod q.1 ∈ tables_1
theorem lw_p0 : lw_okq (⟨"KeptOrders", "rowComes", "(I)V"⟩, 9) := ⟨⟨by decide +kernel, by decide +kernel⟩, List.mem_of_getElem? (i := 18) (by decide +kernel), List.mem_of_getElem? (i := 315) (by decide +kernel), List.mem_of_getElem? (i := 316) (by decide +kernel)⟩
theorem lw_p1 : lw_okq (⟨"KeptOrders$Order", "placeFor", "(I)I"⟩, 12) := ⟨⟨by decide +kernel, by decide +kernel⟩, List.mem_of_getElem? (i := 341) (by decide +kernel), List.mem_of_getElem? (i := 339) (by decide +kernel), List.mem_of_getElem? (i := 340) (by decide +kernel)⟩
theorem lw_p2 : lw_okq (⟨"KeptOrders$Order", "isAhead", "(II)Z"⟩, 12) := ⟨⟨by decide +kernel, by decide +kernel⟩, List.mem_of_getElem? (i := 341) (by decide +kernel), List.mem_of_getElem? (i := 348) (by decide +kernel), List.mem_of_getElem? (i := 349) (by decide +kernel)⟩
theorem lw_p3 : lw_okq (⟨"KeptOrders$Order", "leafFor", "(I)I"⟩, 12) := ⟨⟨by decide +kernel, by decide +kernel⟩, List.mem_of_getElem? (i := 341) (by decide +kernel), List.mem_of_getElem? (i := 357) (by decide +kernel), List.mem_of_getElem? (i := 358) (by decide +kernel)⟩
theorem lw_p4 : lw_okq (⟨"KeptOrders$Order", "leafAt", "(I)I"⟩, 12) := ⟨⟨by decide +kernel, by decide +kernel⟩, List.mem_of_getElem? (i := 341) (by decide +kernel), List.mem_of_getElem? (i := 361) (by decide +kernel), List.mem_of_getElem? (i := 362) (by decide +kernel)⟩
theorem lw_p5 : lw_okq (⟨"KeptOrders$Order", "cut", "(I)V"⟩, 12) := ⟨⟨by decide +kernel, by decide +kernel⟩, List.mem_of_getElem? (i := 341) (by decide +kernel), List.mem_of_getElem? (i := 376) (by decide +kernel), List.mem_of_getElem? (i := 377) (by decide +kernel)⟩
theorem lw_p6 : lw_okq (⟨"KeptOrders$Sheet", "takes", "(I)Z"⟩, 7) := ⟨⟨by decide +kernel, by decide +kernel⟩, List.mem_of_getElem? (i := 26) (by decide +kernel), List.mem_of_getElem? (i := 642) (by decide +kernel), List.mem_of_getElem? (i := 643) (by decide +kernel)⟩
theorem lw_p7 : lw_okq (⟨"KeptOrders$Sheet", "moves", "(I)Z"⟩, 7) := ⟨⟨by decide +kernel, by decide +kernel⟩, List.mem_of_getElem? (i := 26) (by decide +kernel), List.mem_of_getElem? (i := 646) (by decide +kernel), List.mem_of_getElem? (i := 647) (by decide +kernel)⟩
theorem lw_p8 : lw_okq (⟨"KeptOrders$Sheet", "takesColumn", "(I)Z"⟩, 7) := ⟨⟨by decide +kernel, by decide +kernel⟩, List.mem_of_getElem? (i := 26) (by decide +kernel), List.mem_of_getElem? (i := 650) (by decide +kernel), List.mem_of_getElem? (i := 651) (by decide +kernel)⟩
theorem lw_p9 : lw_okq (⟨"KeptOrders$Sheet", "takesSign", "(I)Z"⟩, 7) := ⟨⟨by decide +kernel, by decide +kernel⟩, List.mem_of_getElem? (i := 26) (by decide +kernel), List.mem_of_getElem? (i := 657) (by decide +kernel), List.mem_of_getElem? (i := 658) (by decide +kernel)⟩
theorem lw_p10 : lw_okq (⟨"KeptOrders$Sheet", "takesDigit", "(III)Z"⟩, 7) := ⟨⟨by decide +kernel, by decide +kernel⟩, List.mem_of_getElem? (i := 26) (by decide +kernel), List.mem_of_getElem? (i := 661) (by decide +kernel), List.mem_of_getElem? (i := 662) (by decide +kernel)⟩
theorem lw_p11 : lw_okq (⟨"KeptOrders$Sheet", "endsCondition", "(I)Z"⟩, 7) := ⟨⟨by decide +kernel, by decide +kernel⟩, List.mem_of_getElem? (i := 26) (by decide +kernel), List.mem_of_getElem? (i := 665) (by decide +kernel), List.mem_of_getElem? (i := 666) (by decide +kernel)⟩
theorem lw_p12 : lw_okq (⟨"KeptOrders$Sheet", "takesShown", "(I)Z"⟩, 7) := ⟨⟨by decide +kernel, by decide +kernel⟩, List.mem_of_getElem? (i := 26) (by decide +kernel), List.mem_of_getElem? (i := 682) (by decide +kernel), List.mem_of_getElem? (i := 683) (by decide +kernel)⟩
theorem lw_p13 : lw_okq (⟨"KeptOrders$Sheet", "takesSort", "(I)Z"⟩, 7) := ⟨⟨by decide +kernel, by decide +kernel⟩, List.mem_of_getElem? (i := 26) (by decide +kernel), List.mem_of_getElem? (i := 695) (by decide +kernel), List.mem_of_getElem? (i := 696) (by decide +kernel)⟩
theorem lw_p14 : lw_okq (⟨"KeptOrders$Question", "rowsAhead", "(LKeptOrders$Table;JI)I"⟩, 7) := ⟨⟨by decide +kernel, by decide +kernel⟩, List.mem_of_getElem? (i := 43) (by decide +kernel), List.mem_of_getElem? (i := 784) (by decide +kernel), List.mem_of_getElem? (i := 785) (by decide +kernel)⟩
theorem lw_p15 : lw_okq (⟨"KeptOrders$Question", "sortNumber", "(LKeptOrders$Table;I)I"⟩, 7) := ⟨⟨by decide +kernel, by decide +kernel⟩, List.mem_of_getElem? (i := 43) (by decide +kernel), List.mem_of_getElem? (i := 788) (by decide +kernel), List.mem_of_getElem? (i := 789) (by decide +kernel)⟩
def lw_privs_1 : List (MethodName × Nat) := [(⟨"KeptOrders", "rowComes", "(I)V"⟩, 9), (⟨"KeptOrders$Order", "placeFor", "(I)I"⟩, 12), (⟨"KeptOrders$Order", "isAhead", "(II)Z"⟩, 12), (⟨"KeptOrders$Order", "leafFor", "(I)I"⟩, 12), (⟨"KeptOrders$Order", "leafAt", "(I)I"⟩, 12), (⟨"KeptOrders$Order", "cut", "(I)V"⟩, 12), (⟨"KeptOrders$Sheet", "takes", "(I)Z"⟩, 7), (⟨"KeptOrders$Sheet", "moves", "(I)Z"⟩, 7), (⟨"KeptOrders$Sheet", "takesColumn", "(I)Z"⟩, 7), (⟨"KeptOrders$Sheet", "takesSign", "(I)Z"⟩, 7), (⟨"KeptOrders$Sheet", "takesDigit", "(III)Z"⟩, 7), (⟨"KeptOrders$Sheet", "endsCondition", "(I)Z"⟩, 7), (⟨"KeptOrders$Sheet", "takesShown", "(I)Z"⟩, 7), (⟨"KeptOrders$Sheet", "takesSort", "(I)Z"⟩, 7), (⟨"KeptOrders$Question", "rowsAhead", "(LKeptOrders$Table;JI)I"⟩, 7), (⟨"KeptOrders$Question", "sortNumber", "(LKeptOrders$Table;I)I"⟩, 7)]
theorem lw_r1 : ∀ q ∈ lw_privs_1, lw_okq q := List.forall_mem_cons.mpr ⟨lw_p0, List.forall_mem_cons.mpr ⟨lw_p1, List.forall_mem_cons.mpr ⟨lw_p2, List.forall_mem_cons.mpr ⟨lw_p3, List.forall_mem_cons.mpr ⟨lw_p4, List.forall_mem_cons.mpr ⟨lw_p5, List.forall_mem_cons.mpr ⟨lw_p6, List.forall_mem_cons.mpr ⟨lw_p7, List.forall_mem_cons.mpr ⟨lw_p8, List.forall_mem_cons.mpr ⟨lw_p9, List.forall_mem_cons.mpr ⟨lw_p10, List.forall_mem_cons.mpr ⟨lw_p11, List.forall_mem_cons.mpr ⟨lw_p12, List.forall_mem_cons.mpr ⟨lw_p13, List.forall_mem_cons.mpr ⟨lw_p14, List.forall_mem_cons.mpr ⟨lw_p15, fun _ h => absurd h List.not_mem_nil⟩⟩⟩⟩⟩⟩⟩⟩⟩⟩⟩⟩⟩⟩⟩⟩
theorem lw_p16 : lw_okq (⟨"KeptOrders$Ways", "add", "(III)V"⟩, 8) := ⟨⟨by decide +kernel, by decide +kernel⟩, List.mem_of_getElem? (i := 147) (by decide +kernel), List.mem_of_getElem? (i := 819) (by decide +kernel), List.mem_of_getElem? (i := 820) (by decide +kernel)⟩
theorem lw_p17 : lw_okq (⟨"KeptOrders$Ways", "listAlone", "(LKeptOrders$Question;II)V"⟩, 8) := ⟨⟨by decide +kernel, by decide +kernel⟩, List.mem_of_getElem? (i := 147) (by decide +kernel), List.mem_of_getElem? (i := 824) (by decide +kernel), List.mem_of_getElem? (i := 825) (by decide +kernel)⟩
theorem lw_p18 : lw_okq (⟨"KeptOrders$Order", "hasSome", "(JII)Z"⟩, 12) := ⟨⟨by decide +kernel, by decide +kernel⟩, List.mem_of_getElem? (i := 341) (by decide +kernel), List.mem_of_getElem? (i := 847) (by decide +kernel), List.mem_of_getElem? (i := 848) (by decide +kernel)⟩
theorem lw_p19 : lw_okq (⟨"KeptOrders$Ways", "listBoth", "(III)V"⟩, 8) := ⟨⟨by decide +kernel, by decide +kernel⟩, List.mem_of_getElem? (i := 147) (by decide +kernel), List.mem_of_getElem? (i := 870) (by decide +kernel), List.mem_of_getElem? (i := 871) (by decide +kernel)⟩
theorem lw_p20 : lw_okq (⟨"KeptOrders$Ways", "leftBy", "(I)J"⟩, 8) := ⟨⟨by decide +kernel, by decide +kernel⟩, List.mem_of_getElem? (i := 147) (by decide +kernel), List.mem_of_getElem? (i := 875) (by decide +kernel), List.mem_of_getElem? (i := 876) (by decide +kernel)⟩
theorem lw_p21 : lw_okq (⟨"KeptOrders$Workload", "workOutAll", "()V"⟩, 9) := ⟨⟨by decide +kernel, by decide +kernel⟩, List.mem_of_getElem? (i := 181) (by decide +kernel), List.mem_of_getElem? (i := 950) (by decide +kernel), List.mem_of_getElem? (i := 951) (by decide +kernel)⟩
theorem lw_p22 : lw_okq (⟨"KeptOrders$Workload", "isBetter", "(II)Z"⟩, 9) := ⟨⟨by decide +kernel, by decide +kernel⟩, List.mem_of_getElem? (i := 181) (by decide +kernel), List.mem_of_getElem? (i := 973) (by decide +kernel), List.mem_of_getElem? (i := 974) (by decide +kernel)⟩
theorem lw_p23 : lw_okq (⟨"KeptOrders$Workload", "nextStep", "(II)I"⟩, 9) := ⟨⟨by decide +kernel, by decide +kernel⟩, List.mem_of_getElem? (i := 181) (by decide +kernel), List.mem_of_getElem? (i := 990) (by decide +kernel), List.mem_of_getElem? (i := 991) (by decide +kernel)⟩
theorem lw_p24 : lw_okq (⟨"KeptOrders$Pictures", "placeFor", "(II)I"⟩, 5) := ⟨⟨by decide +kernel, by decide +kernel⟩, List.mem_of_getElem? (i := 219) (by decide +kernel), List.mem_of_getElem? (i := 1026) (by decide +kernel), List.mem_of_getElem? (i := 1027) (by decide +kernel)⟩
theorem lw_p25 : lw_okq (⟨"KeptOrders$Picture", "shared", "(III)I"⟩, 4) := ⟨⟨by decide +kernel, by decide +kernel⟩, List.mem_of_getElem? (i := 228) (by decide +kernel), List.mem_of_getElem? (i := 1072) (by decide +kernel), List.mem_of_getElem? (i := 1073) (by decide +kernel)⟩
theorem lw_p26 : lw_okq (⟨"KeptOrders$Pictures", "looksForSorting", "(LKeptOrders$Question;)I"⟩, 5) := ⟨⟨by decide +kernel, by decide +kernel⟩, List.mem_of_getElem? (i := 219) (by decide +kernel), List.mem_of_getElem? (i := 1106) (by decide +kernel), List.mem_of_getElem? (i := 1107) (by decide +kernel)⟩
theorem lw_p27 : lw_okq (⟨"KeptOrders", "mixTable", "(J)J"⟩, 9) := ⟨⟨by decide +kernel, by decide +kernel⟩, List.mem_of_getElem? (i := 18) (by decide +kernel), List.mem_of_getElem? (i := 1195) (by decide +kernel), List.mem_of_getElem? (i := 1196) (by decide +kernel)⟩
theorem lw_p28 : lw_okq (⟨"KeptOrders", "mixOrder", "(JI)J"⟩, 9) := ⟨⟨by decide +kernel, by decide +kernel⟩, List.mem_of_getElem? (i := 18) (by decide +kernel), List.mem_of_getElem? (i := 1200) (by decide +kernel), List.mem_of_getElem? (i := 1201) (by decide +kernel)⟩
theorem lw_p29 : lw_okq (⟨"KeptOrders", "mixQuestion", "(JI)J"⟩, 9) := ⟨⟨by decide +kernel, by decide +kernel⟩, List.mem_of_getElem? (i := 18) (by decide +kernel), List.mem_of_getElem? (i := 1209) (by decide +kernel), List.mem_of_getElem? (i := 1210) (by decide +kernel)⟩
theorem lw_p30 : lw_okq (⟨"KeptOrders", "mixPictures", "(J)J"⟩, 9) := ⟨⟨by decide +kernel, by decide +kernel⟩, List.mem_of_getElem? (i := 18) (by decide +kernel), List.mem_of_getElem? (i := 1214) (by decide +kernel), List.mem_of_getElem? (i := 1215) (by decide +kernel)⟩
theorem lw_p31 : lw_okq (⟨"KeptOrdersModel", "packOne", "(I)V"⟩, 40) := ⟨⟨by decide +kernel, by decide +kernel⟩, List.mem_of_getElem? (i := 1224) (by decide +kernel), List.mem_of_getElem? (i := 1369) (by decide +kernel), List.mem_of_getElem? (i := 1370) (by decide +kernel)⟩
def lw_privs_2 : List (MethodName × Nat) := [(⟨"KeptOrders$Ways", "add", "(III)V"⟩, 8), (⟨"KeptOrders$Ways", "listAlone", "(LKeptOrders$Question;II)V"⟩, 8), (⟨"KeptOrders$Order", "hasSome", "(JII)Z"⟩, 12), (⟨"KeptOrders$Ways", "listBoth", "(III)V"⟩, 8), (⟨"KeptOrders$Ways", "leftBy", "(I)J"⟩, 8), (⟨"KeptOrders$Workload", "workOutAll", "()V"⟩, 9), (⟨"KeptOrders$Workload", "isBetter", "(II)Z"⟩, 9), (⟨"KeptOrders$Workload", "nextStep", "(II)I"⟩, 9), (⟨"KeptOrders$Pictures", "placeFor", "(II)I"⟩, 5), (⟨"KeptOrders$Picture", "shared", "(III)I"⟩, 4), (⟨"KeptOrders$Pictures", "looksForSorting", "(LKeptOrders$Question;)I"⟩, 5), (⟨"KeptOrders", "mixTable", "(J)J"⟩, 9), (⟨"KeptOrders", "mixOrder", "(JI)J"⟩, 9), (⟨"KeptOrders", "mixQuestion", "(JI)J"⟩, 9), (⟨"KeptOrders", "mixPictures", "(J)J"⟩, 9), (⟨"KeptOrdersModel", "packOne", "(I)V"⟩, 40)]
theorem lw_r2 : ∀ q ∈ lw_privs_2, lw_okq q := List.forall_mem_cons.mpr ⟨lw_p16, List.forall_mem_cons.mpr ⟨lw_p17, List.forall_mem_cons.mpr ⟨lw_p18, List.forall_mem_cons.mpr ⟨lw_p19, List.forall_mem_cons.mpr ⟨lw_p20, List.forall_mem_cons.mpr ⟨lw_p21, List.forall_mem_cons.mpr ⟨lw_p22, List.forall_mem_cons.mpr ⟨lw_p23, List.forall_mem_cons.mpr ⟨lw_p24, List.forall_mem_cons.mpr ⟨lw_p25, List.forall_mem_cons.mpr ⟨lw_p26, List.forall_mem_cons.mpr ⟨lw_p27, List.forall_mem_cons.mpr ⟨lw_p28, List.forall_mem_cons.mpr ⟨lw_p29, List.forall_mem_cons.mpr ⟨lw_p30, List.forall_mem_cons.mpr ⟨lw_p31, fun _ h => absurd h List.not_mem_nil⟩⟩⟩⟩⟩⟩⟩⟩⟩⟩⟩⟩⟩⟩⟩⟩
theorem lw_p32 : lw_okq (⟨"KeptOrdersModel", "isAhead", "(III)Z"⟩, 40) := ⟨⟨by decide +kernel, by decide +kernel⟩, List.mem_of_getElem? (i := 1224) (by decide +kernel), List.mem_of_getElem? (i := 1373) (by decide +kernel), List.mem_of_getElem? (i := 1374) (by decide +kernel)⟩
theorem lw_p33 : lw_okq (⟨"KeptOrdersModel", "isOrder", "(I)Z"⟩, 40) := ⟨⟨by decide +kernel, by decide +kernel⟩, List.mem_of_getElem? (i := 1224) (by decide +kernel), List.mem_of_getElem? (i := 1384) (by decide +kernel), List.mem_of_getElem? (i := 1385) (by decide +kernel)⟩
theorem lw_p34 : lw_okq (⟨"KeptOrdersModel", "sizeOf", "(I)I"⟩, 40) := ⟨⟨by decide +kernel, by decide +kernel⟩, List.mem_of_getElem? (i := 1224) (by decide +kernel), List.mem_of_getElem? (i := 1388) (by decide +kernel), List.mem_of_getElem? (i := 1389) (by decide +kernel)⟩
theorem lw_p35 : lw_okq (⟨"KeptOrdersModel", "aboutOf", "(II)I"⟩, 40) := ⟨⟨by decide +kernel, by decide +kernel⟩, List.mem_of_getElem? (i := 1224) (by decide +kernel), List.mem_of_getElem? (i := 1400) (by decide +kernel), List.mem_of_getElem? (i := 1401) (by decide +kernel)⟩
theorem lw_p36 : lw_okq (⟨"KeptOrdersModel", "heightOf", "(I)I"⟩, 40) := ⟨⟨by decide +kernel, by decide +kernel⟩, List.mem_of_getElem? (i := 1224) (by decide +kernel), List.mem_of_getElem? (i := 1404) (by decide +kernel), List.mem_of_getElem? (i := 1405) (by decide +kernel)⟩
theorem lw_p37 : lw_okq (⟨"KeptOrdersModel", "emptySlot", "()I"⟩, 40) := ⟨⟨by decide +kernel, by decide +kernel⟩, List.mem_of_getElem? (i := 1224) (by decide +kernel), List.mem_of_getElem? (i := 1423) (by decide +kernel), List.mem_of_getElem? (i := 1424) (by decide +kernel)⟩
theorem lw_p38 : lw_okq (⟨"KeptOrdersModel", "lay", "(IIIII)V"⟩, 40) := ⟨⟨by decide +kernel, by decide +kernel⟩, List.mem_of_getElem? (i := 1224) (by decide +kernel), List.mem_of_getElem? (i := 1427) (by decide +kernel), List.mem_of_getElem? (i := 1428) (by decide +kernel)⟩
theorem lw_p39 : lw_okq (⟨"KeptOrdersModel", "comeIntoAll", "(I)V"⟩, 40) := ⟨⟨by decide +kernel, by decide +kernel⟩, List.mem_of_getElem? (i := 1224) (by decide +kernel), List.mem_of_getElem? (i := 1431) (by decide +kernel), List.mem_of_getElem? (i := 1432) (by decide +kernel)⟩
theorem lw_p40 : lw_okq (⟨"KeptOrdersModel", "comeInto", "(II)V"⟩, 40) := ⟨⟨by decide +kernel, by decide +kernel⟩, List.mem_of_getElem? (i := 1224) (by decide +kernel), List.mem_of_getElem? (i := 1435) (by decide +kernel), List.mem_of_getElem? (i := 1436) (by decide +kernel)⟩
theorem lw_p41 : lw_okq (⟨"KeptOrdersModel", "cut", "(II)V"⟩, 40) := ⟨⟨by decide +kernel, by decide +kernel⟩, List.mem_of_getElem? (i := 1224) (by decide +kernel), List.mem_of_getElem? (i := 1439) (by decide +kernel), List.mem_of_getElem? (i := 1440) (by decide +kernel)⟩
theorem lw_p42 : lw_okq (⟨"KeptOrdersModel", "isSlot", "(I)Z"⟩, 40) := ⟨⟨by decide +kernel, by decide +kernel⟩, List.mem_of_getElem? (i := 1224) (by decide +kernel), List.mem_of_getElem? (i := 1447) (by decide +kernel), List.mem_of_getElem? (i := 1448) (by decide +kernel)⟩
theorem lw_p43 : lw_okq (⟨"KeptOrdersModel", "goFrom", "(II)V"⟩, 40) := ⟨⟨by decide +kernel, by decide +kernel⟩, List.mem_of_getElem? (i := 1224) (by decide +kernel), List.mem_of_getElem? (i := 1451) (by decide +kernel), List.mem_of_getElem? (i := 1452) (by decide +kernel)⟩
theorem lw_p44 : lw_okq (⟨"KeptOrdersModel", "nextNumber", "(I)I"⟩, 40) := ⟨⟨by decide +kernel, by decide +kernel⟩, List.mem_of_getElem? (i := 1224) (by decide +kernel), List.mem_of_getElem? (i := 1463) (by decide +kernel), List.mem_of_getElem? (i := 1464) (by decide +kernel)⟩
theorem lw_p45 : lw_okq (⟨"KeptOrdersModel", "readQuestion", "()V"⟩, 40) := ⟨⟨by decide +kernel, by decide +kernel⟩, List.mem_of_getElem? (i := 1224) (by decide +kernel), List.mem_of_getElem? (i := 1492) (by decide +kernel), List.mem_of_getElem? (i := 1493) (by decide +kernel)⟩
theorem lw_p46 : lw_okq (⟨"KeptOrdersModel", "narrow", "(III)V"⟩, 40) := ⟨⟨by decide +kernel, by decide +kernel⟩, List.mem_of_getElem? (i := 1224) (by decide +kernel), List.mem_of_getElem? (i := 1496) (by decide +kernel), List.mem_of_getElem? (i := 1497) (by decide +kernel)⟩
theorem lw_p47 : lw_okq (⟨"KeptOrdersModel", "isQuestion", "(I)Z"⟩, 40) := ⟨⟨by decide +kernel, by decide +kernel⟩, List.mem_of_getElem? (i := 1224) (by decide +kernel), List.mem_of_getElem? (i := 1508) (by decide +kernel), List.mem_of_getElem? (i := 1509) (by decide +kernel)⟩
def lw_privs_3 : List (MethodName × Nat) := [(⟨"KeptOrdersModel", "isAhead", "(III)Z"⟩, 40), (⟨"KeptOrdersModel", "isOrder", "(I)Z"⟩, 40), (⟨"KeptOrdersModel", "sizeOf", "(I)I"⟩, 40), (⟨"KeptOrdersModel", "aboutOf", "(II)I"⟩, 40), (⟨"KeptOrdersModel", "heightOf", "(I)I"⟩, 40), (⟨"KeptOrdersModel", "emptySlot", "()I"⟩, 40), (⟨"KeptOrdersModel", "lay", "(IIIII)V"⟩, 40), (⟨"KeptOrdersModel", "comeIntoAll", "(I)V"⟩, 40), (⟨"KeptOrdersModel", "comeInto", "(II)V"⟩, 40), (⟨"KeptOrdersModel", "cut", "(II)V"⟩, 40), (⟨"KeptOrdersModel", "isSlot", "(I)Z"⟩, 40), (⟨"KeptOrdersModel", "goFrom", "(II)V"⟩, 40), (⟨"KeptOrdersModel", "nextNumber", "(I)I"⟩, 40), (⟨"KeptOrdersModel", "readQuestion", "()V"⟩, 40), (⟨"KeptOrdersModel", "narrow", "(III)V"⟩, 40), (⟨"KeptOrdersModel", "isQuestion", "(I)Z"⟩, 40)]
theorem lw_r3 : ∀ q ∈ lw_privs_3, lw_okq q := List.forall_mem_cons.mpr ⟨lw_p32, List.forall_mem_cons.mpr ⟨lw_p33, List.forall_mem_cons.mpr ⟨lw_p34, List.forall_mem_cons.mpr ⟨lw_p35, List.forall_mem_cons.mpr ⟨lw_p36, List.forall_mem_cons.mpr ⟨lw_p37, List.forall_mem_cons.mpr ⟨lw_p38, List.forall_mem_cons.mpr ⟨lw_p39, List.forall_mem_cons.mpr ⟨lw_p40, List.forall_mem_cons.mpr ⟨lw_p41, List.forall_mem_cons.mpr ⟨lw_p42, List.forall_mem_cons.mpr ⟨lw_p43, List.forall_mem_cons.mpr ⟨lw_p44, List.forall_mem_cons.mpr ⟨lw_p45, List.forall_mem_cons.mpr ⟨lw_p46, List.forall_mem_cons.mpr ⟨lw_p47, fun _ h => absurd h List.not_mem_nil⟩⟩⟩⟩⟩⟩⟩⟩⟩⟩⟩⟩⟩⟩⟩⟩
theorem lw_p48 : lw_okq (⟨"KeptOrdersModel", "answersOf", "(I)I"⟩, 40) := ⟨⟨by decide +kernel, by decide +kernel⟩, List.mem_of_getElem? (i := 1224) (by decide +kernel), List.mem_of_getElem? (i := 1520) (by decide +kernel), List.mem_of_getElem? (i := 1521) (by decide +kernel)⟩
theorem lw_p49 : lw_okq (⟨"KeptOrdersModel", "isAnswer", "(II)Z"⟩, 40) := ⟨⟨by decide +kernel, by decide +kernel⟩, List.mem_of_getElem? (i := 1224) (by decide +kernel), List.mem_of_getElem? (i := 1524) (by decide +kernel), List.mem_of_getElem? (i := 1525) (by decide +kernel)⟩
theorem lw_p50 : lw_okq (⟨"KeptOrdersModel", "isWithin", "(III)Z"⟩, 40) := ⟨⟨by decide +kernel, by decide +kernel⟩, List.mem_of_getElem? (i := 1224) (by decide +kernel), List.mem_of_getElem? (i := 1528) (by decide +kernel), List.mem_of_getElem? (i := 1529) (by decide +kernel)⟩
theorem lw_p51 : lw_okq (⟨"KeptOrdersModel", "leastOf", "(II)I"⟩, 40) := ⟨⟨by decide +kernel, by decide +kernel⟩, List.mem_of_getElem? (i := 1224) (by decide +kernel), List.mem_of_getElem? (i := 1532) (by decide +kernel), List.mem_of_getElem? (i := 1533) (by decide +kernel)⟩
theorem lw_p52 : lw_okq (⟨"KeptOrdersModel", "mostOf", "(II)I"⟩, 40) := ⟨⟨by decide +kernel, by decide +kernel⟩, List.mem_of_getElem? (i := 1224) (by decide +kernel), List.mem_of_getElem? (i := 1536) (by decide +kernel), List.mem_of_getElem? (i := 1537) (by decide +kernel)⟩
theorem lw_p53 : lw_okq (⟨"KeptOrdersModel", "runOf", "(II)I"⟩, 40) := ⟨⟨by decide +kernel, by decide +kernel⟩, List.mem_of_getElem? (i := 1224) (by decide +kernel), List.mem_of_getElem? (i := 1548) (by decide +kernel), List.mem_of_getElem? (i := 1549) (by decide +kernel)⟩
theorem lw_p54 : lw_okq (⟨"KeptOrdersModel", "runColumns", "(II)I"⟩, 40) := ⟨⟨by decide +kernel, by decide +kernel⟩, List.mem_of_getElem? (i := 1224) (by decide +kernel), List.mem_of_getElem? (i := 1552) (by decide +kernel), List.mem_of_getElem? (i := 1553) (by decide +kernel)⟩
theorem lw_p55 : lw_okq (⟨"KeptOrdersModel", "isFixed", "(II)Z"⟩, 40) := ⟨⟨by decide +kernel, by decide +kernel⟩, List.mem_of_getElem? (i := 1224) (by decide +kernel), List.mem_of_getElem? (i := 1556) (by decide +kernel), List.mem_of_getElem? (i := 1557) (by decide +kernel)⟩
theorem lw_p56 : lw_okq (⟨"KeptOrdersModel", "isBound", "(II)Z"⟩, 40) := ⟨⟨by decide +kernel, by decide +kernel⟩, List.mem_of_getElem? (i := 1224) (by decide +kernel), List.mem_of_getElem? (i := 1560) (by decide +kernel), List.mem_of_getElem? (i := 1561) (by decide +kernel)⟩
theorem lw_p57 : lw_okq (⟨"KeptOrdersModel", "isInRun", "(IIII)Z"⟩, 40) := ⟨⟨by decide +kernel, by decide +kernel⟩, List.mem_of_getElem? (i := 1224) (by decide +kernel), List.mem_of_getElem? (i := 1564) (by decide +kernel), List.mem_of_getElem? (i := 1565) (by decide +kernel)⟩
theorem lw_p58 : lw_okq (⟨"KeptOrdersModel", "looksOf", "(II)I"⟩, 40) := ⟨⟨by decide +kernel, by decide +kernel⟩, List.mem_of_getElem? (i := 1224) (by decide +kernel), List.mem_of_getElem? (i := 1572) (by decide +kernel), List.mem_of_getElem? (i := 1573) (by decide +kernel)⟩
theorem lw_p59 : lw_okq (⟨"KeptOrdersModel", "looksByTable", "(I)I"⟩, 40) := ⟨⟨by decide +kernel, by decide +kernel⟩, List.mem_of_getElem? (i := 1224) (by decide +kernel), List.mem_of_getElem? (i := 1576) (by decide +kernel), List.mem_of_getElem? (i := 1577) (by decide +kernel)⟩
theorem lw_p60 : lw_okq (⟨"KeptOrdersModel", "fullPages", "()I"⟩, 40) := ⟨⟨by decide +kernel, by decide +kernel⟩, List.mem_of_getElem? (i := 1224) (by decide +kernel), List.mem_of_getElem? (i := 1580) (by decide +kernel), List.mem_of_getElem? (i := 1581) (by decide +kernel)⟩
theorem lw_p61 : lw_okq (⟨"KeptOrdersModel", "isSorted", "(I)Z"⟩, 40) := ⟨⟨by decide +kernel, by decide +kernel⟩, List.mem_of_getElem? (i := 1224) (by decide +kernel), List.mem_of_getElem? (i := 1584) (by decide +kernel), List.mem_of_getElem? (i := 1585) (by decide +kernel)⟩
theorem lw_p62 : lw_okq (⟨"KeptOrdersModel", "looksBy", "(II)I"⟩, 40) := ⟨⟨by decide +kernel, by decide +kernel⟩, List.mem_of_getElem? (i := 1224) (by decide +kernel), List.mem_of_getElem? (i := 1588) (by decide +kernel), List.mem_of_getElem? (i := 1589) (by decide +kernel)⟩
theorem lw_p63 : lw_okq (⟨"KeptOrdersModel", "wayDown", "(II)I"⟩, 40) := ⟨⟨by decide +kernel, by decide +kernel⟩, List.mem_of_getElem? (i := 1224) (by decide +kernel), List.mem_of_getElem? (i := 1592) (by decide +kernel), List.mem_of_getElem? (i := 1593) (by decide +kernel)⟩
def lw_privs_4 : List (MethodName × Nat) := [(⟨"KeptOrdersModel", "answersOf", "(I)I"⟩, 40), (⟨"KeptOrdersModel", "isAnswer", "(II)Z"⟩, 40), (⟨"KeptOrdersModel", "isWithin", "(III)Z"⟩, 40), (⟨"KeptOrdersModel", "leastOf", "(II)I"⟩, 40), (⟨"KeptOrdersModel", "mostOf", "(II)I"⟩, 40), (⟨"KeptOrdersModel", "runOf", "(II)I"⟩, 40), (⟨"KeptOrdersModel", "runColumns", "(II)I"⟩, 40), (⟨"KeptOrdersModel", "isFixed", "(II)Z"⟩, 40), (⟨"KeptOrdersModel", "isBound", "(II)Z"⟩, 40), (⟨"KeptOrdersModel", "isInRun", "(IIII)Z"⟩, 40), (⟨"KeptOrdersModel", "looksOf", "(II)I"⟩, 40), (⟨"KeptOrdersModel", "looksByTable", "(I)I"⟩, 40), (⟨"KeptOrdersModel", "fullPages", "()I"⟩, 40), (⟨"KeptOrdersModel", "isSorted", "(I)Z"⟩, 40), (⟨"KeptOrdersModel", "looksBy", "(II)I"⟩, 40), (⟨"KeptOrdersModel", "wayDown", "(II)I"⟩, 40)]
theorem lw_r4 : ∀ q ∈ lw_privs_4, lw_okq q := List.forall_mem_cons.mpr ⟨lw_p48, List.forall_mem_cons.mpr ⟨lw_p49, List.forall_mem_cons.mpr ⟨lw_p50, List.forall_mem_cons.mpr ⟨lw_p51, List.forall_mem_cons.mpr ⟨lw_p52, List.forall_mem_cons.mpr ⟨lw_p53, List.forall_mem_cons.mpr ⟨lw_p54, List.forall_mem_cons.mpr ⟨lw_p55, List.forall_mem_cons.mpr ⟨lw_p56, List.forall_mem_cons.mpr ⟨lw_p57, List.forall_mem_cons.mpr ⟨lw_p58, List.forall_mem_cons.mpr ⟨lw_p59, List.forall_mem_cons.mpr ⟨lw_p60, List.forall_mem_cons.mpr ⟨lw_p61, List.forall_mem_cons.mpr ⟨lw_p62, List.forall_mem_cons.mpr ⟨lw_p63, fun _ h => absurd h List.not_mem_nil⟩⟩⟩⟩⟩⟩⟩⟩⟩⟩⟩⟩⟩⟩⟩⟩
theorem lw_p64 : lw_okq (⟨"KeptOrdersModel", "isCovered", "(II)Z"⟩, 40) := ⟨⟨by decide +kernel, by decide +kernel⟩, List.mem_of_getElem? (i := 1224) (by decide +kernel), List.mem_of_getElem? (i := 1596) (by decide +kernel), List.mem_of_getElem? (i := 1597) (by decide +kernel)⟩
theorem lw_p65 : lw_okq (⟨"KeptOrdersModel", "pagesLeft", "(III)I"⟩, 40) := ⟨⟨by decide +kernel, by decide +kernel⟩, List.mem_of_getElem? (i := 1224) (by decide +kernel), List.mem_of_getElem? (i := 1603) (by decide +kernel), List.mem_of_getElem? (i := 1604) (by decide +kernel)⟩
theorem lw_p66 : lw_okq (⟨"KeptOrdersModel", "leaves", "(III)Z"⟩, 40) := ⟨⟨by decide +kernel, by decide +kernel⟩, List.mem_of_getElem? (i := 1224) (by decide +kernel), List.mem_of_getElem? (i := 1607) (by decide +kernel), List.mem_of_getElem? (i := 1608) (by decide +kernel)⟩
theorem lw_p67 : lw_okq (⟨"KeptOrdersModel", "isSortedBy", "(II)Z"⟩, 40) := ⟨⟨by decide +kernel, by decide +kernel⟩, List.mem_of_getElem? (i := 1224) (by decide +kernel), List.mem_of_getElem? (i := 1611) (by decide +kernel), List.mem_of_getElem? (i := 1612) (by decide +kernel)⟩
theorem lw_p68 : lw_okq (⟨"KeptOrdersModel", "looksByBoth", "(III)I"⟩, 40) := ⟨⟨by decide +kernel, by decide +kernel⟩, List.mem_of_getElem? (i := 1224) (by decide +kernel), List.mem_of_getElem? (i := 1615) (by decide +kernel), List.mem_of_getElem? (i := 1616) (by decide +kernel)⟩
theorem lw_p69 : lw_okq (⟨"KeptOrdersModel", "lookAll", "(I)V"⟩, 40) := ⟨⟨by decide +kernel, by decide +kernel⟩, List.mem_of_getElem? (i := 1224) (by decide +kernel), List.mem_of_getElem? (i := 1623) (by decide +kernel), List.mem_of_getElem? (i := 1624) (by decide +kernel)⟩
theorem lw_p70 : lw_okq (⟨"KeptOrdersModel", "seekBest", "(II)V"⟩, 40) := ⟨⟨by decide +kernel, by decide +kernel⟩, List.mem_of_getElem? (i := 1224) (by decide +kernel), List.mem_of_getElem? (i := 1627) (by decide +kernel), List.mem_of_getElem? (i := 1628) (by decide +kernel)⟩
theorem lw_p71 : lw_okq (⟨"KeptOrdersModel", "better", "(II)V"⟩, 40) := ⟨⟨by decide +kernel, by decide +kernel⟩, List.mem_of_getElem? (i := 1224) (by decide +kernel), List.mem_of_getElem? (i := 1631) (by decide +kernel), List.mem_of_getElem? (i := 1632) (by decide +kernel)⟩
theorem lw_p72 : lw_okq (⟨"KeptOrdersModel", "lookAtAll", "()V"⟩, 40) := ⟨⟨by decide +kernel, by decide +kernel⟩, List.mem_of_getElem? (i := 1224) (by decide +kernel), List.mem_of_getElem? (i := 1639) (by decide +kernel), List.mem_of_getElem? (i := 1640) (by decide +kernel)⟩
theorem lw_p73 : lw_okq (⟨"KeptOrdersModel", "workOf", "(I)I"⟩, 40) := ⟨⟨by decide +kernel, by decide +kernel⟩, List.mem_of_getElem? (i := 1224) (by decide +kernel), List.mem_of_getElem? (i := 1643) (by decide +kernel), List.mem_of_getElem? (i := 1644) (by decide +kernel)⟩
theorem lw_p74 : lw_okq (⟨"KeptOrdersModel", "isKept", "(I)Z"⟩, 40) := ⟨⟨by decide +kernel, by decide +kernel⟩, List.mem_of_getElem? (i := 1224) (by decide +kernel), List.mem_of_getElem? (i := 1655) (by decide +kernel), List.mem_of_getElem? (i := 1656) (by decide +kernel)⟩
theorem lw_p75 : lw_okq (⟨"KeptOrdersModel", "spaceOf", "(I)I"⟩, 40) := ⟨⟨by decide +kernel, by decide +kernel⟩, List.mem_of_getElem? (i := 1224) (by decide +kernel), List.mem_of_getElem? (i := 1659) (by decide +kernel), List.mem_of_getElem? (i := 1660) (by decide +kernel)⟩
theorem lw_p76 : lw_okq (⟨"KeptOrdersModel", "partOf", "(III)I"⟩, 40) := ⟨⟨by decide +kernel, by decide +kernel⟩, List.mem_of_getElem? (i := 1224) (by decide +kernel), List.mem_of_getElem? (i := 1679) (by decide +kernel), List.mem_of_getElem? (i := 1680) (by decide +kernel)⟩
theorem lw_p77 : lw_okq (⟨"KeptOrdersModel", "foretoldOf", "(IIII)I"⟩, 40) := ⟨⟨by decide +kernel, by decide +kernel⟩, List.mem_of_getElem? (i := 1224) (by decide +kernel), List.mem_of_getElem? (i := 1687) (by decide +kernel), List.mem_of_getElem? (i := 1688) (by decide +kernel)⟩
theorem lw_p78 : lw_okq (⟨"KeptOrdersModel", "likelyBy", "(II)I"⟩, 40) := ⟨⟨by decide +kernel, by decide +kernel⟩, List.mem_of_getElem? (i := 1224) (by decide +kernel), List.mem_of_getElem? (i := 1695) (by decide +kernel), List.mem_of_getElem? (i := 1696) (by decide +kernel)⟩
theorem lw_p79 : lw_okq (⟨"KeptOrdersModel", "guessOf", "(II)I"⟩, 40) := ⟨⟨by decide +kernel, by decide +kernel⟩, List.mem_of_getElem? (i := 1224) (by decide +kernel), List.mem_of_getElem? (i := 1703) (by decide +kernel), List.mem_of_getElem? (i := 1704) (by decide +kernel)⟩
def lw_privs_5 : List (MethodName × Nat) := [(⟨"KeptOrdersModel", "isCovered", "(II)Z"⟩, 40), (⟨"KeptOrdersModel", "pagesLeft", "(III)I"⟩, 40), (⟨"KeptOrdersModel", "leaves", "(III)Z"⟩, 40), (⟨"KeptOrdersModel", "isSortedBy", "(II)Z"⟩, 40), (⟨"KeptOrdersModel", "looksByBoth", "(III)I"⟩, 40), (⟨"KeptOrdersModel", "lookAll", "(I)V"⟩, 40), (⟨"KeptOrdersModel", "seekBest", "(II)V"⟩, 40), (⟨"KeptOrdersModel", "better", "(II)V"⟩, 40), (⟨"KeptOrdersModel", "lookAtAll", "()V"⟩, 40), (⟨"KeptOrdersModel", "workOf", "(I)I"⟩, 40), (⟨"KeptOrdersModel", "isKept", "(I)Z"⟩, 40), (⟨"KeptOrdersModel", "spaceOf", "(I)I"⟩, 40), (⟨"KeptOrdersModel", "partOf", "(III)I"⟩, 40), (⟨"KeptOrdersModel", "foretoldOf", "(IIII)I"⟩, 40), (⟨"KeptOrdersModel", "likelyBy", "(II)I"⟩, 40), (⟨"KeptOrdersModel", "guessOf", "(II)I"⟩, 40)]
theorem lw_r5 : ∀ q ∈ lw_privs_5, lw_okq q := List.forall_mem_cons.mpr ⟨lw_p64, List.forall_mem_cons.mpr ⟨lw_p65, List.forall_mem_cons.mpr ⟨lw_p66, List.forall_mem_cons.mpr ⟨lw_p67, List.forall_mem_cons.mpr ⟨lw_p68, List.forall_mem_cons.mpr ⟨lw_p69, List.forall_mem_cons.mpr ⟨lw_p70, List.forall_mem_cons.mpr ⟨lw_p71, List.forall_mem_cons.mpr ⟨lw_p72, List.forall_mem_cons.mpr ⟨lw_p73, List.forall_mem_cons.mpr ⟨lw_p74, List.forall_mem_cons.mpr ⟨lw_p75, List.forall_mem_cons.mpr ⟨lw_p76, List.forall_mem_cons.mpr ⟨lw_p77, List.forall_mem_cons.mpr ⟨lw_p78, List.forall_mem_cons.mpr ⟨lw_p79, fun _ h => absurd h List.not_mem_nil⟩⟩⟩⟩⟩⟩⟩⟩⟩⟩⟩⟩⟩⟩⟩⟩
theorem lw_p80 : lw_okq (⟨"KeptOrdersModel", "guessBy", "(II)I"⟩, 40) := ⟨⟨by decide +kernel, by decide +kernel⟩, List.mem_of_getElem? (i := 1224) (by decide +kernel), List.mem_of_getElem? (i := 1707) (by decide +kernel), List.mem_of_getElem? (i := 1708) (by decide +kernel)⟩
theorem lw_p81 : lw_okq (⟨"KeptOrdersModel", "chosenOf", "(I)I"⟩, 40) := ⟨⟨by decide +kernel, by decide +kernel⟩, List.mem_of_getElem? (i := 1224) (by decide +kernel), List.mem_of_getElem? (i := 1715) (by decide +kernel), List.mem_of_getElem? (i := 1716) (by decide +kernel)⟩
theorem lw_p82 : lw_okq (⟨"KeptOrdersModel", "countOf", "(I)I"⟩, 40) := ⟨⟨by decide +kernel, by decide +kernel⟩, List.mem_of_getElem? (i := 1224) (by decide +kernel), List.mem_of_getElem? (i := 1735) (by decide +kernel), List.mem_of_getElem? (i := 1736) (by decide +kernel)⟩
theorem lw_p83 : lw_okq (⟨"KeptOrdersModel", "kept", "()I"⟩, 40) := ⟨⟨by decide +kernel, by decide +kernel⟩, List.mem_of_getElem? (i := 1224) (by decide +kernel), List.mem_of_getElem? (i := 1739) (by decide +kernel), List.mem_of_getElem? (i := 1740) (by decide +kernel)⟩
theorem lw_p84 : lw_okq (⟨"KeptOrdersModel", "mixTable", "()V"⟩, 40) := ⟨⟨by decide +kernel, by decide +kernel⟩, List.mem_of_getElem? (i := 1224) (by decide +kernel), List.mem_of_getElem? (i := 1748) (by decide +kernel), List.mem_of_getElem? (i := 1749) (by decide +kernel)⟩
theorem lw_p85 : lw_okq (⟨"KeptOrdersModel", "mix", "(J)V"⟩, 40) := ⟨⟨by decide +kernel, by decide +kernel⟩, List.mem_of_getElem? (i := 1224) (by decide +kernel), List.mem_of_getElem? (i := 1752) (by decide +kernel), List.mem_of_getElem? (i := 1753) (by decide +kernel)⟩
def lw_privs_6 : List (MethodName × Nat) := [(⟨"KeptOrdersModel", "guessBy", "(II)I"⟩, 40), (⟨"KeptOrdersModel", "chosenOf", "(I)I"⟩, 40), (⟨"KeptOrdersModel", "countOf", "(I)I"⟩, 40), (⟨"KeptOrdersModel", "kept", "()I"⟩, 40), (⟨"KeptOrdersModel", "mixTable", "()V"⟩, 40), (⟨"KeptOrdersModel", "mix", "(J)V"⟩, 40)]
theorem lw_r6 : ∀ q ∈ lw_privs_6, lw_okq q := List.forall_mem_cons.mpr ⟨lw_p80, List.forall_mem_cons.mpr ⟨lw_p81, List.forall_mem_cons.mpr ⟨lw_p82, List.forall_mem_cons.mpr ⟨lw_p83, List.forall_mem_cons.mpr ⟨lw_p84, List.forall_mem_cons.mpr ⟨lw_p85, fun _ h => absurd h List.not_mem_nil⟩⟩⟩⟩⟩⟩
def lw_privs : List (MethodName × Nat) := lw_privs_1 ++ (lw_privs_2 ++ (lw_privs_3 ++ (lw_privs_4 ++ (lw_privs_5 ++ (lw_privs_6)))))
def lw_tbl : List Cond := k2_sels lw_privs ++ tables_1
theorem lw_privs_ok : ∀ q ∈ lw_privs, lw_okq q := by
  show ∀ q ∈ lw_privs_1 ++ (lw_privs_2 ++ (lw_privs_3 ++ (lw_privs_4 ++ (lw_privs_5 ++ (lw_privs_6))))), lw_okq q
  exact List.forall_mem_append.mpr ⟨lw_r1, List.forall_mem_append.mpr ⟨lw_r2, List.forall_mem_append.mpr ⟨lw_r3, List.forall_mem_append.mpr ⟨lw_r4, List.forall_mem_append.mpr ⟨lw_r5, lw_r6⟩⟩⟩⟩⟩
def RX0 : String := "KeptOrders$Marks"
def TX0 : u_T := fun k => match k with
  | 0 => ("KeptOrders$Marks", "list", "[LKeptOrders$Table;", true)
  | _ => ("KeptOrders$Marks", "marked", "I", false)
def tyX0 : Nat → FieldType := fun k => match k with
  | 0 => .array (.object "KeptOrders$Table")
  | _ => .int
theorem nmX0 : ∀ a, a < 2 → ∀ b, b < 2 → a ≠ b → (TX0 a).2.1 ≠ (TX0 b).2.1 := by decide +kernel
theorem tyX0_ok : ∀ k, k < 2 → parseFieldDescriptor (TX0 k).2.2.1 = some (tyX0 k) := by decide +kernel
abbrev cX0_init : ByteArray := prog_2_method_1_code
def yX0_init : MethodName := ⟨RX0, "<init>", "()V"⟩
abbrev cX0_marked : ByteArray := prog_2_method_2_code
def yX0_marked : MethodName := ⟨RX0, "marked", "()I"⟩
abbrev cX0_numbered : ByteArray := prog_2_method_3_code
def yX0_numbered : MethodName := ⟨RX0, "numbered", "(I)LKeptOrders$Table;"⟩
abbrev cX0_keep : ByteArray := prog_2_method_4_code
def yX0_keep : MethodName := ⟨RX0, "keep", "(LKeptOrders$Table;)I"⟩
abbrev cX0_forgetBehind : ByteArray := prog_2_method_5_code
def yX0_forgetBehind : MethodName := ⟨RX0, "forgetBehind", "(I)V"⟩
def RX1 : String := "KeptOrders$Numbers"
def TX1 : u_T := fun k => match k with
  | _ => ("KeptOrders$Numbers", "held", "[I", true)
def tyX1 : Nat → FieldType := fun k => match k with
  | _ => .array .int
theorem nmX1 : ∀ a, a < 1 → ∀ b, b < 1 → a ≠ b → (TX1 a).2.1 ≠ (TX1 b).2.1 := by decide +kernel
theorem tyX1_ok : ∀ k, k < 1 → parseFieldDescriptor (TX1 k).2.2.1 = some (tyX1 k) := by decide +kernel
abbrev cX1_init : ByteArray := prog_3_method_1_code
def yX1_init : MethodName := ⟨RX1, "<init>", "(I)V"⟩
abbrev cX1_at : ByteArray := prog_3_method_2_code
def yX1_at : MethodName := ⟨RX1, "at", "(I)I"⟩
abbrev cX1_put : ByteArray := prog_3_method_3_code
def yX1_put : MethodName := ⟨RX1, "put", "(II)V"⟩
abbrev cX1_raise : ByteArray := prog_3_method_4_code
def yX1_raise : MethodName := ⟨RX1, "raise", "(II)V"⟩
abbrev cX1_insert : ByteArray := prog_3_method_5_code
def yX1_insert : MethodName := ⟨RX1, "insert", "(III)V"⟩
abbrev cX1_remove : ByteArray := prog_3_method_6_code
def yX1_remove : MethodName := ⟨RX1, "remove", "(II)V"⟩
abbrev cX1_placeOf : ByteArray := prog_3_method_7_code
def yX1_placeOf : MethodName := ⟨RX1, "placeOf", "(II)I"⟩
abbrev cX1_copy : ByteArray := prog_3_method_8_code
def yX1_copy : MethodName := ⟨RX1, "copy", "(LKeptOrders$Numbers;)V"⟩
def RX2 : String := "KeptOrders$Order"
def TX2 : u_T := fun k => match k with
  | 0 => ("KeptOrders$Order", "table", "LKeptOrders$Table;", true)
  | 1 => ("KeptOrders$Order", "key", "I", true)
  | 2 => ("KeptOrders$Order", "width", "I", true)
  | 3 => ("KeptOrders$Order", "room", "I", true)
  | 4 => ("KeptOrders$Order", "columns", "I", true)
  | 5 => ("KeptOrders$Order", "along", "LKeptOrders$Numbers;", true)
  | 6 => ("KeptOrders$Order", "slots", "LKeptOrders$Numbers;", true)
  | 7 => ("KeptOrders$Order", "sizes", "LKeptOrders$Numbers;", true)
  | 8 => ("KeptOrders$Order", "entries", "I", false)
  | 9 => ("KeptOrders$Order", "leaves", "I", false)
  | 10 => ("KeptOrders$Order", "cuts", "I", false)
  | _ => ("KeptOrders$Order", "dropped", "Z", false)
def tyX2 : Nat → FieldType := fun k => match k with
  | 0 => .object "KeptOrders$Table"
  | 1 => .int
  | 2 => .int
  | 3 => .int
  | 4 => .int
  | 5 => .object "KeptOrders$Numbers"
  | 6 => .object "KeptOrders$Numbers"
  | 7 => .object "KeptOrders$Numbers"
  | 8 => .int
  | 9 => .int
  | 10 => .int
  | _ => .boolean
theorem nmX2 : ∀ a, a < 12 → ∀ b, b < 12 → a ≠ b → (TX2 a).2.1 ≠ (TX2 b).2.1 := by decide +kernel
theorem tyX2_ok : ∀ k, k < 12 → parseFieldDescriptor (TX2 k).2.2.1 = some (tyX2 k) := by decide +kernel
abbrev cX2_init : ByteArray := prog_4_method_1_code
def yX2_init : MethodName := ⟨RX2, "<init>", "(LKeptOrders$Table;I)V"⟩
abbrev cX2_isKey : ByteArray := prog_4_method_2_code
def yX2_isKey : MethodName := ⟨RX2, "isKey", "(I)Z"⟩
abbrev cX2_key : ByteArray := prog_4_method_3_code
def yX2_key : MethodName := ⟨RX2, "key", "()I"⟩
abbrev cX2_columns : ByteArray := prog_4_method_4_code
def yX2_columns : MethodName := ⟨RX2, "columns", "()I"⟩
abbrev cX2_room : ByteArray := prog_4_method_5_code
def yX2_room : MethodName := ⟨RX2, "room", "()I"⟩
abbrev cX2_entries : ByteArray := prog_4_method_6_code
def yX2_entries : MethodName := ⟨RX2, "entries", "()I"⟩
abbrev cX2_leaves : ByteArray := prog_4_method_7_code
def yX2_leaves : MethodName := ⟨RX2, "leaves", "()I"⟩
abbrev cX2_cuts : ByteArray := prog_4_method_8_code
def yX2_cuts : MethodName := ⟨RX2, "cuts", "()I"⟩
abbrev cX2_isDropped : ByteArray := prog_4_method_9_code
def yX2_isDropped : MethodName := ⟨RX2, "isDropped", "()Z"⟩
abbrev cX2_dismiss : ByteArray := prog_4_method_10_code
def yX2_dismiss : MethodName := ⟨RX2, "dismiss", "()V"⟩
abbrev cX2_slotAt : ByteArray := prog_4_method_11_code
def yX2_slotAt : MethodName := ⟨RX2, "slotAt", "(I)I"⟩
abbrev cX2_entriesInLeaf : ByteArray := prog_4_method_12_code
def yX2_entriesInLeaf : MethodName := ⟨RX2, "entriesInLeaf", "(I)I"⟩
abbrev cX2_height : ByteArray := prog_4_method_13_code
def yX2_height : MethodName := ⟨RX2, "height", "()I"⟩
abbrev cX2_size : ByteArray := prog_4_method_14_code
def yX2_size : MethodName := ⟨RX2, "size", "()I"⟩
abbrev cX2_rebuild : ByteArray := prog_4_method_15_code
def yX2_rebuild : MethodName := ⟨RX2, "rebuild", "()V"⟩
abbrev cX2_fillLeaves : ByteArray := prog_4_method_16_code
def yX2_fillLeaves : MethodName := ⟨RX2, "fillLeaves", "()V"⟩
abbrev cX2_entryComes : ByteArray := prog_4_method_17_code
def yX2_entryComes : MethodName := ⟨RX2, "entryComes", "(I)V"⟩
abbrev cX2_entryGoes : ByteArray := prog_4_method_18_code
def yX2_entryGoes : MethodName := ⟨RX2, "entryGoes", "(I)V"⟩
abbrev cX2_cut : ByteArray := prog_4_method_19_code
def yX2_cut : MethodName := ⟨RX2, "cut", "(I)V"⟩
abbrev cX2_leafAt : ByteArray := prog_4_method_20_code
def yX2_leafAt : MethodName := ⟨RX2, "leafAt", "(I)I"⟩
abbrev cX2_leafFor : ByteArray := prog_4_method_21_code
def yX2_leafFor : MethodName := ⟨RX2, "leafFor", "(I)I"⟩
abbrev cX2_placeFor : ByteArray := prog_4_method_22_code
def yX2_placeFor : MethodName := ⟨RX2, "placeFor", "(I)I"⟩
abbrev cX2_isAhead : ByteArray := prog_4_method_23_code
def yX2_isAhead : MethodName := ⟨RX2, "isAhead", "(II)Z"⟩
abbrev cX2_runColumns : ByteArray := prog_4_method_24_code
def yX2_runColumns : MethodName := ⟨RX2, "runColumns", "(LKeptOrders$Question;)I"⟩
abbrev cX2_leavesOf : ByteArray := prog_4_method_25_code
def yX2_leavesOf : MethodName := ⟨RX2, "leavesOf", "(J)I"⟩
abbrev cX2_hasSome : ByteArray := prog_4_method_26_code
def yX2_hasSome : MethodName := ⟨RX2, "hasSome", "(JII)Z"⟩
abbrev cX2_covers : ByteArray := prog_4_method_27_code
def yX2_covers : MethodName := ⟨RX2, "covers", "(LKeptOrders$Question;)Z"⟩
abbrev cX2_sortsFor : ByteArray := prog_4_method_28_code
def yX2_sortsFor : MethodName := ⟨RX2, "sortsFor", "(LKeptOrders$Question;)Z"⟩
def RX3 : String := "KeptOrders$Orders"
def TX3 : u_T := fun k => match k with
  | 0 => ("KeptOrders$Orders", "table", "LKeptOrders$Table;", true)
  | 1 => ("KeptOrders$Orders", "list", "[LKeptOrders$Order;", true)
  | _ => ("KeptOrders$Orders", "told", "I", false)
def tyX3 : Nat → FieldType := fun k => match k with
  | 0 => .object "KeptOrders$Table"
  | 1 => .array (.object "KeptOrders$Order")
  | _ => .int
theorem nmX3 : ∀ a, a < 3 → ∀ b, b < 3 → a ≠ b → (TX3 a).2.1 ≠ (TX3 b).2.1 := by decide +kernel
theorem tyX3_ok : ∀ k, k < 3 → parseFieldDescriptor (TX3 k).2.2.1 = some (tyX3 k) := by decide +kernel
abbrev cX3_init : ByteArray := prog_5_method_1_code
def yX3_init : MethodName := ⟨RX3, "<init>", "(LKeptOrders$Table;)V"⟩
abbrev cX3_told : ByteArray := prog_5_method_2_code
def yX3_told : MethodName := ⟨RX3, "told", "()I"⟩
abbrev cX3_kept : ByteArray := prog_5_method_3_code
def yX3_kept : MethodName := ⟨RX3, "kept", "(I)LKeptOrders$Order;"⟩
abbrev cX3_haveKey : ByteArray := prog_5_method_4_code
def yX3_haveKey : MethodName := ⟨RX3, "haveKey", "(I)Z"⟩
abbrev cX3_tell : ByteArray := prog_5_method_5_code
def yX3_tell : MethodName := ⟨RX3, "tell", "(I)I"⟩
abbrev cX3_entriesGo : ByteArray := prog_5_method_6_code
def yX3_entriesGo : MethodName := ⟨RX3, "entriesGo", "(I)V"⟩
abbrev cX3_entriesCome : ByteArray := prog_5_method_7_code
def yX3_entriesCome : MethodName := ⟨RX3, "entriesCome", "(I)V"⟩
abbrev cX3_rebuild : ByteArray := prog_5_method_8_code
def yX3_rebuild : MethodName := ⟨RX3, "rebuild", "()V"⟩
abbrev cX3_keptSet : ByteArray := prog_5_method_9_code
def yX3_keptSet : MethodName := ⟨RX3, "keptSet", "()I"⟩
abbrev cX3_sizesOf : ByteArray := prog_5_method_10_code
def yX3_sizesOf : MethodName := ⟨RX3, "sizesOf", "(I)I"⟩
abbrev cX3_burdenOf : ByteArray := prog_5_method_11_code
def yX3_burdenOf : MethodName := ⟨RX3, "burdenOf", "(I)I"⟩
def RX4 : String := "KeptOrders$Picture"
def TX4 : u_T := fun k => match k with
  | 0 => ("KeptOrders$Picture", "counts", "LKeptOrders$Numbers;", true)
  | 1 => ("KeptOrders$Picture", "leasts", "LKeptOrders$Numbers;", true)
  | 2 => ("KeptOrders$Picture", "greatests", "LKeptOrders$Numbers;", true)
  | _ => ("KeptOrders$Picture", "taken", "Z", false)
def tyX4 : Nat → FieldType := fun k => match k with
  | 0 => .object "KeptOrders$Numbers"
  | 1 => .object "KeptOrders$Numbers"
  | 2 => .object "KeptOrders$Numbers"
  | _ => .boolean
theorem nmX4 : ∀ a, a < 4 → ∀ b, b < 4 → a ≠ b → (TX4 a).2.1 ≠ (TX4 b).2.1 := by decide +kernel
theorem tyX4_ok : ∀ k, k < 4 → parseFieldDescriptor (TX4 k).2.2.1 = some (tyX4 k) := by decide +kernel
abbrev cX4_init : ByteArray := prog_6_method_1_code
def yX4_init : MethodName := ⟨RX4, "<init>", "()V"⟩
abbrev cX4_isTaken : ByteArray := prog_6_method_2_code
def yX4_isTaken : MethodName := ⟨RX4, "isTaken", "()Z"⟩
abbrev cX4_partCount : ByteArray := prog_6_method_3_code
def yX4_partCount : MethodName := ⟨RX4, "partCount", "(I)I"⟩
abbrev cX4_partLeast : ByteArray := prog_6_method_4_code
def yX4_partLeast : MethodName := ⟨RX4, "partLeast", "(I)I"⟩
abbrev cX4_partGreatest : ByteArray := prog_6_method_5_code
def yX4_partGreatest : MethodName := ⟨RX4, "partGreatest", "(I)I"⟩
abbrev cX4_take : ByteArray := prog_6_method_6_code
def yX4_take : MethodName := ⟨RX4, "take", "(LKeptOrders$Numbers;I)I"⟩
abbrev cX4_surelyWithin : ByteArray := prog_6_method_7_code
def yX4_surelyWithin : MethodName := ⟨RX4, "surelyWithin", "(II)I"⟩
abbrev cX4_perhapsWithin : ByteArray := prog_6_method_8_code
def yX4_perhapsWithin : MethodName := ⟨RX4, "perhapsWithin", "(II)I"⟩
abbrev cX4_likelyWithin : ByteArray := prog_6_method_9_code
def yX4_likelyWithin : MethodName := ⟨RX4, "likelyWithin", "(II)I"⟩
abbrev cX4_shared : ByteArray := prog_6_method_10_code
def yX4_shared : MethodName := ⟨RX4, "shared", "(III)I"⟩
def RX5 : String := "KeptOrders$Pictures"
def TX5 : u_T := fun k => match k with
  | 0 => ("KeptOrders$Pictures", "table", "LKeptOrders$Table;", true)
  | 1 => ("KeptOrders$Pictures", "orders", "LKeptOrders$Orders;", true)
  | 2 => ("KeptOrders$Pictures", "list", "[LKeptOrders$Picture;", true)
  | 3 => ("KeptOrders$Pictures", "sorted", "LKeptOrders$Numbers;", true)
  | _ => ("KeptOrders$Pictures", "rows", "I", false)
def tyX5 : Nat → FieldType := fun k => match k with
  | 0 => .object "KeptOrders$Table"
  | 1 => .object "KeptOrders$Orders"
  | 2 => .array (.object "KeptOrders$Picture")
  | 3 => .object "KeptOrders$Numbers"
  | _ => .int
theorem nmX5 : ∀ a, a < 5 → ∀ b, b < 5 → a ≠ b → (TX5 a).2.1 ≠ (TX5 b).2.1 := by decide +kernel
theorem tyX5_ok : ∀ k, k < 5 → parseFieldDescriptor (TX5 k).2.2.1 = some (tyX5 k) := by decide +kernel
abbrev cX5_init : ByteArray := prog_7_method_1_code
def yX5_init : MethodName := ⟨RX5, "<init>", "(LKeptOrders$Table;LKeptOrders$Orders;)V"⟩
abbrev cX5_of : ByteArray := prog_7_method_2_code
def yX5_of : MethodName := ⟨RX5, "of", "(I)LKeptOrders$Picture;"⟩
abbrev cX5_take : ByteArray := prog_7_method_3_code
def yX5_take : MethodName := ⟨RX5, "take", "(I)I"⟩
abbrev cX5_placeFor : ByteArray := prog_7_method_4_code
def yX5_placeFor : MethodName := ⟨RX5, "placeFor", "(II)I"⟩
abbrev cX5_likelyRows : ByteArray := prog_7_method_5_code
def yX5_likelyRows : MethodName := ⟨RX5, "likelyRows", "(LKeptOrders$Question;I)I"⟩
abbrev cX5_looksByTable : ByteArray := prog_7_method_6_code
def yX5_looksByTable : MethodName := ⟨RX5, "looksByTable", "(LKeptOrders$Question;)I"⟩
abbrev cX5_looksByOrder : ByteArray := prog_7_method_7_code
def yX5_looksByOrder : MethodName := ⟨RX5, "looksByOrder", "(LKeptOrders$Question;LKeptOrders$Order;)I"⟩
abbrev cX5_chosenWay : ByteArray := prog_7_method_8_code
def yX5_chosenWay : MethodName := ⟨RX5, "chosenWay", "(LKeptOrders$Question;)I"⟩
abbrev cX5_looksForSorting : ByteArray := prog_7_method_9_code
def yX5_looksForSorting : MethodName := ⟨RX5, "looksForSorting", "(LKeptOrders$Question;)I"⟩
def RX6 : String := "KeptOrders$Question"
def TX6 : u_T := fun k => match k with
  | 0 => ("KeptOrders$Question", "leasts", "LKeptOrders$Numbers;", true)
  | 1 => ("KeptOrders$Question", "greatests", "LKeptOrders$Numbers;", true)
  | 2 => ("KeptOrders$Question", "bound", "I", false)
  | 3 => ("KeptOrders$Question", "fixed", "I", false)
  | 4 => ("KeptOrders$Question", "shown", "I", false)
  | 5 => ("KeptOrders$Question", "sortColumn", "I", false)
  | _ => ("KeptOrders$Question", "heft", "I", false)
def tyX6 : Nat → FieldType := fun k => match k with
  | 0 => .object "KeptOrders$Numbers"
  | 1 => .object "KeptOrders$Numbers"
  | 2 => .int
  | 3 => .int
  | 4 => .int
  | 5 => .int
  | _ => .int
theorem nmX6 : ∀ a, a < 7 → ∀ b, b < 7 → a ≠ b → (TX6 a).2.1 ≠ (TX6 b).2.1 := by decide +kernel
theorem tyX6_ok : ∀ k, k < 7 → parseFieldDescriptor (TX6 k).2.2.1 = some (tyX6 k) := by decide +kernel
abbrev cX6_init : ByteArray := prog_8_method_1_code
def yX6_init : MethodName := ⟨RX6, "<init>", "()V"⟩
abbrev cX6_clear : ByteArray := prog_8_method_2_code
def yX6_clear : MethodName := ⟨RX6, "clear", "()V"⟩
abbrev cX6_narrow : ByteArray := prog_8_method_3_code
def yX6_narrow : MethodName := ⟨RX6, "narrow", "(III)V"⟩
abbrev cX6_shows : ByteArray := prog_8_method_4_code
def yX6_shows : MethodName := ⟨RX6, "shows", "(I)Z"⟩
abbrev cX6_show : ByteArray := prog_8_method_5_code
def yX6_show : MethodName := ⟨RX6, "show", "(I)V"⟩
abbrev cX6_sortBy : ByteArray := prog_8_method_6_code
def yX6_sortBy : MethodName := ⟨RX6, "sortBy", "(I)V"⟩
abbrev cX6_sortColumn : ByteArray := prog_8_method_7_code
def yX6_sortColumn : MethodName := ⟨RX6, "sortColumn", "()I"⟩
abbrev cX6_heft : ByteArray := prog_8_method_8_code
def yX6_heft : MethodName := ⟨RX6, "heft", "()I"⟩
abbrev cX6_weigh : ByteArray := prog_8_method_9_code
def yX6_weigh : MethodName := ⟨RX6, "weigh", "(I)V"⟩
abbrev cX6_least : ByteArray := prog_8_method_10_code
def yX6_least : MethodName := ⟨RX6, "least", "(I)I"⟩
abbrev cX6_greatest : ByteArray := prog_8_method_11_code
def yX6_greatest : MethodName := ⟨RX6, "greatest", "(I)I"⟩
abbrev cX6_letsNone : ByteArray := prog_8_method_12_code
def yX6_letsNone : MethodName := ⟨RX6, "letsNone", "(I)Z"⟩
abbrev cX6_isFixed : ByteArray := prog_8_method_13_code
def yX6_isFixed : MethodName := ⟨RX6, "isFixed", "(I)Z"⟩
abbrev cX6_isBound : ByteArray := prog_8_method_14_code
def yX6_isBound : MethodName := ⟨RX6, "isBound", "(I)Z"⟩
abbrev cX6_usedColumns : ByteArray := prog_8_method_15_code
def yX6_usedColumns : MethodName := ⟨RX6, "usedColumns", "()I"⟩
abbrev cX6_mustSort : ByteArray := prog_8_method_16_code
def yX6_mustSort : MethodName := ⟨RX6, "mustSort", "()Z"⟩
abbrev cX6_rowsWithin : ByteArray := prog_8_method_17_code
def yX6_rowsWithin : MethodName := ⟨RX6, "rowsWithin", "(LKeptOrders$Table;I)J"⟩
abbrev cX6_placed : ByteArray := prog_8_method_18_code
def yX6_placed : MethodName := ⟨RX6, "placed", "(LKeptOrders$Table;I)I"⟩
abbrev cX6_rowsAhead : ByteArray := prog_8_method_19_code
def yX6_rowsAhead : MethodName := ⟨RX6, "rowsAhead", "(LKeptOrders$Table;JI)I"⟩
abbrev cX6_sortNumber : ByteArray := prog_8_method_20_code
def yX6_sortNumber : MethodName := ⟨RX6, "sortNumber", "(LKeptOrders$Table;I)I"⟩
def RX7 : String := "KeptOrders$Sheet"
def TX7 : u_T := fun k => match k with
  | 0 => ("KeptOrders$Sheet", "codes", "LKeptOrders$Numbers;", true)
  | 1 => ("KeptOrders$Sheet", "length", "I", false)
  | 2 => ("KeptOrders$Sheet", "draft", "LKeptOrders$Question;", false)
  | 3 => ("KeptOrders$Sheet", "state", "I", false)
  | 4 => ("KeptOrders$Sheet", "column", "I", false)
  | 5 => ("KeptOrders$Sheet", "sign", "I", false)
  | _ => ("KeptOrders$Sheet", "number", "I", false)
def tyX7 : Nat → FieldType := fun k => match k with
  | 0 => .object "KeptOrders$Numbers"
  | 1 => .int
  | 2 => .object "KeptOrders$Question"
  | 3 => .int
  | 4 => .int
  | 5 => .int
  | _ => .int
theorem nmX7 : ∀ a, a < 7 → ∀ b, b < 7 → a ≠ b → (TX7 a).2.1 ≠ (TX7 b).2.1 := by decide +kernel
theorem tyX7_ok : ∀ k, k < 7 → parseFieldDescriptor (TX7 k).2.2.1 = some (tyX7 k) := by decide +kernel
abbrev cX7_init : ByteArray := prog_9_method_1_code
def yX7_init : MethodName := ⟨RX7, "<init>", "()V"⟩
abbrev cX7_length : ByteArray := prog_9_method_2_code
def yX7_length : MethodName := ⟨RX7, "length", "()I"⟩
abbrev cX7_letterAt : ByteArray := prog_9_method_3_code
def yX7_letterAt : MethodName := ⟨RX7, "letterAt", "(I)I"⟩
abbrev cX7_write : ByteArray := prog_9_method_4_code
def yX7_write : MethodName := ⟨RX7, "write", "(I)V"⟩
abbrev cX7_clear : ByteArray := prog_9_method_5_code
def yX7_clear : MethodName := ⟨RX7, "clear", "()V"⟩
abbrev cX7_read : ByteArray := prog_9_method_6_code
def yX7_read : MethodName := ⟨RX7, "read", "()I"⟩
abbrev cX7_isWhole : ByteArray := prog_9_method_7_code
def yX7_isWhole : MethodName := ⟨RX7, "isWhole", "()Z"⟩
abbrev cX7_handOver : ByteArray := prog_9_method_8_code
def yX7_handOver : MethodName := ⟨RX7, "handOver", "()LKeptOrders$Question;"⟩
abbrev cX7_takes : ByteArray := prog_9_method_9_code
def yX7_takes : MethodName := ⟨RX7, "takes", "(I)Z"⟩
abbrev cX7_moves : ByteArray := prog_9_method_10_code
def yX7_moves : MethodName := ⟨RX7, "moves", "(I)Z"⟩
abbrev cX7_isLetter : ByteArray := prog_9_method_11_code
def yX7_isLetter : MethodName := ⟨RX7, "isLetter", "(I)Z"⟩
abbrev cX7_takesColumn : ByteArray := prog_9_method_12_code
def yX7_takesColumn : MethodName := ⟨RX7, "takesColumn", "(I)Z"⟩
abbrev cX7_takesSign : ByteArray := prog_9_method_13_code
def yX7_takesSign : MethodName := ⟨RX7, "takesSign", "(I)Z"⟩
abbrev cX7_takesDigit : ByteArray := prog_9_method_14_code
def yX7_takesDigit : MethodName := ⟨RX7, "takesDigit", "(III)Z"⟩
abbrev cX7_endsCondition : ByteArray := prog_9_method_15_code
def yX7_endsCondition : MethodName := ⟨RX7, "endsCondition", "(I)Z"⟩
abbrev cX7_takesShown : ByteArray := prog_9_method_16_code
def yX7_takesShown : MethodName := ⟨RX7, "takesShown", "(I)Z"⟩
abbrev cX7_takesSort : ByteArray := prog_9_method_17_code
def yX7_takesSort : MethodName := ⟨RX7, "takesSort", "(I)Z"⟩
def RX8 : String := "KeptOrders$Table"
def TX8 : u_T := fun k => match k with
  | 0 => ("KeptOrders$Table", "numbers", "LKeptOrders$Numbers;", true)
  | 1 => ("KeptOrders$Table", "taken", "J", false)
  | _ => ("KeptOrders$Table", "wide", "I", false)
def tyX8 : Nat → FieldType := fun k => match k with
  | 0 => .object "KeptOrders$Numbers"
  | 1 => .long
  | _ => .int
theorem nmX8 : ∀ a, a < 3 → ∀ b, b < 3 → a ≠ b → (TX8 a).2.1 ≠ (TX8 b).2.1 := by decide +kernel
theorem tyX8_ok : ∀ k, k < 3 → parseFieldDescriptor (TX8 k).2.2.1 = some (tyX8 k) := by decide +kernel
abbrev cX8_init : ByteArray := prog_10_method_1_code
def yX8_init : MethodName := ⟨RX8, "<init>", "()V"⟩
abbrev cX8_holds : ByteArray := prog_10_method_2_code
def yX8_holds : MethodName := ⟨RX8, "holds", "(I)Z"⟩
abbrev cX8_hold : ByteArray := prog_10_method_3_code
def yX8_hold : MethodName := ⟨RX8, "hold", "(I)V"⟩
abbrev cX8_release : ByteArray := prog_10_method_4_code
def yX8_release : MethodName := ⟨RX8, "release", "(I)V"⟩
abbrev cX8_taken : ByteArray := prog_10_method_5_code
def yX8_taken : MethodName := ⟨RX8, "taken", "()J"⟩
abbrev cX8_rows : ByteArray := prog_10_method_6_code
def yX8_rows : MethodName := ⟨RX8, "rows", "()I"⟩
abbrev cX8_emptySlot : ByteArray := prog_10_method_7_code
def yX8_emptySlot : MethodName := ⟨RX8, "emptySlot", "()I"⟩
abbrev cX8_number : ByteArray := prog_10_method_8_code
def yX8_number : MethodName := ⟨RX8, "number", "(II)I"⟩
abbrev cX8_put : ByteArray := prog_10_method_9_code
def yX8_put : MethodName := ⟨RX8, "put", "(III)V"⟩
abbrev cX8_pageWidth : ByteArray := prog_10_method_10_code
def yX8_pageWidth : MethodName := ⟨RX8, "pageWidth", "()I"⟩
abbrev cX8_widen : ByteArray := prog_10_method_11_code
def yX8_widen : MethodName := ⟨RX8, "widen", "(I)V"⟩
abbrev cX8_fullPages : ByteArray := prog_10_method_12_code
def yX8_fullPages : MethodName := ⟨RX8, "fullPages", "()I"⟩
abbrev cX8_pagesOf : ByteArray := prog_10_method_13_code
def yX8_pagesOf : MethodName := ⟨RX8, "pagesOf", "(J)I"⟩
abbrev cX8_rowsWithin : ByteArray := prog_10_method_14_code
def yX8_rowsWithin : MethodName := ⟨RX8, "rowsWithin", "(III)J"⟩
abbrev cX8_takeRowsOf : ByteArray := prog_10_method_15_code
def yX8_takeRowsOf : MethodName := ⟨RX8, "takeRowsOf", "(LKeptOrders$Table;)V"⟩
def RX9 : String := "KeptOrders$Ways"
def TX9 : u_T := fun k => match k with
  | 0 => ("KeptOrders$Ways", "table", "LKeptOrders$Table;", true)
  | 1 => ("KeptOrders$Ways", "orders", "LKeptOrders$Orders;", true)
  | 2 => ("KeptOrders$Ways", "numbers", "LKeptOrders$Numbers;", true)
  | 3 => ("KeptOrders$Ways", "sets", "LKeptOrders$Numbers;", true)
  | 4 => ("KeptOrders$Ways", "costs", "LKeptOrders$Numbers;", true)
  | 5 => ("KeptOrders$Ways", "reaches", "LKeptOrders$Numbers;", true)
  | 6 => ("KeptOrders$Ways", "left", "[J", true)
  | _ => ("KeptOrders$Ways", "listed", "I", false)
def tyX9 : Nat → FieldType := fun k => match k with
  | 0 => .object "KeptOrders$Table"
  | 1 => .object "KeptOrders$Orders"
  | 2 => .object "KeptOrders$Numbers"
  | 3 => .object "KeptOrders$Numbers"
  | 4 => .object "KeptOrders$Numbers"
  | 5 => .object "KeptOrders$Numbers"
  | 6 => .array .long
  | _ => .int
theorem nmX9 : ∀ a, a < 8 → ∀ b, b < 8 → a ≠ b → (TX9 a).2.1 ≠ (TX9 b).2.1 := by decide +kernel
theorem tyX9_ok : ∀ k, k < 8 → parseFieldDescriptor (TX9 k).2.2.1 = some (tyX9 k) := by decide +kernel
abbrev cX9_init : ByteArray := prog_11_method_1_code
def yX9_init : MethodName := ⟨RX9, "<init>", "(LKeptOrders$Table;LKeptOrders$Orders;)V"⟩
abbrev cX9_list : ByteArray := prog_11_method_2_code
def yX9_list : MethodName := ⟨RX9, "list", "(LKeptOrders$Question;)V"⟩
abbrev cX9_listAlone : ByteArray := prog_11_method_3_code
def yX9_listAlone : MethodName := ⟨RX9, "listAlone", "(LKeptOrders$Question;II)V"⟩
abbrev cX9_listBoth : ByteArray := prog_11_method_4_code
def yX9_listBoth : MethodName := ⟨RX9, "listBoth", "(III)V"⟩
abbrev cX9_leftBy : ByteArray := prog_11_method_5_code
def yX9_leftBy : MethodName := ⟨RX9, "leftBy", "(I)J"⟩
abbrev cX9_add : ByteArray := prog_11_method_6_code
def yX9_add : MethodName := ⟨RX9, "add", "(III)V"⟩
abbrev cX9_placeOf : ByteArray := prog_11_method_7_code
def yX9_placeOf : MethodName := ⟨RX9, "placeOf", "(I)I"⟩
abbrev cX9_numberAt : ByteArray := prog_11_method_8_code
def yX9_numberAt : MethodName := ⟨RX9, "numberAt", "(I)I"⟩
abbrev cX9_costAt : ByteArray := prog_11_method_9_code
def yX9_costAt : MethodName := ⟨RX9, "costAt", "(I)I"⟩
abbrev cX9_bestPlace : ByteArray := prog_11_method_10_code
def yX9_bestPlace : MethodName := ⟨RX9, "bestPlace", "(I)I"⟩
abbrev cX9_fewestOfAll : ByteArray := prog_11_method_11_code
def yX9_fewestOfAll : MethodName := ⟨RX9, "fewestOfAll", "(LKeptOrders$Numbers;)V"⟩
def RX10 : String := "KeptOrders$Workload"
def TX10 : u_T := fun k => match k with
  | 0 => ("KeptOrders$Workload", "orders", "LKeptOrders$Orders;", true)
  | 1 => ("KeptOrders$Workload", "ways", "LKeptOrders$Ways;", true)
  | 2 => ("KeptOrders$Workload", "questions", "[LKeptOrders$Question;", true)
  | 3 => ("KeptOrders$Workload", "works", "LKeptOrders$Numbers;", true)
  | 4 => ("KeptOrders$Workload", "fewest", "LKeptOrders$Numbers;", true)
  | 5 => ("KeptOrders$Workload", "stepped", "LKeptOrders$Numbers;", true)
  | 6 => ("KeptOrders$Workload", "asked", "I", false)
  | 7 => ("KeptOrders$Workload", "steppedCount", "I", false)
  | _ => ("KeptOrders$Workload", "upkeepNow", "I", false)
def tyX10 : Nat → FieldType := fun k => match k with
  | 0 => .object "KeptOrders$Orders"
  | 1 => .object "KeptOrders$Ways"
  | 2 => .array (.object "KeptOrders$Question")
  | 3 => .object "KeptOrders$Numbers"
  | 4 => .object "KeptOrders$Numbers"
  | 5 => .object "KeptOrders$Numbers"
  | 6 => .int
  | 7 => .int
  | _ => .int
theorem nmX10 : ∀ a, a < 9 → ∀ b, b < 9 → a ≠ b → (TX10 a).2.1 ≠ (TX10 b).2.1 := by decide +kernel
theorem tyX10_ok : ∀ k, k < 9 → parseFieldDescriptor (TX10 k).2.2.1 = some (tyX10 k) := by decide +kernel
abbrev cX10_init : ByteArray := prog_12_method_1_code
def yX10_init : MethodName := ⟨RX10, "<init>", "(LKeptOrders$Orders;LKeptOrders$Ways;)V"⟩
abbrev cX10_asked : ByteArray := prog_12_method_2_code
def yX10_asked : MethodName := ⟨RX10, "asked", "()I"⟩
abbrev cX10_question : ByteArray := prog_12_method_3_code
def yX10_question : MethodName := ⟨RX10, "question", "(I)LKeptOrders$Question;"⟩
abbrev cX10_add : ByteArray := prog_12_method_4_code
def yX10_add : MethodName := ⟨RX10, "add", "(LKeptOrders$Question;)I"⟩
abbrev cX10_upkeepNow : ByteArray := prog_12_method_5_code
def yX10_upkeepNow : MethodName := ⟨RX10, "upkeepNow", "()I"⟩
abbrev cX10_setUpkeep : ByteArray := prog_12_method_6_code
def yX10_setUpkeep : MethodName := ⟨RX10, "setUpkeep", "(I)V"⟩
abbrev cX10_workOf : ByteArray := prog_12_method_7_code
def yX10_workOf : MethodName := ⟨RX10, "workOf", "(I)I"⟩
abbrev cX10_bestSet : ByteArray := prog_12_method_8_code
def yX10_bestSet : MethodName := ⟨RX10, "bestSet", "(I)I"⟩
abbrev cX10_stepByStep : ByteArray := prog_12_method_9_code
def yX10_stepByStep : MethodName := ⟨RX10, "stepByStep", "(I)I"⟩
abbrev cX10_stepAt : ByteArray := prog_12_method_10_code
def yX10_stepAt : MethodName := ⟨RX10, "stepAt", "(I)I"⟩
abbrev cX10_workedOut : ByteArray := prog_12_method_11_code
def yX10_workedOut : MethodName := ⟨RX10, "workedOut", "(I)I"⟩
abbrev cX10_workOutAll : ByteArray := prog_12_method_12_code
def yX10_workOutAll : MethodName := ⟨RX10, "workOutAll", "()V"⟩
abbrev cX10_isBetter : ByteArray := prog_12_method_13_code
def yX10_isBetter : MethodName := ⟨RX10, "isBetter", "(II)Z"⟩
abbrev cX10_nextStep : ByteArray := prog_12_method_14_code
def yX10_nextStep : MethodName := ⟨RX10, "nextStep", "(II)I"⟩
def RX11 : String := "KeptOrders"
def TX11 : u_T := fun k => match k with
  | 0 => ("KeptOrders", "table", "LKeptOrders$Table;", true)
  | 1 => ("KeptOrders", "orders", "LKeptOrders$Orders;", true)
  | 2 => ("KeptOrders", "ways", "LKeptOrders$Ways;", true)
  | 3 => ("KeptOrders", "workload", "LKeptOrders$Workload;", true)
  | 4 => ("KeptOrders", "pictures", "LKeptOrders$Pictures;", true)
  | 5 => ("KeptOrders", "sheet", "LKeptOrders$Sheet;", true)
  | 6 => ("KeptOrders", "marks", "LKeptOrders$Marks;", true)
  | 7 => ("KeptOrders", "choices", "I", false)
  | _ => ("KeptOrders", "stepwise", "I", false)
def tyX11 : Nat → FieldType := fun k => match k with
  | 0 => .object "KeptOrders$Table"
  | 1 => .object "KeptOrders$Orders"
  | 2 => .object "KeptOrders$Ways"
  | 3 => .object "KeptOrders$Workload"
  | 4 => .object "KeptOrders$Pictures"
  | 5 => .object "KeptOrders$Sheet"
  | 6 => .object "KeptOrders$Marks"
  | 7 => .int
  | _ => .int
theorem nmX11 : ∀ a, a < 9 → ∀ b, b < 9 → a ≠ b → (TX11 a).2.1 ≠ (TX11 b).2.1 := by decide +kernel
theorem tyX11_ok : ∀ k, k < 9 → parseFieldDescriptor (TX11 k).2.2.1 = some (tyX11 k) := by decide +kernel
abbrev cX11_init : ByteArray := prog_1_method_1_code
def yX11_init : MethodName := ⟨RX11, "<init>", "()V"⟩
abbrev cX11_row : ByteArray := prog_1_method_2_code
def yX11_row : MethodName := ⟨RX11, "row", "(IIII)I"⟩
abbrev cX11_set : ByteArray := prog_1_method_3_code
def yX11_set : MethodName := ⟨RX11, "set", "(III)I"⟩
abbrev cX11_drop : ByteArray := prog_1_method_4_code
def yX11_drop : MethodName := ⟨RX11, "drop", "(I)I"⟩
abbrev cX11_fill : ByteArray := prog_1_method_5_code
def yX11_fill : MethodName := ⟨RX11, "fill", "(III)I"⟩
abbrev cX11_get : ByteArray := prog_1_method_6_code
def yX11_get : MethodName := ⟨RX11, "get", "(II)I"⟩
abbrev cX11_wide : ByteArray := prog_1_method_7_code
def yX11_wide : MethodName := ⟨RX11, "wide", "(I)I"⟩
abbrev cX11_order : ByteArray := prog_1_method_8_code
def yX11_order : MethodName := ⟨RX11, "order", "(I)I"⟩
abbrev cX11_lose : ByteArray := prog_1_method_9_code
def yX11_lose : MethodName := ⟨RX11, "lose", "(I)I"⟩
abbrev cX11_pack : ByteArray := prog_1_method_10_code
def yX11_pack : MethodName := ⟨RX11, "pack", "(I)I"⟩
abbrev cX11_about : ByteArray := prog_1_method_11_code
def yX11_about : MethodName := ⟨RX11, "about", "(II)I"⟩
abbrev cX11_entry : ByteArray := prog_1_method_12_code
def yX11_entry : MethodName := ⟨RX11, "entry", "(II)I"⟩
abbrev cX11_leaf : ByteArray := prog_1_method_13_code
def yX11_leaf : MethodName := ⟨RX11, "leaf", "(II)I"⟩
abbrev cX11_letters : ByteArray := prog_1_method_14_code
def yX11_letters : MethodName := ⟨RX11, "letters", "(J)I"⟩
abbrev cX11_blank : ByteArray := prog_1_method_15_code
def yX11_blank : MethodName := ⟨RX11, "blank", "()I"⟩
abbrev cX11_good : ByteArray := prog_1_method_16_code
def yX11_good : MethodName := ⟨RX11, "good", "()I"⟩
abbrev cX11_ask : ByteArray := prog_1_method_17_code
def yX11_ask : MethodName := ⟨RX11, "ask", "()I"⟩
abbrev cX11_bound : ByteArray := prog_1_method_18_code
def yX11_bound : MethodName := ⟨RX11, "bound", "(III)I"⟩
abbrev cX11_weight : ByteArray := prog_1_method_19_code
def yX11_weight : MethodName := ⟨RX11, "weight", "(II)I"⟩
abbrev cX11_answers : ByteArray := prog_1_method_20_code
def yX11_answers : MethodName := ⟨RX11, "answers", "(I)I"⟩
abbrev cX11_answer : ByteArray := prog_1_method_21_code
def yX11_answer : MethodName := ⟨RX11, "answer", "(II)I"⟩
abbrev cX11_looks : ByteArray := prog_1_method_22_code
def yX11_looks : MethodName := ⟨RX11, "looks", "(II)I"⟩
abbrev cX11_run : ByteArray := prog_1_method_23_code
def yX11_run : MethodName := ⟨RX11, "run", "(II)I"⟩
abbrev cX11_best : ByteArray := prog_1_method_24_code
def yX11_best : MethodName := ⟨RX11, "best", "(II)I"⟩
abbrev cX11_work : ByteArray := prog_1_method_25_code
def yX11_work : MethodName := ⟨RX11, "work", "(I)I"⟩
abbrev cX11_upkeep : ByteArray := prog_1_method_26_code
def yX11_upkeep : MethodName := ⟨RX11, "upkeep", "(I)I"⟩
abbrev cX11_choose : ByteArray := prog_1_method_27_code
def yX11_choose : MethodName := ⟨RX11, "choose", "(II)I"⟩
abbrev cX11_steps : ByteArray := prog_1_method_28_code
def yX11_steps : MethodName := ⟨RX11, "steps", "(II)I"⟩
abbrev cX11_worth : ByteArray := prog_1_method_29_code
def yX11_worth : MethodName := ⟨RX11, "worth", "(II)I"⟩
abbrev cX11_picture : ByteArray := prog_1_method_30_code
def yX11_picture : MethodName := ⟨RX11, "picture", "(I)I"⟩
abbrev cX11_part : ByteArray := prog_1_method_31_code
def yX11_part : MethodName := ⟨RX11, "part", "(III)I"⟩
abbrev cX11_foretold : ByteArray := prog_1_method_32_code
def yX11_foretold : MethodName := ⟨RX11, "foretold", "(IIII)I"⟩
abbrev cX11_likely : ByteArray := prog_1_method_33_code
def yX11_likely : MethodName := ⟨RX11, "likely", "(I)I"⟩
abbrev cX11_guess : ByteArray := prog_1_method_34_code
def yX11_guess : MethodName := ⟨RX11, "guess", "(II)I"⟩
abbrev cX11_chosen : ByteArray := prog_1_method_35_code
def yX11_chosen : MethodName := ⟨RX11, "chosen", "(I)I"⟩
abbrev cX11_regret : ByteArray := prog_1_method_36_code
def yX11_regret : MethodName := ⟨RX11, "regret", "(I)I"⟩
abbrev cX11_mark : ByteArray := prog_1_method_37_code
def yX11_mark : MethodName := ⟨RX11, "mark", "()I"⟩
abbrev cX11_back : ByteArray := prog_1_method_38_code
def yX11_back : MethodName := ⟨RX11, "back", "(I)I"⟩
abbrev cX11_count : ByteArray := prog_1_method_39_code
def yX11_count : MethodName := ⟨RX11, "count", "(I)I"⟩
abbrev cX11_digest : ByteArray := prog_1_method_40_code
def yX11_digest : MethodName := ⟨RX11, "digest", "()J"⟩
abbrev cX11_mixTable : ByteArray := prog_1_method_41_code
def yX11_mixTable : MethodName := ⟨RX11, "mixTable", "(J)J"⟩
abbrev cX11_mixOrder : ByteArray := prog_1_method_42_code
def yX11_mixOrder : MethodName := ⟨RX11, "mixOrder", "(JI)J"⟩
abbrev cX11_mixQuestion : ByteArray := prog_1_method_43_code
def yX11_mixQuestion : MethodName := ⟨RX11, "mixQuestion", "(JI)J"⟩
abbrev cX11_mixPictures : ByteArray := prog_1_method_44_code
def yX11_mixPictures : MethodName := ⟨RX11, "mixPictures", "(J)J"⟩
abbrev cX11_mixed : ByteArray := prog_1_method_45_code
def yX11_mixed : MethodName := ⟨RX11, "mixed", "(JJ)J"⟩
abbrev cX11_rowComes : ByteArray := prog_1_method_46_code
def yX11_rowComes : MethodName := ⟨RX11, "rowComes", "(I)V"⟩
abbrev cX11_lettersIn : ByteArray := prog_1_method_47_code
def yX11_lettersIn : MethodName := ⟨RX11, "lettersIn", "(J)I"⟩
abbrev cX11_byteOf : ByteArray := prog_1_method_48_code
def yX11_byteOf : MethodName := ⟨RX11, "byteOf", "(JI)I"⟩
abbrev cX11_isSlot : ByteArray := prog_1_method_49_code
def yX11_isSlot : MethodName := ⟨RX11, "isSlot", "(I)Z"⟩
abbrev cX11_isColumn : ByteArray := prog_1_method_50_code
def yX11_isColumn : MethodName := ⟨RX11, "isColumn", "(I)Z"⟩
abbrev cX11_isNumber : ByteArray := prog_1_method_51_code
def yX11_isNumber : MethodName := ⟨RX11, "isNumber", "(I)Z"⟩
abbrev cX11_isSet : ByteArray := prog_1_method_52_code
def yX11_isSet : MethodName := ⟨RX11, "isSet", "(I)Z"⟩
abbrev cX11_isSpace : ByteArray := prog_1_method_53_code
def yX11_isSpace : MethodName := ⟨RX11, "isSpace", "(I)Z"⟩
abbrev cX11_has : ByteArray := prog_1_method_54_code
def yX11_has : MethodName := ⟨RX11, "has", "(II)Z"⟩
abbrev cX11_with : ByteArray := prog_1_method_55_code
def yX11_with : MethodName := ⟨RX11, "with", "(II)I"⟩
abbrev cX11_without : ByteArray := prog_1_method_56_code
def yX11_without : MethodName := ⟨RX11, "without", "(II)I"⟩
abbrev cX11_hasSlot : ByteArray := prog_1_method_57_code
def yX11_hasSlot : MethodName := ⟨RX11, "hasSlot", "(JI)Z"⟩
abbrev cX11_quotient : ByteArray := prog_1_method_58_code
def yX11_quotient : MethodName := ⟨RX11, "quotient", "(II)I"⟩
abbrev cX11_roundedUp : ByteArray := prog_1_method_59_code
def yX11_roundedUp : MethodName := ⟨RX11, "roundedUp", "(II)I"⟩
abbrev cX11_rest : ByteArray := prog_1_method_60_code
def yX11_rest : MethodName := ⟨RX11, "rest", "(II)I"⟩
def RX12 : String := "KeptOrdersModel"
def TX12 : u_T := fun k => match k with
  | 0 => ("KeptOrdersModel", "has", "[Z", true)
  | 1 => ("KeptOrdersModel", "cells", "[I", true)
  | 2 => ("KeptOrdersModel", "rowMany", "I", false)
  | 3 => ("KeptOrdersModel", "wideNow", "I", false)
  | 4 => ("KeptOrdersModel", "orders", "I", false)
  | 5 => ("KeptOrdersModel", "keys", "[I", true)
  | 6 => ("KeptOrdersModel", "isLost", "[Z", true)
  | 7 => ("KeptOrdersModel", "cuts", "[I", true)
  | 8 => ("KeptOrdersModel", "entries", "[I", true)
  | 9 => ("KeptOrdersModel", "entryMany", "[I", true)
  | 10 => ("KeptOrdersModel", "leafOf", "[I", true)
  | 11 => ("KeptOrdersModel", "leafMany", "[I", true)
  | 12 => ("KeptOrdersModel", "pageLength", "I", false)
  | 13 => ("KeptOrdersModel", "page", "[B", true)
  | 14 => ("KeptOrdersModel", "questions", "I", false)
  | 15 => ("KeptOrdersModel", "bounds", "[I", true)
  | 16 => ("KeptOrdersModel", "shownOf", "[I", true)
  | 17 => ("KeptOrdersModel", "sortOf", "[I", true)
  | 18 => ("KeptOrdersModel", "weights", "[I", true)
  | 19 => ("KeptOrdersModel", "upkeepNow", "I", false)
  | 20 => ("KeptOrdersModel", "chosenDone", "I", false)
  | 21 => ("KeptOrdersModel", "stepsDone", "I", false)
  | 22 => ("KeptOrdersModel", "hasPicture", "[Z", true)
  | 23 => ("KeptOrdersModel", "parts", "[I", true)
  | 24 => ("KeptOrdersModel", "pictureRows", "I", false)
  | 25 => ("KeptOrdersModel", "marks", "I", false)
  | 26 => ("KeptOrdersModel", "markHas", "[Z", true)
  | 27 => ("KeptOrdersModel", "markCells", "[I", true)
  | 28 => ("KeptOrdersModel", "lot", "I", false)
  | 29 => ("KeptOrdersModel", "goodMany", "I", false)
  | 30 => ("KeptOrdersModel", "isWhole", "Z", false)
  | 31 => ("KeptOrdersModel", "readBounds", "[I", true)
  | 32 => ("KeptOrdersModel", "readShown", "I", false)
  | 33 => ("KeptOrdersModel", "readSort", "I", false)
  | 34 => ("KeptOrdersModel", "table", "[I", true)
  | 35 => ("KeptOrdersModel", "bestLooks", "I", false)
  | 36 => ("KeptOrdersModel", "bestWay", "I", false)
  | 37 => ("KeptOrdersModel", "cameOf", "[I", true)
  | 38 => ("KeptOrdersModel", "sorted", "[I", true)
  | _ => ("KeptOrdersModel", "h", "J", false)
def tyX12 : Nat → FieldType := fun k => match k with
  | 0 => .array .boolean
  | 1 => .array .int
  | 2 => .int
  | 3 => .int
  | 4 => .int
  | 5 => .array .int
  | 6 => .array .boolean
  | 7 => .array .int
  | 8 => .array .int
  | 9 => .array .int
  | 10 => .array .int
  | 11 => .array .int
  | 12 => .int
  | 13 => .array .byte
  | 14 => .int
  | 15 => .array .int
  | 16 => .array .int
  | 17 => .array .int
  | 18 => .array .int
  | 19 => .int
  | 20 => .int
  | 21 => .int
  | 22 => .array .boolean
  | 23 => .array .int
  | 24 => .int
  | 25 => .int
  | 26 => .array .boolean
  | 27 => .array .int
  | 28 => .int
  | 29 => .int
  | 30 => .boolean
  | 31 => .array .int
  | 32 => .int
  | 33 => .int
  | 34 => .array .int
  | 35 => .int
  | 36 => .int
  | 37 => .array .int
  | 38 => .array .int
  | _ => .long
theorem nmX12 : ∀ a, a < 40 → ∀ b, b < 40 → a ≠ b → (TX12 a).2.1 ≠ (TX12 b).2.1 := by decide +kernel
theorem tyX12_ok : ∀ k, k < 40 → parseFieldDescriptor (TX12 k).2.2.1 = some (tyX12 k) := by decide +kernel
abbrev cX12_init : ByteArray := prog_14_method_1_code
def yX12_init : MethodName := ⟨RX12, "<init>", "()V"⟩
abbrev cX12_in : ByteArray := prog_14_method_3_code
def yX12_in : MethodName := ⟨RX12, "in", "(III)Z"⟩
abbrev cX12_isNumber : ByteArray := prog_14_method_4_code
def yX12_isNumber : MethodName := ⟨RX12, "isNumber", "(I)Z"⟩
abbrev cX12_isSlot : ByteArray := prog_14_method_5_code
def yX12_isSlot : MethodName := ⟨RX12, "isSlot", "(I)Z"⟩
abbrev cX12_keySize : ByteArray := prog_14_method_6_code
def yX12_keySize : MethodName := ⟨RX12, "keySize", "(I)I"⟩
abbrev cX12_keyAt : ByteArray := prog_14_method_7_code
def yX12_keyAt : MethodName := ⟨RX12, "keyAt", "(II)I"⟩
abbrev cX12_isInKey : ByteArray := prog_14_method_8_code
def yX12_isInKey : MethodName := ⟨RX12, "isInKey", "(II)Z"⟩
abbrev cX12_isKey : ByteArray := prog_14_method_9_code
def yX12_isKey : MethodName := ⟨RX12, "isKey", "(I)Z"⟩
abbrev cX12_roomOf : ByteArray := prog_14_method_10_code
def yX12_roomOf : MethodName := ⟨RX12, "roomOf", "(I)I"⟩
abbrev cX12_isAhead : ByteArray := prog_14_method_11_code
def yX12_isAhead : MethodName := ⟨RX12, "isAhead", "(III)Z"⟩
abbrev cX12_isOrder : ByteArray := prog_14_method_12_code
def yX12_isOrder : MethodName := ⟨RX12, "isOrder", "(I)Z"⟩
abbrev cX12_packOne : ByteArray := prog_14_method_13_code
def yX12_packOne : MethodName := ⟨RX12, "packOne", "(I)V"⟩
abbrev cX12_comeInto : ByteArray := prog_14_method_14_code
def yX12_comeInto : MethodName := ⟨RX12, "comeInto", "(II)V"⟩
abbrev cX12_cut : ByteArray := prog_14_method_15_code
def yX12_cut : MethodName := ⟨RX12, "cut", "(II)V"⟩
abbrev cX12_goFrom : ByteArray := prog_14_method_16_code
def yX12_goFrom : MethodName := ⟨RX12, "goFrom", "(II)V"⟩
abbrev cX12_comeIntoAll : ByteArray := prog_14_method_17_code
def yX12_comeIntoAll : MethodName := ⟨RX12, "comeIntoAll", "(I)V"⟩
abbrev cX12_heightOf : ByteArray := prog_14_method_18_code
def yX12_heightOf : MethodName := ⟨RX12, "heightOf", "(I)I"⟩
abbrev cX12_sizeOf : ByteArray := prog_14_method_19_code
def yX12_sizeOf : MethodName := ⟨RX12, "sizeOf", "(I)I"⟩
abbrev cX12_order : ByteArray := prog_14_method_20_code
def yX12_order : MethodName := ⟨RX12, "order", "(I)I"⟩
abbrev cX12_lose : ByteArray := prog_14_method_21_code
def yX12_lose : MethodName := ⟨RX12, "lose", "(I)I"⟩
abbrev cX12_pack : ByteArray := prog_14_method_22_code
def yX12_pack : MethodName := ⟨RX12, "pack", "(I)I"⟩
abbrev cX12_aboutOf : ByteArray := prog_14_method_23_code
def yX12_aboutOf : MethodName := ⟨RX12, "aboutOf", "(II)I"⟩
abbrev cX12_about : ByteArray := prog_14_method_24_code
def yX12_about : MethodName := ⟨RX12, "about", "(II)I"⟩
abbrev cX12_entry : ByteArray := prog_14_method_25_code
def yX12_entry : MethodName := ⟨RX12, "entry", "(II)I"⟩
abbrev cX12_leaf : ByteArray := prog_14_method_26_code
def yX12_leaf : MethodName := ⟨RX12, "leaf", "(II)I"⟩
abbrev cX12_lay : ByteArray := prog_14_method_27_code
def yX12_lay : MethodName := ⟨RX12, "lay", "(IIIII)V"⟩
abbrev cX12_emptySlot : ByteArray := prog_14_method_28_code
def yX12_emptySlot : MethodName := ⟨RX12, "emptySlot", "()I"⟩
abbrev cX12_row : ByteArray := prog_14_method_29_code
def yX12_row : MethodName := ⟨RX12, "row", "(IIII)I"⟩
abbrev cX12_set : ByteArray := prog_14_method_30_code
def yX12_set : MethodName := ⟨RX12, "set", "(III)I"⟩
abbrev cX12_drop : ByteArray := prog_14_method_31_code
def yX12_drop : MethodName := ⟨RX12, "drop", "(I)I"⟩
abbrev cX12_nextNumber : ByteArray := prog_14_method_32_code
def yX12_nextNumber : MethodName := ⟨RX12, "nextNumber", "(I)I"⟩
abbrev cX12_fill : ByteArray := prog_14_method_33_code
def yX12_fill : MethodName := ⟨RX12, "fill", "(III)I"⟩
abbrev cX12_get : ByteArray := prog_14_method_34_code
def yX12_get : MethodName := ⟨RX12, "get", "(II)I"⟩
abbrev cX12_wide : ByteArray := prog_14_method_35_code
def yX12_wide : MethodName := ⟨RX12, "wide", "(I)I"⟩
abbrev cX12_fullPages : ByteArray := prog_14_method_36_code
def yX12_fullPages : MethodName := ⟨RX12, "fullPages", "()I"⟩
abbrev cX12_letters : ByteArray := prog_14_method_37_code
def yX12_letters : MethodName := ⟨RX12, "letters", "(J)I"⟩
abbrev cX12_blank : ByteArray := prog_14_method_38_code
def yX12_blank : MethodName := ⟨RX12, "blank", "()I"⟩
abbrev cX12_narrow : ByteArray := prog_14_method_39_code
def yX12_narrow : MethodName := ⟨RX12, "narrow", "(III)V"⟩
abbrev cX12_readQuestion : ByteArray := prog_14_method_40_code
def yX12_readQuestion : MethodName := ⟨RX12, "readQuestion", "()V"⟩
abbrev cX12_good : ByteArray := prog_14_method_41_code
def yX12_good : MethodName := ⟨RX12, "good", "()I"⟩
abbrev cX12_ask : ByteArray := prog_14_method_42_code
def yX12_ask : MethodName := ⟨RX12, "ask", "()I"⟩
abbrev cX12_isQuestion : ByteArray := prog_14_method_43_code
def yX12_isQuestion : MethodName := ⟨RX12, "isQuestion", "(I)Z"⟩
abbrev cX12_leastOf : ByteArray := prog_14_method_44_code
def yX12_leastOf : MethodName := ⟨RX12, "leastOf", "(II)I"⟩
abbrev cX12_mostOf : ByteArray := prog_14_method_45_code
def yX12_mostOf : MethodName := ⟨RX12, "mostOf", "(II)I"⟩
abbrev cX12_isFixed : ByteArray := prog_14_method_46_code
def yX12_isFixed : MethodName := ⟨RX12, "isFixed", "(II)Z"⟩
abbrev cX12_isBound : ByteArray := prog_14_method_47_code
def yX12_isBound : MethodName := ⟨RX12, "isBound", "(II)Z"⟩
abbrev cX12_isWithin : ByteArray := prog_14_method_48_code
def yX12_isWithin : MethodName := ⟨RX12, "isWithin", "(III)Z"⟩
abbrev cX12_bound : ByteArray := prog_14_method_49_code
def yX12_bound : MethodName := ⟨RX12, "bound", "(III)I"⟩
abbrev cX12_weight : ByteArray := prog_14_method_50_code
def yX12_weight : MethodName := ⟨RX12, "weight", "(II)I"⟩
abbrev cX12_isAnswer : ByteArray := prog_14_method_51_code
def yX12_isAnswer : MethodName := ⟨RX12, "isAnswer", "(II)Z"⟩
abbrev cX12_answersOf : ByteArray := prog_14_method_52_code
def yX12_answersOf : MethodName := ⟨RX12, "answersOf", "(I)I"⟩
abbrev cX12_answers : ByteArray := prog_14_method_53_code
def yX12_answers : MethodName := ⟨RX12, "answers", "(I)I"⟩
abbrev cX12_answer : ByteArray := prog_14_method_54_code
def yX12_answer : MethodName := ⟨RX12, "answer", "(II)I"⟩
abbrev cX12_runColumns : ByteArray := prog_14_method_55_code
def yX12_runColumns : MethodName := ⟨RX12, "runColumns", "(II)I"⟩
abbrev cX12_isInRun : ByteArray := prog_14_method_56_code
def yX12_isInRun : MethodName := ⟨RX12, "isInRun", "(IIII)Z"⟩
abbrev cX12_runOf : ByteArray := prog_14_method_57_code
def yX12_runOf : MethodName := ⟨RX12, "runOf", "(II)I"⟩
abbrev cX12_run : ByteArray := prog_14_method_58_code
def yX12_run : MethodName := ⟨RX12, "run", "(II)I"⟩
abbrev cX12_wayDown : ByteArray := prog_14_method_59_code
def yX12_wayDown : MethodName := ⟨RX12, "wayDown", "(II)I"⟩
abbrev cX12_isCovered : ByteArray := prog_14_method_60_code
def yX12_isCovered : MethodName := ⟨RX12, "isCovered", "(II)Z"⟩
abbrev cX12_leaves : ByteArray := prog_14_method_61_code
def yX12_leaves : MethodName := ⟨RX12, "leaves", "(III)Z"⟩
abbrev cX12_pagesLeft : ByteArray := prog_14_method_62_code
def yX12_pagesLeft : MethodName := ⟨RX12, "pagesLeft", "(III)I"⟩
abbrev cX12_isSorted : ByteArray := prog_14_method_63_code
def yX12_isSorted : MethodName := ⟨RX12, "isSorted", "(I)Z"⟩
abbrev cX12_isSortedBy : ByteArray := prog_14_method_64_code
def yX12_isSortedBy : MethodName := ⟨RX12, "isSortedBy", "(II)Z"⟩
abbrev cX12_looksByTable : ByteArray := prog_14_method_65_code
def yX12_looksByTable : MethodName := ⟨RX12, "looksByTable", "(I)I"⟩
abbrev cX12_looksBy : ByteArray := prog_14_method_66_code
def yX12_looksBy : MethodName := ⟨RX12, "looksBy", "(II)I"⟩
abbrev cX12_looksByBoth : ByteArray := prog_14_method_67_code
def yX12_looksByBoth : MethodName := ⟨RX12, "looksByBoth", "(III)I"⟩
abbrev cX12_looksOf : ByteArray := prog_14_method_68_code
def yX12_looksOf : MethodName := ⟨RX12, "looksOf", "(II)I"⟩
abbrev cX12_looks : ByteArray := prog_14_method_69_code
def yX12_looks : MethodName := ⟨RX12, "looks", "(II)I"⟩
abbrev cX12_lookAll : ByteArray := prog_14_method_70_code
def yX12_lookAll : MethodName := ⟨RX12, "lookAll", "(I)V"⟩
abbrev cX12_better : ByteArray := prog_14_method_71_code
def yX12_better : MethodName := ⟨RX12, "better", "(II)V"⟩
abbrev cX12_seekBest : ByteArray := prog_14_method_72_code
def yX12_seekBest : MethodName := ⟨RX12, "seekBest", "(II)V"⟩
abbrev cX12_best : ByteArray := prog_14_method_73_code
def yX12_best : MethodName := ⟨RX12, "best", "(II)I"⟩
abbrev cX12_lookAtAll : ByteArray := prog_14_method_74_code
def yX12_lookAtAll : MethodName := ⟨RX12, "lookAtAll", "()V"⟩
abbrev cX12_workOf : ByteArray := prog_14_method_75_code
def yX12_workOf : MethodName := ⟨RX12, "workOf", "(I)I"⟩
abbrev cX12_work : ByteArray := prog_14_method_76_code
def yX12_work : MethodName := ⟨RX12, "work", "(I)I"⟩
abbrev cX12_upkeep : ByteArray := prog_14_method_77_code
def yX12_upkeep : MethodName := ⟨RX12, "upkeep", "(I)I"⟩
abbrev cX12_spaceOf : ByteArray := prog_14_method_78_code
def yX12_spaceOf : MethodName := ⟨RX12, "spaceOf", "(I)I"⟩
abbrev cX12_isKept : ByteArray := prog_14_method_79_code
def yX12_isKept : MethodName := ⟨RX12, "isKept", "(I)Z"⟩
abbrev cX12_choose : ByteArray := prog_14_method_80_code
def yX12_choose : MethodName := ⟨RX12, "choose", "(II)I"⟩
abbrev cX12_steps : ByteArray := prog_14_method_81_code
def yX12_steps : MethodName := ⟨RX12, "steps", "(II)I"⟩
abbrev cX12_worth : ByteArray := prog_14_method_82_code
def yX12_worth : MethodName := ⟨RX12, "worth", "(II)I"⟩
abbrev cX12_picture : ByteArray := prog_14_method_83_code
def yX12_picture : MethodName := ⟨RX12, "picture", "(I)I"⟩
abbrev cX12_partOf : ByteArray := prog_14_method_84_code
def yX12_partOf : MethodName := ⟨RX12, "partOf", "(III)I"⟩
abbrev cX12_part : ByteArray := prog_14_method_85_code
def yX12_part : MethodName := ⟨RX12, "part", "(III)I"⟩
abbrev cX12_foretoldOf : ByteArray := prog_14_method_86_code
def yX12_foretoldOf : MethodName := ⟨RX12, "foretoldOf", "(IIII)I"⟩
abbrev cX12_foretold : ByteArray := prog_14_method_87_code
def yX12_foretold : MethodName := ⟨RX12, "foretold", "(IIII)I"⟩
abbrev cX12_likelyBy : ByteArray := prog_14_method_88_code
def yX12_likelyBy : MethodName := ⟨RX12, "likelyBy", "(II)I"⟩
abbrev cX12_likely : ByteArray := prog_14_method_89_code
def yX12_likely : MethodName := ⟨RX12, "likely", "(I)I"⟩
abbrev cX12_guessBy : ByteArray := prog_14_method_90_code
def yX12_guessBy : MethodName := ⟨RX12, "guessBy", "(II)I"⟩
abbrev cX12_guessOf : ByteArray := prog_14_method_91_code
def yX12_guessOf : MethodName := ⟨RX12, "guessOf", "(II)I"⟩
abbrev cX12_guess : ByteArray := prog_14_method_92_code
def yX12_guess : MethodName := ⟨RX12, "guess", "(II)I"⟩
abbrev cX12_chosenOf : ByteArray := prog_14_method_93_code
def yX12_chosenOf : MethodName := ⟨RX12, "chosenOf", "(I)I"⟩
abbrev cX12_chosen : ByteArray := prog_14_method_94_code
def yX12_chosen : MethodName := ⟨RX12, "chosen", "(I)I"⟩
abbrev cX12_regret : ByteArray := prog_14_method_95_code
def yX12_regret : MethodName := ⟨RX12, "regret", "(I)I"⟩
abbrev cX12_mark : ByteArray := prog_14_method_96_code
def yX12_mark : MethodName := ⟨RX12, "mark", "()I"⟩
abbrev cX12_back : ByteArray := prog_14_method_97_code
def yX12_back : MethodName := ⟨RX12, "back", "(I)I"⟩
abbrev cX12_kept : ByteArray := prog_14_method_98_code
def yX12_kept : MethodName := ⟨RX12, "kept", "()I"⟩
abbrev cX12_countOf : ByteArray := prog_14_method_99_code
def yX12_countOf : MethodName := ⟨RX12, "countOf", "(I)I"⟩
abbrev cX12_count : ByteArray := prog_14_method_100_code
def yX12_count : MethodName := ⟨RX12, "count", "(I)I"⟩
abbrev cX12_mix : ByteArray := prog_14_method_101_code
def yX12_mix : MethodName := ⟨RX12, "mix", "(J)V"⟩
abbrev cX12_mixTable : ByteArray := prog_14_method_102_code
def yX12_mixTable : MethodName := ⟨RX12, "mixTable", "()V"⟩
abbrev cX12_digest : ByteArray := prog_14_method_103_code
def yX12_digest : MethodName := ⟨RX12, "digest", "()J"⟩
def RJ6 : String := "java/lang/Integer"
def TJ6 : u_T := fun k => match k with
  | _ => ("", "", "", false)
def tyJ6 : Nat → FieldType := fun k => match k with
  | _ => .int
theorem nmJ6 : ∀ a, a < 0 → ∀ b, b < 0 → a ≠ b → (TJ6 a).2.1 ≠ (TJ6 b).2.1 := by decide +kernel
theorem tyJ6_ok : ∀ k, k < 0 → parseFieldDescriptor (TJ6 k).2.2.1 = some (tyJ6 k) := by decide +kernel
abbrev cJ6_bitCount_0f7a4 : ByteArray := prog_15_method_49_code
def yJ6_bitCount_0f7a4 : MethodName := ⟨RJ6, "bitCount", "(I)I"⟩
def RJ13 : String := "java/lang/Long"
def TJ13 : u_T := fun k => match k with
  | _ => ("", "", "", false)
def tyJ13 : Nat → FieldType := fun k => match k with
  | _ => .int
theorem nmJ13 : ∀ a, a < 0 → ∀ b, b < 0 → a ≠ b → (TJ13 a).2.1 ≠ (TJ13 b).2.1 := by decide +kernel
theorem tyJ13_ok : ∀ k, k < 0 → parseFieldDescriptor (TJ13 k).2.2.1 = some (tyJ13 k) := by decide +kernel
abbrev cJ13_bitCount_95d88 : ByteArray := prog_16_method_50_code
def yJ13_bitCount_95d88 : MethodName := ⟨RJ13, "bitCount", "(J)I"⟩
def RJ9 : String := "java/lang/Math"
def TJ9 : u_T := fun k => match k with
  | _ => ("", "", "", false)
def tyJ9 : Nat → FieldType := fun k => match k with
  | _ => .int
theorem nmJ9 : ∀ a, a < 0 → ∀ b, b < 0 → a ≠ b → (TJ9 a).2.1 ≠ (TJ9 b).2.1 := by decide +kernel
theorem tyJ9_ok : ∀ k, k < 0 → parseFieldDescriptor (TJ9 k).2.2.1 = some (tyJ9 k) := by decide +kernel
abbrev cJ9_max_7cf53 : ByteArray := prog_17_method_65_code
def yJ9_max_7cf53 : MethodName := ⟨RJ9, "max", "(II)I"⟩
abbrev cJ9_min_7cf53 : ByteArray := prog_17_method_69_code
def yJ9_min_7cf53 : MethodName := ⟨RJ9, "min", "(II)I"⟩
def RL : String := "KeptOrdersLaw"
abbrev cL_law : ByteArray := code
abbrev vwCl : List vw_C := [(RX0, TX0, 2), (RX1, TX1, 1), (RX2, TX2, 12), (RX3, TX3, 3), (RX4, TX4, 4), (RX5, TX5, 5), (RX6, TX6, 7), (RX7, TX7, 7), (RX8, TX8, 3), (RX9, TX9, 8), (RX10, TX10, 9), (RX11, TX11, 9), (RX12, TX12, 40)]
def wsL_law : List Cond := lw_tbl.filter goodWord
theorem wsL_law_in : ∀ w ∈ wsL_law, w ∈ lw_tbl := fun w h => (List.mem_filter.mp h).1
theorem law_good : ∀ w ∈ wsL_law, goodWord w = true := fun w h => (List.mem_filter.mp h).2
def nwM : List (String × Nat × MethodName × String) := [(RX11, 9, yX7_init, RX11), (RX7, 22, yX6_init, RX11), (RX0, 17, yX8_init, RX11), (RX11, 25, yX8_init, RX11), (RX5, 34, yX4_init, RX11), (RX8, 32, yX11_hasSlot, RX11), (RX2, 72, yX11_roundedUp, RX11), (RX8, 24, yX11_isSlot, RX11), (RX2, 51, yX11_has, RX11), (RX2, 44, yX11_with, RX11), (RX6, 56, yX11_with, RX11), (RX6, 59, yX11_without, RX11), (RX6, 62, yX11_has, RX11), (RX6, 89, yX11_hasSlot, RX11), (RX2, 136, yX11_hasSlot, RX11), (RX9, 110, yX11_with, RX11), (RX3, 54, yX11_has, RX11), (RX9, 133, yX11_without, RX11), (RX3, 50, yX11_with, RX11), (RX10, 97, yX11_with, RX11), (RX4, 34, yX11_quotient, RX11), (RX5, 72, yX11_has, RX11), (RX5, 90, yX11_quotient, RX11), (RX5, 116, yX11_roundedUp, RX11)]
def nwO : List String := [RX8, RX2, RX6, RX4]
