theorem tin_1 {w : Cond} (h : w ∈ tables_1_1) (hg : goodWord w = true) : w ∈ wsL_law := List.mem_filter.mpr ⟨List.mem_append_right _ (List.mem_append_left _ (h)), hg⟩
theorem tin_2 {w : Cond} (h : w ∈ tables_1_2) (hg : goodWord w = true) : w ∈ wsL_law := List.mem_filter.mpr ⟨List.mem_append_right _ (List.mem_append_right _ (List.mem_append_left _ (h))), hg⟩
theorem tin_3 {w : Cond} (h : w ∈ tables_1_3) (hg : goodWord w = true) : w ∈ wsL_law := List.mem_filter.mpr ⟨List.mem_append_right _ (List.mem_append_right _ (List.mem_append_right _ (List.mem_append_left _ (h)))), hg⟩
theorem tin_4 {w : Cond} (h : w ∈ tables_1_4) (hg : goodWord w = true) : w ∈ wsL_law := List.mem_filter.mpr ⟨List.mem_append_right _ (List.mem_append_right _ (List.mem_append_right _ (List.mem_append_right _ (List.mem_append_left _ (h))))), hg⟩
theorem tin_5 {w : Cond} (h : w ∈ tables_1_5) (hg : goodWord w = true) : w ∈ wsL_law := List.mem_filter.mpr ⟨List.mem_append_right _ (List.mem_append_right _ (List.mem_append_right _ (List.mem_append_right _ (List.mem_append_right _ (List.mem_append_left _ (h)))))), hg⟩
theorem tin_6 {w : Cond} (h : w ∈ tables_1_6) (hg : goodWord w = true) : w ∈ wsL_law := List.mem_filter.mpr ⟨List.mem_append_right _ (List.mem_append_right _ (List.mem_append_right _ (List.mem_append_right _ (List.mem_append_right _ (List.mem_append_right _ (List.mem_append_left _ (h))))))), hg⟩
theorem tin_7 {w : Cond} (h : w ∈ tables_1_7) (hg : goodWord w = true) : w ∈ wsL_law := List.mem_filter.mpr ⟨List.mem_append_right _ (List.mem_append_right _ (List.mem_append_right _ (List.mem_append_right _ (List.mem_append_right _ (List.mem_append_right _ (List.mem_append_right _ (List.mem_append_left _ (h)))))))), hg⟩
theorem tin_8 {w : Cond} (h : w ∈ tables_1_8) (hg : goodWord w = true) : w ∈ wsL_law := List.mem_filter.mpr ⟨List.mem_append_right _ (List.mem_append_right _ (List.mem_append_right _ (List.mem_append_right _ (List.mem_append_right _ (List.mem_append_right _ (List.mem_append_right _ (List.mem_append_right _ (h)))))))), hg⟩
theorem tip_1 {q : MethodName × Nat} (h : q ∈ lw_privs_1) : Cond.selects q.1.cls q.1 q.1 ∈ wsL_law := List.mem_filter.mpr ⟨List.mem_append_left _ (List.mem_map.mpr ⟨q, List.mem_append_left _ (h), rfl⟩), rfl⟩
theorem tip_2 {q : MethodName × Nat} (h : q ∈ lw_privs_2) : Cond.selects q.1.cls q.1 q.1 ∈ wsL_law := List.mem_filter.mpr ⟨List.mem_append_left _ (List.mem_map.mpr ⟨q, List.mem_append_right _ (List.mem_append_left _ (h)), rfl⟩), rfl⟩
theorem tip_3 {q : MethodName × Nat} (h : q ∈ lw_privs_3) : Cond.selects q.1.cls q.1 q.1 ∈ wsL_law := List.mem_filter.mpr ⟨List.mem_append_left _ (List.mem_map.mpr ⟨q, List.mem_append_right _ (List.mem_append_right _ (List.mem_append_left _ (h))), rfl⟩), rfl⟩
theorem tip_4 {q : MethodName × Nat} (h : q ∈ lw_privs_4) : Cond.selects q.1.cls q.1 q.1 ∈ wsL_law := List.mem_filter.mpr ⟨List.mem_append_left _ (List.mem_map.mpr ⟨q, List.mem_append_right _ (List.mem_append_right _ (List.mem_append_right _ (List.mem_append_left _ (h)))), rfl⟩), rfl⟩
theorem tip_5 {q : MethodName × Nat} (h : q ∈ lw_privs_5) : Cond.selects q.1.cls q.1 q.1 ∈ wsL_law := List.mem_filter.mpr ⟨List.mem_append_left _ (List.mem_map.mpr ⟨q, List.mem_append_right _ (List.mem_append_right _ (List.mem_append_right _ (List.mem_append_right _ (List.mem_append_left _ (h))))), rfl⟩), rfl⟩
theorem tip_6 {q : MethodName × Nat} (h : q ∈ lw_privs_6) : Cond.selects q.1.cls q.1 q.1 ∈ wsL_law := List.mem_filter.mpr ⟨List.mem_append_left _ (List.mem_map.mpr ⟨q, List.mem_append_right _ (List.mem_append_right _ (List.mem_append_right _ (List.mem_append_right _ (List.mem_append_right _ (h))))), rfl⟩), rfl⟩
set_option maxRecDepth 20000 in
theorem in_X0 : ∀ w ∈ u_ws RX0 TX0 2, w ∈ wsL_law := by
  intro w hw
  refine List.mem_filter.mpr ⟨?_, ?_⟩
  · revert w
    exact List.all_eq_true.mp (by decide +kernel : (u_ws RX0 TX0 2).all (fun w => decide (w ∈ lw_tbl)) = true) |> fun h w hw => of_decide_eq_true (h w hw)
  · revert w
    exact List.all_eq_true.mp (by decide +kernel : (u_ws RX0 TX0 2).all goodWord = true)
theorem kc_X0 : Kc 0 RX0 TX0 2 tyX0 := ⟨rfl, in_X0, tyX0_ok, nmX0⟩
set_option maxRecDepth 20000 in
theorem in_X1 : ∀ w ∈ u_ws RX1 TX1 1, w ∈ wsL_law := by
  intro w hw
  refine List.mem_filter.mpr ⟨?_, ?_⟩
  · revert w
    exact List.all_eq_true.mp (by decide +kernel : (u_ws RX1 TX1 1).all (fun w => decide (w ∈ lw_tbl)) = true) |> fun h w hw => of_decide_eq_true (h w hw)
  · revert w
    exact List.all_eq_true.mp (by decide +kernel : (u_ws RX1 TX1 1).all goodWord = true)
theorem kc_X1 : Kc 1 RX1 TX1 1 tyX1 := ⟨rfl, in_X1, tyX1_ok, nmX1⟩
set_option maxRecDepth 20000 in
theorem in_X2 : ∀ w ∈ u_ws RX2 TX2 12, w ∈ wsL_law := by
  intro w hw
  refine List.mem_filter.mpr ⟨?_, ?_⟩
  · revert w
    exact List.all_eq_true.mp (by decide +kernel : (u_ws RX2 TX2 12).all (fun w => decide (w ∈ lw_tbl)) = true) |> fun h w hw => of_decide_eq_true (h w hw)
  · revert w
    exact List.all_eq_true.mp (by decide +kernel : (u_ws RX2 TX2 12).all goodWord = true)
theorem kc_X2 : Kc 2 RX2 TX2 12 tyX2 := ⟨rfl, in_X2, tyX2_ok, nmX2⟩
set_option maxRecDepth 20000 in
theorem in_X3 : ∀ w ∈ u_ws RX3 TX3 3, w ∈ wsL_law := by
  intro w hw
  refine List.mem_filter.mpr ⟨?_, ?_⟩
  · revert w
    exact List.all_eq_true.mp (by decide +kernel : (u_ws RX3 TX3 3).all (fun w => decide (w ∈ lw_tbl)) = true) |> fun h w hw => of_decide_eq_true (h w hw)
  · revert w
    exact List.all_eq_true.mp (by decide +kernel : (u_ws RX3 TX3 3).all goodWord = true)
theorem kc_X3 : Kc 3 RX3 TX3 3 tyX3 := ⟨rfl, in_X3, tyX3_ok, nmX3⟩
set_option maxRecDepth 20000 in
theorem in_X4 : ∀ w ∈ u_ws RX4 TX4 4, w ∈ wsL_law := by
  intro w hw
  refine List.mem_filter.mpr ⟨?_, ?_⟩
  · revert w
    exact List.all_eq_true.mp (by decide +kernel : (u_ws RX4 TX4 4).all (fun w => decide (w ∈ lw_tbl)) = true) |> fun h w hw => of_decide_eq_true (h w hw)
  · revert w
    exact List.all_eq_true.mp (by decide +kernel : (u_ws RX4 TX4 4).all goodWord = true)
theorem kc_X4 : Kc 4 RX4 TX4 4 tyX4 := ⟨rfl, in_X4, tyX4_ok, nmX4⟩
set_option maxRecDepth 20000 in
theorem in_X5 : ∀ w ∈ u_ws RX5 TX5 5, w ∈ wsL_law := by
  intro w hw
  refine List.mem_filter.mpr ⟨?_, ?_⟩
  · revert w
    exact List.all_eq_true.mp (by decide +kernel : (u_ws RX5 TX5 5).all (fun w => decide (w ∈ lw_tbl)) = true) |> fun h w hw => of_decide_eq_true (h w hw)
  · revert w
    exact List.all_eq_true.mp (by decide +kernel : (u_ws RX5 TX5 5).all goodWord = true)
theorem kc_X5 : Kc 5 RX5 TX5 5 tyX5 := ⟨rfl, in_X5, tyX5_ok, nmX5⟩
set_option maxRecDepth 20000 in
theorem in_X6 : ∀ w ∈ u_ws RX6 TX6 7, w ∈ wsL_law := by
  intro w hw
  refine List.mem_filter.mpr ⟨?_, ?_⟩
  · revert w
    exact List.all_eq_true.mp (by decide +kernel : (u_ws RX6 TX6 7).all (fun w => decide (w ∈ lw_tbl)) = true) |> fun h w hw => of_decide_eq_true (h w hw)
  · revert w
    exact List.all_eq_true.mp (by decide +kernel : (u_ws RX6 TX6 7).all goodWord = true)
theorem kc_X6 : Kc 6 RX6 TX6 7 tyX6 := ⟨rfl, in_X6, tyX6_ok, nmX6⟩
set_option maxRecDepth 20000 in
theorem in_X7 : ∀ w ∈ u_ws RX7 TX7 7, w ∈ wsL_law := by
  intro w hw
  refine List.mem_filter.mpr ⟨?_, ?_⟩
  · revert w
    exact List.all_eq_true.mp (by decide +kernel : (u_ws RX7 TX7 7).all (fun w => decide (w ∈ lw_tbl)) = true) |> fun h w hw => of_decide_eq_true (h w hw)
  · revert w
    exact List.all_eq_true.mp (by decide +kernel : (u_ws RX7 TX7 7).all goodWord = true)
theorem kc_X7 : Kc 7 RX7 TX7 7 tyX7 := ⟨rfl, in_X7, tyX7_ok, nmX7⟩
set_option maxRecDepth 20000 in
theorem in_X8 : ∀ w ∈ u_ws RX8 TX8 3, w ∈ wsL_law := by
  intro w hw
  refine List.mem_filter.mpr ⟨?_, ?_⟩
  · revert w
    exact List.all_eq_true.mp (by decide +kernel : (u_ws RX8 TX8 3).all (fun w => decide (w ∈ lw_tbl)) = true) |> fun h w hw => of_decide_eq_true (h w hw)
  · revert w
    exact List.all_eq_true.mp (by decide +kernel : (u_ws RX8 TX8 3).all goodWord = true)
theorem kc_X8 : Kc 8 RX8 TX8 3 tyX8 := ⟨rfl, in_X8, tyX8_ok, nmX8⟩
set_option maxRecDepth 20000 in
theorem in_X9 : ∀ w ∈ u_ws RX9 TX9 8, w ∈ wsL_law := by
  intro w hw
  refine List.mem_filter.mpr ⟨?_, ?_⟩
  · revert w
    exact List.all_eq_true.mp (by decide +kernel : (u_ws RX9 TX9 8).all (fun w => decide (w ∈ lw_tbl)) = true) |> fun h w hw => of_decide_eq_true (h w hw)
  · revert w
    exact List.all_eq_true.mp (by decide +kernel : (u_ws RX9 TX9 8).all goodWord = true)
theorem kc_X9 : Kc 9 RX9 TX9 8 tyX9 := ⟨rfl, in_X9, tyX9_ok, nmX9⟩
set_option maxRecDepth 20000 in
theorem in_X10 : ∀ w ∈ u_ws RX10 TX10 9, w ∈ wsL_law := by
  intro w hw
  refine List.mem_filter.mpr ⟨?_, ?_⟩
  · revert w
    exact List.all_eq_true.mp (by decide +kernel : (u_ws RX10 TX10 9).all (fun w => decide (w ∈ lw_tbl)) = true) |> fun h w hw => of_decide_eq_true (h w hw)
  · revert w
    exact List.all_eq_true.mp (by decide +kernel : (u_ws RX10 TX10 9).all goodWord = true)
theorem kc_X10 : Kc 10 RX10 TX10 9 tyX10 := ⟨rfl, in_X10, tyX10_ok, nmX10⟩
set_option maxRecDepth 20000 in
theorem in_X11 : ∀ w ∈ u_ws RX11 TX11 9, w ∈ wsL_law := by
  intro w hw
  refine List.mem_filter.mpr ⟨?_, ?_⟩
  · revert w
    exact List.all_eq_true.mp (by decide +kernel : (u_ws RX11 TX11 9).all (fun w => decide (w ∈ lw_tbl)) = true) |> fun h w hw => of_decide_eq_true (h w hw)
  · revert w
    exact List.all_eq_true.mp (by decide +kernel : (u_ws RX11 TX11 9).all goodWord = true)
theorem kc_X11 : Kc 11 RX11 TX11 9 tyX11 := ⟨rfl, in_X11, tyX11_ok, nmX11⟩
set_option maxRecDepth 20000 in
theorem in_X12 : ∀ w ∈ u_ws RX12 TX12 40, w ∈ wsL_law := by
  intro w hw
  refine List.mem_filter.mpr ⟨?_, ?_⟩
  · revert w
    exact List.all_eq_true.mp (by decide +kernel : (u_ws RX12 TX12 40).all (fun w => decide (w ∈ lw_tbl)) = true) |> fun h w hw => of_decide_eq_true (h w hw)
  · revert w
    exact List.all_eq_true.mp (by decide +kernel : (u_ws RX12 TX12 40).all goodWord = true)
theorem kc_X12 : Kc 12 RX12 TX12 40 tyX12 := ⟨rfl, in_X12, tyX12_ok, nmX12⟩
theorem df_X0 : ∀ j, j < 2 → defaultValue (tyX0 j) = vp_V [.null, .int 0] j := by decide +kernel
theorem df_X1 : ∀ j, j < 1 → defaultValue (tyX1 j) = vp_V [.null] j := by decide +kernel
theorem df_X2 : ∀ j, j < 12 → defaultValue (tyX2 j) = vp_V [.null, .int 0, .int 0, .int 0, .int 0, .null, .null, .null, .int 0, .int 0, .int 0, .int 0] j := by decide +kernel
theorem df_X3 : ∀ j, j < 3 → defaultValue (tyX3 j) = vp_V [.null, .null, .int 0] j := by decide +kernel
theorem df_X4 : ∀ j, j < 4 → defaultValue (tyX4 j) = vp_V [.null, .null, .null, .int 0] j := by decide +kernel
theorem df_X5 : ∀ j, j < 5 → defaultValue (tyX5 j) = vp_V [.null, .null, .null, .null, .int 0] j := by decide +kernel
theorem df_X6 : ∀ j, j < 7 → defaultValue (tyX6 j) = vp_V [.null, .null, .int 0, .int 0, .int 0, .int 0, .int 0] j := by decide +kernel
theorem df_X7 : ∀ j, j < 7 → defaultValue (tyX7 j) = vp_V [.null, .int 0, .null, .int 0, .int 0, .int 0, .int 0] j := by decide +kernel
theorem df_X8 : ∀ j, j < 3 → defaultValue (tyX8 j) = vp_V [.null, .long 0, .int 0] j := by decide +kernel
theorem df_X9 : ∀ j, j < 8 → defaultValue (tyX9 j) = vp_V [.null, .null, .null, .null, .null, .null, .null, .int 0] j := by decide +kernel
theorem df_X10 : ∀ j, j < 9 → defaultValue (tyX10 j) = vp_V [.null, .null, .null, .null, .null, .null, .int 0, .int 0, .int 0] j := by decide +kernel
theorem df_X11 : ∀ j, j < 9 → defaultValue (tyX11 j) = vp_V [.null, .null, .null, .null, .null, .null, .null, .int 0, .int 0] j := by decide +kernel
theorem df_X12 : ∀ j, j < 40 → defaultValue (tyX12 j) = vp_V [.null, .null, .int 0, .int 0, .int 0, .null, .null, .null, .null, .null, .null, .null, .int 0, .null, .int 0, .null, .null, .null, .null, .int 0, .int 0, .int 0, .null, .null, .int 0, .int 0, .null, .null, .int 0, .int 0, .int 0, .null, .int 0, .int 0, .null, .int 0, .int 0, .null, .null, .long 0] j := by decide +kernel
abbrev M_X1_init : MI := (yX1_init, cX1_init, 2, none, 1)
theorem ok_X1_init : okM M_X1_init 1 = true := by decide +kernel
theorem w_0 : Cond.code yX1_init cX1_init 2 none ∈ wsL_law := tin_1 (List.mem_of_getElem? (i := 35) (by decide +kernel)) rfl
theorem w_1 : Cond.initialized RX1 ∈ wsL_law := tin_1 (List.mem_of_getElem? (i := 3) (by decide +kernel)) rfl
theorem w_2 : Cond.instanceMethod yX1_init ∈ wsL_law := tin_1 (List.mem_of_getElem? (i := 34) (by decide +kernel)) rfl
theorem wd_X1_init : Wi M_X1_init := ⟨w_2, w_1, w_0⟩
abbrev M_X6_init : MI := (yX6_init, cX6_init, 1, none, 2)
theorem ok_X6_init : okM M_X6_init 0 = true := by decide +kernel
theorem w_3 : Cond.code yX6_init cX6_init 1 none ∈ wsL_law := tin_1 (List.mem_of_getElem? (i := 46) (by decide +kernel)) rfl
theorem w_4 : Cond.initialized RX6 ∈ wsL_law := tin_1 (List.mem_of_getElem? (i := 4) (by decide +kernel)) rfl
theorem w_5 : Cond.instanceMethod yX6_init ∈ wsL_law := tin_1 (List.mem_of_getElem? (i := 45) (by decide +kernel)) rfl
theorem wd_X6_init : Wi M_X6_init := ⟨w_5, w_4, w_3⟩
abbrev M_X7_init : MI := (yX7_init, cX7_init, 1, none, 3)
theorem ok_X7_init : okM M_X7_init 0 = true := by decide +kernel
theorem w_6 : Cond.code yX7_init cX7_init 1 none ∈ wsL_law := tin_1 (List.mem_of_getElem? (i := 29) (by decide +kernel)) rfl
theorem w_7 : Cond.initialized RX7 ∈ wsL_law := tin_1 (List.mem_of_getElem? (i := 2) (by decide +kernel)) rfl
theorem w_8 : Cond.instanceMethod yX7_init ∈ wsL_law := tin_1 (List.mem_of_getElem? (i := 28) (by decide +kernel)) rfl
theorem wd_X7_init : Wi M_X7_init := ⟨w_8, w_7, w_6⟩
abbrev M_X8_init : MI := (yX8_init, cX8_init, 1, none, 2)
theorem ok_X8_init : okM M_X8_init 0 = true := by decide +kernel
theorem w_9 : Cond.code yX8_init cX8_init 1 none ∈ wsL_law := tin_1 (List.mem_of_getElem? (i := 105) (by decide +kernel)) rfl
theorem w_10 : Cond.initialized RX8 ∈ wsL_law := tin_1 (List.mem_of_getElem? (i := 6) (by decide +kernel)) rfl
theorem w_11 : Cond.instanceMethod yX8_init ∈ wsL_law := tin_1 (List.mem_of_getElem? (i := 104) (by decide +kernel)) rfl
theorem wd_X8_init : Wi M_X8_init := ⟨w_11, w_10, w_9⟩
abbrev M_X0_init : MI := (yX0_init, cX0_init, 2, none, 3)
theorem ok_X0_init : okM M_X0_init 0 = true := by decide +kernel
theorem w_12 : Cond.code yX0_init cX0_init 2 none ∈ wsL_law := tin_1 (List.mem_of_getElem? (i := 98) (by decide +kernel)) rfl
theorem w_13 : Cond.initialized RX0 ∈ wsL_law := tin_1 (List.mem_of_getElem? (i := 5) (by decide +kernel)) rfl
theorem w_14 : Cond.instanceMethod yX0_init ∈ wsL_law := tin_1 (List.mem_of_getElem? (i := 97) (by decide +kernel)) rfl
theorem wd_X0_init : Wi M_X0_init := ⟨w_14, w_13, w_12⟩
abbrev M_X3_init : MI := (yX3_init, cX3_init, 2, none, 1)
theorem ok_X3_init : okM M_X3_init 1 = true := by decide +kernel
theorem w_15 : Cond.code yX3_init cX3_init 2 none ∈ wsL_law := tin_1 (List.mem_of_getElem? (i := 132) (by decide +kernel)) rfl
theorem w_16 : Cond.initialized RX3 ∈ wsL_law := tin_1 (List.mem_of_getElem? (i := 7) (by decide +kernel)) rfl
theorem w_17 : Cond.instanceMethod yX3_init ∈ wsL_law := tin_1 (List.mem_of_getElem? (i := 131) (by decide +kernel)) rfl
theorem wd_X3_init : Wi M_X3_init := ⟨w_17, w_16, w_15⟩
abbrev M_X9_init : MI := (yX9_init, cX9_init, 3, none, 2)
theorem ok_X9_init : okM M_X9_init 2 = true := by decide +kernel
theorem w_18 : Cond.code yX9_init cX9_init 3 none ∈ wsL_law := tin_1 (List.mem_of_getElem? (i := 150) (by decide +kernel)) rfl
theorem w_19 : Cond.initialized RX9 ∈ wsL_law := tin_1 (List.mem_of_getElem? (i := 8) (by decide +kernel)) rfl
theorem w_20 : Cond.instanceMethod yX9_init ∈ wsL_law := tin_1 (List.mem_of_getElem? (i := 149) (by decide +kernel)) rfl
theorem wd_X9_init : Wi M_X9_init := ⟨w_20, w_19, w_18⟩
abbrev M_X10_init : MI := (yX10_init, cX10_init, 3, none, 2)
theorem ok_X10_init : okM M_X10_init 2 = true := by decide +kernel
theorem w_21 : Cond.code yX10_init cX10_init 3 none ∈ wsL_law := tin_1 (List.mem_of_getElem? (i := 184) (by decide +kernel)) rfl
theorem w_22 : Cond.initialized RX10 ∈ wsL_law := tin_1 (List.mem_of_getElem? (i := 9) (by decide +kernel)) rfl
theorem w_23 : Cond.instanceMethod yX10_init ∈ wsL_law := tin_1 (List.mem_of_getElem? (i := 183) (by decide +kernel)) rfl
theorem wd_X10_init : Wi M_X10_init := ⟨w_23, w_22, w_21⟩
abbrev M_X4_init : MI := (yX4_init, cX4_init, 1, none, 2)
theorem ok_X4_init : okM M_X4_init 0 = true := by decide +kernel
theorem w_24 : Cond.code yX4_init cX4_init 1 none ∈ wsL_law := tin_1 (List.mem_of_getElem? (i := 231) (by decide +kernel)) rfl
theorem w_25 : Cond.initialized RX4 ∈ wsL_law := tin_1 (List.mem_of_getElem? (i := 11) (by decide +kernel)) rfl
theorem w_26 : Cond.instanceMethod yX4_init ∈ wsL_law := tin_1 (List.mem_of_getElem? (i := 230) (by decide +kernel)) rfl
theorem wd_X4_init : Wi M_X4_init := ⟨w_26, w_25, w_24⟩
abbrev M_X5_init : MI := (yX5_init, cX5_init, 4, none, 3)
theorem ok_X5_init : okM M_X5_init 2 = true := by decide +kernel
theorem w_27 : Cond.code yX5_init cX5_init 4 none ∈ wsL_law := tin_1 (List.mem_of_getElem? (i := 222) (by decide +kernel)) rfl
theorem w_28 : Cond.initialized RX5 ∈ wsL_law := tin_1 (List.mem_of_getElem? (i := 10) (by decide +kernel)) rfl
theorem w_29 : Cond.instanceMethod yX5_init ∈ wsL_law := tin_1 (List.mem_of_getElem? (i := 221) (by decide +kernel)) rfl
theorem wd_X5_init : Wi M_X5_init := ⟨w_29, w_28, w_27⟩
abbrev M_X11_init : MI := (yX11_init, cX11_init, 4, none, 4)
theorem ok_X11_init : okM M_X11_init 0 = true := by decide +kernel
theorem w_30 : Cond.code yX11_init cX11_init 4 none ∈ wsL_law := tin_1 (List.mem_of_getElem? (i := 21) (by decide +kernel)) rfl
theorem w_31 : Cond.initialized RX11 ∈ wsL_law := tin_1 (List.mem_of_getElem? (i := 1) (by decide +kernel)) rfl
theorem w_32 : Cond.instanceMethod yX11_init ∈ wsL_law := tin_1 (List.mem_of_getElem? (i := 20) (by decide +kernel)) rfl
theorem wd_X11_init : Wi M_X11_init := ⟨w_32, w_31, w_30⟩
abbrev M_X12_init : MI := (yX12_init, cX12_init, 1, none, 1)
theorem ok_X12_init : okM M_X12_init 0 = true := by decide +kernel
theorem w_33 : Cond.code yX12_init cX12_init 1 none ∈ wsL_law := tin_6 (List.mem_of_getElem? (i := 27) (by decide +kernel)) rfl
theorem w_34 : Cond.initialized RX12 ∈ wsL_law := tin_1 (List.mem_of_getElem? (i := 12) (by decide +kernel)) rfl
theorem w_35 : Cond.instanceMethod yX12_init ∈ wsL_law := tin_6 (List.mem_of_getElem? (i := 26) (by decide +kernel)) rfl
theorem wd_X12_init : Wi M_X12_init := ⟨w_35, w_34, w_33⟩
abbrev M_X11_isNumber : MI := (yX11_isNumber, cX11_isNumber, 1, (some .boolean), 0)
theorem ok_X11_isNumber : okM M_X11_isNumber 1 = true := by decide +kernel
theorem w_36 : Cond.code yX11_isNumber cX11_isNumber 1 (some .boolean) ∈ wsL_law := tin_2 (List.mem_of_getElem? (i := 58) (by decide +kernel)) rfl
theorem w_37 : Cond.static yX11_isNumber ∈ wsL_law := tin_2 (List.mem_of_getElem? (i := 57) (by decide +kernel)) rfl
theorem wd_X11_isNumber : Ws M_X11_isNumber := ⟨w_37, w_31, w_36⟩
abbrev M_X11_hasSlot : MI := (yX11_hasSlot, cX11_hasSlot, 3, (some .boolean), 0)
theorem ok_X11_hasSlot : okM M_X11_hasSlot 2 = true := by decide +kernel
theorem w_38 : Cond.code yX11_hasSlot cX11_hasSlot 3 (some .boolean) ∈ wsL_law := tin_2 (List.mem_of_getElem? (i := 65) (by decide +kernel)) rfl
theorem w_39 : Cond.static yX11_hasSlot ∈ wsL_law := tin_2 (List.mem_of_getElem? (i := 64) (by decide +kernel)) rfl
theorem wd_X11_hasSlot : Ws M_X11_hasSlot := ⟨w_39, w_31, w_38⟩
abbrev M_X8_emptySlot : MI := (yX8_emptySlot, cX8_emptySlot, 2, (some .int), 1)
theorem ok_X8_emptySlot : okM M_X8_emptySlot 0 = true := by decide +kernel
theorem w_40 : Cond.code yX8_emptySlot cX8_emptySlot 2 (some .int) ∈ wsL_law := tin_2 (List.mem_of_getElem? (i := 62) (by decide +kernel)) rfl
theorem w_41 : Cond.instanceMethod yX8_emptySlot ∈ wsL_law := tin_2 (List.mem_of_getElem? (i := 60) (by decide +kernel)) rfl
theorem w_42 : Cond.selects RX8 yX8_emptySlot yX8_emptySlot ∈ wsL_law := tin_2 (List.mem_of_getElem? (i := 61) (by decide +kernel)) rfl
theorem wd_X8_emptySlot : Wv M_X8_emptySlot := ⟨w_41, w_42, w_10, w_40⟩
abbrev M_X1_put : MI := (yX1_put, cX1_put, 3, none, 0)
theorem ok_X1_put : okM M_X1_put 2 = true := by decide +kernel
theorem w_43 : Cond.code yX1_put cX1_put 3 none ∈ wsL_law := tin_2 (List.mem_of_getElem? (i := 73) (by decide +kernel)) rfl
theorem w_44 : Cond.instanceMethod yX1_put ∈ wsL_law := tin_2 (List.mem_of_getElem? (i := 71) (by decide +kernel)) rfl
theorem w_45 : Cond.selects RX1 yX1_put yX1_put ∈ wsL_law := tin_2 (List.mem_of_getElem? (i := 72) (by decide +kernel)) rfl
theorem wd_X1_put : Wv M_X1_put := ⟨w_44, w_45, w_1, w_43⟩
abbrev M_X8_put : MI := (yX8_put, cX8_put, 4, none, 1)
theorem ok_X8_put : okM M_X8_put 3 = true := by decide +kernel
theorem w_46 : Cond.code yX8_put cX8_put 4 none ∈ wsL_law := tin_2 (List.mem_of_getElem? (i := 69) (by decide +kernel)) rfl
theorem w_47 : Cond.instanceMethod yX8_put ∈ wsL_law := tin_2 (List.mem_of_getElem? (i := 67) (by decide +kernel)) rfl
theorem w_48 : Cond.selects RX8 yX8_put yX8_put ∈ wsL_law := tin_2 (List.mem_of_getElem? (i := 68) (by decide +kernel)) rfl
theorem wd_X8_put : Wv M_X8_put := ⟨w_47, w_48, w_10, w_46⟩
abbrev M_X8_hold : MI := (yX8_hold, cX8_hold, 2, none, 0)
theorem ok_X8_hold : okM M_X8_hold 1 = true := by decide +kernel
theorem w_49 : Cond.code yX8_hold cX8_hold 2 none ∈ wsL_law := tin_2 (List.mem_of_getElem? (i := 81) (by decide +kernel)) rfl
theorem w_50 : Cond.instanceMethod yX8_hold ∈ wsL_law := tin_2 (List.mem_of_getElem? (i := 79) (by decide +kernel)) rfl
theorem w_51 : Cond.selects RX8 yX8_hold yX8_hold ∈ wsL_law := tin_2 (List.mem_of_getElem? (i := 80) (by decide +kernel)) rfl
theorem wd_X8_hold : Wv M_X8_hold := ⟨w_50, w_51, w_10, w_49⟩
abbrev M_X2_isDropped : MI := (yX2_isDropped, cX2_isDropped, 1, (some .boolean), 0)
theorem ok_X2_isDropped : okM M_X2_isDropped 0 = true := by decide +kernel
theorem w_52 : Cond.code yX2_isDropped cX2_isDropped 1 (some .boolean) ∈ wsL_law := tin_2 (List.mem_of_getElem? (i := 93) (by decide +kernel)) rfl
theorem w_53 : Cond.initialized RX2 ∈ wsL_law := tin_1 (List.mem_of_getElem? (i := 14) (by decide +kernel)) rfl
theorem w_54 : Cond.instanceMethod yX2_isDropped ∈ wsL_law := tin_2 (List.mem_of_getElem? (i := 91) (by decide +kernel)) rfl
theorem w_55 : Cond.selects RX2 yX2_isDropped yX2_isDropped ∈ wsL_law := tin_2 (List.mem_of_getElem? (i := 92) (by decide +kernel)) rfl
theorem wd_X2_isDropped : Wv M_X2_isDropped := ⟨w_54, w_55, w_53, w_52⟩
abbrev M_X3_kept : MI := (yX3_kept, cX3_kept, 3, (some (.object "KeptOrders$Order")), 1)
theorem ok_X3_kept : okM M_X3_kept 1 = true := by decide +kernel
theorem w_56 : Cond.code yX3_kept cX3_kept 3 (some (.object "KeptOrders$Order")) ∈ wsL_law := tin_2 (List.mem_of_getElem? (i := 89) (by decide +kernel)) rfl
theorem w_57 : Cond.instanceMethod yX3_kept ∈ wsL_law := tin_2 (List.mem_of_getElem? (i := 87) (by decide +kernel)) rfl
theorem w_58 : Cond.selects RX3 yX3_kept yX3_kept ∈ wsL_law := tin_2 (List.mem_of_getElem? (i := 88) (by decide +kernel)) rfl
theorem wd_X3_kept : Wv M_X3_kept := ⟨w_57, w_58, w_16, w_56⟩
abbrev M_X1_at : MI := (yX1_at, cX1_at, 2, (some .int), 0)
theorem ok_X1_at : okM M_X1_at 1 = true := by decide +kernel
theorem w_59 : Cond.code yX1_at cX1_at 2 (some .int) ∈ wsL_law := tin_2 (List.mem_of_getElem? (i := 106) (by decide +kernel)) rfl
theorem w_60 : Cond.instanceMethod yX1_at ∈ wsL_law := tin_2 (List.mem_of_getElem? (i := 104) (by decide +kernel)) rfl
theorem w_61 : Cond.selects RX1 yX1_at yX1_at ∈ wsL_law := tin_2 (List.mem_of_getElem? (i := 105) (by decide +kernel)) rfl
theorem wd_X1_at : Wv M_X1_at := ⟨w_60, w_61, w_1, w_59⟩
abbrev M_X8_number : MI := (yX8_number, cX8_number, 3, (some .int), 1)
theorem ok_X8_number : okM M_X8_number 2 = true := by decide +kernel
theorem w_62 : Cond.code yX8_number cX8_number 3 (some .int) ∈ wsL_law := tin_2 (List.mem_of_getElem? (i := 114) (by decide +kernel)) rfl
theorem w_63 : Cond.instanceMethod yX8_number ∈ wsL_law := tin_2 (List.mem_of_getElem? (i := 112) (by decide +kernel)) rfl
theorem w_64 : Cond.selects RX8 yX8_number yX8_number ∈ wsL_law := tin_2 (List.mem_of_getElem? (i := 113) (by decide +kernel)) rfl
theorem wd_X8_number : Wv M_X8_number := ⟨w_63, w_64, w_10, w_62⟩
abbrev M_X2_isAhead : MI := (yX2_isAhead, cX2_isAhead, 7, (some .boolean), 2)
theorem ok_X2_isAhead : okM M_X2_isAhead 2 = true := by decide +kernel
theorem w_65 : Cond.code yX2_isAhead cX2_isAhead 7 (some .boolean) ∈ wsL_law := tin_2 (List.mem_of_getElem? (i := 110) (by decide +kernel)) rfl
theorem w_66 : Cond.instanceMethod yX2_isAhead ∈ wsL_law := tin_2 (List.mem_of_getElem? (i := 109) (by decide +kernel)) rfl
theorem w_67 : Cond.selects RX2 yX2_isAhead yX2_isAhead ∈ wsL_law := tip_1 (q := (yX2_isAhead, 12)) (List.mem_of_getElem? (i := 2) (by decide +kernel))
theorem wd_X2_isAhead : Wv M_X2_isAhead := ⟨w_66, w_67, w_53, w_65⟩
abbrev M_X2_placeFor : MI := (yX2_placeFor, cX2_placeFor, 3, (some .int), 3)
theorem ok_X2_placeFor : okM M_X2_placeFor 1 = true := by decide +kernel
theorem w_68 : Cond.code yX2_placeFor cX2_placeFor 3 (some .int) ∈ wsL_law := tin_2 (List.mem_of_getElem? (i := 102) (by decide +kernel)) rfl
theorem w_69 : Cond.instanceMethod yX2_placeFor ∈ wsL_law := tin_2 (List.mem_of_getElem? (i := 100) (by decide +kernel)) rfl
theorem w_70 : Cond.selects RX2 yX2_placeFor yX2_placeFor ∈ wsL_law := tip_1 (q := (yX2_placeFor, 12)) (List.mem_of_getElem? (i := 1) (by decide +kernel))
theorem wd_X2_placeFor : Wv M_X2_placeFor := ⟨w_69, w_70, w_53, w_68⟩
abbrev M_X2_leafAt : MI := (yX2_leafAt, cX2_leafAt, 4, (some .int), 1)
theorem ok_X2_leafAt : okM M_X2_leafAt 1 = true := by decide +kernel
theorem w_71 : Cond.code yX2_leafAt cX2_leafAt 4 (some .int) ∈ wsL_law := tin_2 (List.mem_of_getElem? (i := 123) (by decide +kernel)) rfl
theorem w_72 : Cond.instanceMethod yX2_leafAt ∈ wsL_law := tin_2 (List.mem_of_getElem? (i := 122) (by decide +kernel)) rfl
theorem w_73 : Cond.selects RX2 yX2_leafAt yX2_leafAt ∈ wsL_law := tip_1 (q := (yX2_leafAt, 12)) (List.mem_of_getElem? (i := 4) (by decide +kernel))
theorem wd_X2_leafAt : Wv M_X2_leafAt := ⟨w_72, w_73, w_53, w_71⟩
abbrev M_X2_leafFor : MI := (yX2_leafFor, cX2_leafFor, 2, (some .int), 2)
theorem ok_X2_leafFor : okM M_X2_leafFor 1 = true := by decide +kernel
theorem w_74 : Cond.code yX2_leafFor cX2_leafFor 2 (some .int) ∈ wsL_law := tin_2 (List.mem_of_getElem? (i := 119) (by decide +kernel)) rfl
theorem w_75 : Cond.instanceMethod yX2_leafFor ∈ wsL_law := tin_2 (List.mem_of_getElem? (i := 118) (by decide +kernel)) rfl
theorem w_76 : Cond.selects RX2 yX2_leafFor yX2_leafFor ∈ wsL_law := tip_1 (q := (yX2_leafFor, 12)) (List.mem_of_getElem? (i := 3) (by decide +kernel))
theorem wd_X2_leafFor : Wv M_X2_leafFor := ⟨w_75, w_76, w_53, w_74⟩
abbrev M_X1_insert : MI := (yX1_insert, cX1_insert, 5, none, 1)
theorem ok_X1_insert : okM M_X1_insert 3 = true := by decide +kernel
theorem w_77 : Cond.code yX1_insert cX1_insert 5 none ∈ wsL_law := tin_2 (List.mem_of_getElem? (i := 127) (by decide +kernel)) rfl
theorem w_78 : Cond.instanceMethod yX1_insert ∈ wsL_law := tin_2 (List.mem_of_getElem? (i := 125) (by decide +kernel)) rfl
theorem w_79 : Cond.selects RX1 yX1_insert yX1_insert ∈ wsL_law := tin_2 (List.mem_of_getElem? (i := 126) (by decide +kernel)) rfl
theorem wd_X1_insert : Wv M_X1_insert := ⟨w_78, w_79, w_1, w_77⟩
abbrev M_X1_raise : MI := (yX1_raise, cX1_raise, 3, none, 1)
theorem ok_X1_raise : okM M_X1_raise 2 = true := by decide +kernel
theorem w_80 : Cond.code yX1_raise cX1_raise 3 none ∈ wsL_law := tin_2 (List.mem_of_getElem? (i := 134) (by decide +kernel)) rfl
theorem w_81 : Cond.instanceMethod yX1_raise ∈ wsL_law := tin_2 (List.mem_of_getElem? (i := 132) (by decide +kernel)) rfl
theorem w_82 : Cond.selects RX1 yX1_raise yX1_raise ∈ wsL_law := tin_2 (List.mem_of_getElem? (i := 133) (by decide +kernel)) rfl
theorem wd_X1_raise : Wv M_X1_raise := ⟨w_81, w_82, w_1, w_80⟩
abbrev M_X11_quotient : MI := (yX11_quotient, cX11_quotient, 2, (some .int), 0)
theorem ok_X11_quotient : okM M_X11_quotient 2 = true := by decide +kernel
theorem w_83 : Cond.code yX11_quotient cX11_quotient 2 (some .int) ∈ wsL_law := tin_2 (List.mem_of_getElem? (i := 144) (by decide +kernel)) rfl
theorem w_84 : Cond.static yX11_quotient ∈ wsL_law := tin_2 (List.mem_of_getElem? (i := 143) (by decide +kernel)) rfl
theorem wd_X11_quotient : Ws M_X11_quotient := ⟨w_84, w_31, w_83⟩
abbrev M_X11_roundedUp : MI := (yX11_roundedUp, cX11_roundedUp, 2, (some .int), 1)
theorem ok_X11_roundedUp : okM M_X11_roundedUp 2 = true := by decide +kernel
theorem w_85 : Cond.code yX11_roundedUp cX11_roundedUp 2 (some .int) ∈ wsL_law := tin_2 (List.mem_of_getElem? (i := 141) (by decide +kernel)) rfl
theorem w_86 : Cond.static yX11_roundedUp ∈ wsL_law := tin_2 (List.mem_of_getElem? (i := 140) (by decide +kernel)) rfl
theorem wd_X11_roundedUp : Ws M_X11_roundedUp := ⟨w_86, w_31, w_85⟩
abbrev M_X2_cut : MI := (yX2_cut, cX2_cut, 4, none, 2)
theorem ok_X2_cut : okM M_X2_cut 1 = true := by decide +kernel
theorem w_87 : Cond.code yX2_cut cX2_cut 4 none ∈ wsL_law := tin_2 (List.mem_of_getElem? (i := 138) (by decide +kernel)) rfl
theorem w_88 : Cond.instanceMethod yX2_cut ∈ wsL_law := tin_2 (List.mem_of_getElem? (i := 137) (by decide +kernel)) rfl
theorem w_89 : Cond.selects RX2 yX2_cut yX2_cut ∈ wsL_law := tip_1 (q := (yX2_cut, 12)) (List.mem_of_getElem? (i := 5) (by decide +kernel))
theorem wd_X2_cut : Wv M_X2_cut := ⟨w_88, w_89, w_53, w_87⟩
abbrev M_X2_entryComes : MI := (yX2_entryComes, cX2_entryComes, 4, none, 4)
theorem ok_X2_entryComes : okM M_X2_entryComes 1 = true := by decide +kernel
theorem w_90 : Cond.code yX2_entryComes cX2_entryComes 4 none ∈ wsL_law := tin_2 (List.mem_of_getElem? (i := 97) (by decide +kernel)) rfl
theorem w_91 : Cond.instanceMethod yX2_entryComes ∈ wsL_law := tin_2 (List.mem_of_getElem? (i := 95) (by decide +kernel)) rfl
theorem w_92 : Cond.selects RX2 yX2_entryComes yX2_entryComes ∈ wsL_law := tin_2 (List.mem_of_getElem? (i := 96) (by decide +kernel)) rfl
theorem wd_X2_entryComes : Wv M_X2_entryComes := ⟨w_91, w_92, w_53, w_90⟩
abbrev M_X3_entriesCome : MI := (yX3_entriesCome, cX3_entriesCome, 4, none, 5)
theorem ok_X3_entriesCome : okM M_X3_entriesCome 1 = true := by decide +kernel
theorem w_93 : Cond.code yX3_entriesCome cX3_entriesCome 4 none ∈ wsL_law := tin_2 (List.mem_of_getElem? (i := 85) (by decide +kernel)) rfl
theorem w_94 : Cond.instanceMethod yX3_entriesCome ∈ wsL_law := tin_2 (List.mem_of_getElem? (i := 83) (by decide +kernel)) rfl
theorem w_95 : Cond.selects RX3 yX3_entriesCome yX3_entriesCome ∈ wsL_law := tin_2 (List.mem_of_getElem? (i := 84) (by decide +kernel)) rfl
theorem wd_X3_entriesCome : Wv M_X3_entriesCome := ⟨w_94, w_95, w_16, w_93⟩
abbrev M_X11_rowComes : MI := (yX11_rowComes, cX11_rowComes, 2, none, 6)
theorem ok_X11_rowComes : okM M_X11_rowComes 1 = true := by decide +kernel
theorem w_96 : Cond.code yX11_rowComes cX11_rowComes 2 none ∈ wsL_law := tin_2 (List.mem_of_getElem? (i := 77) (by decide +kernel)) rfl
theorem w_97 : Cond.instanceMethod yX11_rowComes ∈ wsL_law := tin_2 (List.mem_of_getElem? (i := 76) (by decide +kernel)) rfl
theorem w_98 : Cond.selects RX11 yX11_rowComes yX11_rowComes ∈ wsL_law := tip_1 (q := (yX11_rowComes, 9)) (List.mem_of_getElem? (i := 0) (by decide +kernel))
theorem wd_X11_rowComes : Wv M_X11_rowComes := ⟨w_97, w_98, w_31, w_96⟩
abbrev M_X11_row : MI := (yX11_row, cX11_row, 6, (some .int), 7)
theorem ok_X11_row : okM M_X11_row 4 = true := by decide +kernel
theorem w_99 : Cond.code yX11_row cX11_row 6 (some .int) ∈ wsL_law := tin_2 (List.mem_of_getElem? (i := 55) (by decide +kernel)) rfl
theorem w_100 : Cond.instanceMethod yX11_row ∈ wsL_law := tin_2 (List.mem_of_getElem? (i := 53) (by decide +kernel)) rfl
theorem w_101 : Cond.selects RX11 yX11_row yX11_row ∈ wsL_law := tin_2 (List.mem_of_getElem? (i := 54) (by decide +kernel)) rfl
theorem wd_X11_row : Wv M_X11_row := ⟨w_100, w_101, w_31, w_99⟩
abbrev M_X12_in : MI := (yX12_in, cX12_in, 3, (some .boolean), 0)
theorem ok_X12_in : okM M_X12_in 3 = true := by decide +kernel
theorem w_102 : Cond.code yX12_in cX12_in 3 (some .boolean) ∈ wsL_law := tin_6 (List.mem_of_getElem? (i := 161) (by decide +kernel)) rfl
theorem w_103 : Cond.static yX12_in ∈ wsL_law := tin_6 (List.mem_of_getElem? (i := 160) (by decide +kernel)) rfl
theorem wd_X12_in : Ws M_X12_in := ⟨w_103, w_34, w_102⟩
abbrev M_X12_isNumber : MI := (yX12_isNumber, cX12_isNumber, 1, (some .boolean), 1)
theorem ok_X12_isNumber : okM M_X12_isNumber 1 = true := by decide +kernel
theorem w_104 : Cond.code yX12_isNumber cX12_isNumber 1 (some .boolean) ∈ wsL_law := tin_6 (List.mem_of_getElem? (i := 221) (by decide +kernel)) rfl
theorem w_105 : Cond.static yX12_isNumber ∈ wsL_law := tin_6 (List.mem_of_getElem? (i := 220) (by decide +kernel)) rfl
theorem wd_X12_isNumber : Ws M_X12_isNumber := ⟨w_105, w_34, w_104⟩
abbrev M_X12_emptySlot : MI := (yX12_emptySlot, cX12_emptySlot, 2, (some .int), 0)
theorem ok_X12_emptySlot : okM M_X12_emptySlot 0 = true := by decide +kernel
theorem w_106 : Cond.code yX12_emptySlot cX12_emptySlot 2 (some .int) ∈ wsL_law := tin_6 (List.mem_of_getElem? (i := 225) (by decide +kernel)) rfl
theorem w_107 : Cond.instanceMethod yX12_emptySlot ∈ wsL_law := tin_6 (List.mem_of_getElem? (i := 224) (by decide +kernel)) rfl
theorem w_108 : Cond.selects RX12 yX12_emptySlot yX12_emptySlot ∈ wsL_law := tip_3 (q := (yX12_emptySlot, 40)) (List.mem_of_getElem? (i := 5) (by decide +kernel))
theorem wd_X12_emptySlot : Wv M_X12_emptySlot := ⟨w_107, w_108, w_34, w_106⟩
abbrev M_X12_keySize : MI := (yX12_keySize, cX12_keySize, 1, (some .int), 0)
theorem ok_X12_keySize : okM M_X12_keySize 1 = true := by decide +kernel
theorem w_109 : Cond.code yX12_keySize cX12_keySize 1 (some .int) ∈ wsL_law := tin_6 (List.mem_of_getElem? (i := 164) (by decide +kernel)) rfl
theorem w_110 : Cond.static yX12_keySize ∈ wsL_law := tin_6 (List.mem_of_getElem? (i := 163) (by decide +kernel)) rfl
theorem wd_X12_keySize : Ws M_X12_keySize := ⟨w_110, w_34, w_109⟩
abbrev M_X12_keyAt : MI := (yX12_keyAt, cX12_keyAt, 4, (some .int), 1)
theorem ok_X12_keyAt : okM M_X12_keyAt 2 = true := by decide +kernel
theorem w_111 : Cond.code yX12_keyAt cX12_keyAt 4 (some .int) ∈ wsL_law := tin_6 (List.mem_of_getElem? (i := 167) (by decide +kernel)) rfl
theorem w_112 : Cond.static yX12_keyAt ∈ wsL_law := tin_6 (List.mem_of_getElem? (i := 166) (by decide +kernel)) rfl
theorem wd_X12_keyAt : Ws M_X12_keyAt := ⟨w_112, w_34, w_111⟩
abbrev M_X12_isAhead : MI := (yX12_isAhead, cX12_isAhead, 7, (some .boolean), 2)
theorem ok_X12_isAhead : okM M_X12_isAhead 3 = true := by decide +kernel
theorem w_113 : Cond.code yX12_isAhead cX12_isAhead 7 (some .boolean) ∈ wsL_law := tin_6 (List.mem_of_getElem? (i := 175) (by decide +kernel)) rfl
theorem w_114 : Cond.instanceMethod yX12_isAhead ∈ wsL_law := tin_6 (List.mem_of_getElem? (i := 174) (by decide +kernel)) rfl
theorem w_115 : Cond.selects RX12 yX12_isAhead yX12_isAhead ∈ wsL_law := tip_3 (q := (yX12_isAhead, 40)) (List.mem_of_getElem? (i := 0) (by decide +kernel))
theorem wd_X12_isAhead : Wv M_X12_isAhead := ⟨w_114, w_115, w_34, w_113⟩
abbrev M_X12_roomOf : MI := (yX12_roomOf, cX12_roomOf, 1, (some .int), 1)
theorem ok_X12_roomOf : okM M_X12_roomOf 1 = true := by decide +kernel
theorem w_116 : Cond.code yX12_roomOf cX12_roomOf 1 (some .int) ∈ wsL_law := tin_6 (List.mem_of_getElem? (i := 178) (by decide +kernel)) rfl
theorem w_117 : Cond.static yX12_roomOf ∈ wsL_law := tin_6 (List.mem_of_getElem? (i := 177) (by decide +kernel)) rfl
theorem wd_X12_roomOf : Ws M_X12_roomOf := ⟨w_117, w_34, w_116⟩
abbrev M_X12_cut : MI := (yX12_cut, cX12_cut, 4, none, 0)
theorem ok_X12_cut : okM M_X12_cut 2 = true := by decide +kernel
theorem w_118 : Cond.code yX12_cut cX12_cut 4 none ∈ wsL_law := tin_7 (List.mem_of_getElem? (i := 1) (by decide +kernel)) rfl
theorem w_119 : Cond.instanceMethod yX12_cut ∈ wsL_law := tin_7 (List.mem_of_getElem? (i := 0) (by decide +kernel)) rfl
theorem w_120 : Cond.selects RX12 yX12_cut yX12_cut ∈ wsL_law := tip_3 (q := (yX12_cut, 40)) (List.mem_of_getElem? (i := 9) (by decide +kernel))
theorem wd_X12_cut : Wv M_X12_cut := ⟨w_119, w_120, w_34, w_118⟩
abbrev M_X12_comeInto : MI := (yX12_comeInto, cX12_comeInto, 8, none, 3)
theorem ok_X12_comeInto : okM M_X12_comeInto 2 = true := by decide +kernel
theorem w_121 : Cond.code yX12_comeInto cX12_comeInto 8 none ∈ wsL_law := tin_6 (List.mem_of_getElem? (i := 237) (by decide +kernel)) rfl
theorem w_122 : Cond.instanceMethod yX12_comeInto ∈ wsL_law := tin_6 (List.mem_of_getElem? (i := 236) (by decide +kernel)) rfl
theorem w_123 : Cond.selects RX12 yX12_comeInto yX12_comeInto ∈ wsL_law := tip_3 (q := (yX12_comeInto, 40)) (List.mem_of_getElem? (i := 8) (by decide +kernel))
theorem wd_X12_comeInto : Wv M_X12_comeInto := ⟨w_122, w_123, w_34, w_121⟩
abbrev M_X12_comeIntoAll : MI := (yX12_comeIntoAll, cX12_comeIntoAll, 3, none, 4)
theorem ok_X12_comeIntoAll : okM M_X12_comeIntoAll 1 = true := by decide +kernel
theorem w_124 : Cond.code yX12_comeIntoAll cX12_comeIntoAll 3 none ∈ wsL_law := tin_6 (List.mem_of_getElem? (i := 233) (by decide +kernel)) rfl
theorem w_125 : Cond.instanceMethod yX12_comeIntoAll ∈ wsL_law := tin_6 (List.mem_of_getElem? (i := 232) (by decide +kernel)) rfl
theorem w_126 : Cond.selects RX12 yX12_comeIntoAll yX12_comeIntoAll ∈ wsL_law := tip_3 (q := (yX12_comeIntoAll, 40)) (List.mem_of_getElem? (i := 7) (by decide +kernel))
theorem wd_X12_comeIntoAll : Wv M_X12_comeIntoAll := ⟨w_125, w_126, w_34, w_124⟩
abbrev M_X12_lay : MI := (yX12_lay, cX12_lay, 6, none, 5)
theorem ok_X12_lay : okM M_X12_lay 5 = true := by decide +kernel
theorem w_127 : Cond.code yX12_lay cX12_lay 6 none ∈ wsL_law := tin_6 (List.mem_of_getElem? (i := 229) (by decide +kernel)) rfl
theorem w_128 : Cond.instanceMethod yX12_lay ∈ wsL_law := tin_6 (List.mem_of_getElem? (i := 228) (by decide +kernel)) rfl
theorem w_129 : Cond.selects RX12 yX12_lay yX12_lay ∈ wsL_law := tip_3 (q := (yX12_lay, 40)) (List.mem_of_getElem? (i := 6) (by decide +kernel))
theorem wd_X12_lay : Wv M_X12_lay := ⟨w_128, w_129, w_34, w_127⟩
abbrev M_X12_row : MI := (yX12_row, cX12_row, 6, (some .int), 6)
theorem ok_X12_row : okM M_X12_row 4 = true := by decide +kernel
theorem w_130 : Cond.code yX12_row cX12_row 6 (some .int) ∈ wsL_law := tin_6 (List.mem_of_getElem? (i := 218) (by decide +kernel)) rfl
theorem w_131 : Cond.instanceMethod yX12_row ∈ wsL_law := tin_6 (List.mem_of_getElem? (i := 216) (by decide +kernel)) rfl
theorem w_132 : Cond.selects RX12 yX12_row yX12_row ∈ wsL_law := tin_6 (List.mem_of_getElem? (i := 217) (by decide +kernel)) rfl
theorem wd_X12_row : Wv M_X12_row := ⟨w_131, w_132, w_34, w_130⟩
abbrev M_X11_isSlot : MI := (yX11_isSlot, cX11_isSlot, 1, (some .boolean), 0)
theorem ok_X11_isSlot : okM M_X11_isSlot 1 = true := by decide +kernel
theorem w_133 : Cond.code yX11_isSlot cX11_isSlot 1 (some .boolean) ∈ wsL_law := tin_2 (List.mem_of_getElem? (i := 155) (by decide +kernel)) rfl
theorem w_134 : Cond.static yX11_isSlot ∈ wsL_law := tin_2 (List.mem_of_getElem? (i := 154) (by decide +kernel)) rfl
theorem wd_X11_isSlot : Ws M_X11_isSlot := ⟨w_134, w_31, w_133⟩
abbrev M_X8_holds : MI := (yX8_holds, cX8_holds, 2, (some .boolean), 1)
theorem ok_X8_holds : okM M_X8_holds 1 = true := by decide +kernel
theorem w_135 : Cond.code yX8_holds cX8_holds 2 (some .boolean) ∈ wsL_law := tin_2 (List.mem_of_getElem? (i := 152) (by decide +kernel)) rfl
theorem w_136 : Cond.instanceMethod yX8_holds ∈ wsL_law := tin_2 (List.mem_of_getElem? (i := 150) (by decide +kernel)) rfl
theorem w_137 : Cond.selects RX8 yX8_holds yX8_holds ∈ wsL_law := tin_2 (List.mem_of_getElem? (i := 151) (by decide +kernel)) rfl
theorem wd_X8_holds : Wv M_X8_holds := ⟨w_136, w_137, w_10, w_135⟩
abbrev M_X11_isColumn : MI := (yX11_isColumn, cX11_isColumn, 1, (some .boolean), 0)
theorem ok_X11_isColumn : okM M_X11_isColumn 1 = true := by decide +kernel
theorem w_138 : Cond.code yX11_isColumn cX11_isColumn 1 (some .boolean) ∈ wsL_law := tin_2 (List.mem_of_getElem? (i := 158) (by decide +kernel)) rfl
theorem w_139 : Cond.static yX11_isColumn ∈ wsL_law := tin_2 (List.mem_of_getElem? (i := 157) (by decide +kernel)) rfl
theorem wd_X11_isColumn : Ws M_X11_isColumn := ⟨w_139, w_31, w_138⟩
abbrev M_X1_placeOf : MI := (yX1_placeOf, cX1_placeOf, 4, (some .int), 1)
theorem ok_X1_placeOf : okM M_X1_placeOf 2 = true := by decide +kernel
theorem w_140 : Cond.code yX1_placeOf cX1_placeOf 4 (some .int) ∈ wsL_law := tin_2 (List.mem_of_getElem? (i := 171) (by decide +kernel)) rfl
theorem w_141 : Cond.instanceMethod yX1_placeOf ∈ wsL_law := tin_2 (List.mem_of_getElem? (i := 169) (by decide +kernel)) rfl
theorem w_142 : Cond.selects RX1 yX1_placeOf yX1_placeOf ∈ wsL_law := tin_2 (List.mem_of_getElem? (i := 170) (by decide +kernel)) rfl
theorem wd_X1_placeOf : Wv M_X1_placeOf := ⟨w_141, w_142, w_1, w_140⟩
abbrev M_X1_remove : MI := (yX1_remove, cX1_remove, 4, none, 1)
theorem ok_X1_remove : okM M_X1_remove 2 = true := by decide +kernel
theorem w_143 : Cond.code yX1_remove cX1_remove 4 none ∈ wsL_law := tin_2 (List.mem_of_getElem? (i := 175) (by decide +kernel)) rfl
theorem w_144 : Cond.instanceMethod yX1_remove ∈ wsL_law := tin_2 (List.mem_of_getElem? (i := 173) (by decide +kernel)) rfl
theorem w_145 : Cond.selects RX1 yX1_remove yX1_remove ∈ wsL_law := tin_2 (List.mem_of_getElem? (i := 174) (by decide +kernel)) rfl
theorem wd_X1_remove : Wv M_X1_remove := ⟨w_144, w_145, w_1, w_143⟩
abbrev M_X2_entryGoes : MI := (yX2_entryGoes, cX2_entryGoes, 4, none, 2)
theorem ok_X2_entryGoes : okM M_X2_entryGoes 1 = true := by decide +kernel
theorem w_146 : Cond.code yX2_entryGoes cX2_entryGoes 4 none ∈ wsL_law := tin_2 (List.mem_of_getElem? (i := 167) (by decide +kernel)) rfl
theorem w_147 : Cond.instanceMethod yX2_entryGoes ∈ wsL_law := tin_2 (List.mem_of_getElem? (i := 165) (by decide +kernel)) rfl
theorem w_148 : Cond.selects RX2 yX2_entryGoes yX2_entryGoes ∈ wsL_law := tin_2 (List.mem_of_getElem? (i := 166) (by decide +kernel)) rfl
theorem wd_X2_entryGoes : Wv M_X2_entryGoes := ⟨w_147, w_148, w_53, w_146⟩
abbrev M_X3_entriesGo : MI := (yX3_entriesGo, cX3_entriesGo, 4, none, 3)
theorem ok_X3_entriesGo : okM M_X3_entriesGo 1 = true := by decide +kernel
theorem w_149 : Cond.code yX3_entriesGo cX3_entriesGo 4 none ∈ wsL_law := tin_2 (List.mem_of_getElem? (i := 163) (by decide +kernel)) rfl
theorem w_150 : Cond.instanceMethod yX3_entriesGo ∈ wsL_law := tin_2 (List.mem_of_getElem? (i := 161) (by decide +kernel)) rfl
theorem w_151 : Cond.selects RX3 yX3_entriesGo yX3_entriesGo ∈ wsL_law := tin_2 (List.mem_of_getElem? (i := 162) (by decide +kernel)) rfl
theorem wd_X3_entriesGo : Wv M_X3_entriesGo := ⟨w_150, w_151, w_16, w_149⟩
abbrev M_X11_set : MI := (yX11_set, cX11_set, 5, (some .int), 6)
theorem ok_X11_set : okM M_X11_set 3 = true := by decide +kernel
theorem w_152 : Cond.code yX11_set cX11_set 5 (some .int) ∈ wsL_law := tin_2 (List.mem_of_getElem? (i := 148) (by decide +kernel)) rfl
theorem w_153 : Cond.instanceMethod yX11_set ∈ wsL_law := tin_2 (List.mem_of_getElem? (i := 146) (by decide +kernel)) rfl
theorem w_154 : Cond.selects RX11 yX11_set yX11_set ∈ wsL_law := tin_2 (List.mem_of_getElem? (i := 147) (by decide +kernel)) rfl
theorem wd_X11_set : Wv M_X11_set := ⟨w_153, w_154, w_31, w_152⟩
abbrev M_X12_isSlot : MI := (yX12_isSlot, cX12_isSlot, 2, (some .boolean), 1)
theorem ok_X12_isSlot : okM M_X12_isSlot 1 = true := by decide +kernel
theorem w_155 : Cond.code yX12_isSlot cX12_isSlot 2 (some .boolean) ∈ wsL_law := tin_7 (List.mem_of_getElem? (i := 9) (by decide +kernel)) rfl
theorem w_156 : Cond.instanceMethod yX12_isSlot ∈ wsL_law := tin_7 (List.mem_of_getElem? (i := 8) (by decide +kernel)) rfl
theorem w_157 : Cond.selects RX12 yX12_isSlot yX12_isSlot ∈ wsL_law := tip_3 (q := (yX12_isSlot, 40)) (List.mem_of_getElem? (i := 10) (by decide +kernel))
theorem wd_X12_isSlot : Wv M_X12_isSlot := ⟨w_156, w_157, w_34, w_155⟩
abbrev M_X12_goFrom : MI := (yX12_goFrom, cX12_goFrom, 7, none, 0)
theorem ok_X12_goFrom : okM M_X12_goFrom 2 = true := by decide +kernel
theorem w_158 : Cond.code yX12_goFrom cX12_goFrom 7 none ∈ wsL_law := tin_7 (List.mem_of_getElem? (i := 13) (by decide +kernel)) rfl
theorem w_159 : Cond.instanceMethod yX12_goFrom ∈ wsL_law := tin_7 (List.mem_of_getElem? (i := 12) (by decide +kernel)) rfl
theorem w_160 : Cond.selects RX12 yX12_goFrom yX12_goFrom ∈ wsL_law := tip_3 (q := (yX12_goFrom, 40)) (List.mem_of_getElem? (i := 11) (by decide +kernel))
theorem wd_X12_goFrom : Wv M_X12_goFrom := ⟨w_159, w_160, w_34, w_158⟩
abbrev M_X12_set : MI := (yX12_set, cX12_set, 6, (some .int), 5)
theorem ok_X12_set : okM M_X12_set 3 = true := by decide +kernel
theorem w_161 : Cond.code yX12_set cX12_set 6 (some .int) ∈ wsL_law := tin_7 (List.mem_of_getElem? (i := 5) (by decide +kernel)) rfl
theorem w_162 : Cond.instanceMethod yX12_set ∈ wsL_law := tin_7 (List.mem_of_getElem? (i := 3) (by decide +kernel)) rfl
theorem w_163 : Cond.selects RX12 yX12_set yX12_set ∈ wsL_law := tin_7 (List.mem_of_getElem? (i := 4) (by decide +kernel)) rfl
theorem wd_X12_set : Wv M_X12_set := ⟨w_162, w_163, w_34, w_161⟩
abbrev M_X8_release : MI := (yX8_release, cX8_release, 2, none, 0)
theorem ok_X8_release : okM M_X8_release 1 = true := by decide +kernel
theorem w_164 : Cond.code yX8_release cX8_release 2 none ∈ wsL_law := tin_2 (List.mem_of_getElem? (i := 183) (by decide +kernel)) rfl
theorem w_165 : Cond.instanceMethod yX8_release ∈ wsL_law := tin_2 (List.mem_of_getElem? (i := 181) (by decide +kernel)) rfl
theorem w_166 : Cond.selects RX8 yX8_release yX8_release ∈ wsL_law := tin_2 (List.mem_of_getElem? (i := 182) (by decide +kernel)) rfl
theorem wd_X8_release : Wv M_X8_release := ⟨w_165, w_166, w_10, w_164⟩
abbrev M_J13_bitCount_95d88 : MI := (yJ13_bitCount_95d88, cJ13_bitCount_95d88, 2, (some .int), 0)
theorem ok_J13_bitCount_95d88 : okM M_J13_bitCount_95d88 1 = true := by decide +kernel
theorem w_167 : Cond.code yJ13_bitCount_95d88 cJ13_bitCount_95d88 2 (some .int) ∈ wsL_law := tin_2 (List.mem_of_getElem? (i := 191) (by decide +kernel)) rfl
theorem w_168 : Cond.initialized RJ13 ∈ wsL_law := tin_1 (List.mem_of_getElem? (i := 13) (by decide +kernel)) rfl
theorem w_169 : Cond.static yJ13_bitCount_95d88 ∈ wsL_law := tin_2 (List.mem_of_getElem? (i := 190) (by decide +kernel)) rfl
theorem wd_J13_bitCount_95d88 : Ws M_J13_bitCount_95d88 := ⟨w_169, w_168, w_167⟩
abbrev M_X8_rows : MI := (yX8_rows, cX8_rows, 1, (some .int), 1)
theorem ok_X8_rows : okM M_X8_rows 0 = true := by decide +kernel
theorem w_170 : Cond.code yX8_rows cX8_rows 1 (some .int) ∈ wsL_law := tin_2 (List.mem_of_getElem? (i := 188) (by decide +kernel)) rfl
theorem w_171 : Cond.instanceMethod yX8_rows ∈ wsL_law := tin_2 (List.mem_of_getElem? (i := 186) (by decide +kernel)) rfl
theorem w_172 : Cond.selects RX8 yX8_rows yX8_rows ∈ wsL_law := tin_2 (List.mem_of_getElem? (i := 187) (by decide +kernel)) rfl
theorem wd_X8_rows : Wv M_X8_rows := ⟨w_171, w_172, w_10, w_170⟩
abbrev M_X11_drop : MI := (yX11_drop, cX11_drop, 2, (some .int), 4)
theorem ok_X11_drop : okM M_X11_drop 1 = true := by decide +kernel
theorem w_173 : Cond.code yX11_drop cX11_drop 2 (some .int) ∈ wsL_law := tin_2 (List.mem_of_getElem? (i := 179) (by decide +kernel)) rfl
theorem w_174 : Cond.instanceMethod yX11_drop ∈ wsL_law := tin_2 (List.mem_of_getElem? (i := 177) (by decide +kernel)) rfl
theorem w_175 : Cond.selects RX11 yX11_drop yX11_drop ∈ wsL_law := tin_2 (List.mem_of_getElem? (i := 178) (by decide +kernel)) rfl
theorem wd_X11_drop : Wv M_X11_drop := ⟨w_174, w_175, w_31, w_173⟩
abbrev M_X12_drop : MI := (yX12_drop, cX12_drop, 3, (some .int), 2)
theorem ok_X12_drop : okM M_X12_drop 1 = true := by decide +kernel
theorem w_176 : Cond.code yX12_drop cX12_drop 3 (some .int) ∈ wsL_law := tin_7 (List.mem_of_getElem? (i := 17) (by decide +kernel)) rfl
theorem w_177 : Cond.instanceMethod yX12_drop ∈ wsL_law := tin_7 (List.mem_of_getElem? (i := 15) (by decide +kernel)) rfl
theorem w_178 : Cond.selects RX12 yX12_drop yX12_drop ∈ wsL_law := tin_7 (List.mem_of_getElem? (i := 16) (by decide +kernel)) rfl
theorem wd_X12_drop : Wv M_X12_drop := ⟨w_177, w_178, w_34, w_176⟩
abbrev M_X11_rest : MI := (yX11_rest, cX11_rest, 2, (some .int), 0)
theorem ok_X11_rest : okM M_X11_rest 2 = true := by decide +kernel
theorem w_179 : Cond.code yX11_rest cX11_rest 2 (some .int) ∈ wsL_law := tin_2 (List.mem_of_getElem? (i := 205) (by decide +kernel)) rfl
theorem w_180 : Cond.static yX11_rest ∈ wsL_law := tin_2 (List.mem_of_getElem? (i := 204) (by decide +kernel)) rfl
theorem wd_X11_rest : Ws M_X11_rest := ⟨w_180, w_31, w_179⟩
abbrev M_X11_fill : MI := (yX11_fill, cX11_fill, 10, (some .int), 7)
theorem ok_X11_fill : okM M_X11_fill 3 = true := by decide +kernel
theorem w_181 : Cond.code yX11_fill cX11_fill 10 (some .int) ∈ wsL_law := tin_2 (List.mem_of_getElem? (i := 198) (by decide +kernel)) rfl
theorem w_182 : Cond.instanceMethod yX11_fill ∈ wsL_law := tin_2 (List.mem_of_getElem? (i := 196) (by decide +kernel)) rfl
theorem w_183 : Cond.selects RX11 yX11_fill yX11_fill ∈ wsL_law := tin_2 (List.mem_of_getElem? (i := 197) (by decide +kernel)) rfl
theorem wd_X11_fill : Wv M_X11_fill := ⟨w_182, w_183, w_31, w_181⟩
abbrev M_X12_nextNumber : MI := (yX12_nextNumber, cX12_nextNumber, 2, (some .int), 0)
theorem ok_X12_nextNumber : okM M_X12_nextNumber 1 = true := by decide +kernel
theorem w_184 : Cond.code yX12_nextNumber cX12_nextNumber 2 (some .int) ∈ wsL_law := tin_7 (List.mem_of_getElem? (i := 25) (by decide +kernel)) rfl
theorem w_185 : Cond.instanceMethod yX12_nextNumber ∈ wsL_law := tin_7 (List.mem_of_getElem? (i := 24) (by decide +kernel)) rfl
theorem w_186 : Cond.selects RX12 yX12_nextNumber yX12_nextNumber ∈ wsL_law := tip_3 (q := (yX12_nextNumber, 40)) (List.mem_of_getElem? (i := 12) (by decide +kernel))
theorem wd_X12_nextNumber : Wv M_X12_nextNumber := ⟨w_185, w_186, w_34, w_184⟩
abbrev M_X12_fill : MI := (yX12_fill, cX12_fill, 9, (some .int), 6)
theorem ok_X12_fill : okM M_X12_fill 3 = true := by decide +kernel
theorem w_187 : Cond.code yX12_fill cX12_fill 9 (some .int) ∈ wsL_law := tin_7 (List.mem_of_getElem? (i := 21) (by decide +kernel)) rfl
theorem w_188 : Cond.instanceMethod yX12_fill ∈ wsL_law := tin_7 (List.mem_of_getElem? (i := 19) (by decide +kernel)) rfl
theorem w_189 : Cond.selects RX12 yX12_fill yX12_fill ∈ wsL_law := tin_7 (List.mem_of_getElem? (i := 20) (by decide +kernel)) rfl
theorem wd_X12_fill : Wv M_X12_fill := ⟨w_188, w_189, w_34, w_187⟩
abbrev M_X11_get : MI := (yX11_get, cX11_get, 3, (some .int), 2)
theorem ok_X11_get : okM M_X11_get 2 = true := by decide +kernel
theorem w_190 : Cond.code yX11_get cX11_get 3 (some .int) ∈ wsL_law := tin_2 (List.mem_of_getElem? (i := 209) (by decide +kernel)) rfl
theorem w_191 : Cond.instanceMethod yX11_get ∈ wsL_law := tin_2 (List.mem_of_getElem? (i := 207) (by decide +kernel)) rfl
theorem w_192 : Cond.selects RX11 yX11_get yX11_get ∈ wsL_law := tin_2 (List.mem_of_getElem? (i := 208) (by decide +kernel)) rfl
theorem wd_X11_get : Wv M_X11_get := ⟨w_191, w_192, w_31, w_190⟩
abbrev M_X12_get : MI := (yX12_get, cX12_get, 3, (some .int), 1)
theorem ok_X12_get : okM M_X12_get 2 = true := by decide +kernel
theorem w_193 : Cond.code yX12_get cX12_get 3 (some .int) ∈ wsL_law := tin_7 (List.mem_of_getElem? (i := 33) (by decide +kernel)) rfl
theorem w_194 : Cond.instanceMethod yX12_get ∈ wsL_law := tin_7 (List.mem_of_getElem? (i := 31) (by decide +kernel)) rfl
theorem w_195 : Cond.selects RX12 yX12_get yX12_get ∈ wsL_law := tin_7 (List.mem_of_getElem? (i := 32) (by decide +kernel)) rfl
theorem wd_X12_get : Wv M_X12_get := ⟨w_194, w_195, w_34, w_193⟩
abbrev M_X8_pageWidth : MI := (yX8_pageWidth, cX8_pageWidth, 1, (some .int), 0)
theorem ok_X8_pageWidth : okM M_X8_pageWidth 0 = true := by decide +kernel
theorem w_196 : Cond.code yX8_pageWidth cX8_pageWidth 1 (some .int) ∈ wsL_law := tin_2 (List.mem_of_getElem? (i := 218) (by decide +kernel)) rfl
theorem w_197 : Cond.instanceMethod yX8_pageWidth ∈ wsL_law := tin_2 (List.mem_of_getElem? (i := 216) (by decide +kernel)) rfl
theorem w_198 : Cond.selects RX8 yX8_pageWidth yX8_pageWidth ∈ wsL_law := tin_2 (List.mem_of_getElem? (i := 217) (by decide +kernel)) rfl
theorem wd_X8_pageWidth : Wv M_X8_pageWidth := ⟨w_197, w_198, w_10, w_196⟩
abbrev M_X8_widen : MI := (yX8_widen, cX8_widen, 2, none, 0)
theorem ok_X8_widen : okM M_X8_widen 1 = true := by decide +kernel
theorem w_199 : Cond.code yX8_widen cX8_widen 2 none ∈ wsL_law := tin_2 (List.mem_of_getElem? (i := 222) (by decide +kernel)) rfl
theorem w_200 : Cond.instanceMethod yX8_widen ∈ wsL_law := tin_2 (List.mem_of_getElem? (i := 220) (by decide +kernel)) rfl
theorem w_201 : Cond.selects RX8 yX8_widen yX8_widen ∈ wsL_law := tin_2 (List.mem_of_getElem? (i := 221) (by decide +kernel)) rfl
theorem wd_X8_widen : Wv M_X8_widen := ⟨w_200, w_201, w_10, w_199⟩
abbrev M_X11_wide : MI := (yX11_wide, cX11_wide, 3, (some .int), 1)
theorem ok_X11_wide : okM M_X11_wide 1 = true := by decide +kernel
theorem w_202 : Cond.code yX11_wide cX11_wide 3 (some .int) ∈ wsL_law := tin_2 (List.mem_of_getElem? (i := 214) (by decide +kernel)) rfl
theorem w_203 : Cond.instanceMethod yX11_wide ∈ wsL_law := tin_2 (List.mem_of_getElem? (i := 212) (by decide +kernel)) rfl
theorem w_204 : Cond.selects RX11 yX11_wide yX11_wide ∈ wsL_law := tin_2 (List.mem_of_getElem? (i := 213) (by decide +kernel)) rfl
theorem wd_X11_wide : Wv M_X11_wide := ⟨w_203, w_204, w_31, w_202⟩
abbrev M_X12_wide : MI := (yX12_wide, cX12_wide, 3, (some .int), 1)
theorem ok_X12_wide : okM M_X12_wide 1 = true := by decide +kernel
theorem w_205 : Cond.code yX12_wide cX12_wide 3 (some .int) ∈ wsL_law := tin_7 (List.mem_of_getElem? (i := 37) (by decide +kernel)) rfl
theorem w_206 : Cond.instanceMethod yX12_wide ∈ wsL_law := tin_7 (List.mem_of_getElem? (i := 35) (by decide +kernel)) rfl
theorem w_207 : Cond.selects RX12 yX12_wide yX12_wide ∈ wsL_law := tin_7 (List.mem_of_getElem? (i := 36) (by decide +kernel)) rfl
theorem wd_X12_wide : Wv M_X12_wide := ⟨w_206, w_207, w_34, w_205⟩
abbrev M_X11_has : MI := (yX11_has, cX11_has, 2, (some .boolean), 0)
theorem ok_X11_has : okM M_X11_has 2 = true := by decide +kernel
theorem w_208 : Cond.code yX11_has cX11_has 2 (some .boolean) ∈ wsL_law := tin_2 (List.mem_of_getElem? (i := 232) (by decide +kernel)) rfl
theorem w_209 : Cond.static yX11_has ∈ wsL_law := tin_2 (List.mem_of_getElem? (i := 231) (by decide +kernel)) rfl
theorem wd_X11_has : Ws M_X11_has := ⟨w_209, w_31, w_208⟩
abbrev M_X11_with : MI := (yX11_with, cX11_with, 2, (some .int), 0)
theorem ok_X11_with : okM M_X11_with 2 = true := by decide +kernel
theorem w_210 : Cond.code yX11_with cX11_with 2 (some .int) ∈ wsL_law := tin_2 (List.mem_of_getElem? (i := 235) (by decide +kernel)) rfl
theorem w_211 : Cond.static yX11_with ∈ wsL_law := tin_2 (List.mem_of_getElem? (i := 234) (by decide +kernel)) rfl
theorem wd_X11_with : Ws M_X11_with := ⟨w_211, w_31, w_210⟩
abbrev M_X2_isKey : MI := (yX2_isKey, cX2_isKey, 5, (some .boolean), 1)
theorem ok_X2_isKey : okM M_X2_isKey 1 = true := by decide +kernel
theorem w_212 : Cond.code yX2_isKey cX2_isKey 5 (some .boolean) ∈ wsL_law := tin_2 (List.mem_of_getElem? (i := 229) (by decide +kernel)) rfl
theorem w_213 : Cond.static yX2_isKey ∈ wsL_law := tin_2 (List.mem_of_getElem? (i := 228) (by decide +kernel)) rfl
theorem wd_X2_isKey : Ws M_X2_isKey := ⟨w_213, w_53, w_212⟩
abbrev M_X2_key : MI := (yX2_key, cX2_key, 1, (some .int), 0)
theorem ok_X2_key : okM M_X2_key 0 = true := by decide +kernel
theorem w_214 : Cond.code yX2_key cX2_key 1 (some .int) ∈ wsL_law := tin_3 (List.mem_of_getElem? (i := 3) (by decide +kernel)) rfl
theorem w_215 : Cond.instanceMethod yX2_key ∈ wsL_law := tin_3 (List.mem_of_getElem? (i := 1) (by decide +kernel)) rfl
theorem w_216 : Cond.selects RX2 yX2_key yX2_key ∈ wsL_law := tin_3 (List.mem_of_getElem? (i := 2) (by decide +kernel)) rfl
theorem wd_X2_key : Wv M_X2_key := ⟨w_215, w_216, w_53, w_214⟩
abbrev M_X3_haveKey : MI := (yX3_haveKey, cX3_haveKey, 4, (some .boolean), 2)
theorem ok_X3_haveKey : okM M_X3_haveKey 1 = true := by decide +kernel
theorem w_217 : Cond.code yX3_haveKey cX3_haveKey 4 (some .boolean) ∈ wsL_law := tin_2 (List.mem_of_getElem? (i := 239) (by decide +kernel)) rfl
theorem w_218 : Cond.instanceMethod yX3_haveKey ∈ wsL_law := tin_2 (List.mem_of_getElem? (i := 237) (by decide +kernel)) rfl
theorem w_219 : Cond.selects RX3 yX3_haveKey yX3_haveKey ∈ wsL_law := tin_2 (List.mem_of_getElem? (i := 238) (by decide +kernel)) rfl
theorem wd_X3_haveKey : Wv M_X3_haveKey := ⟨w_218, w_219, w_16, w_217⟩
abbrev M_X3_told : MI := (yX3_told, cX3_told, 1, (some .int), 0)
theorem ok_X3_told : okM M_X3_told 0 = true := by decide +kernel
theorem w_220 : Cond.code yX3_told cX3_told 1 (some .int) ∈ wsL_law := tin_3 (List.mem_of_getElem? (i := 7) (by decide +kernel)) rfl
theorem w_221 : Cond.instanceMethod yX3_told ∈ wsL_law := tin_3 (List.mem_of_getElem? (i := 5) (by decide +kernel)) rfl
theorem w_222 : Cond.selects RX3 yX3_told yX3_told ∈ wsL_law := tin_3 (List.mem_of_getElem? (i := 6) (by decide +kernel)) rfl
theorem wd_X3_told : Wv M_X3_told := ⟨w_221, w_222, w_16, w_220⟩
abbrev M_X2_init : MI := (yX2_init, cX2_init, 7, none, 2)
theorem ok_X2_init : okM M_X2_init 2 = true := by decide +kernel
theorem w_223 : Cond.code yX2_init cX2_init 7 none ∈ wsL_law := tin_3 (List.mem_of_getElem? (i := 14) (by decide +kernel)) rfl
theorem w_224 : Cond.instanceMethod yX2_init ∈ wsL_law := tin_3 (List.mem_of_getElem? (i := 13) (by decide +kernel)) rfl
theorem wd_X2_init : Wi M_X2_init := ⟨w_224, w_53, w_223⟩
abbrev M_X2_fillLeaves : MI := (yX2_fillLeaves, cX2_fillLeaves, 2, none, 1)
theorem ok_X2_fillLeaves : okM M_X2_fillLeaves 0 = true := by decide +kernel
theorem w_225 : Cond.code yX2_fillLeaves cX2_fillLeaves 2 none ∈ wsL_law := tin_3 (List.mem_of_getElem? (i := 63) (by decide +kernel)) rfl
theorem w_226 : Cond.instanceMethod yX2_fillLeaves ∈ wsL_law := tin_3 (List.mem_of_getElem? (i := 61) (by decide +kernel)) rfl
theorem w_227 : Cond.selects RX2 yX2_fillLeaves yX2_fillLeaves ∈ wsL_law := tin_3 (List.mem_of_getElem? (i := 62) (by decide +kernel)) rfl
theorem wd_X2_fillLeaves : Wv M_X2_fillLeaves := ⟨w_226, w_227, w_53, w_225⟩
abbrev M_X2_rebuild : MI := (yX2_rebuild, cX2_rebuild, 2, none, 4)
theorem ok_X2_rebuild : okM M_X2_rebuild 0 = true := by decide +kernel
theorem w_228 : Cond.code yX2_rebuild cX2_rebuild 2 none ∈ wsL_law := tin_3 (List.mem_of_getElem? (i := 58) (by decide +kernel)) rfl
theorem w_229 : Cond.instanceMethod yX2_rebuild ∈ wsL_law := tin_3 (List.mem_of_getElem? (i := 56) (by decide +kernel)) rfl
theorem w_230 : Cond.selects RX2 yX2_rebuild yX2_rebuild ∈ wsL_law := tin_3 (List.mem_of_getElem? (i := 57) (by decide +kernel)) rfl
theorem wd_X2_rebuild : Wv M_X2_rebuild := ⟨w_229, w_230, w_53, w_228⟩
abbrev M_X3_tell : MI := (yX3_tell, cX3_tell, 4, (some .int), 5)
theorem ok_X3_tell : okM M_X3_tell 1 = true := by decide +kernel
theorem w_231 : Cond.code yX3_tell cX3_tell 4 (some .int) ∈ wsL_law := tin_3 (List.mem_of_getElem? (i := 11) (by decide +kernel)) rfl
theorem w_232 : Cond.instanceMethod yX3_tell ∈ wsL_law := tin_3 (List.mem_of_getElem? (i := 9) (by decide +kernel)) rfl
theorem w_233 : Cond.selects RX3 yX3_tell yX3_tell ∈ wsL_law := tin_3 (List.mem_of_getElem? (i := 10) (by decide +kernel)) rfl
theorem wd_X3_tell : Wv M_X3_tell := ⟨w_232, w_233, w_16, w_231⟩
abbrev M_X11_order : MI := (yX11_order, cX11_order, 2, (some .int), 6)
theorem ok_X11_order : okM M_X11_order 1 = true := by decide +kernel
theorem w_234 : Cond.code yX11_order cX11_order 2 (some .int) ∈ wsL_law := tin_2 (List.mem_of_getElem? (i := 226) (by decide +kernel)) rfl
theorem w_235 : Cond.instanceMethod yX11_order ∈ wsL_law := tin_2 (List.mem_of_getElem? (i := 224) (by decide +kernel)) rfl
theorem w_236 : Cond.selects RX11 yX11_order yX11_order ∈ wsL_law := tin_2 (List.mem_of_getElem? (i := 225) (by decide +kernel)) rfl
theorem wd_X11_order : Wv M_X11_order := ⟨w_235, w_236, w_31, w_234⟩
abbrev M_X12_isKey : MI := (yX12_isKey, cX12_isKey, 5, (some .boolean), 2)
theorem ok_X12_isKey : okM M_X12_isKey 1 = true := by decide +kernel
theorem w_237 : Cond.code yX12_isKey cX12_isKey 5 (some .boolean) ∈ wsL_law := tin_6 (List.mem_of_getElem? (i := 158) (by decide +kernel)) rfl
theorem w_238 : Cond.static yX12_isKey ∈ wsL_law := tin_6 (List.mem_of_getElem? (i := 157) (by decide +kernel)) rfl
theorem wd_X12_isKey : Ws M_X12_isKey := ⟨w_238, w_34, w_237⟩
abbrev M_X12_packOne : MI := (yX12_packOne, cX12_packOne, 5, none, 3)
theorem ok_X12_packOne : okM M_X12_packOne 1 = true := by decide +kernel
theorem w_239 : Cond.code yX12_packOne cX12_packOne 5 none ∈ wsL_law := tin_6 (List.mem_of_getElem? (i := 171) (by decide +kernel)) rfl
theorem w_240 : Cond.instanceMethod yX12_packOne ∈ wsL_law := tin_6 (List.mem_of_getElem? (i := 170) (by decide +kernel)) rfl
theorem w_241 : Cond.selects RX12 yX12_packOne yX12_packOne ∈ wsL_law := tip_2 (q := (yX12_packOne, 40)) (List.mem_of_getElem? (i := 15) (by decide +kernel))
theorem wd_X12_packOne : Wv M_X12_packOne := ⟨w_240, w_241, w_34, w_239⟩
abbrev M_X12_order : MI := (yX12_order, cX12_order, 3, (some .int), 4)
theorem ok_X12_order : okM M_X12_order 1 = true := by decide +kernel
theorem w_242 : Cond.code yX12_order cX12_order 3 (some .int) ∈ wsL_law := tin_6 (List.mem_of_getElem? (i := 155) (by decide +kernel)) rfl
theorem w_243 : Cond.instanceMethod yX12_order ∈ wsL_law := tin_6 (List.mem_of_getElem? (i := 153) (by decide +kernel)) rfl
theorem w_244 : Cond.selects RX12 yX12_order yX12_order ∈ wsL_law := tin_6 (List.mem_of_getElem? (i := 154) (by decide +kernel)) rfl
theorem wd_X12_order : Wv M_X12_order := ⟨w_243, w_244, w_34, w_242⟩
abbrev M_X2_dismiss : MI := (yX2_dismiss, cX2_dismiss, 1, none, 0)
theorem ok_X2_dismiss : okM M_X2_dismiss 0 = true := by decide +kernel
theorem w_245 : Cond.code yX2_dismiss cX2_dismiss 1 none ∈ wsL_law := tin_3 (List.mem_of_getElem? (i := 75) (by decide +kernel)) rfl
theorem w_246 : Cond.instanceMethod yX2_dismiss ∈ wsL_law := tin_3 (List.mem_of_getElem? (i := 73) (by decide +kernel)) rfl
theorem w_247 : Cond.selects RX2 yX2_dismiss yX2_dismiss ∈ wsL_law := tin_3 (List.mem_of_getElem? (i := 74) (by decide +kernel)) rfl
theorem wd_X2_dismiss : Wv M_X2_dismiss := ⟨w_246, w_247, w_53, w_245⟩
abbrev M_X2_height : MI := (yX2_height, cX2_height, 3, (some .int), 2)
theorem ok_X2_height : okM M_X2_height 0 = true := by decide +kernel
theorem w_248 : Cond.code yX2_height cX2_height 3 (some .int) ∈ wsL_law := tin_3 (List.mem_of_getElem? (i := 83) (by decide +kernel)) rfl
theorem w_249 : Cond.instanceMethod yX2_height ∈ wsL_law := tin_3 (List.mem_of_getElem? (i := 81) (by decide +kernel)) rfl
theorem w_250 : Cond.selects RX2 yX2_height yX2_height ∈ wsL_law := tin_3 (List.mem_of_getElem? (i := 82) (by decide +kernel)) rfl
theorem wd_X2_height : Wv M_X2_height := ⟨w_249, w_250, w_53, w_248⟩
abbrev M_X2_size : MI := (yX2_size, cX2_size, 4, (some .int), 3)
theorem ok_X2_size : okM M_X2_size 0 = true := by decide +kernel
theorem w_251 : Cond.code yX2_size cX2_size 4 (some .int) ∈ wsL_law := tin_3 (List.mem_of_getElem? (i := 79) (by decide +kernel)) rfl
theorem w_252 : Cond.instanceMethod yX2_size ∈ wsL_law := tin_3 (List.mem_of_getElem? (i := 77) (by decide +kernel)) rfl
theorem w_253 : Cond.selects RX2 yX2_size yX2_size ∈ wsL_law := tin_3 (List.mem_of_getElem? (i := 78) (by decide +kernel)) rfl
theorem wd_X2_size : Wv M_X2_size := ⟨w_252, w_253, w_53, w_251⟩
abbrev M_X11_lose : MI := (yX11_lose, cX11_lose, 3, (some .int), 4)
theorem ok_X11_lose : okM M_X11_lose 1 = true := by decide +kernel
theorem w_254 : Cond.code yX11_lose cX11_lose 3 (some .int) ∈ wsL_law := tin_3 (List.mem_of_getElem? (i := 70) (by decide +kernel)) rfl
theorem w_255 : Cond.instanceMethod yX11_lose ∈ wsL_law := tin_3 (List.mem_of_getElem? (i := 68) (by decide +kernel)) rfl
theorem w_256 : Cond.selects RX11 yX11_lose yX11_lose ∈ wsL_law := tin_3 (List.mem_of_getElem? (i := 69) (by decide +kernel)) rfl
theorem wd_X11_lose : Wv M_X11_lose := ⟨w_255, w_256, w_31, w_254⟩
abbrev M_X12_isOrder : MI := (yX12_isOrder, cX12_isOrder, 2, (some .boolean), 1)
theorem ok_X12_isOrder : okM M_X12_isOrder 1 = true := by decide +kernel
theorem w_257 : Cond.code yX12_isOrder cX12_isOrder 2 (some .boolean) ∈ wsL_law := tin_6 (List.mem_of_getElem? (i := 186) (by decide +kernel)) rfl
theorem w_258 : Cond.instanceMethod yX12_isOrder ∈ wsL_law := tin_6 (List.mem_of_getElem? (i := 185) (by decide +kernel)) rfl
theorem w_259 : Cond.selects RX12 yX12_isOrder yX12_isOrder ∈ wsL_law := tip_3 (q := (yX12_isOrder, 40)) (List.mem_of_getElem? (i := 1) (by decide +kernel))
theorem wd_X12_isOrder : Wv M_X12_isOrder := ⟨w_258, w_259, w_34, w_257⟩
abbrev M_X12_sizeOf : MI := (yX12_sizeOf, cX12_sizeOf, 4, (some .int), 0)
theorem ok_X12_sizeOf : okM M_X12_sizeOf 1 = true := by decide +kernel
theorem w_260 : Cond.code yX12_sizeOf cX12_sizeOf 4 (some .int) ∈ wsL_law := tin_6 (List.mem_of_getElem? (i := 190) (by decide +kernel)) rfl
theorem w_261 : Cond.instanceMethod yX12_sizeOf ∈ wsL_law := tin_6 (List.mem_of_getElem? (i := 189) (by decide +kernel)) rfl
theorem w_262 : Cond.selects RX12 yX12_sizeOf yX12_sizeOf ∈ wsL_law := tip_3 (q := (yX12_sizeOf, 40)) (List.mem_of_getElem? (i := 2) (by decide +kernel))
theorem wd_X12_sizeOf : Wv M_X12_sizeOf := ⟨w_261, w_262, w_34, w_260⟩
abbrev M_X12_lose : MI := (yX12_lose, cX12_lose, 2, (some .int), 2)
theorem ok_X12_lose : okM M_X12_lose 1 = true := by decide +kernel
theorem w_263 : Cond.code yX12_lose cX12_lose 2 (some .int) ∈ wsL_law := tin_6 (List.mem_of_getElem? (i := 182) (by decide +kernel)) rfl
theorem w_264 : Cond.instanceMethod yX12_lose ∈ wsL_law := tin_6 (List.mem_of_getElem? (i := 180) (by decide +kernel)) rfl
theorem w_265 : Cond.selects RX12 yX12_lose yX12_lose ∈ wsL_law := tin_6 (List.mem_of_getElem? (i := 181) (by decide +kernel)) rfl
theorem wd_X12_lose : Wv M_X12_lose := ⟨w_264, w_265, w_34, w_263⟩
abbrev M_X11_pack : MI := (yX11_pack, cX11_pack, 4, (some .int), 4)
theorem ok_X11_pack : okM M_X11_pack 1 = true := by decide +kernel
theorem w_266 : Cond.code yX11_pack cX11_pack 4 (some .int) ∈ wsL_law := tin_3 (List.mem_of_getElem? (i := 87) (by decide +kernel)) rfl
theorem w_267 : Cond.instanceMethod yX11_pack ∈ wsL_law := tin_3 (List.mem_of_getElem? (i := 85) (by decide +kernel)) rfl
theorem w_268 : Cond.selects RX11 yX11_pack yX11_pack ∈ wsL_law := tin_3 (List.mem_of_getElem? (i := 86) (by decide +kernel)) rfl
theorem wd_X11_pack : Wv M_X11_pack := ⟨w_267, w_268, w_31, w_266⟩
abbrev M_X12_pack : MI := (yX12_pack, cX12_pack, 3, (some .int), 4)
theorem ok_X12_pack : okM M_X12_pack 1 = true := by decide +kernel
theorem w_269 : Cond.code yX12_pack cX12_pack 3 (some .int) ∈ wsL_law := tin_6 (List.mem_of_getElem? (i := 194) (by decide +kernel)) rfl
theorem w_270 : Cond.instanceMethod yX12_pack ∈ wsL_law := tin_6 (List.mem_of_getElem? (i := 192) (by decide +kernel)) rfl
theorem w_271 : Cond.selects RX12 yX12_pack yX12_pack ∈ wsL_law := tin_6 (List.mem_of_getElem? (i := 193) (by decide +kernel)) rfl
theorem wd_X12_pack : Wv M_X12_pack := ⟨w_270, w_271, w_34, w_269⟩
abbrev M_X2_leaves : MI := (yX2_leaves, cX2_leaves, 1, (some .int), 0)
theorem ok_X2_leaves : okM M_X2_leaves 0 = true := by decide +kernel
theorem w_272 : Cond.code yX2_leaves cX2_leaves 1 (some .int) ∈ wsL_law := tin_3 (List.mem_of_getElem? (i := 97) (by decide +kernel)) rfl
theorem w_273 : Cond.instanceMethod yX2_leaves ∈ wsL_law := tin_3 (List.mem_of_getElem? (i := 95) (by decide +kernel)) rfl
theorem w_274 : Cond.selects RX2 yX2_leaves yX2_leaves ∈ wsL_law := tin_3 (List.mem_of_getElem? (i := 96) (by decide +kernel)) rfl
theorem wd_X2_leaves : Wv M_X2_leaves := ⟨w_273, w_274, w_53, w_272⟩
abbrev M_X2_cuts : MI := (yX2_cuts, cX2_cuts, 1, (some .int), 0)
theorem ok_X2_cuts : okM M_X2_cuts 0 = true := by decide +kernel
theorem w_275 : Cond.code yX2_cuts cX2_cuts 1 (some .int) ∈ wsL_law := tin_3 (List.mem_of_getElem? (i := 102) (by decide +kernel)) rfl
theorem w_276 : Cond.instanceMethod yX2_cuts ∈ wsL_law := tin_3 (List.mem_of_getElem? (i := 100) (by decide +kernel)) rfl
theorem w_277 : Cond.selects RX2 yX2_cuts yX2_cuts ∈ wsL_law := tin_3 (List.mem_of_getElem? (i := 101) (by decide +kernel)) rfl
theorem wd_X2_cuts : Wv M_X2_cuts := ⟨w_276, w_277, w_53, w_275⟩
abbrev M_X11_about : MI := (yX11_about, cX11_about, 4, (some .int), 4)
theorem ok_X11_about : okM M_X11_about 2 = true := by decide +kernel
theorem w_278 : Cond.code yX11_about cX11_about 4 (some .int) ∈ wsL_law := tin_3 (List.mem_of_getElem? (i := 92) (by decide +kernel)) rfl
theorem w_279 : Cond.instanceMethod yX11_about ∈ wsL_law := tin_3 (List.mem_of_getElem? (i := 90) (by decide +kernel)) rfl
theorem w_280 : Cond.selects RX11 yX11_about yX11_about ∈ wsL_law := tin_3 (List.mem_of_getElem? (i := 91) (by decide +kernel)) rfl
theorem wd_X11_about : Wv M_X11_about := ⟨w_279, w_280, w_31, w_278⟩
abbrev M_X12_heightOf : MI := (yX12_heightOf, cX12_heightOf, 4, (some .int), 0)
theorem ok_X12_heightOf : okM M_X12_heightOf 1 = true := by decide +kernel
theorem w_281 : Cond.code yX12_heightOf cX12_heightOf 4 (some .int) ∈ wsL_law := tin_6 (List.mem_of_getElem? (i := 206) (by decide +kernel)) rfl
theorem w_282 : Cond.instanceMethod yX12_heightOf ∈ wsL_law := tin_6 (List.mem_of_getElem? (i := 205) (by decide +kernel)) rfl
theorem w_283 : Cond.selects RX12 yX12_heightOf yX12_heightOf ∈ wsL_law := tip_3 (q := (yX12_heightOf, 40)) (List.mem_of_getElem? (i := 4) (by decide +kernel))
theorem wd_X12_heightOf : Wv M_X12_heightOf := ⟨w_282, w_283, w_34, w_281⟩
abbrev M_X12_aboutOf : MI := (yX12_aboutOf, cX12_aboutOf, 3, (some .int), 1)
theorem ok_X12_aboutOf : okM M_X12_aboutOf 2 = true := by decide +kernel
theorem w_284 : Cond.code yX12_aboutOf cX12_aboutOf 3 (some .int) ∈ wsL_law := tin_6 (List.mem_of_getElem? (i := 202) (by decide +kernel)) rfl
theorem w_285 : Cond.instanceMethod yX12_aboutOf ∈ wsL_law := tin_6 (List.mem_of_getElem? (i := 201) (by decide +kernel)) rfl
theorem w_286 : Cond.selects RX12 yX12_aboutOf yX12_aboutOf ∈ wsL_law := tip_3 (q := (yX12_aboutOf, 40)) (List.mem_of_getElem? (i := 3) (by decide +kernel))
theorem wd_X12_aboutOf : Wv M_X12_aboutOf := ⟨w_285, w_286, w_34, w_284⟩
abbrev M_X12_about : MI := (yX12_about, cX12_about, 3, (some .int), 2)
theorem ok_X12_about : okM M_X12_about 2 = true := by decide +kernel
theorem w_287 : Cond.code yX12_about cX12_about 3 (some .int) ∈ wsL_law := tin_6 (List.mem_of_getElem? (i := 198) (by decide +kernel)) rfl
theorem w_288 : Cond.instanceMethod yX12_about ∈ wsL_law := tin_6 (List.mem_of_getElem? (i := 196) (by decide +kernel)) rfl
theorem w_289 : Cond.selects RX12 yX12_about yX12_about ∈ wsL_law := tin_6 (List.mem_of_getElem? (i := 197) (by decide +kernel)) rfl
theorem wd_X12_about : Wv M_X12_about := ⟨w_288, w_289, w_34, w_287⟩
abbrev M_X2_slotAt : MI := (yX2_slotAt, cX2_slotAt, 2, (some .int), 1)
theorem ok_X2_slotAt : okM M_X2_slotAt 1 = true := by decide +kernel
theorem w_290 : Cond.code yX2_slotAt cX2_slotAt 2 (some .int) ∈ wsL_law := tin_3 (List.mem_of_getElem? (i := 110) (by decide +kernel)) rfl
theorem w_291 : Cond.instanceMethod yX2_slotAt ∈ wsL_law := tin_3 (List.mem_of_getElem? (i := 108) (by decide +kernel)) rfl
theorem w_292 : Cond.selects RX2 yX2_slotAt yX2_slotAt ∈ wsL_law := tin_3 (List.mem_of_getElem? (i := 109) (by decide +kernel)) rfl
theorem wd_X2_slotAt : Wv M_X2_slotAt := ⟨w_291, w_292, w_53, w_290⟩
abbrev M_X11_entry : MI := (yX11_entry, cX11_entry, 4, (some .int), 2)
theorem ok_X11_entry : okM M_X11_entry 2 = true := by decide +kernel
theorem w_293 : Cond.code yX11_entry cX11_entry 4 (some .int) ∈ wsL_law := tin_3 (List.mem_of_getElem? (i := 106) (by decide +kernel)) rfl
theorem w_294 : Cond.instanceMethod yX11_entry ∈ wsL_law := tin_3 (List.mem_of_getElem? (i := 104) (by decide +kernel)) rfl
theorem w_295 : Cond.selects RX11 yX11_entry yX11_entry ∈ wsL_law := tin_3 (List.mem_of_getElem? (i := 105) (by decide +kernel)) rfl
theorem wd_X11_entry : Wv M_X11_entry := ⟨w_294, w_295, w_31, w_293⟩
abbrev M_X12_entry : MI := (yX12_entry, cX12_entry, 3, (some .int), 2)
theorem ok_X12_entry : okM M_X12_entry 2 = true := by decide +kernel
theorem w_296 : Cond.code yX12_entry cX12_entry 3 (some .int) ∈ wsL_law := tin_6 (List.mem_of_getElem? (i := 210) (by decide +kernel)) rfl
theorem w_297 : Cond.instanceMethod yX12_entry ∈ wsL_law := tin_6 (List.mem_of_getElem? (i := 208) (by decide +kernel)) rfl
theorem w_298 : Cond.selects RX12 yX12_entry yX12_entry ∈ wsL_law := tin_6 (List.mem_of_getElem? (i := 209) (by decide +kernel)) rfl
theorem wd_X12_entry : Wv M_X12_entry := ⟨w_297, w_298, w_34, w_296⟩
abbrev M_X2_entriesInLeaf : MI := (yX2_entriesInLeaf, cX2_entriesInLeaf, 2, (some .int), 1)
theorem ok_X2_entriesInLeaf : okM M_X2_entriesInLeaf 1 = true := by decide +kernel
theorem w_299 : Cond.code yX2_entriesInLeaf cX2_entriesInLeaf 2 (some .int) ∈ wsL_law := tin_3 (List.mem_of_getElem? (i := 118) (by decide +kernel)) rfl
theorem w_300 : Cond.instanceMethod yX2_entriesInLeaf ∈ wsL_law := tin_3 (List.mem_of_getElem? (i := 116) (by decide +kernel)) rfl
theorem w_301 : Cond.selects RX2 yX2_entriesInLeaf yX2_entriesInLeaf ∈ wsL_law := tin_3 (List.mem_of_getElem? (i := 117) (by decide +kernel)) rfl
theorem wd_X2_entriesInLeaf : Wv M_X2_entriesInLeaf := ⟨w_300, w_301, w_53, w_299⟩
abbrev M_X11_leaf : MI := (yX11_leaf, cX11_leaf, 4, (some .int), 2)
theorem ok_X11_leaf : okM M_X11_leaf 2 = true := by decide +kernel
theorem w_302 : Cond.code yX11_leaf cX11_leaf 4 (some .int) ∈ wsL_law := tin_3 (List.mem_of_getElem? (i := 114) (by decide +kernel)) rfl
theorem w_303 : Cond.instanceMethod yX11_leaf ∈ wsL_law := tin_3 (List.mem_of_getElem? (i := 112) (by decide +kernel)) rfl
theorem w_304 : Cond.selects RX11 yX11_leaf yX11_leaf ∈ wsL_law := tin_3 (List.mem_of_getElem? (i := 113) (by decide +kernel)) rfl
theorem wd_X11_leaf : Wv M_X11_leaf := ⟨w_303, w_304, w_31, w_302⟩
abbrev M_X12_leaf : MI := (yX12_leaf, cX12_leaf, 3, (some .int), 2)
theorem ok_X12_leaf : okM M_X12_leaf 2 = true := by decide +kernel
theorem w_305 : Cond.code yX12_leaf cX12_leaf 3 (some .int) ∈ wsL_law := tin_6 (List.mem_of_getElem? (i := 214) (by decide +kernel)) rfl
theorem w_306 : Cond.instanceMethod yX12_leaf ∈ wsL_law := tin_6 (List.mem_of_getElem? (i := 212) (by decide +kernel)) rfl
theorem w_307 : Cond.selects RX12 yX12_leaf yX12_leaf ∈ wsL_law := tin_6 (List.mem_of_getElem? (i := 213) (by decide +kernel)) rfl
theorem wd_X12_leaf : Wv M_X12_leaf := ⟨w_306, w_307, w_34, w_305⟩
abbrev M_X11_byteOf : MI := (yX11_byteOf, cX11_byteOf, 3, (some .int), 0)
theorem ok_X11_byteOf : okM M_X11_byteOf 2 = true := by decide +kernel
theorem w_308 : Cond.code yX11_byteOf cX11_byteOf 3 (some .int) ∈ wsL_law := tin_3 (List.mem_of_getElem? (i := 128) (by decide +kernel)) rfl
theorem w_309 : Cond.static yX11_byteOf ∈ wsL_law := tin_3 (List.mem_of_getElem? (i := 127) (by decide +kernel)) rfl
theorem wd_X11_byteOf : Ws M_X11_byteOf := ⟨w_309, w_31, w_308⟩
abbrev M_X11_lettersIn : MI := (yX11_lettersIn, cX11_lettersIn, 5, (some .int), 1)
theorem ok_X11_lettersIn : okM M_X11_lettersIn 1 = true := by decide +kernel
theorem w_310 : Cond.code yX11_lettersIn cX11_lettersIn 5 (some .int) ∈ wsL_law := tin_3 (List.mem_of_getElem? (i := 125) (by decide +kernel)) rfl
theorem w_311 : Cond.static yX11_lettersIn ∈ wsL_law := tin_3 (List.mem_of_getElem? (i := 124) (by decide +kernel)) rfl
theorem wd_X11_lettersIn : Ws M_X11_lettersIn := ⟨w_311, w_31, w_310⟩
abbrev M_X7_length : MI := (yX7_length, cX7_length, 1, (some .int), 0)
theorem ok_X7_length : okM M_X7_length 0 = true := by decide +kernel
theorem w_312 : Cond.code yX7_length cX7_length 1 (some .int) ∈ wsL_law := tin_3 (List.mem_of_getElem? (i := 133) (by decide +kernel)) rfl
theorem w_313 : Cond.instanceMethod yX7_length ∈ wsL_law := tin_3 (List.mem_of_getElem? (i := 131) (by decide +kernel)) rfl
theorem w_314 : Cond.selects RX7 yX7_length yX7_length ∈ wsL_law := tin_3 (List.mem_of_getElem? (i := 132) (by decide +kernel)) rfl
theorem wd_X7_length : Wv M_X7_length := ⟨w_313, w_314, w_7, w_312⟩
abbrev M_X7_write : MI := (yX7_write, cX7_write, 2, none, 1)
theorem ok_X7_write : okM M_X7_write 1 = true := by decide +kernel
theorem w_315 : Cond.code yX7_write cX7_write 2 none ∈ wsL_law := tin_3 (List.mem_of_getElem? (i := 137) (by decide +kernel)) rfl
theorem w_316 : Cond.instanceMethod yX7_write ∈ wsL_law := tin_3 (List.mem_of_getElem? (i := 135) (by decide +kernel)) rfl
theorem w_317 : Cond.selects RX7 yX7_write yX7_write ∈ wsL_law := tin_3 (List.mem_of_getElem? (i := 136) (by decide +kernel)) rfl
theorem wd_X7_write : Wv M_X7_write := ⟨w_316, w_317, w_7, w_315⟩
abbrev M_X11_letters : MI := (yX11_letters, cX11_letters, 5, (some .int), 2)
theorem ok_X11_letters : okM M_X11_letters 1 = true := by decide +kernel
theorem w_318 : Cond.code yX11_letters cX11_letters 5 (some .int) ∈ wsL_law := tin_3 (List.mem_of_getElem? (i := 122) (by decide +kernel)) rfl
theorem w_319 : Cond.instanceMethod yX11_letters ∈ wsL_law := tin_3 (List.mem_of_getElem? (i := 120) (by decide +kernel)) rfl
theorem w_320 : Cond.selects RX11 yX11_letters yX11_letters ∈ wsL_law := tin_3 (List.mem_of_getElem? (i := 121) (by decide +kernel)) rfl
theorem wd_X11_letters : Wv M_X11_letters := ⟨w_319, w_320, w_31, w_318⟩
abbrev M_X12_letters : MI := (yX12_letters, cX12_letters, 7, (some .int), 0)
theorem ok_X12_letters : okM M_X12_letters 1 = true := by decide +kernel
theorem w_321 : Cond.code yX12_letters cX12_letters 7 (some .int) ∈ wsL_law := tin_7 (List.mem_of_getElem? (i := 41) (by decide +kernel)) rfl
theorem w_322 : Cond.instanceMethod yX12_letters ∈ wsL_law := tin_7 (List.mem_of_getElem? (i := 39) (by decide +kernel)) rfl
theorem w_323 : Cond.selects RX12 yX12_letters yX12_letters ∈ wsL_law := tin_7 (List.mem_of_getElem? (i := 40) (by decide +kernel)) rfl
theorem wd_X12_letters : Wv M_X12_letters := ⟨w_322, w_323, w_34, w_321⟩
abbrev M_X7_clear : MI := (yX7_clear, cX7_clear, 1, none, 0)
theorem ok_X7_clear : okM M_X7_clear 0 = true := by decide +kernel
theorem w_324 : Cond.code yX7_clear cX7_clear 1 none ∈ wsL_law := tin_3 (List.mem_of_getElem? (i := 146) (by decide +kernel)) rfl
theorem w_325 : Cond.instanceMethod yX7_clear ∈ wsL_law := tin_3 (List.mem_of_getElem? (i := 144) (by decide +kernel)) rfl
theorem w_326 : Cond.selects RX7 yX7_clear yX7_clear ∈ wsL_law := tin_3 (List.mem_of_getElem? (i := 145) (by decide +kernel)) rfl
theorem wd_X7_clear : Wv M_X7_clear := ⟨w_325, w_326, w_7, w_324⟩
abbrev M_X11_blank : MI := (yX11_blank, cX11_blank, 2, (some .int), 1)
theorem ok_X11_blank : okM M_X11_blank 0 = true := by decide +kernel
theorem w_327 : Cond.code yX11_blank cX11_blank 2 (some .int) ∈ wsL_law := tin_3 (List.mem_of_getElem? (i := 142) (by decide +kernel)) rfl
theorem w_328 : Cond.instanceMethod yX11_blank ∈ wsL_law := tin_3 (List.mem_of_getElem? (i := 140) (by decide +kernel)) rfl
theorem w_329 : Cond.selects RX11 yX11_blank yX11_blank ∈ wsL_law := tin_3 (List.mem_of_getElem? (i := 141) (by decide +kernel)) rfl
theorem wd_X11_blank : Wv M_X11_blank := ⟨w_328, w_329, w_31, w_327⟩
abbrev M_X12_blank : MI := (yX12_blank, cX12_blank, 2, (some .int), 0)
theorem ok_X12_blank : okM M_X12_blank 0 = true := by decide +kernel
theorem w_330 : Cond.code yX12_blank cX12_blank 2 (some .int) ∈ wsL_law := tin_7 (List.mem_of_getElem? (i := 46) (by decide +kernel)) rfl
theorem w_331 : Cond.instanceMethod yX12_blank ∈ wsL_law := tin_7 (List.mem_of_getElem? (i := 44) (by decide +kernel)) rfl
theorem w_332 : Cond.selects RX12 yX12_blank yX12_blank ∈ wsL_law := tin_7 (List.mem_of_getElem? (i := 45) (by decide +kernel)) rfl
theorem wd_X12_blank : Wv M_X12_blank := ⟨w_331, w_332, w_34, w_330⟩
abbrev M_X6_clear : MI := (yX6_clear, cX6_clear, 2, none, 1)
theorem ok_X6_clear : okM M_X6_clear 0 = true := by decide +kernel
theorem w_333 : Cond.code yX6_clear cX6_clear 2 none ∈ wsL_law := tin_3 (List.mem_of_getElem? (i := 158) (by decide +kernel)) rfl
theorem w_334 : Cond.instanceMethod yX6_clear ∈ wsL_law := tin_3 (List.mem_of_getElem? (i := 156) (by decide +kernel)) rfl
theorem w_335 : Cond.selects RX6 yX6_clear yX6_clear ∈ wsL_law := tin_3 (List.mem_of_getElem? (i := 157) (by decide +kernel)) rfl
theorem wd_X6_clear : Wv M_X6_clear := ⟨w_334, w_335, w_4, w_333⟩
abbrev M_X7_moves : MI := (yX7_moves, cX7_moves, 2, (some .boolean), 0)
theorem ok_X7_moves : okM M_X7_moves 1 = true := by decide +kernel
theorem w_336 : Cond.code yX7_moves cX7_moves 2 (some .boolean) ∈ wsL_law := tin_3 (List.mem_of_getElem? (i := 168) (by decide +kernel)) rfl
theorem w_337 : Cond.instanceMethod yX7_moves ∈ wsL_law := tin_3 (List.mem_of_getElem? (i := 167) (by decide +kernel)) rfl
theorem w_338 : Cond.selects RX7 yX7_moves yX7_moves ∈ wsL_law := tip_1 (q := (yX7_moves, 7)) (List.mem_of_getElem? (i := 7) (by decide +kernel))
theorem wd_X7_moves : Wv M_X7_moves := ⟨w_337, w_338, w_7, w_336⟩
abbrev M_X7_isLetter : MI := (yX7_isLetter, cX7_isLetter, 1, (some .boolean), 0)
theorem ok_X7_isLetter : okM M_X7_isLetter 1 = true := by decide +kernel
theorem w_339 : Cond.code yX7_isLetter cX7_isLetter 1 (some .boolean) ∈ wsL_law := tin_3 (List.mem_of_getElem? (i := 175) (by decide +kernel)) rfl
theorem w_340 : Cond.static yX7_isLetter ∈ wsL_law := tin_3 (List.mem_of_getElem? (i := 174) (by decide +kernel)) rfl
theorem wd_X7_isLetter : Ws M_X7_isLetter := ⟨w_340, w_7, w_339⟩
abbrev M_X7_takesColumn : MI := (yX7_takesColumn, cX7_takesColumn, 2, (some .boolean), 1)
theorem ok_X7_takesColumn : okM M_X7_takesColumn 1 = true := by decide +kernel
theorem w_341 : Cond.code yX7_takesColumn cX7_takesColumn 2 (some .boolean) ∈ wsL_law := tin_3 (List.mem_of_getElem? (i := 172) (by decide +kernel)) rfl
theorem w_342 : Cond.instanceMethod yX7_takesColumn ∈ wsL_law := tin_3 (List.mem_of_getElem? (i := 171) (by decide +kernel)) rfl
theorem w_343 : Cond.selects RX7 yX7_takesColumn yX7_takesColumn ∈ wsL_law := tip_1 (q := (yX7_takesColumn, 7)) (List.mem_of_getElem? (i := 8) (by decide +kernel))
theorem wd_X7_takesColumn : Wv M_X7_takesColumn := ⟨w_342, w_343, w_7, w_341⟩
abbrev M_X7_takesSign : MI := (yX7_takesSign, cX7_takesSign, 2, (some .boolean), 1)
theorem ok_X7_takesSign : okM M_X7_takesSign 1 = true := by decide +kernel
theorem w_344 : Cond.code yX7_takesSign cX7_takesSign 2 (some .boolean) ∈ wsL_law := tin_3 (List.mem_of_getElem? (i := 179) (by decide +kernel)) rfl
theorem w_345 : Cond.instanceMethod yX7_takesSign ∈ wsL_law := tin_3 (List.mem_of_getElem? (i := 178) (by decide +kernel)) rfl
theorem w_346 : Cond.selects RX7 yX7_takesSign yX7_takesSign ∈ wsL_law := tip_1 (q := (yX7_takesSign, 7)) (List.mem_of_getElem? (i := 9) (by decide +kernel))
theorem wd_X7_takesSign : Wv M_X7_takesSign := ⟨w_345, w_346, w_7, w_344⟩
abbrev M_X7_takesDigit : MI := (yX7_takesDigit, cX7_takesDigit, 4, (some .boolean), 1)
theorem ok_X7_takesDigit : okM M_X7_takesDigit 3 = true := by decide +kernel
theorem w_347 : Cond.code yX7_takesDigit cX7_takesDigit 4 (some .boolean) ∈ wsL_law := tin_3 (List.mem_of_getElem? (i := 183) (by decide +kernel)) rfl
theorem w_348 : Cond.instanceMethod yX7_takesDigit ∈ wsL_law := tin_3 (List.mem_of_getElem? (i := 182) (by decide +kernel)) rfl
theorem w_349 : Cond.selects RX7 yX7_takesDigit yX7_takesDigit ∈ wsL_law := tip_1 (q := (yX7_takesDigit, 7)) (List.mem_of_getElem? (i := 10) (by decide +kernel))
theorem wd_X7_takesDigit : Wv M_X7_takesDigit := ⟨w_348, w_349, w_7, w_347⟩
abbrev M_X11_without : MI := (yX11_without, cX11_without, 2, (some .int), 0)
theorem ok_X11_without : okM M_X11_without 2 = true := by decide +kernel
theorem w_350 : Cond.code yX11_without cX11_without 2 (some .int) ∈ wsL_law := tin_3 (List.mem_of_getElem? (i := 200) (by decide +kernel)) rfl
theorem w_351 : Cond.static yX11_without ∈ wsL_law := tin_3 (List.mem_of_getElem? (i := 199) (by decide +kernel)) rfl
theorem wd_X11_without : Ws M_X11_without := ⟨w_351, w_31, w_350⟩
abbrev M_X6_narrow : MI := (yX6_narrow, cX6_narrow, 6, none, 1)
theorem ok_X6_narrow : okM M_X6_narrow 3 = true := by decide +kernel
theorem w_352 : Cond.code yX6_narrow cX6_narrow 6 none ∈ wsL_law := tin_3 (List.mem_of_getElem? (i := 191) (by decide +kernel)) rfl
theorem w_353 : Cond.instanceMethod yX6_narrow ∈ wsL_law := tin_3 (List.mem_of_getElem? (i := 189) (by decide +kernel)) rfl
theorem w_354 : Cond.selects RX6 yX6_narrow yX6_narrow ∈ wsL_law := tin_3 (List.mem_of_getElem? (i := 190) (by decide +kernel)) rfl
theorem wd_X6_narrow : Wv M_X6_narrow := ⟨w_353, w_354, w_4, w_352⟩
abbrev M_X7_endsCondition : MI := (yX7_endsCondition, cX7_endsCondition, 2, (some .boolean), 2)
theorem ok_X7_endsCondition : okM M_X7_endsCondition 1 = true := by decide +kernel
theorem w_355 : Cond.code yX7_endsCondition cX7_endsCondition 2 (some .boolean) ∈ wsL_law := tin_3 (List.mem_of_getElem? (i := 187) (by decide +kernel)) rfl
theorem w_356 : Cond.instanceMethod yX7_endsCondition ∈ wsL_law := tin_3 (List.mem_of_getElem? (i := 186) (by decide +kernel)) rfl
theorem w_357 : Cond.selects RX7 yX7_endsCondition yX7_endsCondition ∈ wsL_law := tip_1 (q := (yX7_endsCondition, 7)) (List.mem_of_getElem? (i := 11) (by decide +kernel))
theorem wd_X7_endsCondition : Wv M_X7_endsCondition := ⟨w_356, w_357, w_7, w_355⟩
abbrev M_X6_shows : MI := (yX6_shows, cX6_shows, 2, (some .boolean), 1)
theorem ok_X6_shows : okM M_X6_shows 1 = true := by decide +kernel
theorem w_358 : Cond.code yX6_shows cX6_shows 2 (some .boolean) ∈ wsL_law := tin_3 (List.mem_of_getElem? (i := 208) (by decide +kernel)) rfl
theorem w_359 : Cond.instanceMethod yX6_shows ∈ wsL_law := tin_3 (List.mem_of_getElem? (i := 206) (by decide +kernel)) rfl
theorem w_360 : Cond.selects RX6 yX6_shows yX6_shows ∈ wsL_law := tin_3 (List.mem_of_getElem? (i := 207) (by decide +kernel)) rfl
theorem wd_X6_shows : Wv M_X6_shows := ⟨w_359, w_360, w_4, w_358⟩
abbrev M_X6_show : MI := (yX6_show, cX6_show, 2, none, 1)
theorem ok_X6_show : okM M_X6_show 1 = true := by decide +kernel
theorem w_361 : Cond.code yX6_show cX6_show 2 none ∈ wsL_law := tin_3 (List.mem_of_getElem? (i := 213) (by decide +kernel)) rfl
theorem w_362 : Cond.instanceMethod yX6_show ∈ wsL_law := tin_3 (List.mem_of_getElem? (i := 211) (by decide +kernel)) rfl
theorem w_363 : Cond.selects RX6 yX6_show yX6_show ∈ wsL_law := tin_3 (List.mem_of_getElem? (i := 212) (by decide +kernel)) rfl
theorem wd_X6_show : Wv M_X6_show := ⟨w_362, w_363, w_4, w_361⟩
abbrev M_X7_takesShown : MI := (yX7_takesShown, cX7_takesShown, 2, (some .boolean), 2)
theorem ok_X7_takesShown : okM M_X7_takesShown 1 = true := by decide +kernel
theorem w_364 : Cond.code yX7_takesShown cX7_takesShown 2 (some .boolean) ∈ wsL_law := tin_3 (List.mem_of_getElem? (i := 204) (by decide +kernel)) rfl
theorem w_365 : Cond.instanceMethod yX7_takesShown ∈ wsL_law := tin_3 (List.mem_of_getElem? (i := 203) (by decide +kernel)) rfl
theorem w_366 : Cond.selects RX7 yX7_takesShown yX7_takesShown ∈ wsL_law := tip_1 (q := (yX7_takesShown, 7)) (List.mem_of_getElem? (i := 12) (by decide +kernel))
theorem wd_X7_takesShown : Wv M_X7_takesShown := ⟨w_365, w_366, w_7, w_364⟩
abbrev M_X6_sortBy : MI := (yX6_sortBy, cX6_sortBy, 2, none, 0)
theorem ok_X6_sortBy : okM M_X6_sortBy 1 = true := by decide +kernel
theorem w_367 : Cond.code yX6_sortBy cX6_sortBy 2 none ∈ wsL_law := tin_3 (List.mem_of_getElem? (i := 221) (by decide +kernel)) rfl
theorem w_368 : Cond.instanceMethod yX6_sortBy ∈ wsL_law := tin_3 (List.mem_of_getElem? (i := 219) (by decide +kernel)) rfl
theorem w_369 : Cond.selects RX6 yX6_sortBy yX6_sortBy ∈ wsL_law := tin_3 (List.mem_of_getElem? (i := 220) (by decide +kernel)) rfl
theorem wd_X6_sortBy : Wv M_X6_sortBy := ⟨w_368, w_369, w_4, w_367⟩
abbrev M_X7_takesSort : MI := (yX7_takesSort, cX7_takesSort, 2, (some .boolean), 1)
theorem ok_X7_takesSort : okM M_X7_takesSort 1 = true := by decide +kernel
theorem w_370 : Cond.code yX7_takesSort cX7_takesSort 2 (some .boolean) ∈ wsL_law := tin_3 (List.mem_of_getElem? (i := 217) (by decide +kernel)) rfl
theorem w_371 : Cond.instanceMethod yX7_takesSort ∈ wsL_law := tin_3 (List.mem_of_getElem? (i := 216) (by decide +kernel)) rfl
theorem w_372 : Cond.selects RX7 yX7_takesSort yX7_takesSort ∈ wsL_law := tip_1 (q := (yX7_takesSort, 7)) (List.mem_of_getElem? (i := 13) (by decide +kernel))
theorem wd_X7_takesSort : Wv M_X7_takesSort := ⟨w_371, w_372, w_7, w_370⟩
abbrev M_X7_takes : MI := (yX7_takes, cX7_takes, 2, (some .boolean), 3)
theorem ok_X7_takes : okM M_X7_takes 1 = true := by decide +kernel
theorem w_373 : Cond.code yX7_takes cX7_takes 2 (some .boolean) ∈ wsL_law := tin_3 (List.mem_of_getElem? (i := 164) (by decide +kernel)) rfl
theorem w_374 : Cond.instanceMethod yX7_takes ∈ wsL_law := tin_3 (List.mem_of_getElem? (i := 163) (by decide +kernel)) rfl
theorem w_375 : Cond.selects RX7 yX7_takes yX7_takes ∈ wsL_law := tip_1 (q := (yX7_takes, 7)) (List.mem_of_getElem? (i := 6) (by decide +kernel))
theorem wd_X7_takes : Wv M_X7_takes := ⟨w_374, w_375, w_7, w_373⟩
abbrev M_X7_read : MI := (yX7_read, cX7_read, 2, (some .int), 4)
theorem ok_X7_read : okM M_X7_read 0 = true := by decide +kernel
theorem w_376 : Cond.code yX7_read cX7_read 2 (some .int) ∈ wsL_law := tin_3 (List.mem_of_getElem? (i := 154) (by decide +kernel)) rfl
theorem w_377 : Cond.instanceMethod yX7_read ∈ wsL_law := tin_3 (List.mem_of_getElem? (i := 152) (by decide +kernel)) rfl
theorem w_378 : Cond.selects RX7 yX7_read yX7_read ∈ wsL_law := tin_3 (List.mem_of_getElem? (i := 153) (by decide +kernel)) rfl
theorem wd_X7_read : Wv M_X7_read := ⟨w_377, w_378, w_7, w_376⟩
abbrev M_X11_good : MI := (yX11_good, cX11_good, 1, (some .int), 5)
theorem ok_X11_good : okM M_X11_good 0 = true := by decide +kernel
theorem w_379 : Cond.code yX11_good cX11_good 1 (some .int) ∈ wsL_law := tin_3 (List.mem_of_getElem? (i := 150) (by decide +kernel)) rfl
theorem w_380 : Cond.instanceMethod yX11_good ∈ wsL_law := tin_3 (List.mem_of_getElem? (i := 148) (by decide +kernel)) rfl
theorem w_381 : Cond.selects RX11 yX11_good yX11_good ∈ wsL_law := tin_3 (List.mem_of_getElem? (i := 149) (by decide +kernel)) rfl
theorem wd_X11_good : Wv M_X11_good := ⟨w_380, w_381, w_31, w_379⟩
abbrev M_X12_narrow : MI := (yX12_narrow, cX12_narrow, 6, none, 0)
theorem ok_X12_narrow : okM M_X12_narrow 3 = true := by decide +kernel
theorem w_382 : Cond.code yX12_narrow cX12_narrow 6 none ∈ wsL_law := tin_7 (List.mem_of_getElem? (i := 58) (by decide +kernel)) rfl
theorem w_383 : Cond.instanceMethod yX12_narrow ∈ wsL_law := tin_7 (List.mem_of_getElem? (i := 57) (by decide +kernel)) rfl
theorem w_384 : Cond.selects RX12 yX12_narrow yX12_narrow ∈ wsL_law := tip_3 (q := (yX12_narrow, 40)) (List.mem_of_getElem? (i := 14) (by decide +kernel))
theorem wd_X12_narrow : Wv M_X12_narrow := ⟨w_383, w_384, w_34, w_382⟩
abbrev M_X12_readQuestion : MI := (yX12_readQuestion, cX12_readQuestion, 10, none, 1)
theorem ok_X12_readQuestion : okM M_X12_readQuestion 0 = true := by decide +kernel
theorem w_385 : Cond.code yX12_readQuestion cX12_readQuestion 10 none ∈ wsL_law := tin_7 (List.mem_of_getElem? (i := 54) (by decide +kernel)) rfl
theorem w_386 : Cond.instanceMethod yX12_readQuestion ∈ wsL_law := tin_7 (List.mem_of_getElem? (i := 53) (by decide +kernel)) rfl
theorem w_387 : Cond.selects RX12 yX12_readQuestion yX12_readQuestion ∈ wsL_law := tip_3 (q := (yX12_readQuestion, 40)) (List.mem_of_getElem? (i := 13) (by decide +kernel))
theorem wd_X12_readQuestion : Wv M_X12_readQuestion := ⟨w_386, w_387, w_34, w_385⟩
abbrev M_X12_good : MI := (yX12_good, cX12_good, 1, (some .int), 2)
theorem ok_X12_good : okM M_X12_good 0 = true := by decide +kernel
theorem w_388 : Cond.code yX12_good cX12_good 1 (some .int) ∈ wsL_law := tin_7 (List.mem_of_getElem? (i := 50) (by decide +kernel)) rfl
theorem w_389 : Cond.instanceMethod yX12_good ∈ wsL_law := tin_7 (List.mem_of_getElem? (i := 48) (by decide +kernel)) rfl
theorem w_390 : Cond.selects RX12 yX12_good yX12_good ∈ wsL_law := tin_7 (List.mem_of_getElem? (i := 49) (by decide +kernel)) rfl
theorem wd_X12_good : Wv M_X12_good := ⟨w_389, w_390, w_34, w_388⟩
abbrev M_X7_isWhole : MI := (yX7_isWhole, cX7_isWhole, 1, (some .boolean), 0)
theorem ok_X7_isWhole : okM M_X7_isWhole 0 = true := by decide +kernel
theorem w_391 : Cond.code yX7_isWhole cX7_isWhole 1 (some .boolean) ∈ wsL_law := tin_3 (List.mem_of_getElem? (i := 229) (by decide +kernel)) rfl
theorem w_392 : Cond.instanceMethod yX7_isWhole ∈ wsL_law := tin_3 (List.mem_of_getElem? (i := 227) (by decide +kernel)) rfl
theorem w_393 : Cond.selects RX7 yX7_isWhole yX7_isWhole ∈ wsL_law := tin_3 (List.mem_of_getElem? (i := 228) (by decide +kernel)) rfl
theorem wd_X7_isWhole : Wv M_X7_isWhole := ⟨w_392, w_393, w_7, w_391⟩
abbrev M_X10_asked : MI := (yX10_asked, cX10_asked, 1, (some .int), 0)
theorem ok_X10_asked : okM M_X10_asked 0 = true := by decide +kernel
theorem w_394 : Cond.code yX10_asked cX10_asked 1 (some .int) ∈ wsL_law := tin_3 (List.mem_of_getElem? (i := 233) (by decide +kernel)) rfl
theorem w_395 : Cond.instanceMethod yX10_asked ∈ wsL_law := tin_3 (List.mem_of_getElem? (i := 231) (by decide +kernel)) rfl
theorem w_396 : Cond.selects RX10 yX10_asked yX10_asked ∈ wsL_law := tin_3 (List.mem_of_getElem? (i := 232) (by decide +kernel)) rfl
theorem wd_X10_asked : Wv M_X10_asked := ⟨w_395, w_396, w_22, w_394⟩
abbrev M_X7_handOver : MI := (yX7_handOver, cX7_handOver, 2, (some (.object "KeptOrders$Question")), 3)
theorem ok_X7_handOver : okM M_X7_handOver 0 = true := by decide +kernel
theorem w_397 : Cond.code yX7_handOver cX7_handOver 2 (some (.object "KeptOrders$Question")) ∈ wsL_law := tin_3 (List.mem_of_getElem? (i := 237) (by decide +kernel)) rfl
theorem w_398 : Cond.instanceMethod yX7_handOver ∈ wsL_law := tin_3 (List.mem_of_getElem? (i := 235) (by decide +kernel)) rfl
theorem w_399 : Cond.selects RX7 yX7_handOver yX7_handOver ∈ wsL_law := tin_3 (List.mem_of_getElem? (i := 236) (by decide +kernel)) rfl
theorem wd_X7_handOver : Wv M_X7_handOver := ⟨w_398, w_399, w_7, w_397⟩
abbrev M_X10_add : MI := (yX10_add, cX10_add, 3, (some .int), 0)
theorem ok_X10_add : okM M_X10_add 1 = true := by decide +kernel
theorem w_400 : Cond.code yX10_add cX10_add 3 (some .int) ∈ wsL_law := tin_4 (List.mem_of_getElem? (i := 1) (by decide +kernel)) rfl
theorem w_401 : Cond.instanceMethod yX10_add ∈ wsL_law := tin_3 (List.mem_of_getElem? (i := 239) (by decide +kernel)) rfl
theorem w_402 : Cond.selects RX10 yX10_add yX10_add ∈ wsL_law := tin_4 (List.mem_of_getElem? (i := 0) (by decide +kernel)) rfl
theorem wd_X10_add : Wv M_X10_add := ⟨w_401, w_402, w_22, w_400⟩
abbrev M_X11_ask : MI := (yX11_ask, cX11_ask, 2, (some .int), 5)
theorem ok_X11_ask : okM M_X11_ask 0 = true := by decide +kernel
theorem w_403 : Cond.code yX11_ask cX11_ask 2 (some .int) ∈ wsL_law := tin_3 (List.mem_of_getElem? (i := 225) (by decide +kernel)) rfl
theorem w_404 : Cond.instanceMethod yX11_ask ∈ wsL_law := tin_3 (List.mem_of_getElem? (i := 223) (by decide +kernel)) rfl
theorem w_405 : Cond.selects RX11 yX11_ask yX11_ask ∈ wsL_law := tin_3 (List.mem_of_getElem? (i := 224) (by decide +kernel)) rfl
theorem wd_X11_ask : Wv M_X11_ask := ⟨w_404, w_405, w_31, w_403⟩
abbrev M_X12_ask : MI := (yX12_ask, cX12_ask, 3, (some .int), 2)
theorem ok_X12_ask : okM M_X12_ask 0 = true := by decide +kernel
theorem w_406 : Cond.code yX12_ask cX12_ask 3 (some .int) ∈ wsL_law := tin_7 (List.mem_of_getElem? (i := 62) (by decide +kernel)) rfl
theorem w_407 : Cond.instanceMethod yX12_ask ∈ wsL_law := tin_7 (List.mem_of_getElem? (i := 60) (by decide +kernel)) rfl
theorem w_408 : Cond.selects RX12 yX12_ask yX12_ask ∈ wsL_law := tin_7 (List.mem_of_getElem? (i := 61) (by decide +kernel)) rfl
theorem wd_X12_ask : Wv M_X12_ask := ⟨w_407, w_408, w_34, w_406⟩
abbrev M_X10_question : MI := (yX10_question, cX10_question, 2, (some (.object "KeptOrders$Question")), 0)
theorem ok_X10_question : okM M_X10_question 1 = true := by decide +kernel
theorem w_409 : Cond.code yX10_question cX10_question 2 (some (.object "KeptOrders$Question")) ∈ wsL_law := tin_4 (List.mem_of_getElem? (i := 9) (by decide +kernel)) rfl
theorem w_410 : Cond.instanceMethod yX10_question ∈ wsL_law := tin_4 (List.mem_of_getElem? (i := 7) (by decide +kernel)) rfl
theorem w_411 : Cond.selects RX10 yX10_question yX10_question ∈ wsL_law := tin_4 (List.mem_of_getElem? (i := 8) (by decide +kernel)) rfl
theorem wd_X10_question : Wv M_X10_question := ⟨w_410, w_411, w_22, w_409⟩
abbrev M_X6_least : MI := (yX6_least, cX6_least, 2, (some .int), 1)
theorem ok_X6_least : okM M_X6_least 1 = true := by decide +kernel
theorem w_412 : Cond.code yX6_least cX6_least 2 (some .int) ∈ wsL_law := tin_4 (List.mem_of_getElem? (i := 17) (by decide +kernel)) rfl
theorem w_413 : Cond.instanceMethod yX6_least ∈ wsL_law := tin_4 (List.mem_of_getElem? (i := 15) (by decide +kernel)) rfl
theorem w_414 : Cond.selects RX6 yX6_least yX6_least ∈ wsL_law := tin_4 (List.mem_of_getElem? (i := 16) (by decide +kernel)) rfl
theorem wd_X6_least : Wv M_X6_least := ⟨w_413, w_414, w_4, w_412⟩
abbrev M_X6_greatest : MI := (yX6_greatest, cX6_greatest, 2, (some .int), 1)
theorem ok_X6_greatest : okM M_X6_greatest 1 = true := by decide +kernel
theorem w_415 : Cond.code yX6_greatest cX6_greatest 2 (some .int) ∈ wsL_law := tin_4 (List.mem_of_getElem? (i := 21) (by decide +kernel)) rfl
theorem w_416 : Cond.instanceMethod yX6_greatest ∈ wsL_law := tin_4 (List.mem_of_getElem? (i := 19) (by decide +kernel)) rfl
theorem w_417 : Cond.selects RX6 yX6_greatest yX6_greatest ∈ wsL_law := tin_4 (List.mem_of_getElem? (i := 20) (by decide +kernel)) rfl
theorem wd_X6_greatest : Wv M_X6_greatest := ⟨w_416, w_417, w_4, w_415⟩
abbrev M_X6_letsNone : MI := (yX6_letsNone, cX6_letsNone, 2, (some .boolean), 2)
theorem ok_X6_letsNone : okM M_X6_letsNone 1 = true := by decide +kernel
theorem w_418 : Cond.code yX6_letsNone cX6_letsNone 2 (some .boolean) ∈ wsL_law := tin_4 (List.mem_of_getElem? (i := 13) (by decide +kernel)) rfl
theorem w_419 : Cond.instanceMethod yX6_letsNone ∈ wsL_law := tin_4 (List.mem_of_getElem? (i := 11) (by decide +kernel)) rfl
theorem w_420 : Cond.selects RX6 yX6_letsNone yX6_letsNone ∈ wsL_law := tin_4 (List.mem_of_getElem? (i := 12) (by decide +kernel)) rfl
theorem wd_X6_letsNone : Wv M_X6_letsNone := ⟨w_419, w_420, w_4, w_418⟩
abbrev M_X11_bound : MI := (yX11_bound, cX11_bound, 5, (some .int), 3)
theorem ok_X11_bound : okM M_X11_bound 3 = true := by decide +kernel
theorem w_421 : Cond.code yX11_bound cX11_bound 5 (some .int) ∈ wsL_law := tin_4 (List.mem_of_getElem? (i := 5) (by decide +kernel)) rfl
theorem w_422 : Cond.instanceMethod yX11_bound ∈ wsL_law := tin_4 (List.mem_of_getElem? (i := 3) (by decide +kernel)) rfl
theorem w_423 : Cond.selects RX11 yX11_bound yX11_bound ∈ wsL_law := tin_4 (List.mem_of_getElem? (i := 4) (by decide +kernel)) rfl
theorem wd_X11_bound : Wv M_X11_bound := ⟨w_422, w_423, w_31, w_421⟩
abbrev M_X12_isQuestion : MI := (yX12_isQuestion, cX12_isQuestion, 2, (some .boolean), 1)
theorem ok_X12_isQuestion : okM M_X12_isQuestion 1 = true := by decide +kernel
theorem w_424 : Cond.code yX12_isQuestion cX12_isQuestion 2 (some .boolean) ∈ wsL_law := tin_7 (List.mem_of_getElem? (i := 70) (by decide +kernel)) rfl
theorem w_425 : Cond.instanceMethod yX12_isQuestion ∈ wsL_law := tin_7 (List.mem_of_getElem? (i := 69) (by decide +kernel)) rfl
theorem w_426 : Cond.selects RX12 yX12_isQuestion yX12_isQuestion ∈ wsL_law := tip_3 (q := (yX12_isQuestion, 40)) (List.mem_of_getElem? (i := 15) (by decide +kernel))
theorem wd_X12_isQuestion : Wv M_X12_isQuestion := ⟨w_425, w_426, w_34, w_424⟩
abbrev M_X12_bound : MI := (yX12_bound, cX12_bound, 4, (some .int), 2)
theorem ok_X12_bound : okM M_X12_bound 3 = true := by decide +kernel
theorem w_427 : Cond.code yX12_bound cX12_bound 4 (some .int) ∈ wsL_law := tin_7 (List.mem_of_getElem? (i := 66) (by decide +kernel)) rfl
theorem w_428 : Cond.instanceMethod yX12_bound ∈ wsL_law := tin_7 (List.mem_of_getElem? (i := 64) (by decide +kernel)) rfl
theorem w_429 : Cond.selects RX12 yX12_bound yX12_bound ∈ wsL_law := tin_7 (List.mem_of_getElem? (i := 65) (by decide +kernel)) rfl
theorem wd_X12_bound : Wv M_X12_bound := ⟨w_428, w_429, w_34, w_427⟩
abbrev M_X6_heft : MI := (yX6_heft, cX6_heft, 1, (some .int), 0)
theorem ok_X6_heft : okM M_X6_heft 0 = true := by decide +kernel
theorem w_430 : Cond.code yX6_heft cX6_heft 1 (some .int) ∈ wsL_law := tin_4 (List.mem_of_getElem? (i := 31) (by decide +kernel)) rfl
theorem w_431 : Cond.instanceMethod yX6_heft ∈ wsL_law := tin_4 (List.mem_of_getElem? (i := 29) (by decide +kernel)) rfl
theorem w_432 : Cond.selects RX6 yX6_heft yX6_heft ∈ wsL_law := tin_4 (List.mem_of_getElem? (i := 30) (by decide +kernel)) rfl
theorem wd_X6_heft : Wv M_X6_heft := ⟨w_431, w_432, w_4, w_430⟩
abbrev M_X6_weigh : MI := (yX6_weigh, cX6_weigh, 2, none, 0)
theorem ok_X6_weigh : okM M_X6_weigh 1 = true := by decide +kernel
theorem w_433 : Cond.code yX6_weigh cX6_weigh 2 none ∈ wsL_law := tin_4 (List.mem_of_getElem? (i := 35) (by decide +kernel)) rfl
theorem w_434 : Cond.instanceMethod yX6_weigh ∈ wsL_law := tin_4 (List.mem_of_getElem? (i := 33) (by decide +kernel)) rfl
theorem w_435 : Cond.selects RX6 yX6_weigh yX6_weigh ∈ wsL_law := tin_4 (List.mem_of_getElem? (i := 34) (by decide +kernel)) rfl
theorem wd_X6_weigh : Wv M_X6_weigh := ⟨w_434, w_435, w_4, w_433⟩
abbrev M_X11_weight : MI := (yX11_weight, cX11_weight, 5, (some .int), 1)
theorem ok_X11_weight : okM M_X11_weight 2 = true := by decide +kernel
theorem w_436 : Cond.code yX11_weight cX11_weight 5 (some .int) ∈ wsL_law := tin_4 (List.mem_of_getElem? (i := 27) (by decide +kernel)) rfl
theorem w_437 : Cond.instanceMethod yX11_weight ∈ wsL_law := tin_4 (List.mem_of_getElem? (i := 25) (by decide +kernel)) rfl
theorem w_438 : Cond.selects RX11 yX11_weight yX11_weight ∈ wsL_law := tin_4 (List.mem_of_getElem? (i := 26) (by decide +kernel)) rfl
theorem wd_X11_weight : Wv M_X11_weight := ⟨w_437, w_438, w_31, w_436⟩
abbrev M_X12_weight : MI := (yX12_weight, cX12_weight, 4, (some .int), 2)
theorem ok_X12_weight : okM M_X12_weight 2 = true := by decide +kernel
theorem w_439 : Cond.code yX12_weight cX12_weight 4 (some .int) ∈ wsL_law := tin_7 (List.mem_of_getElem? (i := 74) (by decide +kernel)) rfl
theorem w_440 : Cond.instanceMethod yX12_weight ∈ wsL_law := tin_7 (List.mem_of_getElem? (i := 72) (by decide +kernel)) rfl
theorem w_441 : Cond.selects RX12 yX12_weight yX12_weight ∈ wsL_law := tin_7 (List.mem_of_getElem? (i := 73) (by decide +kernel)) rfl
theorem wd_X12_weight : Wv M_X12_weight := ⟨w_440, w_441, w_34, w_439⟩
abbrev M_X8_taken : MI := (yX8_taken, cX8_taken, 1, (some .long), 0)
theorem ok_X8_taken : okM M_X8_taken 0 = true := by decide +kernel
theorem w_442 : Cond.code yX8_taken cX8_taken 1 (some .long) ∈ wsL_law := tin_4 (List.mem_of_getElem? (i := 47) (by decide +kernel)) rfl
theorem w_443 : Cond.instanceMethod yX8_taken ∈ wsL_law := tin_4 (List.mem_of_getElem? (i := 45) (by decide +kernel)) rfl
theorem w_444 : Cond.selects RX8 yX8_taken yX8_taken ∈ wsL_law := tin_4 (List.mem_of_getElem? (i := 46) (by decide +kernel)) rfl
theorem wd_X8_taken : Wv M_X8_taken := ⟨w_443, w_444, w_10, w_442⟩
abbrev M_X8_rowsWithin : MI := (yX8_rowsWithin, cX8_rowsWithin, 8, (some .long), 1)
theorem ok_X8_rowsWithin : okM M_X8_rowsWithin 3 = true := by decide +kernel
theorem w_445 : Cond.code yX8_rowsWithin cX8_rowsWithin 8 (some .long) ∈ wsL_law := tin_4 (List.mem_of_getElem? (i := 51) (by decide +kernel)) rfl
theorem w_446 : Cond.instanceMethod yX8_rowsWithin ∈ wsL_law := tin_4 (List.mem_of_getElem? (i := 49) (by decide +kernel)) rfl
theorem w_447 : Cond.selects RX8 yX8_rowsWithin yX8_rowsWithin ∈ wsL_law := tin_4 (List.mem_of_getElem? (i := 50) (by decide +kernel)) rfl
theorem wd_X8_rowsWithin : Wv M_X8_rowsWithin := ⟨w_446, w_447, w_10, w_445⟩
abbrev M_X6_rowsWithin : MI := (yX6_rowsWithin, cX6_rowsWithin, 6, (some .long), 2)
theorem ok_X6_rowsWithin : okM M_X6_rowsWithin 2 = true := by decide +kernel
theorem w_448 : Cond.code yX6_rowsWithin cX6_rowsWithin 6 (some .long) ∈ wsL_law := tin_4 (List.mem_of_getElem? (i := 43) (by decide +kernel)) rfl
theorem w_449 : Cond.instanceMethod yX6_rowsWithin ∈ wsL_law := tin_4 (List.mem_of_getElem? (i := 41) (by decide +kernel)) rfl
theorem w_450 : Cond.selects RX6 yX6_rowsWithin yX6_rowsWithin ∈ wsL_law := tin_4 (List.mem_of_getElem? (i := 42) (by decide +kernel)) rfl
theorem wd_X6_rowsWithin : Wv M_X6_rowsWithin := ⟨w_449, w_450, w_4, w_448⟩
abbrev M_X11_answers : MI := (yX11_answers, cX11_answers, 3, (some .int), 3)
theorem ok_X11_answers : okM M_X11_answers 1 = true := by decide +kernel
theorem w_451 : Cond.code yX11_answers cX11_answers 3 (some .int) ∈ wsL_law := tin_4 (List.mem_of_getElem? (i := 39) (by decide +kernel)) rfl
theorem w_452 : Cond.instanceMethod yX11_answers ∈ wsL_law := tin_4 (List.mem_of_getElem? (i := 37) (by decide +kernel)) rfl
theorem w_453 : Cond.selects RX11 yX11_answers yX11_answers ∈ wsL_law := tin_4 (List.mem_of_getElem? (i := 38) (by decide +kernel)) rfl
theorem wd_X11_answers : Wv M_X11_answers := ⟨w_452, w_453, w_31, w_451⟩
abbrev M_X12_leastOf : MI := (yX12_leastOf, cX12_leastOf, 3, (some .int), 0)
theorem ok_X12_leastOf : okM M_X12_leastOf 2 = true := by decide +kernel
theorem w_454 : Cond.code yX12_leastOf cX12_leastOf 3 (some .int) ∈ wsL_law := tin_7 (List.mem_of_getElem? (i := 94) (by decide +kernel)) rfl
theorem w_455 : Cond.instanceMethod yX12_leastOf ∈ wsL_law := tin_7 (List.mem_of_getElem? (i := 93) (by decide +kernel)) rfl
theorem w_456 : Cond.selects RX12 yX12_leastOf yX12_leastOf ∈ wsL_law := tip_4 (q := (yX12_leastOf, 40)) (List.mem_of_getElem? (i := 3) (by decide +kernel))
theorem wd_X12_leastOf : Wv M_X12_leastOf := ⟨w_455, w_456, w_34, w_454⟩
abbrev M_X12_mostOf : MI := (yX12_mostOf, cX12_mostOf, 3, (some .int), 0)
theorem ok_X12_mostOf : okM M_X12_mostOf 2 = true := by decide +kernel
theorem w_457 : Cond.code yX12_mostOf cX12_mostOf 3 (some .int) ∈ wsL_law := tin_7 (List.mem_of_getElem? (i := 98) (by decide +kernel)) rfl
theorem w_458 : Cond.instanceMethod yX12_mostOf ∈ wsL_law := tin_7 (List.mem_of_getElem? (i := 97) (by decide +kernel)) rfl
theorem w_459 : Cond.selects RX12 yX12_mostOf yX12_mostOf ∈ wsL_law := tip_4 (q := (yX12_mostOf, 40)) (List.mem_of_getElem? (i := 4) (by decide +kernel))
theorem wd_X12_mostOf : Wv M_X12_mostOf := ⟨w_458, w_459, w_34, w_457⟩
abbrev M_X12_isWithin : MI := (yX12_isWithin, cX12_isWithin, 4, (some .boolean), 1)
theorem ok_X12_isWithin : okM M_X12_isWithin 3 = true := by decide +kernel
theorem w_460 : Cond.code yX12_isWithin cX12_isWithin 4 (some .boolean) ∈ wsL_law := tin_7 (List.mem_of_getElem? (i := 90) (by decide +kernel)) rfl
theorem w_461 : Cond.instanceMethod yX12_isWithin ∈ wsL_law := tin_7 (List.mem_of_getElem? (i := 89) (by decide +kernel)) rfl
theorem w_462 : Cond.selects RX12 yX12_isWithin yX12_isWithin ∈ wsL_law := tip_4 (q := (yX12_isWithin, 40)) (List.mem_of_getElem? (i := 2) (by decide +kernel))
theorem wd_X12_isWithin : Wv M_X12_isWithin := ⟨w_461, w_462, w_34, w_460⟩
abbrev M_X12_isAnswer : MI := (yX12_isAnswer, cX12_isAnswer, 3, (some .boolean), 2)
theorem ok_X12_isAnswer : okM M_X12_isAnswer 2 = true := by decide +kernel
theorem w_463 : Cond.code yX12_isAnswer cX12_isAnswer 3 (some .boolean) ∈ wsL_law := tin_7 (List.mem_of_getElem? (i := 86) (by decide +kernel)) rfl
theorem w_464 : Cond.instanceMethod yX12_isAnswer ∈ wsL_law := tin_7 (List.mem_of_getElem? (i := 85) (by decide +kernel)) rfl
theorem w_465 : Cond.selects RX12 yX12_isAnswer yX12_isAnswer ∈ wsL_law := tip_4 (q := (yX12_isAnswer, 40)) (List.mem_of_getElem? (i := 1) (by decide +kernel))
theorem wd_X12_isAnswer : Wv M_X12_isAnswer := ⟨w_464, w_465, w_34, w_463⟩
abbrev M_X12_answersOf : MI := (yX12_answersOf, cX12_answersOf, 4, (some .int), 3)
theorem ok_X12_answersOf : okM M_X12_answersOf 1 = true := by decide +kernel
theorem w_466 : Cond.code yX12_answersOf cX12_answersOf 4 (some .int) ∈ wsL_law := tin_7 (List.mem_of_getElem? (i := 82) (by decide +kernel)) rfl
theorem w_467 : Cond.instanceMethod yX12_answersOf ∈ wsL_law := tin_7 (List.mem_of_getElem? (i := 81) (by decide +kernel)) rfl
theorem w_468 : Cond.selects RX12 yX12_answersOf yX12_answersOf ∈ wsL_law := tip_4 (q := (yX12_answersOf, 40)) (List.mem_of_getElem? (i := 0) (by decide +kernel))
theorem wd_X12_answersOf : Wv M_X12_answersOf := ⟨w_467, w_468, w_34, w_466⟩
abbrev M_X12_answers : MI := (yX12_answers, cX12_answers, 2, (some .int), 4)
theorem ok_X12_answers : okM M_X12_answers 1 = true := by decide +kernel
theorem w_469 : Cond.code yX12_answers cX12_answers 2 (some .int) ∈ wsL_law := tin_7 (List.mem_of_getElem? (i := 78) (by decide +kernel)) rfl
theorem w_470 : Cond.instanceMethod yX12_answers ∈ wsL_law := tin_7 (List.mem_of_getElem? (i := 76) (by decide +kernel)) rfl
theorem w_471 : Cond.selects RX12 yX12_answers yX12_answers ∈ wsL_law := tin_7 (List.mem_of_getElem? (i := 77) (by decide +kernel)) rfl
theorem wd_X12_answers : Wv M_X12_answers := ⟨w_470, w_471, w_34, w_469⟩
abbrev M_X6_sortNumber : MI := (yX6_sortNumber, cX6_sortNumber, 3, (some .int), 2)
theorem ok_X6_sortNumber : okM M_X6_sortNumber 2 = true := by decide +kernel
theorem w_472 : Cond.code yX6_sortNumber cX6_sortNumber 3 (some .int) ∈ wsL_law := tin_4 (List.mem_of_getElem? (i := 70) (by decide +kernel)) rfl
theorem w_473 : Cond.instanceMethod yX6_sortNumber ∈ wsL_law := tin_4 (List.mem_of_getElem? (i := 69) (by decide +kernel)) rfl
theorem w_474 : Cond.selects RX6 yX6_sortNumber yX6_sortNumber ∈ wsL_law := tip_1 (q := (yX6_sortNumber, 7)) (List.mem_of_getElem? (i := 15) (by decide +kernel))
theorem wd_X6_sortNumber : Wv M_X6_sortNumber := ⟨w_473, w_474, w_4, w_472⟩
abbrev M_X6_rowsAhead : MI := (yX6_rowsAhead, cX6_rowsAhead, 9, (some .int), 3)
theorem ok_X6_rowsAhead : okM M_X6_rowsAhead 3 = true := by decide +kernel
theorem w_475 : Cond.code yX6_rowsAhead cX6_rowsAhead 9 (some .int) ∈ wsL_law := tin_4 (List.mem_of_getElem? (i := 66) (by decide +kernel)) rfl
theorem w_476 : Cond.instanceMethod yX6_rowsAhead ∈ wsL_law := tin_4 (List.mem_of_getElem? (i := 65) (by decide +kernel)) rfl
theorem w_477 : Cond.selects RX6 yX6_rowsAhead yX6_rowsAhead ∈ wsL_law := tip_1 (q := (yX6_rowsAhead, 7)) (List.mem_of_getElem? (i := 14) (by decide +kernel))
theorem wd_X6_rowsAhead : Wv M_X6_rowsAhead := ⟨w_476, w_477, w_4, w_475⟩
abbrev M_X6_placed : MI := (yX6_placed, cX6_placed, 6, (some .int), 4)
theorem ok_X6_placed : okM M_X6_placed 2 = true := by decide +kernel
theorem w_478 : Cond.code yX6_placed cX6_placed 6 (some .int) ∈ wsL_law := tin_4 (List.mem_of_getElem? (i := 60) (by decide +kernel)) rfl
theorem w_479 : Cond.instanceMethod yX6_placed ∈ wsL_law := tin_4 (List.mem_of_getElem? (i := 58) (by decide +kernel)) rfl
theorem w_480 : Cond.selects RX6 yX6_placed yX6_placed ∈ wsL_law := tin_4 (List.mem_of_getElem? (i := 59) (by decide +kernel)) rfl
theorem wd_X6_placed : Wv M_X6_placed := ⟨w_479, w_480, w_4, w_478⟩
abbrev M_X11_answer : MI := (yX11_answer, cX11_answer, 4, (some .int), 5)
theorem ok_X11_answer : okM M_X11_answer 2 = true := by decide +kernel
theorem w_481 : Cond.code yX11_answer cX11_answer 4 (some .int) ∈ wsL_law := tin_4 (List.mem_of_getElem? (i := 56) (by decide +kernel)) rfl
theorem w_482 : Cond.instanceMethod yX11_answer ∈ wsL_law := tin_4 (List.mem_of_getElem? (i := 54) (by decide +kernel)) rfl
theorem w_483 : Cond.selects RX11 yX11_answer yX11_answer ∈ wsL_law := tin_4 (List.mem_of_getElem? (i := 55) (by decide +kernel)) rfl
theorem wd_X11_answer : Wv M_X11_answer := ⟨w_482, w_483, w_31, w_481⟩
abbrev M_X12_answer : MI := (yX12_answer, cX12_answer, 8, (some .int), 3)
theorem ok_X12_answer : okM M_X12_answer 2 = true := by decide +kernel
theorem w_484 : Cond.code yX12_answer cX12_answer 8 (some .int) ∈ wsL_law := tin_7 (List.mem_of_getElem? (i := 102) (by decide +kernel)) rfl
theorem w_485 : Cond.instanceMethod yX12_answer ∈ wsL_law := tin_7 (List.mem_of_getElem? (i := 100) (by decide +kernel)) rfl
theorem w_486 : Cond.selects RX12 yX12_answer yX12_answer ∈ wsL_law := tin_7 (List.mem_of_getElem? (i := 101) (by decide +kernel)) rfl
theorem wd_X12_answer : Wv M_X12_answer := ⟨w_485, w_486, w_34, w_484⟩
abbrev M_X6_isFixed : MI := (yX6_isFixed, cX6_isFixed, 2, (some .boolean), 1)
theorem ok_X6_isFixed : okM M_X6_isFixed 1 = true := by decide +kernel
theorem w_487 : Cond.code yX6_isFixed cX6_isFixed 2 (some .boolean) ∈ wsL_law := tin_4 (List.mem_of_getElem? (i := 87) (by decide +kernel)) rfl
theorem w_488 : Cond.instanceMethod yX6_isFixed ∈ wsL_law := tin_4 (List.mem_of_getElem? (i := 85) (by decide +kernel)) rfl
theorem w_489 : Cond.selects RX6 yX6_isFixed yX6_isFixed ∈ wsL_law := tin_4 (List.mem_of_getElem? (i := 86) (by decide +kernel)) rfl
theorem wd_X6_isFixed : Wv M_X6_isFixed := ⟨w_488, w_489, w_4, w_487⟩
abbrev M_X6_mustSort : MI := (yX6_mustSort, cX6_mustSort, 1, (some .boolean), 2)
theorem ok_X6_mustSort : okM M_X6_mustSort 0 = true := by decide +kernel
theorem w_490 : Cond.code yX6_mustSort cX6_mustSort 1 (some .boolean) ∈ wsL_law := tin_4 (List.mem_of_getElem? (i := 83) (by decide +kernel)) rfl
theorem w_491 : Cond.instanceMethod yX6_mustSort ∈ wsL_law := tin_4 (List.mem_of_getElem? (i := 81) (by decide +kernel)) rfl
theorem w_492 : Cond.selects RX6 yX6_mustSort yX6_mustSort ∈ wsL_law := tin_4 (List.mem_of_getElem? (i := 82) (by decide +kernel)) rfl
theorem wd_X6_mustSort : Wv M_X6_mustSort := ⟨w_491, w_492, w_4, w_490⟩
abbrev M_X8_pagesOf : MI := (yX8_pagesOf, cX8_pagesOf, 8, (some .int), 0)
theorem ok_X8_pagesOf : okM M_X8_pagesOf 1 = true := by decide +kernel
theorem w_493 : Cond.code yX8_pagesOf cX8_pagesOf 8 (some .int) ∈ wsL_law := tin_4 (List.mem_of_getElem? (i := 97) (by decide +kernel)) rfl
theorem w_494 : Cond.instanceMethod yX8_pagesOf ∈ wsL_law := tin_4 (List.mem_of_getElem? (i := 95) (by decide +kernel)) rfl
theorem w_495 : Cond.selects RX8 yX8_pagesOf yX8_pagesOf ∈ wsL_law := tin_4 (List.mem_of_getElem? (i := 96) (by decide +kernel)) rfl
theorem wd_X8_pagesOf : Wv M_X8_pagesOf := ⟨w_494, w_495, w_10, w_493⟩
abbrev M_X8_fullPages : MI := (yX8_fullPages, cX8_fullPages, 1, (some .int), 1)
theorem ok_X8_fullPages : okM M_X8_fullPages 0 = true := by decide +kernel
theorem w_496 : Cond.code yX8_fullPages cX8_fullPages 1 (some .int) ∈ wsL_law := tin_4 (List.mem_of_getElem? (i := 93) (by decide +kernel)) rfl
theorem w_497 : Cond.instanceMethod yX8_fullPages ∈ wsL_law := tin_4 (List.mem_of_getElem? (i := 91) (by decide +kernel)) rfl
theorem w_498 : Cond.selects RX8 yX8_fullPages yX8_fullPages ∈ wsL_law := tin_4 (List.mem_of_getElem? (i := 92) (by decide +kernel)) rfl
theorem wd_X8_fullPages : Wv M_X8_fullPages := ⟨w_497, w_498, w_10, w_496⟩
abbrev M_X9_add : MI := (yX9_add, cX9_add, 4, none, 1)
theorem ok_X9_add : okM M_X9_add 3 = true := by decide +kernel
theorem w_499 : Cond.code yX9_add cX9_add 4 none ∈ wsL_law := tin_4 (List.mem_of_getElem? (i := 101) (by decide +kernel)) rfl
theorem w_500 : Cond.instanceMethod yX9_add ∈ wsL_law := tin_4 (List.mem_of_getElem? (i := 100) (by decide +kernel)) rfl
theorem w_501 : Cond.selects RX9 yX9_add yX9_add ∈ wsL_law := tip_2 (q := (yX9_add, 8)) (List.mem_of_getElem? (i := 0) (by decide +kernel))
theorem wd_X9_add : Wv M_X9_add := ⟨w_500, w_501, w_19, w_499⟩
abbrev M_X2_columns : MI := (yX2_columns, cX2_columns, 1, (some .int), 0)
theorem ok_X2_columns : okM M_X2_columns 0 = true := by decide +kernel
theorem w_502 : Cond.code yX2_columns cX2_columns 1 (some .int) ∈ wsL_law := tin_4 (List.mem_of_getElem? (i := 111) (by decide +kernel)) rfl
theorem w_503 : Cond.instanceMethod yX2_columns ∈ wsL_law := tin_4 (List.mem_of_getElem? (i := 109) (by decide +kernel)) rfl
theorem w_504 : Cond.selects RX2 yX2_columns yX2_columns ∈ wsL_law := tin_4 (List.mem_of_getElem? (i := 110) (by decide +kernel)) rfl
theorem wd_X2_columns : Wv M_X2_columns := ⟨w_503, w_504, w_53, w_502⟩
abbrev M_X6_isBound : MI := (yX6_isBound, cX6_isBound, 2, (some .boolean), 1)
theorem ok_X6_isBound : okM M_X6_isBound 1 = true := by decide +kernel
theorem w_505 : Cond.code yX6_isBound cX6_isBound 2 (some .boolean) ∈ wsL_law := tin_4 (List.mem_of_getElem? (i := 119) (by decide +kernel)) rfl
theorem w_506 : Cond.instanceMethod yX6_isBound ∈ wsL_law := tin_4 (List.mem_of_getElem? (i := 117) (by decide +kernel)) rfl
theorem w_507 : Cond.selects RX6 yX6_isBound yX6_isBound ∈ wsL_law := tin_4 (List.mem_of_getElem? (i := 118) (by decide +kernel)) rfl
theorem wd_X6_isBound : Wv M_X6_isBound := ⟨w_506, w_507, w_4, w_505⟩
abbrev M_X2_runColumns : MI := (yX2_runColumns, cX2_runColumns, 5, (some .int), 2)
theorem ok_X2_runColumns : okM M_X2_runColumns 1 = true := by decide +kernel
theorem w_508 : Cond.code yX2_runColumns cX2_runColumns 5 (some .int) ∈ wsL_law := tin_4 (List.mem_of_getElem? (i := 115) (by decide +kernel)) rfl
theorem w_509 : Cond.instanceMethod yX2_runColumns ∈ wsL_law := tin_4 (List.mem_of_getElem? (i := 113) (by decide +kernel)) rfl
theorem w_510 : Cond.selects RX2 yX2_runColumns yX2_runColumns ∈ wsL_law := tin_4 (List.mem_of_getElem? (i := 114) (by decide +kernel)) rfl
theorem wd_X2_runColumns : Wv M_X2_runColumns := ⟨w_509, w_510, w_53, w_508⟩
abbrev M_X2_hasSome : MI := (yX2_hasSome, cX2_hasSome, 6, (some .boolean), 1)
theorem ok_X2_hasSome : okM M_X2_hasSome 3 = true := by decide +kernel
theorem w_511 : Cond.code yX2_hasSome cX2_hasSome 6 (some .boolean) ∈ wsL_law := tin_4 (List.mem_of_getElem? (i := 129) (by decide +kernel)) rfl
theorem w_512 : Cond.instanceMethod yX2_hasSome ∈ wsL_law := tin_4 (List.mem_of_getElem? (i := 128) (by decide +kernel)) rfl
theorem w_513 : Cond.selects RX2 yX2_hasSome yX2_hasSome ∈ wsL_law := tip_2 (q := (yX2_hasSome, 12)) (List.mem_of_getElem? (i := 2) (by decide +kernel))
theorem wd_X2_hasSome : Wv M_X2_hasSome := ⟨w_512, w_513, w_53, w_511⟩
abbrev M_X2_leavesOf : MI := (yX2_leavesOf, cX2_leavesOf, 7, (some .int), 2)
theorem ok_X2_leavesOf : okM M_X2_leavesOf 1 = true := by decide +kernel
theorem w_514 : Cond.code yX2_leavesOf cX2_leavesOf 7 (some .int) ∈ wsL_law := tin_4 (List.mem_of_getElem? (i := 125) (by decide +kernel)) rfl
theorem w_515 : Cond.instanceMethod yX2_leavesOf ∈ wsL_law := tin_4 (List.mem_of_getElem? (i := 123) (by decide +kernel)) rfl
theorem w_516 : Cond.selects RX2 yX2_leavesOf yX2_leavesOf ∈ wsL_law := tin_4 (List.mem_of_getElem? (i := 124) (by decide +kernel)) rfl
theorem wd_X2_leavesOf : Wv M_X2_leavesOf := ⟨w_515, w_516, w_53, w_514⟩
abbrev M_X6_usedColumns : MI := (yX6_usedColumns, cX6_usedColumns, 2, (some .int), 1)
theorem ok_X6_usedColumns : okM M_X6_usedColumns 0 = true := by decide +kernel
theorem w_517 : Cond.code yX6_usedColumns cX6_usedColumns 2 (some .int) ∈ wsL_law := tin_4 (List.mem_of_getElem? (i := 138) (by decide +kernel)) rfl
theorem w_518 : Cond.instanceMethod yX6_usedColumns ∈ wsL_law := tin_4 (List.mem_of_getElem? (i := 136) (by decide +kernel)) rfl
theorem w_519 : Cond.selects RX6 yX6_usedColumns yX6_usedColumns ∈ wsL_law := tin_4 (List.mem_of_getElem? (i := 137) (by decide +kernel)) rfl
theorem wd_X6_usedColumns : Wv M_X6_usedColumns := ⟨w_518, w_519, w_4, w_517⟩
abbrev M_X2_covers : MI := (yX2_covers, cX2_covers, 2, (some .boolean), 2)
theorem ok_X2_covers : okM M_X2_covers 1 = true := by decide +kernel
theorem w_520 : Cond.code yX2_covers cX2_covers 2 (some .boolean) ∈ wsL_law := tin_4 (List.mem_of_getElem? (i := 134) (by decide +kernel)) rfl
theorem w_521 : Cond.instanceMethod yX2_covers ∈ wsL_law := tin_4 (List.mem_of_getElem? (i := 132) (by decide +kernel)) rfl
theorem w_522 : Cond.selects RX2 yX2_covers yX2_covers ∈ wsL_law := tin_4 (List.mem_of_getElem? (i := 133) (by decide +kernel)) rfl
theorem wd_X2_covers : Wv M_X2_covers := ⟨w_521, w_522, w_53, w_520⟩
abbrev M_X6_sortColumn : MI := (yX6_sortColumn, cX6_sortColumn, 1, (some .int), 0)
theorem ok_X6_sortColumn : okM M_X6_sortColumn 0 = true := by decide +kernel
theorem w_523 : Cond.code yX6_sortColumn cX6_sortColumn 1 (some .int) ∈ wsL_law := tin_4 (List.mem_of_getElem? (i := 148) (by decide +kernel)) rfl
theorem w_524 : Cond.instanceMethod yX6_sortColumn ∈ wsL_law := tin_4 (List.mem_of_getElem? (i := 146) (by decide +kernel)) rfl
theorem w_525 : Cond.selects RX6 yX6_sortColumn yX6_sortColumn ∈ wsL_law := tin_4 (List.mem_of_getElem? (i := 147) (by decide +kernel)) rfl
theorem wd_X6_sortColumn : Wv M_X6_sortColumn := ⟨w_524, w_525, w_4, w_523⟩
abbrev M_X2_sortsFor : MI := (yX2_sortsFor, cX2_sortsFor, 4, (some .boolean), 2)
theorem ok_X2_sortsFor : okM M_X2_sortsFor 1 = true := by decide +kernel
theorem w_526 : Cond.code yX2_sortsFor cX2_sortsFor 4 (some .boolean) ∈ wsL_law := tin_4 (List.mem_of_getElem? (i := 144) (by decide +kernel)) rfl
theorem w_527 : Cond.instanceMethod yX2_sortsFor ∈ wsL_law := tin_4 (List.mem_of_getElem? (i := 142) (by decide +kernel)) rfl
theorem w_528 : Cond.selects RX2 yX2_sortsFor yX2_sortsFor ∈ wsL_law := tin_4 (List.mem_of_getElem? (i := 143) (by decide +kernel)) rfl
theorem wd_X2_sortsFor : Wv M_X2_sortsFor := ⟨w_527, w_528, w_53, w_526⟩
abbrev M_X9_listAlone : MI := (yX9_listAlone, cX9_listAlone, 8, none, 3)
theorem ok_X9_listAlone : okM M_X9_listAlone 3 = true := by decide +kernel
theorem w_529 : Cond.code yX9_listAlone cX9_listAlone 8 none ∈ wsL_law := tin_4 (List.mem_of_getElem? (i := 106) (by decide +kernel)) rfl
theorem w_530 : Cond.instanceMethod yX9_listAlone ∈ wsL_law := tin_4 (List.mem_of_getElem? (i := 105) (by decide +kernel)) rfl
theorem w_531 : Cond.selects RX9 yX9_listAlone yX9_listAlone ∈ wsL_law := tip_2 (q := (yX9_listAlone, 8)) (List.mem_of_getElem? (i := 1) (by decide +kernel))
theorem wd_X9_listAlone : Wv M_X9_listAlone := ⟨w_530, w_531, w_19, w_529⟩
abbrev M_X9_leftBy : MI := (yX9_leftBy, cX9_leftBy, 2, (some .long), 0)
theorem ok_X9_leftBy : okM M_X9_leftBy 1 = true := by decide +kernel
theorem w_532 : Cond.code yX9_leftBy cX9_leftBy 2 (some .long) ∈ wsL_law := tin_4 (List.mem_of_getElem? (i := 157) (by decide +kernel)) rfl
theorem w_533 : Cond.instanceMethod yX9_leftBy ∈ wsL_law := tin_4 (List.mem_of_getElem? (i := 156) (by decide +kernel)) rfl
theorem w_534 : Cond.selects RX9 yX9_leftBy yX9_leftBy ∈ wsL_law := tip_2 (q := (yX9_leftBy, 8)) (List.mem_of_getElem? (i := 4) (by decide +kernel))
theorem wd_X9_leftBy : Wv M_X9_leftBy := ⟨w_533, w_534, w_19, w_532⟩
abbrev M_X9_listBoth : MI := (yX9_listBoth, cX9_listBoth, 5, none, 2)
theorem ok_X9_listBoth : okM M_X9_listBoth 3 = true := by decide +kernel
theorem w_535 : Cond.code yX9_listBoth cX9_listBoth 5 none ∈ wsL_law := tin_4 (List.mem_of_getElem? (i := 152) (by decide +kernel)) rfl
theorem w_536 : Cond.instanceMethod yX9_listBoth ∈ wsL_law := tin_4 (List.mem_of_getElem? (i := 151) (by decide +kernel)) rfl
theorem w_537 : Cond.selects RX9 yX9_listBoth yX9_listBoth ∈ wsL_law := tip_2 (q := (yX9_listBoth, 8)) (List.mem_of_getElem? (i := 3) (by decide +kernel))
theorem wd_X9_listBoth : Wv M_X9_listBoth := ⟨w_536, w_537, w_19, w_535⟩
abbrev M_X9_list : MI := (yX9_list, cX9_list, 5, none, 4)
theorem ok_X9_list : okM M_X9_list 1 = true := by decide +kernel
theorem w_538 : Cond.code yX9_list cX9_list 5 none ∈ wsL_law := tin_4 (List.mem_of_getElem? (i := 79) (by decide +kernel)) rfl
theorem w_539 : Cond.instanceMethod yX9_list ∈ wsL_law := tin_4 (List.mem_of_getElem? (i := 77) (by decide +kernel)) rfl
theorem w_540 : Cond.selects RX9 yX9_list yX9_list ∈ wsL_law := tin_4 (List.mem_of_getElem? (i := 78) (by decide +kernel)) rfl
theorem wd_X9_list : Wv M_X9_list := ⟨w_539, w_540, w_19, w_538⟩
abbrev M_X9_placeOf : MI := (yX9_placeOf, cX9_placeOf, 2, (some .int), 2)
theorem ok_X9_placeOf : okM M_X9_placeOf 1 = true := by decide +kernel
theorem w_541 : Cond.code yX9_placeOf cX9_placeOf 2 (some .int) ∈ wsL_law := tin_4 (List.mem_of_getElem? (i := 161) (by decide +kernel)) rfl
theorem w_542 : Cond.instanceMethod yX9_placeOf ∈ wsL_law := tin_4 (List.mem_of_getElem? (i := 159) (by decide +kernel)) rfl
theorem w_543 : Cond.selects RX9 yX9_placeOf yX9_placeOf ∈ wsL_law := tin_4 (List.mem_of_getElem? (i := 160) (by decide +kernel)) rfl
theorem wd_X9_placeOf : Wv M_X9_placeOf := ⟨w_542, w_543, w_19, w_541⟩
abbrev M_X9_costAt : MI := (yX9_costAt, cX9_costAt, 2, (some .int), 1)
theorem ok_X9_costAt : okM M_X9_costAt 1 = true := by decide +kernel
theorem w_544 : Cond.code yX9_costAt cX9_costAt 2 (some .int) ∈ wsL_law := tin_4 (List.mem_of_getElem? (i := 166) (by decide +kernel)) rfl
theorem w_545 : Cond.instanceMethod yX9_costAt ∈ wsL_law := tin_4 (List.mem_of_getElem? (i := 164) (by decide +kernel)) rfl
theorem w_546 : Cond.selects RX9 yX9_costAt yX9_costAt ∈ wsL_law := tin_4 (List.mem_of_getElem? (i := 165) (by decide +kernel)) rfl
theorem wd_X9_costAt : Wv M_X9_costAt := ⟨w_545, w_546, w_19, w_544⟩
abbrev M_X11_looks : MI := (yX11_looks, cX11_looks, 5, (some .int), 5)
theorem ok_X11_looks : okM M_X11_looks 2 = true := by decide +kernel
theorem w_547 : Cond.code yX11_looks cX11_looks 5 (some .int) ∈ wsL_law := tin_4 (List.mem_of_getElem? (i := 75) (by decide +kernel)) rfl
theorem w_548 : Cond.instanceMethod yX11_looks ∈ wsL_law := tin_4 (List.mem_of_getElem? (i := 73) (by decide +kernel)) rfl
theorem w_549 : Cond.selects RX11 yX11_looks yX11_looks ∈ wsL_law := tin_4 (List.mem_of_getElem? (i := 74) (by decide +kernel)) rfl
theorem wd_X11_looks : Wv M_X11_looks := ⟨w_548, w_549, w_31, w_547⟩
abbrev M_X12_fullPages : MI := (yX12_fullPages, cX12_fullPages, 5, (some .int), 0)
theorem ok_X12_fullPages : okM M_X12_fullPages 0 = true := by decide +kernel
theorem w_550 : Cond.code yX12_fullPages cX12_fullPages 5 (some .int) ∈ wsL_law := tin_7 (List.mem_of_getElem? (i := 142) (by decide +kernel)) rfl
theorem w_551 : Cond.instanceMethod yX12_fullPages ∈ wsL_law := tin_7 (List.mem_of_getElem? (i := 141) (by decide +kernel)) rfl
theorem w_552 : Cond.selects RX12 yX12_fullPages yX12_fullPages ∈ wsL_law := tip_4 (q := (yX12_fullPages, 40)) (List.mem_of_getElem? (i := 12) (by decide +kernel))
theorem wd_X12_fullPages : Wv M_X12_fullPages := ⟨w_551, w_552, w_34, w_550⟩
abbrev M_X12_isFixed : MI := (yX12_isFixed, cX12_isFixed, 3, (some .boolean), 1)
theorem ok_X12_isFixed : okM M_X12_isFixed 2 = true := by decide +kernel
theorem w_553 : Cond.code yX12_isFixed cX12_isFixed 3 (some .boolean) ∈ wsL_law := tin_7 (List.mem_of_getElem? (i := 118) (by decide +kernel)) rfl
theorem w_554 : Cond.instanceMethod yX12_isFixed ∈ wsL_law := tin_7 (List.mem_of_getElem? (i := 117) (by decide +kernel)) rfl
theorem w_555 : Cond.selects RX12 yX12_isFixed yX12_isFixed ∈ wsL_law := tip_4 (q := (yX12_isFixed, 40)) (List.mem_of_getElem? (i := 7) (by decide +kernel))
theorem wd_X12_isFixed : Wv M_X12_isFixed := ⟨w_554, w_555, w_34, w_553⟩
abbrev M_X12_isSorted : MI := (yX12_isSorted, cX12_isSorted, 2, (some .boolean), 2)
theorem ok_X12_isSorted : okM M_X12_isSorted 1 = true := by decide +kernel
theorem w_556 : Cond.code yX12_isSorted cX12_isSorted 2 (some .boolean) ∈ wsL_law := tin_7 (List.mem_of_getElem? (i := 146) (by decide +kernel)) rfl
theorem w_557 : Cond.instanceMethod yX12_isSorted ∈ wsL_law := tin_7 (List.mem_of_getElem? (i := 145) (by decide +kernel)) rfl
theorem w_558 : Cond.selects RX12 yX12_isSorted yX12_isSorted ∈ wsL_law := tip_4 (q := (yX12_isSorted, 40)) (List.mem_of_getElem? (i := 13) (by decide +kernel))
theorem wd_X12_isSorted : Wv M_X12_isSorted := ⟨w_557, w_558, w_34, w_556⟩
abbrev M_X12_looksByTable : MI := (yX12_looksByTable, cX12_looksByTable, 2, (some .int), 4)
theorem ok_X12_looksByTable : okM M_X12_looksByTable 1 = true := by decide +kernel
theorem w_559 : Cond.code yX12_looksByTable cX12_looksByTable 2 (some .int) ∈ wsL_law := tin_7 (List.mem_of_getElem? (i := 138) (by decide +kernel)) rfl
theorem w_560 : Cond.instanceMethod yX12_looksByTable ∈ wsL_law := tin_7 (List.mem_of_getElem? (i := 137) (by decide +kernel)) rfl
theorem w_561 : Cond.selects RX12 yX12_looksByTable yX12_looksByTable ∈ wsL_law := tip_4 (q := (yX12_looksByTable, 40)) (List.mem_of_getElem? (i := 11) (by decide +kernel))
theorem wd_X12_looksByTable : Wv M_X12_looksByTable := ⟨w_560, w_561, w_34, w_559⟩
abbrev M_X12_isBound : MI := (yX12_isBound, cX12_isBound, 3, (some .boolean), 1)
theorem ok_X12_isBound : okM M_X12_isBound 2 = true := by decide +kernel
theorem w_562 : Cond.code yX12_isBound cX12_isBound 3 (some .boolean) ∈ wsL_law := tin_7 (List.mem_of_getElem? (i := 122) (by decide +kernel)) rfl
theorem w_563 : Cond.instanceMethod yX12_isBound ∈ wsL_law := tin_7 (List.mem_of_getElem? (i := 121) (by decide +kernel)) rfl
theorem w_564 : Cond.selects RX12 yX12_isBound yX12_isBound ∈ wsL_law := tip_4 (q := (yX12_isBound, 40)) (List.mem_of_getElem? (i := 8) (by decide +kernel))
theorem wd_X12_isBound : Wv M_X12_isBound := ⟨w_563, w_564, w_34, w_562⟩
abbrev M_X12_runColumns : MI := (yX12_runColumns, cX12_runColumns, 4, (some .int), 2)
theorem ok_X12_runColumns : okM M_X12_runColumns 2 = true := by decide +kernel
theorem w_565 : Cond.code yX12_runColumns cX12_runColumns 4 (some .int) ∈ wsL_law := tin_7 (List.mem_of_getElem? (i := 114) (by decide +kernel)) rfl
theorem w_566 : Cond.instanceMethod yX12_runColumns ∈ wsL_law := tin_7 (List.mem_of_getElem? (i := 113) (by decide +kernel)) rfl
theorem w_567 : Cond.selects RX12 yX12_runColumns yX12_runColumns ∈ wsL_law := tip_4 (q := (yX12_runColumns, 40)) (List.mem_of_getElem? (i := 6) (by decide +kernel))
theorem wd_X12_runColumns : Wv M_X12_runColumns := ⟨w_566, w_567, w_34, w_565⟩
abbrev M_X12_isInRun : MI := (yX12_isInRun, cX12_isInRun, 6, (some .boolean), 2)
theorem ok_X12_isInRun : okM M_X12_isInRun 4 = true := by decide +kernel
theorem w_568 : Cond.code yX12_isInRun cX12_isInRun 6 (some .boolean) ∈ wsL_law := tin_7 (List.mem_of_getElem? (i := 126) (by decide +kernel)) rfl
theorem w_569 : Cond.instanceMethod yX12_isInRun ∈ wsL_law := tin_7 (List.mem_of_getElem? (i := 125) (by decide +kernel)) rfl
theorem w_570 : Cond.selects RX12 yX12_isInRun yX12_isInRun ∈ wsL_law := tip_4 (q := (yX12_isInRun, 40)) (List.mem_of_getElem? (i := 9) (by decide +kernel))
theorem wd_X12_isInRun : Wv M_X12_isInRun := ⟨w_569, w_570, w_34, w_568⟩
abbrev M_X12_wayDown : MI := (yX12_wayDown, cX12_wayDown, 9, (some .int), 3)
theorem ok_X12_wayDown : okM M_X12_wayDown 2 = true := by decide +kernel
theorem w_571 : Cond.code yX12_wayDown cX12_wayDown 9 (some .int) ∈ wsL_law := tin_7 (List.mem_of_getElem? (i := 154) (by decide +kernel)) rfl
theorem w_572 : Cond.instanceMethod yX12_wayDown ∈ wsL_law := tin_7 (List.mem_of_getElem? (i := 153) (by decide +kernel)) rfl
theorem w_573 : Cond.selects RX12 yX12_wayDown yX12_wayDown ∈ wsL_law := tip_4 (q := (yX12_wayDown, 40)) (List.mem_of_getElem? (i := 15) (by decide +kernel))
theorem wd_X12_wayDown : Wv M_X12_wayDown := ⟨w_572, w_573, w_34, w_571⟩
abbrev M_X12_isInKey : MI := (yX12_isInKey, cX12_isInKey, 3, (some .boolean), 2)
theorem ok_X12_isInKey : okM M_X12_isInKey 2 = true := by decide +kernel
theorem w_574 : Cond.code yX12_isInKey cX12_isInKey 3 (some .boolean) ∈ wsL_law := tin_7 (List.mem_of_getElem? (i := 161) (by decide +kernel)) rfl
theorem w_575 : Cond.static yX12_isInKey ∈ wsL_law := tin_7 (List.mem_of_getElem? (i := 160) (by decide +kernel)) rfl
theorem wd_X12_isInKey : Ws M_X12_isInKey := ⟨w_575, w_34, w_574⟩
abbrev M_X12_isCovered : MI := (yX12_isCovered, cX12_isCovered, 5, (some .boolean), 3)
theorem ok_X12_isCovered : okM M_X12_isCovered 2 = true := by decide +kernel
theorem w_576 : Cond.code yX12_isCovered cX12_isCovered 5 (some .boolean) ∈ wsL_law := tin_7 (List.mem_of_getElem? (i := 158) (by decide +kernel)) rfl
theorem w_577 : Cond.instanceMethod yX12_isCovered ∈ wsL_law := tin_7 (List.mem_of_getElem? (i := 157) (by decide +kernel)) rfl
theorem w_578 : Cond.selects RX12 yX12_isCovered yX12_isCovered ∈ wsL_law := tip_5 (q := (yX12_isCovered, 40)) (List.mem_of_getElem? (i := 0) (by decide +kernel))
theorem wd_X12_isCovered : Wv M_X12_isCovered := ⟨w_577, w_578, w_34, w_576⟩
abbrev M_X12_leaves : MI := (yX12_leaves, cX12_leaves, 4, (some .boolean), 3)
theorem ok_X12_leaves : okM M_X12_leaves 3 = true := by decide +kernel
theorem w_579 : Cond.code yX12_leaves cX12_leaves 4 (some .boolean) ∈ wsL_law := tin_7 (List.mem_of_getElem? (i := 169) (by decide +kernel)) rfl
theorem w_580 : Cond.instanceMethod yX12_leaves ∈ wsL_law := tin_7 (List.mem_of_getElem? (i := 168) (by decide +kernel)) rfl
theorem w_581 : Cond.selects RX12 yX12_leaves yX12_leaves ∈ wsL_law := tip_5 (q := (yX12_leaves, 40)) (List.mem_of_getElem? (i := 2) (by decide +kernel))
theorem wd_X12_leaves : Wv M_X12_leaves := ⟨w_580, w_581, w_34, w_579⟩
abbrev M_X12_pagesLeft : MI := (yX12_pagesLeft, cX12_pagesLeft, 7, (some .int), 4)
theorem ok_X12_pagesLeft : okM M_X12_pagesLeft 3 = true := by decide +kernel
theorem w_582 : Cond.code yX12_pagesLeft cX12_pagesLeft 7 (some .int) ∈ wsL_law := tin_7 (List.mem_of_getElem? (i := 165) (by decide +kernel)) rfl
theorem w_583 : Cond.instanceMethod yX12_pagesLeft ∈ wsL_law := tin_7 (List.mem_of_getElem? (i := 164) (by decide +kernel)) rfl
theorem w_584 : Cond.selects RX12 yX12_pagesLeft yX12_pagesLeft ∈ wsL_law := tip_5 (q := (yX12_pagesLeft, 40)) (List.mem_of_getElem? (i := 1) (by decide +kernel))
theorem wd_X12_pagesLeft : Wv M_X12_pagesLeft := ⟨w_583, w_584, w_34, w_582⟩
abbrev M_X12_isSortedBy : MI := (yX12_isSortedBy, cX12_isSortedBy, 4, (some .boolean), 3)
theorem ok_X12_isSortedBy : okM M_X12_isSortedBy 2 = true := by decide +kernel
theorem w_585 : Cond.code yX12_isSortedBy cX12_isSortedBy 4 (some .boolean) ∈ wsL_law := tin_7 (List.mem_of_getElem? (i := 173) (by decide +kernel)) rfl
theorem w_586 : Cond.instanceMethod yX12_isSortedBy ∈ wsL_law := tin_7 (List.mem_of_getElem? (i := 172) (by decide +kernel)) rfl
theorem w_587 : Cond.selects RX12 yX12_isSortedBy yX12_isSortedBy ∈ wsL_law := tip_5 (q := (yX12_isSortedBy, 40)) (List.mem_of_getElem? (i := 3) (by decide +kernel))
theorem wd_X12_isSortedBy : Wv M_X12_isSortedBy := ⟨w_586, w_587, w_34, w_585⟩
abbrev M_X12_looksBy : MI := (yX12_looksBy, cX12_looksBy, 3, (some .int), 5)
theorem ok_X12_looksBy : okM M_X12_looksBy 2 = true := by decide +kernel
theorem w_588 : Cond.code yX12_looksBy cX12_looksBy 3 (some .int) ∈ wsL_law := tin_7 (List.mem_of_getElem? (i := 150) (by decide +kernel)) rfl
theorem w_589 : Cond.instanceMethod yX12_looksBy ∈ wsL_law := tin_7 (List.mem_of_getElem? (i := 149) (by decide +kernel)) rfl
theorem w_590 : Cond.selects RX12 yX12_looksBy yX12_looksBy ∈ wsL_law := tip_4 (q := (yX12_looksBy, 40)) (List.mem_of_getElem? (i := 14) (by decide +kernel))
theorem wd_X12_looksBy : Wv M_X12_looksBy := ⟨w_589, w_590, w_34, w_588⟩
abbrev M_X12_looksByBoth : MI := (yX12_looksByBoth, cX12_looksByBoth, 4, (some .int), 5)
theorem ok_X12_looksByBoth : okM M_X12_looksByBoth 3 = true := by decide +kernel
theorem w_591 : Cond.code yX12_looksByBoth cX12_looksByBoth 4 (some .int) ∈ wsL_law := tin_7 (List.mem_of_getElem? (i := 177) (by decide +kernel)) rfl
theorem w_592 : Cond.instanceMethod yX12_looksByBoth ∈ wsL_law := tin_7 (List.mem_of_getElem? (i := 176) (by decide +kernel)) rfl
theorem w_593 : Cond.selects RX12 yX12_looksByBoth yX12_looksByBoth ∈ wsL_law := tip_5 (q := (yX12_looksByBoth, 40)) (List.mem_of_getElem? (i := 4) (by decide +kernel))
theorem wd_X12_looksByBoth : Wv M_X12_looksByBoth := ⟨w_592, w_593, w_34, w_591⟩
abbrev M_X12_looksOf : MI := (yX12_looksOf, cX12_looksOf, 5, (some .int), 6)
theorem ok_X12_looksOf : okM M_X12_looksOf 2 = true := by decide +kernel
theorem w_594 : Cond.code yX12_looksOf cX12_looksOf 5 (some .int) ∈ wsL_law := tin_7 (List.mem_of_getElem? (i := 134) (by decide +kernel)) rfl
theorem w_595 : Cond.instanceMethod yX12_looksOf ∈ wsL_law := tin_7 (List.mem_of_getElem? (i := 133) (by decide +kernel)) rfl
theorem w_596 : Cond.selects RX12 yX12_looksOf yX12_looksOf ∈ wsL_law := tip_4 (q := (yX12_looksOf, 40)) (List.mem_of_getElem? (i := 10) (by decide +kernel))
theorem wd_X12_looksOf : Wv M_X12_looksOf := ⟨w_595, w_596, w_34, w_594⟩
abbrev M_X12_looks : MI := (yX12_looks, cX12_looks, 4, (some .int), 7)
theorem ok_X12_looks : okM M_X12_looks 2 = true := by decide +kernel
theorem w_597 : Cond.code yX12_looks cX12_looks 4 (some .int) ∈ wsL_law := tin_7 (List.mem_of_getElem? (i := 130) (by decide +kernel)) rfl
theorem w_598 : Cond.instanceMethod yX12_looks ∈ wsL_law := tin_7 (List.mem_of_getElem? (i := 128) (by decide +kernel)) rfl
theorem w_599 : Cond.selects RX12 yX12_looks yX12_looks ∈ wsL_law := tin_7 (List.mem_of_getElem? (i := 129) (by decide +kernel)) rfl
theorem wd_X12_looks : Wv M_X12_looks := ⟨w_598, w_599, w_34, w_597⟩
abbrev M_X11_run : MI := (yX11_run, cX11_run, 5, (some .int), 3)
theorem ok_X11_run : okM M_X11_run 2 = true := by decide +kernel
theorem w_600 : Cond.code yX11_run cX11_run 5 (some .int) ∈ wsL_law := tin_4 (List.mem_of_getElem? (i := 170) (by decide +kernel)) rfl
theorem w_601 : Cond.instanceMethod yX11_run ∈ wsL_law := tin_4 (List.mem_of_getElem? (i := 168) (by decide +kernel)) rfl
theorem w_602 : Cond.selects RX11 yX11_run yX11_run ∈ wsL_law := tin_4 (List.mem_of_getElem? (i := 169) (by decide +kernel)) rfl
theorem wd_X11_run : Wv M_X11_run := ⟨w_601, w_602, w_31, w_600⟩
abbrev M_X12_runOf : MI := (yX12_runOf, cX12_runOf, 6, (some .int), 3)
theorem ok_X12_runOf : okM M_X12_runOf 2 = true := by decide +kernel
theorem w_603 : Cond.code yX12_runOf cX12_runOf 6 (some .int) ∈ wsL_law := tin_7 (List.mem_of_getElem? (i := 110) (by decide +kernel)) rfl
theorem w_604 : Cond.instanceMethod yX12_runOf ∈ wsL_law := tin_7 (List.mem_of_getElem? (i := 109) (by decide +kernel)) rfl
theorem w_605 : Cond.selects RX12 yX12_runOf yX12_runOf ∈ wsL_law := tip_4 (q := (yX12_runOf, 40)) (List.mem_of_getElem? (i := 5) (by decide +kernel))
theorem wd_X12_runOf : Wv M_X12_runOf := ⟨w_604, w_605, w_34, w_603⟩
abbrev M_X12_run : MI := (yX12_run, cX12_run, 3, (some .int), 4)
theorem ok_X12_run : okM M_X12_run 2 = true := by decide +kernel
theorem w_606 : Cond.code yX12_run cX12_run 3 (some .int) ∈ wsL_law := tin_7 (List.mem_of_getElem? (i := 106) (by decide +kernel)) rfl
theorem w_607 : Cond.instanceMethod yX12_run ∈ wsL_law := tin_7 (List.mem_of_getElem? (i := 104) (by decide +kernel)) rfl
theorem w_608 : Cond.selects RX12 yX12_run yX12_run ∈ wsL_law := tin_7 (List.mem_of_getElem? (i := 105) (by decide +kernel)) rfl
theorem wd_X12_run : Wv M_X12_run := ⟨w_607, w_608, w_34, w_606⟩
abbrev M_X11_isSet : MI := (yX11_isSet, cX11_isSet, 1, (some .boolean), 0)
theorem ok_X11_isSet : okM M_X11_isSet 1 = true := by decide +kernel
theorem w_609 : Cond.code yX11_isSet cX11_isSet 1 (some .boolean) ∈ wsL_law := tin_4 (List.mem_of_getElem? (i := 178) (by decide +kernel)) rfl
theorem w_610 : Cond.static yX11_isSet ∈ wsL_law := tin_4 (List.mem_of_getElem? (i := 177) (by decide +kernel)) rfl
theorem wd_X11_isSet : Ws M_X11_isSet := ⟨w_610, w_31, w_609⟩
abbrev M_X9_bestPlace : MI := (yX9_bestPlace, cX9_bestPlace, 4, (some .int), 1)
theorem ok_X9_bestPlace : okM M_X9_bestPlace 1 = true := by decide +kernel
theorem w_611 : Cond.code yX9_bestPlace cX9_bestPlace 4 (some .int) ∈ wsL_law := tin_4 (List.mem_of_getElem? (i := 182) (by decide +kernel)) rfl
theorem w_612 : Cond.instanceMethod yX9_bestPlace ∈ wsL_law := tin_4 (List.mem_of_getElem? (i := 180) (by decide +kernel)) rfl
theorem w_613 : Cond.selects RX9 yX9_bestPlace yX9_bestPlace ∈ wsL_law := tin_4 (List.mem_of_getElem? (i := 181) (by decide +kernel)) rfl
theorem wd_X9_bestPlace : Wv M_X9_bestPlace := ⟨w_612, w_613, w_19, w_611⟩
abbrev M_X9_numberAt : MI := (yX9_numberAt, cX9_numberAt, 2, (some .int), 1)
theorem ok_X9_numberAt : okM M_X9_numberAt 1 = true := by decide +kernel
theorem w_614 : Cond.code yX9_numberAt cX9_numberAt 2 (some .int) ∈ wsL_law := tin_4 (List.mem_of_getElem? (i := 186) (by decide +kernel)) rfl
theorem w_615 : Cond.instanceMethod yX9_numberAt ∈ wsL_law := tin_4 (List.mem_of_getElem? (i := 184) (by decide +kernel)) rfl
theorem w_616 : Cond.selects RX9 yX9_numberAt yX9_numberAt ∈ wsL_law := tin_4 (List.mem_of_getElem? (i := 185) (by decide +kernel)) rfl
theorem wd_X9_numberAt : Wv M_X9_numberAt := ⟨w_615, w_616, w_19, w_614⟩
abbrev M_X11_best : MI := (yX11_best, cX11_best, 4, (some .int), 5)
theorem ok_X11_best : okM M_X11_best 2 = true := by decide +kernel
theorem w_617 : Cond.code yX11_best cX11_best 4 (some .int) ∈ wsL_law := tin_4 (List.mem_of_getElem? (i := 175) (by decide +kernel)) rfl
theorem w_618 : Cond.instanceMethod yX11_best ∈ wsL_law := tin_4 (List.mem_of_getElem? (i := 173) (by decide +kernel)) rfl
theorem w_619 : Cond.selects RX11 yX11_best yX11_best ∈ wsL_law := tin_4 (List.mem_of_getElem? (i := 174) (by decide +kernel)) rfl
theorem wd_X11_best : Wv M_X11_best := ⟨w_618, w_619, w_31, w_617⟩
abbrev M_X12_lookAll : MI := (yX12_lookAll, cX12_lookAll, 4, none, 6)
theorem ok_X12_lookAll : okM M_X12_lookAll 1 = true := by decide +kernel
theorem w_620 : Cond.code yX12_lookAll cX12_lookAll 4 none ∈ wsL_law := tin_7 (List.mem_of_getElem? (i := 185) (by decide +kernel)) rfl
theorem w_621 : Cond.instanceMethod yX12_lookAll ∈ wsL_law := tin_7 (List.mem_of_getElem? (i := 184) (by decide +kernel)) rfl
theorem w_622 : Cond.selects RX12 yX12_lookAll yX12_lookAll ∈ wsL_law := tip_5 (q := (yX12_lookAll, 40)) (List.mem_of_getElem? (i := 5) (by decide +kernel))
theorem wd_X12_lookAll : Wv M_X12_lookAll := ⟨w_621, w_622, w_34, w_620⟩
abbrev M_X12_better : MI := (yX12_better, cX12_better, 3, none, 0)
theorem ok_X12_better : okM M_X12_better 2 = true := by decide +kernel
theorem w_623 : Cond.code yX12_better cX12_better 3 none ∈ wsL_law := tin_7 (List.mem_of_getElem? (i := 193) (by decide +kernel)) rfl
theorem w_624 : Cond.instanceMethod yX12_better ∈ wsL_law := tin_7 (List.mem_of_getElem? (i := 192) (by decide +kernel)) rfl
theorem w_625 : Cond.selects RX12 yX12_better yX12_better ∈ wsL_law := tip_5 (q := (yX12_better, 40)) (List.mem_of_getElem? (i := 7) (by decide +kernel))
theorem wd_X12_better : Wv M_X12_better := ⟨w_624, w_625, w_34, w_623⟩
abbrev M_X12_seekBest : MI := (yX12_seekBest, cX12_seekBest, 5, none, 1)
theorem ok_X12_seekBest : okM M_X12_seekBest 2 = true := by decide +kernel
theorem w_626 : Cond.code yX12_seekBest cX12_seekBest 5 none ∈ wsL_law := tin_7 (List.mem_of_getElem? (i := 189) (by decide +kernel)) rfl
theorem w_627 : Cond.instanceMethod yX12_seekBest ∈ wsL_law := tin_7 (List.mem_of_getElem? (i := 188) (by decide +kernel)) rfl
theorem w_628 : Cond.selects RX12 yX12_seekBest yX12_seekBest ∈ wsL_law := tip_5 (q := (yX12_seekBest, 40)) (List.mem_of_getElem? (i := 6) (by decide +kernel))
theorem wd_X12_seekBest : Wv M_X12_seekBest := ⟨w_627, w_628, w_34, w_626⟩
abbrev M_X12_best : MI := (yX12_best, cX12_best, 3, (some .int), 7)
theorem ok_X12_best : okM M_X12_best 2 = true := by decide +kernel
theorem w_629 : Cond.code yX12_best cX12_best 3 (some .int) ∈ wsL_law := tin_7 (List.mem_of_getElem? (i := 181) (by decide +kernel)) rfl
theorem w_630 : Cond.instanceMethod yX12_best ∈ wsL_law := tin_7 (List.mem_of_getElem? (i := 179) (by decide +kernel)) rfl
theorem w_631 : Cond.selects RX12 yX12_best yX12_best ∈ wsL_law := tin_7 (List.mem_of_getElem? (i := 180) (by decide +kernel)) rfl
theorem wd_X12_best : Wv M_X12_best := ⟨w_630, w_631, w_34, w_629⟩
abbrev M_X3_burdenOf : MI := (yX3_burdenOf, cX3_burdenOf, 5, (some .int), 3)
theorem ok_X3_burdenOf : okM M_X3_burdenOf 1 = true := by decide +kernel
theorem w_632 : Cond.code yX3_burdenOf cX3_burdenOf 5 (some .int) ∈ wsL_law := tin_4 (List.mem_of_getElem? (i := 198) (by decide +kernel)) rfl
theorem w_633 : Cond.instanceMethod yX3_burdenOf ∈ wsL_law := tin_4 (List.mem_of_getElem? (i := 196) (by decide +kernel)) rfl
theorem w_634 : Cond.selects RX3 yX3_burdenOf yX3_burdenOf ∈ wsL_law := tin_4 (List.mem_of_getElem? (i := 197) (by decide +kernel)) rfl
theorem wd_X3_burdenOf : Wv M_X3_burdenOf := ⟨w_633, w_634, w_16, w_632⟩
abbrev M_X10_workOf : MI := (yX10_workOf, cX10_workOf, 5, (some .int), 5)
theorem ok_X10_workOf : okM M_X10_workOf 1 = true := by decide +kernel
theorem w_635 : Cond.code yX10_workOf cX10_workOf 5 (some .int) ∈ wsL_law := tin_4 (List.mem_of_getElem? (i := 194) (by decide +kernel)) rfl
theorem w_636 : Cond.instanceMethod yX10_workOf ∈ wsL_law := tin_4 (List.mem_of_getElem? (i := 192) (by decide +kernel)) rfl
theorem w_637 : Cond.selects RX10 yX10_workOf yX10_workOf ∈ wsL_law := tin_4 (List.mem_of_getElem? (i := 193) (by decide +kernel)) rfl
theorem wd_X10_workOf : Wv M_X10_workOf := ⟨w_636, w_637, w_22, w_635⟩
abbrev M_X11_work : MI := (yX11_work, cX11_work, 2, (some .int), 6)
theorem ok_X11_work : okM M_X11_work 1 = true := by decide +kernel
theorem w_638 : Cond.code yX11_work cX11_work 2 (some .int) ∈ wsL_law := tin_4 (List.mem_of_getElem? (i := 190) (by decide +kernel)) rfl
theorem w_639 : Cond.instanceMethod yX11_work ∈ wsL_law := tin_4 (List.mem_of_getElem? (i := 188) (by decide +kernel)) rfl
theorem w_640 : Cond.selects RX11 yX11_work yX11_work ∈ wsL_law := tin_4 (List.mem_of_getElem? (i := 189) (by decide +kernel)) rfl
theorem wd_X11_work : Wv M_X11_work := ⟨w_639, w_640, w_31, w_638⟩
abbrev M_X12_lookAtAll : MI := (yX12_lookAtAll, cX12_lookAtAll, 2, none, 7)
theorem ok_X12_lookAtAll : okM M_X12_lookAtAll 0 = true := by decide +kernel
theorem w_641 : Cond.code yX12_lookAtAll cX12_lookAtAll 2 none ∈ wsL_law := tin_7 (List.mem_of_getElem? (i := 201) (by decide +kernel)) rfl
theorem w_642 : Cond.instanceMethod yX12_lookAtAll ∈ wsL_law := tin_7 (List.mem_of_getElem? (i := 200) (by decide +kernel)) rfl
theorem w_643 : Cond.selects RX12 yX12_lookAtAll yX12_lookAtAll ∈ wsL_law := tip_5 (q := (yX12_lookAtAll, 40)) (List.mem_of_getElem? (i := 8) (by decide +kernel))
theorem wd_X12_lookAtAll : Wv M_X12_lookAtAll := ⟨w_642, w_643, w_34, w_641⟩
abbrev M_X12_workOf : MI := (yX12_workOf, cX12_workOf, 4, (some .int), 2)
theorem ok_X12_workOf : okM M_X12_workOf 1 = true := by decide +kernel
theorem w_644 : Cond.code yX12_workOf cX12_workOf 4 (some .int) ∈ wsL_law := tin_7 (List.mem_of_getElem? (i := 205) (by decide +kernel)) rfl
theorem w_645 : Cond.instanceMethod yX12_workOf ∈ wsL_law := tin_7 (List.mem_of_getElem? (i := 204) (by decide +kernel)) rfl
theorem w_646 : Cond.selects RX12 yX12_workOf yX12_workOf ∈ wsL_law := tip_5 (q := (yX12_workOf, 40)) (List.mem_of_getElem? (i := 9) (by decide +kernel))
theorem wd_X12_workOf : Wv M_X12_workOf := ⟨w_645, w_646, w_34, w_644⟩
abbrev M_X12_work : MI := (yX12_work, cX12_work, 2, (some .int), 8)
theorem ok_X12_work : okM M_X12_work 1 = true := by decide +kernel
theorem w_647 : Cond.code yX12_work cX12_work 2 (some .int) ∈ wsL_law := tin_7 (List.mem_of_getElem? (i := 197) (by decide +kernel)) rfl
theorem w_648 : Cond.instanceMethod yX12_work ∈ wsL_law := tin_7 (List.mem_of_getElem? (i := 195) (by decide +kernel)) rfl
theorem w_649 : Cond.selects RX12 yX12_work yX12_work ∈ wsL_law := tin_7 (List.mem_of_getElem? (i := 196) (by decide +kernel)) rfl
theorem wd_X12_work : Wv M_X12_work := ⟨w_648, w_649, w_34, w_647⟩
abbrev M_X10_upkeepNow : MI := (yX10_upkeepNow, cX10_upkeepNow, 1, (some .int), 0)
theorem ok_X10_upkeepNow : okM M_X10_upkeepNow 0 = true := by decide +kernel
theorem w_650 : Cond.code yX10_upkeepNow cX10_upkeepNow 1 (some .int) ∈ wsL_law := tin_4 (List.mem_of_getElem? (i := 213) (by decide +kernel)) rfl
theorem w_651 : Cond.instanceMethod yX10_upkeepNow ∈ wsL_law := tin_4 (List.mem_of_getElem? (i := 211) (by decide +kernel)) rfl
theorem w_652 : Cond.selects RX10 yX10_upkeepNow yX10_upkeepNow ∈ wsL_law := tin_4 (List.mem_of_getElem? (i := 212) (by decide +kernel)) rfl
theorem wd_X10_upkeepNow : Wv M_X10_upkeepNow := ⟨w_651, w_652, w_22, w_650⟩
abbrev M_X10_setUpkeep : MI := (yX10_setUpkeep, cX10_setUpkeep, 2, none, 0)
theorem ok_X10_setUpkeep : okM M_X10_setUpkeep 1 = true := by decide +kernel
theorem w_653 : Cond.code yX10_setUpkeep cX10_setUpkeep 2 none ∈ wsL_law := tin_4 (List.mem_of_getElem? (i := 217) (by decide +kernel)) rfl
theorem w_654 : Cond.instanceMethod yX10_setUpkeep ∈ wsL_law := tin_4 (List.mem_of_getElem? (i := 215) (by decide +kernel)) rfl
theorem w_655 : Cond.selects RX10 yX10_setUpkeep yX10_setUpkeep ∈ wsL_law := tin_4 (List.mem_of_getElem? (i := 216) (by decide +kernel)) rfl
theorem wd_X10_setUpkeep : Wv M_X10_setUpkeep := ⟨w_654, w_655, w_22, w_653⟩
abbrev M_X11_upkeep : MI := (yX11_upkeep, cX11_upkeep, 3, (some .int), 1)
theorem ok_X11_upkeep : okM M_X11_upkeep 1 = true := by decide +kernel
theorem w_656 : Cond.code yX11_upkeep cX11_upkeep 3 (some .int) ∈ wsL_law := tin_4 (List.mem_of_getElem? (i := 209) (by decide +kernel)) rfl
theorem w_657 : Cond.instanceMethod yX11_upkeep ∈ wsL_law := tin_4 (List.mem_of_getElem? (i := 207) (by decide +kernel)) rfl
theorem w_658 : Cond.selects RX11 yX11_upkeep yX11_upkeep ∈ wsL_law := tin_4 (List.mem_of_getElem? (i := 208) (by decide +kernel)) rfl
theorem wd_X11_upkeep : Wv M_X11_upkeep := ⟨w_657, w_658, w_31, w_656⟩
abbrev M_X12_upkeep : MI := (yX12_upkeep, cX12_upkeep, 3, (some .int), 2)
theorem ok_X12_upkeep : okM M_X12_upkeep 1 = true := by decide +kernel
theorem w_659 : Cond.code yX12_upkeep cX12_upkeep 3 (some .int) ∈ wsL_law := tin_7 (List.mem_of_getElem? (i := 209) (by decide +kernel)) rfl
theorem w_660 : Cond.instanceMethod yX12_upkeep ∈ wsL_law := tin_7 (List.mem_of_getElem? (i := 207) (by decide +kernel)) rfl
theorem w_661 : Cond.selects RX12 yX12_upkeep yX12_upkeep ∈ wsL_law := tin_7 (List.mem_of_getElem? (i := 208) (by decide +kernel)) rfl
theorem wd_X12_upkeep : Wv M_X12_upkeep := ⟨w_660, w_661, w_34, w_659⟩
abbrev M_X11_isSpace : MI := (yX11_isSpace, cX11_isSpace, 1, (some .boolean), 0)
theorem ok_X11_isSpace : okM M_X11_isSpace 1 = true := by decide +kernel
theorem w_662 : Cond.code yX11_isSpace cX11_isSpace 1 (some .boolean) ∈ wsL_law := tin_4 (List.mem_of_getElem? (i := 224) (by decide +kernel)) rfl
theorem w_663 : Cond.static yX11_isSpace ∈ wsL_law := tin_4 (List.mem_of_getElem? (i := 223) (by decide +kernel)) rfl
theorem wd_X11_isSpace : Ws M_X11_isSpace := ⟨w_663, w_31, w_662⟩
abbrev M_X9_fewestOfAll : MI := (yX9_fewestOfAll, cX9_fewestOfAll, 4, none, 1)
theorem ok_X9_fewestOfAll : okM M_X9_fewestOfAll 1 = true := by decide +kernel
theorem w_664 : Cond.code yX9_fewestOfAll cX9_fewestOfAll 4 none ∈ wsL_law := tin_4 (List.mem_of_getElem? (i := 237) (by decide +kernel)) rfl
theorem w_665 : Cond.instanceMethod yX9_fewestOfAll ∈ wsL_law := tin_4 (List.mem_of_getElem? (i := 235) (by decide +kernel)) rfl
theorem w_666 : Cond.selects RX9 yX9_fewestOfAll yX9_fewestOfAll ∈ wsL_law := tin_4 (List.mem_of_getElem? (i := 236) (by decide +kernel)) rfl
theorem wd_X9_fewestOfAll : Wv M_X9_fewestOfAll := ⟨w_665, w_666, w_19, w_664⟩
abbrev M_X10_workOutAll : MI := (yX10_workOutAll, cX10_workOutAll, 4, none, 5)
theorem ok_X10_workOutAll : okM M_X10_workOutAll 0 = true := by decide +kernel
theorem w_667 : Cond.code yX10_workOutAll cX10_workOutAll 4 none ∈ wsL_law := tin_4 (List.mem_of_getElem? (i := 232) (by decide +kernel)) rfl
theorem w_668 : Cond.instanceMethod yX10_workOutAll ∈ wsL_law := tin_4 (List.mem_of_getElem? (i := 231) (by decide +kernel)) rfl
theorem w_669 : Cond.selects RX10 yX10_workOutAll yX10_workOutAll ∈ wsL_law := tip_2 (q := (yX10_workOutAll, 9)) (List.mem_of_getElem? (i := 5) (by decide +kernel))
theorem wd_X10_workOutAll : Wv M_X10_workOutAll := ⟨w_668, w_669, w_22, w_667⟩
abbrev M_X3_keptSet : MI := (yX3_keptSet, cX3_keptSet, 3, (some .int), 2)
theorem ok_X3_keptSet : okM M_X3_keptSet 0 = true := by decide +kernel
theorem w_670 : Cond.code yX3_keptSet cX3_keptSet 3 (some .int) ∈ wsL_law := tin_5 (List.mem_of_getElem? (i := 5) (by decide +kernel)) rfl
theorem w_671 : Cond.instanceMethod yX3_keptSet ∈ wsL_law := tin_5 (List.mem_of_getElem? (i := 3) (by decide +kernel)) rfl
theorem w_672 : Cond.selects RX3 yX3_keptSet yX3_keptSet ∈ wsL_law := tin_5 (List.mem_of_getElem? (i := 4) (by decide +kernel)) rfl
theorem wd_X3_keptSet : Wv M_X3_keptSet := ⟨w_671, w_672, w_16, w_670⟩
abbrev M_X3_sizesOf : MI := (yX3_sizesOf, cX3_sizesOf, 5, (some .int), 4)
theorem ok_X3_sizesOf : okM M_X3_sizesOf 1 = true := by decide +kernel
theorem w_673 : Cond.code yX3_sizesOf cX3_sizesOf 5 (some .int) ∈ wsL_law := tin_5 (List.mem_of_getElem? (i := 10) (by decide +kernel)) rfl
theorem w_674 : Cond.instanceMethod yX3_sizesOf ∈ wsL_law := tin_5 (List.mem_of_getElem? (i := 8) (by decide +kernel)) rfl
theorem w_675 : Cond.selects RX3 yX3_sizesOf yX3_sizesOf ∈ wsL_law := tin_5 (List.mem_of_getElem? (i := 9) (by decide +kernel)) rfl
theorem wd_X3_sizesOf : Wv M_X3_sizesOf := ⟨w_674, w_675, w_16, w_673⟩
abbrev M_X10_isBetter : MI := (yX10_isBetter, cX10_isBetter, 3, (some .boolean), 5)
theorem ok_X10_isBetter : okM M_X10_isBetter 2 = true := by decide +kernel
theorem w_676 : Cond.code yX10_isBetter cX10_isBetter 3 (some .boolean) ∈ wsL_law := tin_5 (List.mem_of_getElem? (i := 15) (by decide +kernel)) rfl
theorem w_677 : Cond.instanceMethod yX10_isBetter ∈ wsL_law := tin_5 (List.mem_of_getElem? (i := 14) (by decide +kernel)) rfl
theorem w_678 : Cond.selects RX10 yX10_isBetter yX10_isBetter ∈ wsL_law := tip_2 (q := (yX10_isBetter, 9)) (List.mem_of_getElem? (i := 6) (by decide +kernel))
theorem wd_X10_isBetter : Wv M_X10_isBetter := ⟨w_677, w_678, w_22, w_676⟩
abbrev M_X10_bestSet : MI := (yX10_bestSet, cX10_bestSet, 5, (some .int), 6)
theorem ok_X10_bestSet : okM M_X10_bestSet 1 = true := by decide +kernel
theorem w_679 : Cond.code yX10_bestSet cX10_bestSet 5 (some .int) ∈ wsL_law := tin_4 (List.mem_of_getElem? (i := 228) (by decide +kernel)) rfl
theorem w_680 : Cond.instanceMethod yX10_bestSet ∈ wsL_law := tin_4 (List.mem_of_getElem? (i := 226) (by decide +kernel)) rfl
theorem w_681 : Cond.selects RX10 yX10_bestSet yX10_bestSet ∈ wsL_law := tin_4 (List.mem_of_getElem? (i := 227) (by decide +kernel)) rfl
theorem wd_X10_bestSet : Wv M_X10_bestSet := ⟨w_680, w_681, w_22, w_679⟩
abbrev M_X10_workedOut : MI := (yX10_workedOut, cX10_workedOut, 2, (some .int), 1)
theorem ok_X10_workedOut : okM M_X10_workedOut 1 = true := by decide +kernel
theorem w_682 : Cond.code yX10_workedOut cX10_workedOut 2 (some .int) ∈ wsL_law := tin_5 (List.mem_of_getElem? (i := 19) (by decide +kernel)) rfl
theorem w_683 : Cond.instanceMethod yX10_workedOut ∈ wsL_law := tin_5 (List.mem_of_getElem? (i := 17) (by decide +kernel)) rfl
theorem w_684 : Cond.selects RX10 yX10_workedOut yX10_workedOut ∈ wsL_law := tin_5 (List.mem_of_getElem? (i := 18) (by decide +kernel)) rfl
theorem wd_X10_workedOut : Wv M_X10_workedOut := ⟨w_683, w_684, w_22, w_682⟩
abbrev M_X11_choose : MI := (yX11_choose, cX11_choose, 4, (some .int), 7)
theorem ok_X11_choose : okM M_X11_choose 2 = true := by decide +kernel
theorem w_685 : Cond.code yX11_choose cX11_choose 4 (some .int) ∈ wsL_law := tin_4 (List.mem_of_getElem? (i := 221) (by decide +kernel)) rfl
theorem w_686 : Cond.instanceMethod yX11_choose ∈ wsL_law := tin_4 (List.mem_of_getElem? (i := 219) (by decide +kernel)) rfl
theorem w_687 : Cond.selects RX11 yX11_choose yX11_choose ∈ wsL_law := tin_4 (List.mem_of_getElem? (i := 220) (by decide +kernel)) rfl
theorem wd_X11_choose : Wv M_X11_choose := ⟨w_686, w_687, w_31, w_685⟩
abbrev M_X12_isKept : MI := (yX12_isKept, cX12_isKept, 4, (some .boolean), 0)
theorem ok_X12_isKept : okM M_X12_isKept 1 = true := by decide +kernel
theorem w_688 : Cond.code yX12_isKept cX12_isKept 4 (some .boolean) ∈ wsL_law := tin_7 (List.mem_of_getElem? (i := 217) (by decide +kernel)) rfl
theorem w_689 : Cond.instanceMethod yX12_isKept ∈ wsL_law := tin_7 (List.mem_of_getElem? (i := 216) (by decide +kernel)) rfl
theorem w_690 : Cond.selects RX12 yX12_isKept yX12_isKept ∈ wsL_law := tip_5 (q := (yX12_isKept, 40)) (List.mem_of_getElem? (i := 10) (by decide +kernel))
theorem wd_X12_isKept : Wv M_X12_isKept := ⟨w_689, w_690, w_34, w_688⟩
abbrev M_X12_spaceOf : MI := (yX12_spaceOf, cX12_spaceOf, 4, (some .int), 1)
theorem ok_X12_spaceOf : okM M_X12_spaceOf 1 = true := by decide +kernel
theorem w_691 : Cond.code yX12_spaceOf cX12_spaceOf 4 (some .int) ∈ wsL_law := tin_7 (List.mem_of_getElem? (i := 221) (by decide +kernel)) rfl
theorem w_692 : Cond.instanceMethod yX12_spaceOf ∈ wsL_law := tin_7 (List.mem_of_getElem? (i := 220) (by decide +kernel)) rfl
theorem w_693 : Cond.selects RX12 yX12_spaceOf yX12_spaceOf ∈ wsL_law := tip_5 (q := (yX12_spaceOf, 40)) (List.mem_of_getElem? (i := 11) (by decide +kernel))
theorem wd_X12_spaceOf : Wv M_X12_spaceOf := ⟨w_692, w_693, w_34, w_691⟩
abbrev M_X12_choose : MI := (yX12_choose, cX12_choose, 7, (some .int), 8)
theorem ok_X12_choose : okM M_X12_choose 2 = true := by decide +kernel
theorem w_694 : Cond.code yX12_choose cX12_choose 7 (some .int) ∈ wsL_law := tin_7 (List.mem_of_getElem? (i := 213) (by decide +kernel)) rfl
theorem w_695 : Cond.instanceMethod yX12_choose ∈ wsL_law := tin_7 (List.mem_of_getElem? (i := 211) (by decide +kernel)) rfl
theorem w_696 : Cond.selects RX12 yX12_choose yX12_choose ∈ wsL_law := tin_7 (List.mem_of_getElem? (i := 212) (by decide +kernel)) rfl
theorem wd_X12_choose : Wv M_X12_choose := ⟨w_695, w_696, w_34, w_694⟩
abbrev M_X10_nextStep : MI := (yX10_nextStep, cX10_nextStep, 8, (some .int), 5)
theorem ok_X10_nextStep : okM M_X10_nextStep 2 = true := by decide +kernel
theorem w_697 : Cond.code yX10_nextStep cX10_nextStep 8 (some .int) ∈ wsL_law := tin_5 (List.mem_of_getElem? (i := 32) (by decide +kernel)) rfl
theorem w_698 : Cond.instanceMethod yX10_nextStep ∈ wsL_law := tin_5 (List.mem_of_getElem? (i := 31) (by decide +kernel)) rfl
theorem w_699 : Cond.selects RX10 yX10_nextStep yX10_nextStep ∈ wsL_law := tip_2 (q := (yX10_nextStep, 9)) (List.mem_of_getElem? (i := 7) (by decide +kernel))
theorem wd_X10_nextStep : Wv M_X10_nextStep := ⟨w_698, w_699, w_22, w_697⟩
abbrev M_X10_stepByStep : MI := (yX10_stepByStep, cX10_stepByStep, 5, (some .int), 6)
theorem ok_X10_stepByStep : okM M_X10_stepByStep 1 = true := by decide +kernel
theorem w_700 : Cond.code yX10_stepByStep cX10_stepByStep 5 (some .int) ∈ wsL_law := tin_5 (List.mem_of_getElem? (i := 28) (by decide +kernel)) rfl
theorem w_701 : Cond.instanceMethod yX10_stepByStep ∈ wsL_law := tin_5 (List.mem_of_getElem? (i := 26) (by decide +kernel)) rfl
theorem w_702 : Cond.selects RX10 yX10_stepByStep yX10_stepByStep ∈ wsL_law := tin_5 (List.mem_of_getElem? (i := 27) (by decide +kernel)) rfl
theorem wd_X10_stepByStep : Wv M_X10_stepByStep := ⟨w_701, w_702, w_22, w_700⟩
abbrev M_X10_stepAt : MI := (yX10_stepAt, cX10_stepAt, 2, (some .int), 1)
theorem ok_X10_stepAt : okM M_X10_stepAt 1 = true := by decide +kernel
theorem w_703 : Cond.code yX10_stepAt cX10_stepAt 2 (some .int) ∈ wsL_law := tin_5 (List.mem_of_getElem? (i := 38) (by decide +kernel)) rfl
theorem w_704 : Cond.instanceMethod yX10_stepAt ∈ wsL_law := tin_5 (List.mem_of_getElem? (i := 36) (by decide +kernel)) rfl
theorem w_705 : Cond.selects RX10 yX10_stepAt yX10_stepAt ∈ wsL_law := tin_5 (List.mem_of_getElem? (i := 37) (by decide +kernel)) rfl
theorem wd_X10_stepAt : Wv M_X10_stepAt := ⟨w_704, w_705, w_22, w_703⟩
abbrev M_J6_bitCount_0f7a4 : MI := (yJ6_bitCount_0f7a4, cJ6_bitCount_0f7a4, 1, (some .int), 0)
theorem ok_J6_bitCount_0f7a4 : okM M_J6_bitCount_0f7a4 1 = true := by decide +kernel
theorem w_706 : Cond.code yJ6_bitCount_0f7a4 cJ6_bitCount_0f7a4 1 (some .int) ∈ wsL_law := tin_5 (List.mem_of_getElem? (i := 41) (by decide +kernel)) rfl
theorem w_707 : Cond.initialized RJ6 ∈ wsL_law := tin_1 (List.mem_of_getElem? (i := 16) (by decide +kernel)) rfl
theorem w_708 : Cond.static yJ6_bitCount_0f7a4 ∈ wsL_law := tin_5 (List.mem_of_getElem? (i := 40) (by decide +kernel)) rfl
theorem wd_J6_bitCount_0f7a4 : Ws M_J6_bitCount_0f7a4 := ⟨w_708, w_707, w_706⟩
abbrev M_X11_steps : MI := (yX11_steps, cX11_steps, 5, (some .int), 7)
theorem ok_X11_steps : okM M_X11_steps 2 = true := by decide +kernel
theorem w_709 : Cond.code yX11_steps cX11_steps 5 (some .int) ∈ wsL_law := tin_5 (List.mem_of_getElem? (i := 24) (by decide +kernel)) rfl
theorem w_710 : Cond.instanceMethod yX11_steps ∈ wsL_law := tin_5 (List.mem_of_getElem? (i := 22) (by decide +kernel)) rfl
theorem w_711 : Cond.selects RX11 yX11_steps yX11_steps ∈ wsL_law := tin_5 (List.mem_of_getElem? (i := 23) (by decide +kernel)) rfl
theorem wd_X11_steps : Wv M_X11_steps := ⟨w_710, w_711, w_31, w_709⟩
abbrev M_X12_steps : MI := (yX12_steps, cX12_steps, 11, (some .int), 8)
theorem ok_X12_steps : okM M_X12_steps 2 = true := by decide +kernel
theorem w_712 : Cond.code yX12_steps cX12_steps 11 (some .int) ∈ wsL_law := tin_7 (List.mem_of_getElem? (i := 225) (by decide +kernel)) rfl
theorem w_713 : Cond.instanceMethod yX12_steps ∈ wsL_law := tin_7 (List.mem_of_getElem? (i := 223) (by decide +kernel)) rfl
theorem w_714 : Cond.selects RX12 yX12_steps yX12_steps ∈ wsL_law := tin_7 (List.mem_of_getElem? (i := 224) (by decide +kernel)) rfl
theorem wd_X12_steps : Wv M_X12_steps := ⟨w_713, w_714, w_34, w_712⟩
abbrev M_X11_worth : MI := (yX11_worth, cX11_worth, 3, (some .int), 6)
theorem ok_X11_worth : okM M_X11_worth 2 = true := by decide +kernel
theorem w_715 : Cond.code yX11_worth cX11_worth 3 (some .int) ∈ wsL_law := tin_5 (List.mem_of_getElem? (i := 48) (by decide +kernel)) rfl
theorem w_716 : Cond.instanceMethod yX11_worth ∈ wsL_law := tin_5 (List.mem_of_getElem? (i := 46) (by decide +kernel)) rfl
theorem w_717 : Cond.selects RX11 yX11_worth yX11_worth ∈ wsL_law := tin_5 (List.mem_of_getElem? (i := 47) (by decide +kernel)) rfl
theorem wd_X11_worth : Wv M_X11_worth := ⟨w_716, w_717, w_31, w_715⟩
abbrev M_X12_worth : MI := (yX12_worth, cX12_worth, 4, (some .int), 8)
theorem ok_X12_worth : okM M_X12_worth 2 = true := by decide +kernel
theorem w_718 : Cond.code yX12_worth cX12_worth 4 (some .int) ∈ wsL_law := tin_7 (List.mem_of_getElem? (i := 229) (by decide +kernel)) rfl
theorem w_719 : Cond.instanceMethod yX12_worth ∈ wsL_law := tin_7 (List.mem_of_getElem? (i := 227) (by decide +kernel)) rfl
theorem w_720 : Cond.selects RX12 yX12_worth yX12_worth ∈ wsL_law := tin_7 (List.mem_of_getElem? (i := 228) (by decide +kernel)) rfl
theorem wd_X12_worth : Wv M_X12_worth := ⟨w_719, w_720, w_34, w_718⟩
abbrev M_X5_of : MI := (yX5_of, cX5_of, 2, (some (.object "KeptOrders$Picture")), 0)
theorem ok_X5_of : okM M_X5_of 1 = true := by decide +kernel
theorem w_721 : Cond.code yX5_of cX5_of 2 (some (.object "KeptOrders$Picture")) ∈ wsL_law := tin_5 (List.mem_of_getElem? (i := 62) (by decide +kernel)) rfl
theorem w_722 : Cond.instanceMethod yX5_of ∈ wsL_law := tin_5 (List.mem_of_getElem? (i := 60) (by decide +kernel)) rfl
theorem w_723 : Cond.selects RX5 yX5_of yX5_of ∈ wsL_law := tin_5 (List.mem_of_getElem? (i := 61) (by decide +kernel)) rfl
theorem wd_X5_of : Wv M_X5_of := ⟨w_722, w_723, w_28, w_721⟩
abbrev M_X5_placeFor : MI := (yX5_placeFor, cX5_placeFor, 4, (some .int), 1)
theorem ok_X5_placeFor : okM M_X5_placeFor 2 = true := by decide +kernel
theorem w_724 : Cond.code yX5_placeFor cX5_placeFor 4 (some .int) ∈ wsL_law := tin_5 (List.mem_of_getElem? (i := 68) (by decide +kernel)) rfl
theorem w_725 : Cond.instanceMethod yX5_placeFor ∈ wsL_law := tin_5 (List.mem_of_getElem? (i := 67) (by decide +kernel)) rfl
theorem w_726 : Cond.selects RX5 yX5_placeFor yX5_placeFor ∈ wsL_law := tip_2 (q := (yX5_placeFor, 5)) (List.mem_of_getElem? (i := 8) (by decide +kernel))
theorem wd_X5_placeFor : Wv M_X5_placeFor := ⟨w_725, w_726, w_28, w_724⟩
abbrev M_X4_take : MI := (yX4_take, cX4_take, 7, (some .int), 1)
theorem ok_X4_take : okM M_X4_take 2 = true := by decide +kernel
theorem w_727 : Cond.code yX4_take cX4_take 7 (some .int) ∈ wsL_law := tin_5 (List.mem_of_getElem? (i := 74) (by decide +kernel)) rfl
theorem w_728 : Cond.instanceMethod yX4_take ∈ wsL_law := tin_5 (List.mem_of_getElem? (i := 72) (by decide +kernel)) rfl
theorem w_729 : Cond.selects RX4 yX4_take yX4_take ∈ wsL_law := tin_5 (List.mem_of_getElem? (i := 73) (by decide +kernel)) rfl
theorem wd_X4_take : Wv M_X4_take := ⟨w_728, w_729, w_25, w_727⟩
abbrev M_X5_take : MI := (yX5_take, cX5_take, 6, (some .int), 2)
theorem ok_X5_take : okM M_X5_take 1 = true := by decide +kernel
theorem w_730 : Cond.code yX5_take cX5_take 6 (some .int) ∈ wsL_law := tin_5 (List.mem_of_getElem? (i := 58) (by decide +kernel)) rfl
theorem w_731 : Cond.instanceMethod yX5_take ∈ wsL_law := tin_5 (List.mem_of_getElem? (i := 56) (by decide +kernel)) rfl
theorem w_732 : Cond.selects RX5 yX5_take yX5_take ∈ wsL_law := tin_5 (List.mem_of_getElem? (i := 57) (by decide +kernel)) rfl
theorem wd_X5_take : Wv M_X5_take := ⟨w_731, w_732, w_28, w_730⟩
abbrev M_X11_picture : MI := (yX11_picture, cX11_picture, 2, (some .int), 3)
theorem ok_X11_picture : okM M_X11_picture 1 = true := by decide +kernel
theorem w_733 : Cond.code yX11_picture cX11_picture 2 (some .int) ∈ wsL_law := tin_5 (List.mem_of_getElem? (i := 54) (by decide +kernel)) rfl
theorem w_734 : Cond.instanceMethod yX11_picture ∈ wsL_law := tin_5 (List.mem_of_getElem? (i := 52) (by decide +kernel)) rfl
theorem w_735 : Cond.selects RX11 yX11_picture yX11_picture ∈ wsL_law := tin_5 (List.mem_of_getElem? (i := 53) (by decide +kernel)) rfl
theorem wd_X11_picture : Wv M_X11_picture := ⟨w_734, w_735, w_31, w_733⟩
abbrev M_X12_picture : MI := (yX12_picture, cX12_picture, 8, (some .int), 1)
theorem ok_X12_picture : okM M_X12_picture 1 = true := by decide +kernel
theorem w_736 : Cond.code yX12_picture cX12_picture 8 (some .int) ∈ wsL_law := tin_7 (List.mem_of_getElem? (i := 233) (by decide +kernel)) rfl
theorem w_737 : Cond.instanceMethod yX12_picture ∈ wsL_law := tin_7 (List.mem_of_getElem? (i := 231) (by decide +kernel)) rfl
theorem w_738 : Cond.selects RX12 yX12_picture yX12_picture ∈ wsL_law := tin_7 (List.mem_of_getElem? (i := 232) (by decide +kernel)) rfl
theorem wd_X12_picture : Wv M_X12_picture := ⟨w_737, w_738, w_34, w_736⟩
abbrev M_X4_partCount : MI := (yX4_partCount, cX4_partCount, 2, (some .int), 1)
theorem ok_X4_partCount : okM M_X4_partCount 1 = true := by decide +kernel
theorem w_739 : Cond.code yX4_partCount cX4_partCount 2 (some .int) ∈ wsL_law := tin_5 (List.mem_of_getElem? (i := 86) (by decide +kernel)) rfl
theorem w_740 : Cond.instanceMethod yX4_partCount ∈ wsL_law := tin_5 (List.mem_of_getElem? (i := 84) (by decide +kernel)) rfl
theorem w_741 : Cond.selects RX4 yX4_partCount yX4_partCount ∈ wsL_law := tin_5 (List.mem_of_getElem? (i := 85) (by decide +kernel)) rfl
theorem wd_X4_partCount : Wv M_X4_partCount := ⟨w_740, w_741, w_25, w_739⟩
abbrev M_X4_partLeast : MI := (yX4_partLeast, cX4_partLeast, 2, (some .int), 1)
theorem ok_X4_partLeast : okM M_X4_partLeast 1 = true := by decide +kernel
theorem w_742 : Cond.code yX4_partLeast cX4_partLeast 2 (some .int) ∈ wsL_law := tin_5 (List.mem_of_getElem? (i := 90) (by decide +kernel)) rfl
theorem w_743 : Cond.instanceMethod yX4_partLeast ∈ wsL_law := tin_5 (List.mem_of_getElem? (i := 88) (by decide +kernel)) rfl
theorem w_744 : Cond.selects RX4 yX4_partLeast yX4_partLeast ∈ wsL_law := tin_5 (List.mem_of_getElem? (i := 89) (by decide +kernel)) rfl
theorem wd_X4_partLeast : Wv M_X4_partLeast := ⟨w_743, w_744, w_25, w_742⟩
abbrev M_X4_partGreatest : MI := (yX4_partGreatest, cX4_partGreatest, 2, (some .int), 1)
theorem ok_X4_partGreatest : okM M_X4_partGreatest 1 = true := by decide +kernel
theorem w_745 : Cond.code yX4_partGreatest cX4_partGreatest 2 (some .int) ∈ wsL_law := tin_5 (List.mem_of_getElem? (i := 94) (by decide +kernel)) rfl
theorem w_746 : Cond.instanceMethod yX4_partGreatest ∈ wsL_law := tin_5 (List.mem_of_getElem? (i := 92) (by decide +kernel)) rfl
theorem w_747 : Cond.selects RX4 yX4_partGreatest yX4_partGreatest ∈ wsL_law := tin_5 (List.mem_of_getElem? (i := 93) (by decide +kernel)) rfl
theorem wd_X4_partGreatest : Wv M_X4_partGreatest := ⟨w_746, w_747, w_25, w_745⟩
abbrev M_X11_part : MI := (yX11_part, cX11_part, 5, (some .int), 2)
theorem ok_X11_part : okM M_X11_part 3 = true := by decide +kernel
theorem w_748 : Cond.code yX11_part cX11_part 5 (some .int) ∈ wsL_law := tin_5 (List.mem_of_getElem? (i := 81) (by decide +kernel)) rfl
theorem w_749 : Cond.instanceMethod yX11_part ∈ wsL_law := tin_5 (List.mem_of_getElem? (i := 79) (by decide +kernel)) rfl
theorem w_750 : Cond.selects RX11 yX11_part yX11_part ∈ wsL_law := tin_5 (List.mem_of_getElem? (i := 80) (by decide +kernel)) rfl
theorem wd_X11_part : Wv M_X11_part := ⟨w_749, w_750, w_31, w_748⟩
abbrev M_X12_partOf : MI := (yX12_partOf, cX12_partOf, 4, (some .int), 0)
theorem ok_X12_partOf : okM M_X12_partOf 3 = true := by decide +kernel
theorem w_751 : Cond.code yX12_partOf cX12_partOf 4 (some .int) ∈ wsL_law := tin_8 (List.mem_of_getElem? (i := 1) (by decide +kernel)) rfl
theorem w_752 : Cond.instanceMethod yX12_partOf ∈ wsL_law := tin_8 (List.mem_of_getElem? (i := 0) (by decide +kernel)) rfl
theorem w_753 : Cond.selects RX12 yX12_partOf yX12_partOf ∈ wsL_law := tip_5 (q := (yX12_partOf, 40)) (List.mem_of_getElem? (i := 12) (by decide +kernel))
theorem wd_X12_partOf : Wv M_X12_partOf := ⟨w_752, w_753, w_34, w_751⟩
abbrev M_X12_part : MI := (yX12_part, cX12_part, 4, (some .int), 1)
theorem ok_X12_part : okM M_X12_part 3 = true := by decide +kernel
theorem w_754 : Cond.code yX12_part cX12_part 4 (some .int) ∈ wsL_law := tin_7 (List.mem_of_getElem? (i := 237) (by decide +kernel)) rfl
theorem w_755 : Cond.instanceMethod yX12_part ∈ wsL_law := tin_7 (List.mem_of_getElem? (i := 235) (by decide +kernel)) rfl
theorem w_756 : Cond.selects RX12 yX12_part yX12_part ∈ wsL_law := tin_7 (List.mem_of_getElem? (i := 236) (by decide +kernel)) rfl
theorem wd_X12_part : Wv M_X12_part := ⟨w_755, w_756, w_34, w_754⟩
abbrev M_X4_isTaken : MI := (yX4_isTaken, cX4_isTaken, 1, (some .boolean), 0)
theorem ok_X4_isTaken : okM M_X4_isTaken 0 = true := by decide +kernel
theorem w_757 : Cond.code yX4_isTaken cX4_isTaken 1 (some .boolean) ∈ wsL_law := tin_5 (List.mem_of_getElem? (i := 102) (by decide +kernel)) rfl
theorem w_758 : Cond.instanceMethod yX4_isTaken ∈ wsL_law := tin_5 (List.mem_of_getElem? (i := 100) (by decide +kernel)) rfl
theorem w_759 : Cond.selects RX4 yX4_isTaken yX4_isTaken ∈ wsL_law := tin_5 (List.mem_of_getElem? (i := 101) (by decide +kernel)) rfl
theorem wd_X4_isTaken : Wv M_X4_isTaken := ⟨w_758, w_759, w_25, w_757⟩
abbrev M_X4_surelyWithin : MI := (yX4_surelyWithin, cX4_surelyWithin, 5, (some .int), 1)
theorem ok_X4_surelyWithin : okM M_X4_surelyWithin 2 = true := by decide +kernel
theorem w_760 : Cond.code yX4_surelyWithin cX4_surelyWithin 5 (some .int) ∈ wsL_law := tin_5 (List.mem_of_getElem? (i := 106) (by decide +kernel)) rfl
theorem w_761 : Cond.instanceMethod yX4_surelyWithin ∈ wsL_law := tin_5 (List.mem_of_getElem? (i := 104) (by decide +kernel)) rfl
theorem w_762 : Cond.selects RX4 yX4_surelyWithin yX4_surelyWithin ∈ wsL_law := tin_5 (List.mem_of_getElem? (i := 105) (by decide +kernel)) rfl
theorem wd_X4_surelyWithin : Wv M_X4_surelyWithin := ⟨w_761, w_762, w_25, w_760⟩
abbrev M_X4_shared : MI := (yX4_shared, cX4_shared, 6, (some .int), 1)
theorem ok_X4_shared : okM M_X4_shared 3 = true := by decide +kernel
theorem w_763 : Cond.code yX4_shared cX4_shared 6 (some .int) ∈ wsL_law := tin_5 (List.mem_of_getElem? (i := 114) (by decide +kernel)) rfl
theorem w_764 : Cond.instanceMethod yX4_shared ∈ wsL_law := tin_5 (List.mem_of_getElem? (i := 113) (by decide +kernel)) rfl
theorem w_765 : Cond.selects RX4 yX4_shared yX4_shared ∈ wsL_law := tip_2 (q := (yX4_shared, 4)) (List.mem_of_getElem? (i := 9) (by decide +kernel))
theorem wd_X4_shared : Wv M_X4_shared := ⟨w_764, w_765, w_25, w_763⟩
abbrev M_X4_perhapsWithin : MI := (yX4_perhapsWithin, cX4_perhapsWithin, 5, (some .int), 2)
theorem ok_X4_perhapsWithin : okM M_X4_perhapsWithin 2 = true := by decide +kernel
theorem w_766 : Cond.code yX4_perhapsWithin cX4_perhapsWithin 5 (some .int) ∈ wsL_law := tin_5 (List.mem_of_getElem? (i := 110) (by decide +kernel)) rfl
theorem w_767 : Cond.instanceMethod yX4_perhapsWithin ∈ wsL_law := tin_5 (List.mem_of_getElem? (i := 108) (by decide +kernel)) rfl
theorem w_768 : Cond.selects RX4 yX4_perhapsWithin yX4_perhapsWithin ∈ wsL_law := tin_5 (List.mem_of_getElem? (i := 109) (by decide +kernel)) rfl
theorem wd_X4_perhapsWithin : Wv M_X4_perhapsWithin := ⟨w_767, w_768, w_25, w_766⟩
abbrev M_X4_likelyWithin : MI := (yX4_likelyWithin, cX4_likelyWithin, 6, (some .int), 2)
theorem ok_X4_likelyWithin : okM M_X4_likelyWithin 2 = true := by decide +kernel
theorem w_769 : Cond.code yX4_likelyWithin cX4_likelyWithin 6 (some .int) ∈ wsL_law := tin_5 (List.mem_of_getElem? (i := 120) (by decide +kernel)) rfl
theorem w_770 : Cond.instanceMethod yX4_likelyWithin ∈ wsL_law := tin_5 (List.mem_of_getElem? (i := 118) (by decide +kernel)) rfl
theorem w_771 : Cond.selects RX4 yX4_likelyWithin yX4_likelyWithin ∈ wsL_law := tin_5 (List.mem_of_getElem? (i := 119) (by decide +kernel)) rfl
theorem wd_X4_likelyWithin : Wv M_X4_likelyWithin := ⟨w_770, w_771, w_25, w_769⟩
abbrev M_X11_foretold : MI := (yX11_foretold, cX11_foretold, 6, (some .int), 3)
theorem ok_X11_foretold : okM M_X11_foretold 4 = true := by decide +kernel
theorem w_772 : Cond.code yX11_foretold cX11_foretold 6 (some .int) ∈ wsL_law := tin_5 (List.mem_of_getElem? (i := 98) (by decide +kernel)) rfl
theorem w_773 : Cond.instanceMethod yX11_foretold ∈ wsL_law := tin_5 (List.mem_of_getElem? (i := 96) (by decide +kernel)) rfl
theorem w_774 : Cond.selects RX11 yX11_foretold yX11_foretold ∈ wsL_law := tin_5 (List.mem_of_getElem? (i := 97) (by decide +kernel)) rfl
theorem wd_X11_foretold : Wv M_X11_foretold := ⟨w_773, w_774, w_31, w_772⟩
abbrev M_X12_foretoldOf : MI := (yX12_foretoldOf, cX12_foretoldOf, 13, (some .int), 0)
theorem ok_X12_foretoldOf : okM M_X12_foretoldOf 4 = true := by decide +kernel
theorem w_775 : Cond.code yX12_foretoldOf cX12_foretoldOf 13 (some .int) ∈ wsL_law := tin_8 (List.mem_of_getElem? (i := 9) (by decide +kernel)) rfl
theorem w_776 : Cond.instanceMethod yX12_foretoldOf ∈ wsL_law := tin_8 (List.mem_of_getElem? (i := 8) (by decide +kernel)) rfl
theorem w_777 : Cond.selects RX12 yX12_foretoldOf yX12_foretoldOf ∈ wsL_law := tip_5 (q := (yX12_foretoldOf, 40)) (List.mem_of_getElem? (i := 13) (by decide +kernel))
theorem wd_X12_foretoldOf : Wv M_X12_foretoldOf := ⟨w_776, w_777, w_34, w_775⟩
abbrev M_X12_foretold : MI := (yX12_foretold, cX12_foretold, 5, (some .int), 2)
theorem ok_X12_foretold : okM M_X12_foretold 4 = true := by decide +kernel
theorem w_778 : Cond.code yX12_foretold cX12_foretold 5 (some .int) ∈ wsL_law := tin_8 (List.mem_of_getElem? (i := 5) (by decide +kernel)) rfl
theorem w_779 : Cond.instanceMethod yX12_foretold ∈ wsL_law := tin_8 (List.mem_of_getElem? (i := 3) (by decide +kernel)) rfl
theorem w_780 : Cond.selects RX12 yX12_foretold yX12_foretold ∈ wsL_law := tin_8 (List.mem_of_getElem? (i := 4) (by decide +kernel)) rfl
theorem wd_X12_foretold : Wv M_X12_foretold := ⟨w_779, w_780, w_34, w_778⟩
abbrev M_X5_likelyRows : MI := (yX5_likelyRows, cX5_likelyRows, 7, (some .int), 3)
theorem ok_X5_likelyRows : okM M_X5_likelyRows 2 = true := by decide +kernel
theorem w_781 : Cond.code yX5_likelyRows cX5_likelyRows 7 (some .int) ∈ wsL_law := tin_5 (List.mem_of_getElem? (i := 128) (by decide +kernel)) rfl
theorem w_782 : Cond.instanceMethod yX5_likelyRows ∈ wsL_law := tin_5 (List.mem_of_getElem? (i := 126) (by decide +kernel)) rfl
theorem w_783 : Cond.selects RX5 yX5_likelyRows yX5_likelyRows ∈ wsL_law := tin_5 (List.mem_of_getElem? (i := 127) (by decide +kernel)) rfl
theorem wd_X5_likelyRows : Wv M_X5_likelyRows := ⟨w_782, w_783, w_28, w_781⟩
abbrev M_X11_likely : MI := (yX11_likely, cX11_likely, 3, (some .int), 4)
theorem ok_X11_likely : okM M_X11_likely 1 = true := by decide +kernel
theorem w_784 : Cond.code yX11_likely cX11_likely 3 (some .int) ∈ wsL_law := tin_5 (List.mem_of_getElem? (i := 124) (by decide +kernel)) rfl
theorem w_785 : Cond.instanceMethod yX11_likely ∈ wsL_law := tin_5 (List.mem_of_getElem? (i := 122) (by decide +kernel)) rfl
theorem w_786 : Cond.selects RX11 yX11_likely yX11_likely ∈ wsL_law := tin_5 (List.mem_of_getElem? (i := 123) (by decide +kernel)) rfl
theorem wd_X11_likely : Wv M_X11_likely := ⟨w_785, w_786, w_31, w_784⟩
abbrev M_X12_likelyBy : MI := (yX12_likelyBy, cX12_likelyBy, 5, (some .int), 2)
theorem ok_X12_likelyBy : okM M_X12_likelyBy 2 = true := by decide +kernel
theorem w_787 : Cond.code yX12_likelyBy cX12_likelyBy 5 (some .int) ∈ wsL_law := tin_8 (List.mem_of_getElem? (i := 17) (by decide +kernel)) rfl
theorem w_788 : Cond.instanceMethod yX12_likelyBy ∈ wsL_law := tin_8 (List.mem_of_getElem? (i := 16) (by decide +kernel)) rfl
theorem w_789 : Cond.selects RX12 yX12_likelyBy yX12_likelyBy ∈ wsL_law := tip_5 (q := (yX12_likelyBy, 40)) (List.mem_of_getElem? (i := 14) (by decide +kernel))
theorem wd_X12_likelyBy : Wv M_X12_likelyBy := ⟨w_788, w_789, w_34, w_787⟩
abbrev M_X12_likely : MI := (yX12_likely, cX12_likely, 2, (some .int), 3)
theorem ok_X12_likely : okM M_X12_likely 1 = true := by decide +kernel
theorem w_790 : Cond.code yX12_likely cX12_likely 2 (some .int) ∈ wsL_law := tin_8 (List.mem_of_getElem? (i := 13) (by decide +kernel)) rfl
theorem w_791 : Cond.instanceMethod yX12_likely ∈ wsL_law := tin_8 (List.mem_of_getElem? (i := 11) (by decide +kernel)) rfl
theorem w_792 : Cond.selects RX12 yX12_likely yX12_likely ∈ wsL_law := tin_8 (List.mem_of_getElem? (i := 12) (by decide +kernel)) rfl
theorem wd_X12_likely : Wv M_X12_likely := ⟨w_791, w_792, w_34, w_790⟩
abbrev M_X5_looksForSorting : MI := (yX5_looksForSorting, cX5_looksForSorting, 2, (some .int), 4)
theorem ok_X5_looksForSorting : okM M_X5_looksForSorting 1 = true := by decide +kernel
theorem w_793 : Cond.code yX5_looksForSorting cX5_looksForSorting 2 (some .int) ∈ wsL_law := tin_5 (List.mem_of_getElem? (i := 148) (by decide +kernel)) rfl
theorem w_794 : Cond.instanceMethod yX5_looksForSorting ∈ wsL_law := tin_5 (List.mem_of_getElem? (i := 147) (by decide +kernel)) rfl
theorem w_795 : Cond.selects RX5 yX5_looksForSorting yX5_looksForSorting ∈ wsL_law := tip_2 (q := (yX5_looksForSorting, 5)) (List.mem_of_getElem? (i := 10) (by decide +kernel))
theorem wd_X5_looksForSorting : Wv M_X5_looksForSorting := ⟨w_794, w_795, w_28, w_793⟩
abbrev M_X5_looksByTable : MI := (yX5_looksByTable, cX5_looksByTable, 2, (some .int), 5)
theorem ok_X5_looksByTable : okM M_X5_looksByTable 1 = true := by decide +kernel
theorem w_796 : Cond.code yX5_looksByTable cX5_looksByTable 2 (some .int) ∈ wsL_law := tin_5 (List.mem_of_getElem? (i := 143) (by decide +kernel)) rfl
theorem w_797 : Cond.instanceMethod yX5_looksByTable ∈ wsL_law := tin_5 (List.mem_of_getElem? (i := 141) (by decide +kernel)) rfl
theorem w_798 : Cond.selects RX5 yX5_looksByTable yX5_looksByTable ∈ wsL_law := tin_5 (List.mem_of_getElem? (i := 142) (by decide +kernel)) rfl
theorem wd_X5_looksByTable : Wv M_X5_looksByTable := ⟨w_797, w_798, w_28, w_796⟩
abbrev M_X2_room : MI := (yX2_room, cX2_room, 1, (some .int), 0)
theorem ok_X2_room : okM M_X2_room 0 = true := by decide +kernel
theorem w_799 : Cond.code yX2_room cX2_room 1 (some .int) ∈ wsL_law := tin_5 (List.mem_of_getElem? (i := 160) (by decide +kernel)) rfl
theorem w_800 : Cond.instanceMethod yX2_room ∈ wsL_law := tin_5 (List.mem_of_getElem? (i := 158) (by decide +kernel)) rfl
theorem w_801 : Cond.selects RX2 yX2_room yX2_room ∈ wsL_law := tin_5 (List.mem_of_getElem? (i := 159) (by decide +kernel)) rfl
theorem wd_X2_room : Wv M_X2_room := ⟨w_800, w_801, w_53, w_799⟩
abbrev M_X5_looksByOrder : MI := (yX5_looksByOrder, cX5_looksByOrder, 5, (some .int), 5)
theorem ok_X5_looksByOrder : okM M_X5_looksByOrder 2 = true := by decide +kernel
theorem w_802 : Cond.code yX5_looksByOrder cX5_looksByOrder 5 (some .int) ∈ wsL_law := tin_5 (List.mem_of_getElem? (i := 154) (by decide +kernel)) rfl
theorem w_803 : Cond.instanceMethod yX5_looksByOrder ∈ wsL_law := tin_5 (List.mem_of_getElem? (i := 152) (by decide +kernel)) rfl
theorem w_804 : Cond.selects RX5 yX5_looksByOrder yX5_looksByOrder ∈ wsL_law := tin_5 (List.mem_of_getElem? (i := 153) (by decide +kernel)) rfl
theorem wd_X5_looksByOrder : Wv M_X5_looksByOrder := ⟨w_803, w_804, w_28, w_802⟩
abbrev M_X11_guess : MI := (yX11_guess, cX11_guess, 5, (some .int), 6)
theorem ok_X11_guess : okM M_X11_guess 2 = true := by decide +kernel
theorem w_805 : Cond.code yX11_guess cX11_guess 5 (some .int) ∈ wsL_law := tin_5 (List.mem_of_getElem? (i := 139) (by decide +kernel)) rfl
theorem w_806 : Cond.instanceMethod yX11_guess ∈ wsL_law := tin_5 (List.mem_of_getElem? (i := 137) (by decide +kernel)) rfl
theorem w_807 : Cond.selects RX11 yX11_guess yX11_guess ∈ wsL_law := tin_5 (List.mem_of_getElem? (i := 138) (by decide +kernel)) rfl
theorem wd_X11_guess : Wv M_X11_guess := ⟨w_806, w_807, w_31, w_805⟩
abbrev M_X12_guessBy : MI := (yX12_guessBy, cX12_guessBy, 9, (some .int), 4)
theorem ok_X12_guessBy : okM M_X12_guessBy 2 = true := by decide +kernel
theorem w_808 : Cond.code yX12_guessBy cX12_guessBy 9 (some .int) ∈ wsL_law := tin_8 (List.mem_of_getElem? (i := 29) (by decide +kernel)) rfl
theorem w_809 : Cond.instanceMethod yX12_guessBy ∈ wsL_law := tin_8 (List.mem_of_getElem? (i := 28) (by decide +kernel)) rfl
theorem w_810 : Cond.selects RX12 yX12_guessBy yX12_guessBy ∈ wsL_law := tip_6 (q := (yX12_guessBy, 40)) (List.mem_of_getElem? (i := 0) (by decide +kernel))
theorem wd_X12_guessBy : Wv M_X12_guessBy := ⟨w_809, w_810, w_34, w_808⟩
abbrev M_X12_guessOf : MI := (yX12_guessOf, cX12_guessOf, 3, (some .int), 5)
theorem ok_X12_guessOf : okM M_X12_guessOf 2 = true := by decide +kernel
theorem w_811 : Cond.code yX12_guessOf cX12_guessOf 3 (some .int) ∈ wsL_law := tin_8 (List.mem_of_getElem? (i := 25) (by decide +kernel)) rfl
theorem w_812 : Cond.instanceMethod yX12_guessOf ∈ wsL_law := tin_8 (List.mem_of_getElem? (i := 24) (by decide +kernel)) rfl
theorem w_813 : Cond.selects RX12 yX12_guessOf yX12_guessOf ∈ wsL_law := tip_5 (q := (yX12_guessOf, 40)) (List.mem_of_getElem? (i := 15) (by decide +kernel))
theorem wd_X12_guessOf : Wv M_X12_guessOf := ⟨w_812, w_813, w_34, w_811⟩
abbrev M_X12_guess : MI := (yX12_guess, cX12_guess, 3, (some .int), 6)
theorem ok_X12_guess : okM M_X12_guess 2 = true := by decide +kernel
theorem w_814 : Cond.code yX12_guess cX12_guess 3 (some .int) ∈ wsL_law := tin_8 (List.mem_of_getElem? (i := 21) (by decide +kernel)) rfl
theorem w_815 : Cond.instanceMethod yX12_guess ∈ wsL_law := tin_8 (List.mem_of_getElem? (i := 19) (by decide +kernel)) rfl
theorem w_816 : Cond.selects RX12 yX12_guess yX12_guess ∈ wsL_law := tin_8 (List.mem_of_getElem? (i := 20) (by decide +kernel)) rfl
theorem wd_X12_guess : Wv M_X12_guess := ⟨w_815, w_816, w_34, w_814⟩
abbrev M_X5_chosenWay : MI := (yX5_chosenWay, cX5_chosenWay, 7, (some .int), 6)
theorem ok_X5_chosenWay : okM M_X5_chosenWay 1 = true := by decide +kernel
theorem w_817 : Cond.code yX5_chosenWay cX5_chosenWay 7 (some .int) ∈ wsL_law := tin_5 (List.mem_of_getElem? (i := 174) (by decide +kernel)) rfl
theorem w_818 : Cond.instanceMethod yX5_chosenWay ∈ wsL_law := tin_5 (List.mem_of_getElem? (i := 172) (by decide +kernel)) rfl
theorem w_819 : Cond.selects RX5 yX5_chosenWay yX5_chosenWay ∈ wsL_law := tin_5 (List.mem_of_getElem? (i := 173) (by decide +kernel)) rfl
theorem wd_X5_chosenWay : Wv M_X5_chosenWay := ⟨w_818, w_819, w_28, w_817⟩
abbrev M_X11_chosen : MI := (yX11_chosen, cX11_chosen, 3, (some .int), 7)
theorem ok_X11_chosen : okM M_X11_chosen 1 = true := by decide +kernel
theorem w_820 : Cond.code yX11_chosen cX11_chosen 3 (some .int) ∈ wsL_law := tin_5 (List.mem_of_getElem? (i := 170) (by decide +kernel)) rfl
theorem w_821 : Cond.instanceMethod yX11_chosen ∈ wsL_law := tin_5 (List.mem_of_getElem? (i := 168) (by decide +kernel)) rfl
theorem w_822 : Cond.selects RX11 yX11_chosen yX11_chosen ∈ wsL_law := tin_5 (List.mem_of_getElem? (i := 169) (by decide +kernel)) rfl
theorem wd_X11_chosen : Wv M_X11_chosen := ⟨w_821, w_822, w_31, w_820⟩
abbrev M_X12_chosenOf : MI := (yX12_chosenOf, cX12_chosenOf, 4, (some .int), 6)
theorem ok_X12_chosenOf : okM M_X12_chosenOf 1 = true := by decide +kernel
theorem w_823 : Cond.code yX12_chosenOf cX12_chosenOf 4 (some .int) ∈ wsL_law := tin_8 (List.mem_of_getElem? (i := 37) (by decide +kernel)) rfl
theorem w_824 : Cond.instanceMethod yX12_chosenOf ∈ wsL_law := tin_8 (List.mem_of_getElem? (i := 36) (by decide +kernel)) rfl
theorem w_825 : Cond.selects RX12 yX12_chosenOf yX12_chosenOf ∈ wsL_law := tip_6 (q := (yX12_chosenOf, 40)) (List.mem_of_getElem? (i := 1) (by decide +kernel))
theorem wd_X12_chosenOf : Wv M_X12_chosenOf := ⟨w_824, w_825, w_34, w_823⟩
abbrev M_X12_chosen : MI := (yX12_chosen, cX12_chosen, 2, (some .int), 7)
theorem ok_X12_chosen : okM M_X12_chosen 1 = true := by decide +kernel
theorem w_826 : Cond.code yX12_chosen cX12_chosen 2 (some .int) ∈ wsL_law := tin_8 (List.mem_of_getElem? (i := 33) (by decide +kernel)) rfl
theorem w_827 : Cond.instanceMethod yX12_chosen ∈ wsL_law := tin_8 (List.mem_of_getElem? (i := 31) (by decide +kernel)) rfl
theorem w_828 : Cond.selects RX12 yX12_chosen yX12_chosen ∈ wsL_law := tin_8 (List.mem_of_getElem? (i := 32) (by decide +kernel)) rfl
theorem wd_X12_chosen : Wv M_X12_chosen := ⟨w_827, w_828, w_34, w_826⟩
abbrev M_X11_regret : MI := (yX11_regret, cX11_regret, 4, (some .int), 7)
theorem ok_X11_regret : okM M_X11_regret 1 = true := by decide +kernel
theorem w_829 : Cond.code yX11_regret cX11_regret 4 (some .int) ∈ wsL_law := tin_5 (List.mem_of_getElem? (i := 181) (by decide +kernel)) rfl
theorem w_830 : Cond.instanceMethod yX11_regret ∈ wsL_law := tin_5 (List.mem_of_getElem? (i := 179) (by decide +kernel)) rfl
theorem w_831 : Cond.selects RX11 yX11_regret yX11_regret ∈ wsL_law := tin_5 (List.mem_of_getElem? (i := 180) (by decide +kernel)) rfl
theorem wd_X11_regret : Wv M_X11_regret := ⟨w_830, w_831, w_31, w_829⟩
abbrev M_X12_regret : MI := (yX12_regret, cX12_regret, 3, (some .int), 7)
theorem ok_X12_regret : okM M_X12_regret 1 = true := by decide +kernel
theorem w_832 : Cond.code yX12_regret cX12_regret 3 (some .int) ∈ wsL_law := tin_8 (List.mem_of_getElem? (i := 41) (by decide +kernel)) rfl
theorem w_833 : Cond.instanceMethod yX12_regret ∈ wsL_law := tin_8 (List.mem_of_getElem? (i := 39) (by decide +kernel)) rfl
theorem w_834 : Cond.selects RX12 yX12_regret yX12_regret ∈ wsL_law := tin_8 (List.mem_of_getElem? (i := 40) (by decide +kernel)) rfl
theorem wd_X12_regret : Wv M_X12_regret := ⟨w_833, w_834, w_34, w_832⟩
abbrev M_X1_copy : MI := (yX1_copy, cX1_copy, 3, none, 1)
theorem ok_X1_copy : okM M_X1_copy 1 = true := by decide +kernel
theorem w_835 : Cond.code yX1_copy cX1_copy 3 none ∈ wsL_law := tin_5 (List.mem_of_getElem? (i := 197) (by decide +kernel)) rfl
theorem w_836 : Cond.instanceMethod yX1_copy ∈ wsL_law := tin_5 (List.mem_of_getElem? (i := 195) (by decide +kernel)) rfl
theorem w_837 : Cond.selects RX1 yX1_copy yX1_copy ∈ wsL_law := tin_5 (List.mem_of_getElem? (i := 196) (by decide +kernel)) rfl
theorem wd_X1_copy : Wv M_X1_copy := ⟨w_836, w_837, w_1, w_835⟩
abbrev M_X8_takeRowsOf : MI := (yX8_takeRowsOf, cX8_takeRowsOf, 2, none, 2)
theorem ok_X8_takeRowsOf : okM M_X8_takeRowsOf 1 = true := by decide +kernel
theorem w_838 : Cond.code yX8_takeRowsOf cX8_takeRowsOf 2 none ∈ wsL_law := tin_5 (List.mem_of_getElem? (i := 193) (by decide +kernel)) rfl
theorem w_839 : Cond.instanceMethod yX8_takeRowsOf ∈ wsL_law := tin_5 (List.mem_of_getElem? (i := 191) (by decide +kernel)) rfl
theorem w_840 : Cond.selects RX8 yX8_takeRowsOf yX8_takeRowsOf ∈ wsL_law := tin_5 (List.mem_of_getElem? (i := 192) (by decide +kernel)) rfl
theorem wd_X8_takeRowsOf : Wv M_X8_takeRowsOf := ⟨w_839, w_840, w_10, w_838⟩
abbrev M_X0_keep : MI := (yX0_keep, cX0_keep, 3, (some .int), 3)
theorem ok_X0_keep : okM M_X0_keep 1 = true := by decide +kernel
theorem w_841 : Cond.code yX0_keep cX0_keep 3 (some .int) ∈ wsL_law := tin_5 (List.mem_of_getElem? (i := 189) (by decide +kernel)) rfl
theorem w_842 : Cond.instanceMethod yX0_keep ∈ wsL_law := tin_5 (List.mem_of_getElem? (i := 187) (by decide +kernel)) rfl
theorem w_843 : Cond.selects RX0 yX0_keep yX0_keep ∈ wsL_law := tin_5 (List.mem_of_getElem? (i := 188) (by decide +kernel)) rfl
theorem wd_X0_keep : Wv M_X0_keep := ⟨w_842, w_843, w_13, w_841⟩
abbrev M_X11_mark : MI := (yX11_mark, cX11_mark, 1, (some .int), 4)
theorem ok_X11_mark : okM M_X11_mark 0 = true := by decide +kernel
theorem w_844 : Cond.code yX11_mark cX11_mark 1 (some .int) ∈ wsL_law := tin_5 (List.mem_of_getElem? (i := 185) (by decide +kernel)) rfl
theorem w_845 : Cond.instanceMethod yX11_mark ∈ wsL_law := tin_5 (List.mem_of_getElem? (i := 183) (by decide +kernel)) rfl
theorem w_846 : Cond.selects RX11 yX11_mark yX11_mark ∈ wsL_law := tin_5 (List.mem_of_getElem? (i := 184) (by decide +kernel)) rfl
theorem wd_X11_mark : Wv M_X11_mark := ⟨w_845, w_846, w_31, w_844⟩
abbrev M_X12_mark : MI := (yX12_mark, cX12_mark, 2, (some .int), 0)
theorem ok_X12_mark : okM M_X12_mark 0 = true := by decide +kernel
theorem w_847 : Cond.code yX12_mark cX12_mark 2 (some .int) ∈ wsL_law := tin_8 (List.mem_of_getElem? (i := 45) (by decide +kernel)) rfl
theorem w_848 : Cond.instanceMethod yX12_mark ∈ wsL_law := tin_8 (List.mem_of_getElem? (i := 43) (by decide +kernel)) rfl
theorem w_849 : Cond.selects RX12 yX12_mark yX12_mark ∈ wsL_law := tin_8 (List.mem_of_getElem? (i := 44) (by decide +kernel)) rfl
theorem wd_X12_mark : Wv M_X12_mark := ⟨w_848, w_849, w_34, w_847⟩
abbrev M_X0_numbered : MI := (yX0_numbered, cX0_numbered, 2, (some (.object "KeptOrders$Table")), 0)
theorem ok_X0_numbered : okM M_X0_numbered 1 = true := by decide +kernel
theorem w_850 : Cond.code yX0_numbered cX0_numbered 2 (some (.object "KeptOrders$Table")) ∈ wsL_law := tin_5 (List.mem_of_getElem? (i := 205) (by decide +kernel)) rfl
theorem w_851 : Cond.instanceMethod yX0_numbered ∈ wsL_law := tin_5 (List.mem_of_getElem? (i := 203) (by decide +kernel)) rfl
theorem w_852 : Cond.selects RX0 yX0_numbered yX0_numbered ∈ wsL_law := tin_5 (List.mem_of_getElem? (i := 204) (by decide +kernel)) rfl
theorem wd_X0_numbered : Wv M_X0_numbered := ⟨w_851, w_852, w_13, w_850⟩
abbrev M_X3_rebuild : MI := (yX3_rebuild, cX3_rebuild, 3, none, 5)
theorem ok_X3_rebuild : okM M_X3_rebuild 0 = true := by decide +kernel
theorem w_853 : Cond.code yX3_rebuild cX3_rebuild 3 none ∈ wsL_law := tin_5 (List.mem_of_getElem? (i := 210) (by decide +kernel)) rfl
theorem w_854 : Cond.instanceMethod yX3_rebuild ∈ wsL_law := tin_5 (List.mem_of_getElem? (i := 208) (by decide +kernel)) rfl
theorem w_855 : Cond.selects RX3 yX3_rebuild yX3_rebuild ∈ wsL_law := tin_5 (List.mem_of_getElem? (i := 209) (by decide +kernel)) rfl
theorem wd_X3_rebuild : Wv M_X3_rebuild := ⟨w_854, w_855, w_16, w_853⟩
abbrev M_X0_forgetBehind : MI := (yX0_forgetBehind, cX0_forgetBehind, 2, none, 0)
theorem ok_X0_forgetBehind : okM M_X0_forgetBehind 1 = true := by decide +kernel
theorem w_856 : Cond.code yX0_forgetBehind cX0_forgetBehind 2 none ∈ wsL_law := tin_5 (List.mem_of_getElem? (i := 214) (by decide +kernel)) rfl
theorem w_857 : Cond.instanceMethod yX0_forgetBehind ∈ wsL_law := tin_5 (List.mem_of_getElem? (i := 212) (by decide +kernel)) rfl
theorem w_858 : Cond.selects RX0 yX0_forgetBehind yX0_forgetBehind ∈ wsL_law := tin_5 (List.mem_of_getElem? (i := 213) (by decide +kernel)) rfl
theorem wd_X0_forgetBehind : Wv M_X0_forgetBehind := ⟨w_857, w_858, w_13, w_856⟩
abbrev M_X11_back : MI := (yX11_back, cX11_back, 3, (some .int), 6)
theorem ok_X11_back : okM M_X11_back 1 = true := by decide +kernel
theorem w_859 : Cond.code yX11_back cX11_back 3 (some .int) ∈ wsL_law := tin_5 (List.mem_of_getElem? (i := 201) (by decide +kernel)) rfl
theorem w_860 : Cond.instanceMethod yX11_back ∈ wsL_law := tin_5 (List.mem_of_getElem? (i := 199) (by decide +kernel)) rfl
theorem w_861 : Cond.selects RX11 yX11_back yX11_back ∈ wsL_law := tin_5 (List.mem_of_getElem? (i := 200) (by decide +kernel)) rfl
theorem wd_X11_back : Wv M_X11_back := ⟨w_860, w_861, w_31, w_859⟩
abbrev M_X12_back : MI := (yX12_back, cX12_back, 3, (some .int), 4)
theorem ok_X12_back : okM M_X12_back 1 = true := by decide +kernel
theorem w_862 : Cond.code yX12_back cX12_back 3 (some .int) ∈ wsL_law := tin_8 (List.mem_of_getElem? (i := 49) (by decide +kernel)) rfl
theorem w_863 : Cond.instanceMethod yX12_back ∈ wsL_law := tin_8 (List.mem_of_getElem? (i := 47) (by decide +kernel)) rfl
theorem w_864 : Cond.selects RX12 yX12_back yX12_back ∈ wsL_law := tin_8 (List.mem_of_getElem? (i := 48) (by decide +kernel)) rfl
theorem wd_X12_back : Wv M_X12_back := ⟨w_863, w_864, w_34, w_862⟩
abbrev M_X0_marked : MI := (yX0_marked, cX0_marked, 1, (some .int), 0)
theorem ok_X0_marked : okM M_X0_marked 0 = true := by decide +kernel
theorem w_865 : Cond.code yX0_marked cX0_marked 1 (some .int) ∈ wsL_law := tin_5 (List.mem_of_getElem? (i := 224) (by decide +kernel)) rfl
theorem w_866 : Cond.instanceMethod yX0_marked ∈ wsL_law := tin_5 (List.mem_of_getElem? (i := 222) (by decide +kernel)) rfl
theorem w_867 : Cond.selects RX0 yX0_marked yX0_marked ∈ wsL_law := tin_5 (List.mem_of_getElem? (i := 223) (by decide +kernel)) rfl
theorem wd_X0_marked : Wv M_X0_marked := ⟨w_866, w_867, w_13, w_865⟩
abbrev M_X11_count : MI := (yX11_count, cX11_count, 2, (some .int), 3)
theorem ok_X11_count : okM M_X11_count 1 = true := by decide +kernel
theorem w_868 : Cond.code yX11_count cX11_count 2 (some .int) ∈ wsL_law := tin_5 (List.mem_of_getElem? (i := 218) (by decide +kernel)) rfl
theorem w_869 : Cond.instanceMethod yX11_count ∈ wsL_law := tin_5 (List.mem_of_getElem? (i := 216) (by decide +kernel)) rfl
theorem w_870 : Cond.selects RX11 yX11_count yX11_count ∈ wsL_law := tin_5 (List.mem_of_getElem? (i := 217) (by decide +kernel)) rfl
theorem wd_X11_count : Wv M_X11_count := ⟨w_869, w_870, w_31, w_868⟩
abbrev M_X12_kept : MI := (yX12_kept, cX12_kept, 3, (some .int), 0)
theorem ok_X12_kept : okM M_X12_kept 0 = true := by decide +kernel
theorem w_871 : Cond.code yX12_kept cX12_kept 3 (some .int) ∈ wsL_law := tin_8 (List.mem_of_getElem? (i := 61) (by decide +kernel)) rfl
theorem w_872 : Cond.instanceMethod yX12_kept ∈ wsL_law := tin_8 (List.mem_of_getElem? (i := 60) (by decide +kernel)) rfl
theorem w_873 : Cond.selects RX12 yX12_kept yX12_kept ∈ wsL_law := tip_6 (q := (yX12_kept, 40)) (List.mem_of_getElem? (i := 3) (by decide +kernel))
theorem wd_X12_kept : Wv M_X12_kept := ⟨w_872, w_873, w_34, w_871⟩
abbrev M_X12_countOf : MI := (yX12_countOf, cX12_countOf, 2, (some .int), 1)
theorem ok_X12_countOf : okM M_X12_countOf 1 = true := by decide +kernel
theorem w_874 : Cond.code yX12_countOf cX12_countOf 2 (some .int) ∈ wsL_law := tin_8 (List.mem_of_getElem? (i := 57) (by decide +kernel)) rfl
theorem w_875 : Cond.instanceMethod yX12_countOf ∈ wsL_law := tin_8 (List.mem_of_getElem? (i := 56) (by decide +kernel)) rfl
theorem w_876 : Cond.selects RX12 yX12_countOf yX12_countOf ∈ wsL_law := tip_6 (q := (yX12_countOf, 40)) (List.mem_of_getElem? (i := 2) (by decide +kernel))
theorem wd_X12_countOf : Wv M_X12_countOf := ⟨w_875, w_876, w_34, w_874⟩
abbrev M_X12_count : MI := (yX12_count, cX12_count, 2, (some .int), 2)
theorem ok_X12_count : okM M_X12_count 1 = true := by decide +kernel
theorem w_877 : Cond.code yX12_count cX12_count 2 (some .int) ∈ wsL_law := tin_8 (List.mem_of_getElem? (i := 53) (by decide +kernel)) rfl
theorem w_878 : Cond.instanceMethod yX12_count ∈ wsL_law := tin_8 (List.mem_of_getElem? (i := 51) (by decide +kernel)) rfl
theorem w_879 : Cond.selects RX12 yX12_count yX12_count ∈ wsL_law := tin_8 (List.mem_of_getElem? (i := 52) (by decide +kernel)) rfl
theorem wd_X12_count : Wv M_X12_count := ⟨w_878, w_879, w_34, w_877⟩
abbrev M_X11_mixed : MI := (yX11_mixed, cX11_mixed, 4, (some .long), 0)
theorem ok_X11_mixed : okM M_X11_mixed 2 = true := by decide +kernel
theorem w_880 : Cond.code yX11_mixed cX11_mixed 4 (some .long) ∈ wsL_law := tin_5 (List.mem_of_getElem? (i := 232) (by decide +kernel)) rfl
theorem w_881 : Cond.static yX11_mixed ∈ wsL_law := tin_5 (List.mem_of_getElem? (i := 231) (by decide +kernel)) rfl
theorem wd_X11_mixed : Ws M_X11_mixed := ⟨w_881, w_31, w_880⟩
abbrev M_X11_mixTable : MI := (yX11_mixTable, cX11_mixTable, 7, (some .long), 3)
theorem ok_X11_mixTable : okM M_X11_mixTable 1 = true := by decide +kernel
theorem w_882 : Cond.code yX11_mixTable cX11_mixTable 7 (some .long) ∈ wsL_law := tin_5 (List.mem_of_getElem? (i := 237) (by decide +kernel)) rfl
theorem w_883 : Cond.instanceMethod yX11_mixTable ∈ wsL_law := tin_5 (List.mem_of_getElem? (i := 236) (by decide +kernel)) rfl
theorem w_884 : Cond.selects RX11 yX11_mixTable yX11_mixTable ∈ wsL_law := tip_2 (q := (yX11_mixTable, 9)) (List.mem_of_getElem? (i := 11) (by decide +kernel))
theorem wd_X11_mixTable : Wv M_X11_mixTable := ⟨w_883, w_884, w_31, w_882⟩
abbrev M_X2_entries : MI := (yX2_entries, cX2_entries, 1, (some .int), 0)
theorem ok_X2_entries : okM M_X2_entries 0 = true := by decide +kernel
theorem w_885 : Cond.code yX2_entries cX2_entries 1 (some .int) ∈ wsL_law := tin_6 (List.mem_of_getElem? (i := 7) (by decide +kernel)) rfl
theorem w_886 : Cond.instanceMethod yX2_entries ∈ wsL_law := tin_6 (List.mem_of_getElem? (i := 5) (by decide +kernel)) rfl
theorem w_887 : Cond.selects RX2 yX2_entries yX2_entries ∈ wsL_law := tin_6 (List.mem_of_getElem? (i := 6) (by decide +kernel)) rfl
theorem wd_X2_entries : Wv M_X2_entries := ⟨w_886, w_887, w_53, w_885⟩
abbrev M_X11_mixOrder : MI := (yX11_mixOrder, cX11_mixOrder, 8, (some .long), 5)
theorem ok_X11_mixOrder : okM M_X11_mixOrder 2 = true := by decide +kernel
theorem w_888 : Cond.code yX11_mixOrder cX11_mixOrder 8 (some .long) ∈ wsL_law := tin_6 (List.mem_of_getElem? (i := 2) (by decide +kernel)) rfl
theorem w_889 : Cond.instanceMethod yX11_mixOrder ∈ wsL_law := tin_6 (List.mem_of_getElem? (i := 1) (by decide +kernel)) rfl
theorem w_890 : Cond.selects RX11 yX11_mixOrder yX11_mixOrder ∈ wsL_law := tip_2 (q := (yX11_mixOrder, 9)) (List.mem_of_getElem? (i := 12) (by decide +kernel))
theorem wd_X11_mixOrder : Wv M_X11_mixOrder := ⟨w_889, w_890, w_31, w_888⟩
abbrev M_X11_mixQuestion : MI := (yX11_mixQuestion, cX11_mixQuestion, 8, (some .long), 4)
theorem ok_X11_mixQuestion : okM M_X11_mixQuestion 2 = true := by decide +kernel
theorem w_891 : Cond.code yX11_mixQuestion cX11_mixQuestion 8 (some .long) ∈ wsL_law := tin_6 (List.mem_of_getElem? (i := 11) (by decide +kernel)) rfl
theorem w_892 : Cond.instanceMethod yX11_mixQuestion ∈ wsL_law := tin_6 (List.mem_of_getElem? (i := 10) (by decide +kernel)) rfl
theorem w_893 : Cond.selects RX11 yX11_mixQuestion yX11_mixQuestion ∈ wsL_law := tip_2 (q := (yX11_mixQuestion, 9)) (List.mem_of_getElem? (i := 13) (by decide +kernel))
theorem wd_X11_mixQuestion : Wv M_X11_mixQuestion := ⟨w_892, w_893, w_31, w_891⟩
abbrev M_X11_mixPictures : MI := (yX11_mixPictures, cX11_mixPictures, 8, (some .long), 3)
theorem ok_X11_mixPictures : okM M_X11_mixPictures 1 = true := by decide +kernel
theorem w_894 : Cond.code yX11_mixPictures cX11_mixPictures 8 (some .long) ∈ wsL_law := tin_6 (List.mem_of_getElem? (i := 16) (by decide +kernel)) rfl
theorem w_895 : Cond.instanceMethod yX11_mixPictures ∈ wsL_law := tin_6 (List.mem_of_getElem? (i := 15) (by decide +kernel)) rfl
theorem w_896 : Cond.selects RX11 yX11_mixPictures yX11_mixPictures ∈ wsL_law := tip_2 (q := (yX11_mixPictures, 9)) (List.mem_of_getElem? (i := 14) (by decide +kernel))
theorem wd_X11_mixPictures : Wv M_X11_mixPictures := ⟨w_895, w_896, w_31, w_894⟩
abbrev M_X7_letterAt : MI := (yX7_letterAt, cX7_letterAt, 2, (some .int), 1)
theorem ok_X7_letterAt : okM M_X7_letterAt 1 = true := by decide +kernel
theorem w_897 : Cond.code yX7_letterAt cX7_letterAt 2 (some .int) ∈ wsL_law := tin_6 (List.mem_of_getElem? (i := 21) (by decide +kernel)) rfl
theorem w_898 : Cond.instanceMethod yX7_letterAt ∈ wsL_law := tin_6 (List.mem_of_getElem? (i := 19) (by decide +kernel)) rfl
theorem w_899 : Cond.selects RX7 yX7_letterAt yX7_letterAt ∈ wsL_law := tin_6 (List.mem_of_getElem? (i := 20) (by decide +kernel)) rfl
theorem wd_X7_letterAt : Wv M_X7_letterAt := ⟨w_898, w_899, w_7, w_897⟩
abbrev M_X11_digest : MI := (yX11_digest, cX11_digest, 4, (some .long), 6)
theorem ok_X11_digest : okM M_X11_digest 0 = true := by decide +kernel
theorem w_900 : Cond.code yX11_digest cX11_digest 4 (some .long) ∈ wsL_law := tin_5 (List.mem_of_getElem? (i := 228) (by decide +kernel)) rfl
theorem w_901 : Cond.instanceMethod yX11_digest ∈ wsL_law := tin_5 (List.mem_of_getElem? (i := 226) (by decide +kernel)) rfl
theorem w_902 : Cond.selects RX11 yX11_digest yX11_digest ∈ wsL_law := tin_5 (List.mem_of_getElem? (i := 227) (by decide +kernel)) rfl
theorem wd_X11_digest : Wv M_X11_digest := ⟨w_901, w_902, w_31, w_900⟩
abbrev M_X12_mix : MI := (yX12_mix, cX12_mix, 3, none, 0)
theorem ok_X12_mix : okM M_X12_mix 1 = true := by decide +kernel
theorem w_903 : Cond.code yX12_mix cX12_mix 3 none ∈ wsL_law := tin_8 (List.mem_of_getElem? (i := 74) (by decide +kernel)) rfl
theorem w_904 : Cond.instanceMethod yX12_mix ∈ wsL_law := tin_8 (List.mem_of_getElem? (i := 73) (by decide +kernel)) rfl
theorem w_905 : Cond.selects RX12 yX12_mix yX12_mix ∈ wsL_law := tip_6 (q := (yX12_mix, 40)) (List.mem_of_getElem? (i := 5) (by decide +kernel))
theorem wd_X12_mix : Wv M_X12_mix := ⟨w_904, w_905, w_34, w_903⟩
abbrev M_X12_mixTable : MI := (yX12_mixTable, cX12_mixTable, 3, none, 2)
theorem ok_X12_mixTable : okM M_X12_mixTable 0 = true := by decide +kernel
theorem w_906 : Cond.code yX12_mixTable cX12_mixTable 3 none ∈ wsL_law := tin_8 (List.mem_of_getElem? (i := 70) (by decide +kernel)) rfl
theorem w_907 : Cond.instanceMethod yX12_mixTable ∈ wsL_law := tin_8 (List.mem_of_getElem? (i := 69) (by decide +kernel)) rfl
theorem w_908 : Cond.selects RX12 yX12_mixTable yX12_mixTable ∈ wsL_law := tip_6 (q := (yX12_mixTable, 40)) (List.mem_of_getElem? (i := 4) (by decide +kernel))
theorem wd_X12_mixTable : Wv M_X12_mixTable := ⟨w_907, w_908, w_34, w_906⟩
abbrev M_X12_digest : MI := (yX12_digest, cX12_digest, 3, (some .long), 3)
theorem ok_X12_digest : okM M_X12_digest 0 = true := by decide +kernel
theorem w_909 : Cond.code yX12_digest cX12_digest 3 (some .long) ∈ wsL_law := tin_8 (List.mem_of_getElem? (i := 65) (by decide +kernel)) rfl
theorem w_910 : Cond.instanceMethod yX12_digest ∈ wsL_law := tin_8 (List.mem_of_getElem? (i := 63) (by decide +kernel)) rfl
theorem w_911 : Cond.selects RX12 yX12_digest yX12_digest ∈ wsL_law := tin_8 (List.mem_of_getElem? (i := 64) (by decide +kernel)) rfl
theorem wd_X12_digest : Wv M_X12_digest := ⟨w_910, w_911, w_34, w_909⟩
theorem w_912 : Cond.arrayClass .int ∈ wsL_law := tin_1 (List.mem_of_getElem? (i := 41) (by decide +kernel)) rfl
theorem w_913 : Cond.fieldLink RX1 9 "KeptOrders$Numbers" "held" "[I" ∈ wsL_law := tin_1 (List.mem_of_getElem? (i := 37) (by decide +kernel)) rfl
theorem w_914 : Cond.methodLink RX1 3 objectInit ∈ wsL_law := tin_1 (List.mem_of_getElem? (i := 36) (by decide +kernel)) rfl
theorem w_915 : Cond.instanceMethod objectInit ∈ wsL_law := tin_1 (List.mem_of_getElem? (i := 23) (by decide +kernel)) rfl
theorem w_916 : Cond.code objectInit ⟨#[0xb1]⟩ 1 none ∈ wsL_law := tin_1 (List.mem_of_getElem? (i := 24) (by decide +kernel)) rfl
theorem w_917 : Cond.classLink RX6 9 RX1 ∈ wsL_law := tin_1 (List.mem_of_getElem? (i := 48) (by decide +kernel)) rfl
theorem w_918 : Cond.instantiable RX1 1 ∈ wsL_law := tin_1 (List.mem_of_getElem? (i := 32) (by decide +kernel)) rfl
theorem w_919 : Cond.fieldLink RX6 14 "KeptOrders$Question" "leasts" "LKeptOrders$Numbers;" ∈ wsL_law := tin_1 (List.mem_of_getElem? (i := 50) (by decide +kernel)) rfl
theorem w_920 : Cond.fieldLink RX6 20 "KeptOrders$Question" "greatests" "LKeptOrders$Numbers;" ∈ wsL_law := tin_1 (List.mem_of_getElem? (i := 51) (by decide +kernel)) rfl
theorem w_921 : Cond.methodLink RX6 3 objectInit ∈ wsL_law := tin_1 (List.mem_of_getElem? (i := 47) (by decide +kernel)) rfl
theorem w_922 : Cond.methodLink RX6 11 yX1_init ∈ wsL_law := tin_1 (List.mem_of_getElem? (i := 49) (by decide +kernel)) rfl
theorem w_923 : Cond.classLink RX7 9 RX1 ∈ wsL_law := tin_1 (List.mem_of_getElem? (i := 31) (by decide +kernel)) rfl
theorem w_924 : Cond.fieldLink RX7 14 "KeptOrders$Sheet" "codes" "LKeptOrders$Numbers;" ∈ wsL_law := tin_1 (List.mem_of_getElem? (i := 72) (by decide +kernel)) rfl
theorem w_925 : Cond.classLink RX7 20 RX6 ∈ wsL_law := tin_1 (List.mem_of_getElem? (i := 42) (by decide +kernel)) rfl
theorem w_926 : Cond.instantiable RX6 7 ∈ wsL_law := tin_1 (List.mem_of_getElem? (i := 43) (by decide +kernel)) rfl
theorem w_927 : Cond.fieldLink RX7 23 "KeptOrders$Sheet" "draft" "LKeptOrders$Question;" ∈ wsL_law := tin_1 (List.mem_of_getElem? (i := 74) (by decide +kernel)) rfl
theorem w_928 : Cond.methodLink RX7 3 objectInit ∈ wsL_law := tin_1 (List.mem_of_getElem? (i := 30) (by decide +kernel)) rfl
theorem w_929 : Cond.methodLink RX7 11 yX1_init ∈ wsL_law := tin_1 (List.mem_of_getElem? (i := 33) (by decide +kernel)) rfl
theorem w_930 : Cond.classLink RX8 9 RX1 ∈ wsL_law := tin_1 (List.mem_of_getElem? (i := 107) (by decide +kernel)) rfl
theorem w_931 : Cond.fieldLink RX8 14 "KeptOrders$Table" "numbers" "LKeptOrders$Numbers;" ∈ wsL_law := tin_1 (List.mem_of_getElem? (i := 109) (by decide +kernel)) rfl
theorem w_932 : Cond.fieldLink RX8 20 "KeptOrders$Table" "wide" "I" ∈ wsL_law := tin_1 (List.mem_of_getElem? (i := 111) (by decide +kernel)) rfl
theorem w_933 : Cond.methodLink RX8 3 objectInit ∈ wsL_law := tin_1 (List.mem_of_getElem? (i := 106) (by decide +kernel)) rfl
theorem w_934 : Cond.methodLink RX8 11 yX1_init ∈ wsL_law := tin_1 (List.mem_of_getElem? (i := 108) (by decide +kernel)) rfl
theorem w_935 : Cond.classLink RX0 9 RX8 ∈ wsL_law := tin_1 (List.mem_of_getElem? (i := 100) (by decide +kernel)) rfl
theorem w_936 : Cond.fieldLink RX0 11 "KeptOrders$Marks" "list" "[LKeptOrders$Table;" ∈ wsL_law := tin_1 (List.mem_of_getElem? (i := 119) (by decide +kernel)) rfl
theorem w_937 : Cond.instantiable RX8 3 ∈ wsL_law := tin_1 (List.mem_of_getElem? (i := 102) (by decide +kernel)) rfl
theorem w_938 : Cond.methodLink RX0 3 objectInit ∈ wsL_law := tin_1 (List.mem_of_getElem? (i := 99) (by decide +kernel)) rfl
theorem w_939 : Cond.classLink RX3 9 RX2 ∈ wsL_law := tin_1 (List.mem_of_getElem? (i := 134) (by decide +kernel)) rfl
theorem w_940 : Cond.fieldLink RX3 11 "KeptOrders$Orders" "list" "[LKeptOrders$Order;" ∈ wsL_law := tin_1 (List.mem_of_getElem? (i := 137) (by decide +kernel)) rfl
theorem w_941 : Cond.fieldLink RX3 17 "KeptOrders$Orders" "table" "LKeptOrders$Table;" ∈ wsL_law := tin_1 (List.mem_of_getElem? (i := 136) (by decide +kernel)) rfl
theorem w_942 : Cond.methodLink RX3 3 objectInit ∈ wsL_law := tin_1 (List.mem_of_getElem? (i := 133) (by decide +kernel)) rfl
theorem w_943 : Cond.classLink RX9 9 RX1 ∈ wsL_law := tin_1 (List.mem_of_getElem? (i := 152) (by decide +kernel)) rfl
theorem w_944 : Cond.fieldLink RX9 14 "KeptOrders$Ways" "numbers" "LKeptOrders$Numbers;" ∈ wsL_law := tin_1 (List.mem_of_getElem? (i := 156) (by decide +kernel)) rfl
theorem w_945 : Cond.fieldLink RX9 20 "KeptOrders$Ways" "sets" "LKeptOrders$Numbers;" ∈ wsL_law := tin_1 (List.mem_of_getElem? (i := 157) (by decide +kernel)) rfl
theorem w_946 : Cond.fieldLink RX9 23 "KeptOrders$Ways" "costs" "LKeptOrders$Numbers;" ∈ wsL_law := tin_1 (List.mem_of_getElem? (i := 158) (by decide +kernel)) rfl
theorem w_947 : Cond.fieldLink RX9 26 "KeptOrders$Ways" "reaches" "LKeptOrders$Numbers;" ∈ wsL_law := tin_1 (List.mem_of_getElem? (i := 159) (by decide +kernel)) rfl
theorem w_948 : Cond.arrayClass .long ∈ wsL_law := tin_1 (List.mem_of_getElem? (i := 179) (by decide +kernel)) rfl
theorem w_949 : Cond.fieldLink RX9 29 "KeptOrders$Ways" "left" "[J" ∈ wsL_law := tin_1 (List.mem_of_getElem? (i := 160) (by decide +kernel)) rfl
theorem w_950 : Cond.fieldLink RX9 33 "KeptOrders$Ways" "table" "LKeptOrders$Table;" ∈ wsL_law := tin_1 (List.mem_of_getElem? (i := 154) (by decide +kernel)) rfl
theorem w_951 : Cond.fieldLink RX9 37 "KeptOrders$Ways" "orders" "LKeptOrders$Orders;" ∈ wsL_law := tin_1 (List.mem_of_getElem? (i := 155) (by decide +kernel)) rfl
theorem w_952 : Cond.methodLink RX9 3 objectInit ∈ wsL_law := tin_1 (List.mem_of_getElem? (i := 151) (by decide +kernel)) rfl
theorem w_953 : Cond.methodLink RX9 11 yX1_init ∈ wsL_law := tin_1 (List.mem_of_getElem? (i := 153) (by decide +kernel)) rfl
theorem w_954 : Cond.classLink RX10 9 RX6 ∈ wsL_law := tin_1 (List.mem_of_getElem? (i := 186) (by decide +kernel)) rfl
theorem w_955 : Cond.fieldLink RX10 11 "KeptOrders$Workload" "questions" "[LKeptOrders$Question;" ∈ wsL_law := tin_1 (List.mem_of_getElem? (i := 192) (by decide +kernel)) rfl
theorem w_956 : Cond.classLink RX10 17 RX1 ∈ wsL_law := tin_1 (List.mem_of_getElem? (i := 188) (by decide +kernel)) rfl
theorem w_957 : Cond.fieldLink RX10 22 "KeptOrders$Workload" "works" "LKeptOrders$Numbers;" ∈ wsL_law := tin_1 (List.mem_of_getElem? (i := 193) (by decide +kernel)) rfl
theorem w_958 : Cond.fieldLink RX10 26 "KeptOrders$Workload" "fewest" "LKeptOrders$Numbers;" ∈ wsL_law := tin_1 (List.mem_of_getElem? (i := 194) (by decide +kernel)) rfl
theorem w_959 : Cond.fieldLink RX10 29 "KeptOrders$Workload" "stepped" "LKeptOrders$Numbers;" ∈ wsL_law := tin_1 (List.mem_of_getElem? (i := 195) (by decide +kernel)) rfl
theorem w_960 : Cond.fieldLink RX10 32 "KeptOrders$Workload" "orders" "LKeptOrders$Orders;" ∈ wsL_law := tin_1 (List.mem_of_getElem? (i := 190) (by decide +kernel)) rfl
theorem w_961 : Cond.fieldLink RX10 36 "KeptOrders$Workload" "ways" "LKeptOrders$Ways;" ∈ wsL_law := tin_1 (List.mem_of_getElem? (i := 191) (by decide +kernel)) rfl
theorem w_962 : Cond.methodLink RX10 3 objectInit ∈ wsL_law := tin_1 (List.mem_of_getElem? (i := 185) (by decide +kernel)) rfl
theorem w_963 : Cond.methodLink RX10 19 yX1_init ∈ wsL_law := tin_1 (List.mem_of_getElem? (i := 189) (by decide +kernel)) rfl
theorem w_964 : Cond.classLink RX4 9 RX1 ∈ wsL_law := tin_1 (List.mem_of_getElem? (i := 233) (by decide +kernel)) rfl
theorem w_965 : Cond.fieldLink RX4 14 "KeptOrders$Picture" "counts" "LKeptOrders$Numbers;" ∈ wsL_law := tin_1 (List.mem_of_getElem? (i := 235) (by decide +kernel)) rfl
theorem w_966 : Cond.fieldLink RX4 20 "KeptOrders$Picture" "leasts" "LKeptOrders$Numbers;" ∈ wsL_law := tin_1 (List.mem_of_getElem? (i := 236) (by decide +kernel)) rfl
theorem w_967 : Cond.fieldLink RX4 23 "KeptOrders$Picture" "greatests" "LKeptOrders$Numbers;" ∈ wsL_law := tin_1 (List.mem_of_getElem? (i := 237) (by decide +kernel)) rfl
theorem w_968 : Cond.methodLink RX4 3 objectInit ∈ wsL_law := tin_1 (List.mem_of_getElem? (i := 232) (by decide +kernel)) rfl
theorem w_969 : Cond.methodLink RX4 11 yX1_init ∈ wsL_law := tin_1 (List.mem_of_getElem? (i := 234) (by decide +kernel)) rfl
theorem w_970 : Cond.classLink RX5 9 RX4 ∈ wsL_law := tin_1 (List.mem_of_getElem? (i := 224) (by decide +kernel)) rfl
theorem w_971 : Cond.fieldLink RX5 11 "KeptOrders$Pictures" "list" "[LKeptOrders$Picture;" ∈ wsL_law := tin_2 (List.mem_of_getElem? (i := 10) (by decide +kernel)) rfl
theorem w_972 : Cond.classLink RX5 17 RX1 ∈ wsL_law := tin_1 (List.mem_of_getElem? (i := 226) (by decide +kernel)) rfl
theorem w_973 : Cond.fieldLink RX5 22 "KeptOrders$Pictures" "sorted" "LKeptOrders$Numbers;" ∈ wsL_law := tin_2 (List.mem_of_getElem? (i := 11) (by decide +kernel)) rfl
theorem w_974 : Cond.fieldLink RX5 26 "KeptOrders$Pictures" "table" "LKeptOrders$Table;" ∈ wsL_law := tin_2 (List.mem_of_getElem? (i := 8) (by decide +kernel)) rfl
theorem w_975 : Cond.fieldLink RX5 30 "KeptOrders$Pictures" "orders" "LKeptOrders$Orders;" ∈ wsL_law := tin_2 (List.mem_of_getElem? (i := 9) (by decide +kernel)) rfl
theorem w_976 : Cond.instantiable RX4 4 ∈ wsL_law := tin_1 (List.mem_of_getElem? (i := 228) (by decide +kernel)) rfl
theorem w_977 : Cond.methodLink RX5 3 objectInit ∈ wsL_law := tin_1 (List.mem_of_getElem? (i := 223) (by decide +kernel)) rfl
theorem w_978 : Cond.methodLink RX5 19 yX1_init ∈ wsL_law := tin_1 (List.mem_of_getElem? (i := 227) (by decide +kernel)) rfl
theorem w_979 : Cond.classLink RX11 7 RX7 ∈ wsL_law := tin_1 (List.mem_of_getElem? (i := 25) (by decide +kernel)) rfl
theorem w_980 : Cond.instantiable RX7 7 ∈ wsL_law := tin_1 (List.mem_of_getElem? (i := 26) (by decide +kernel)) rfl
theorem w_981 : Cond.fieldLink RX11 10 "KeptOrders" "sheet" "LKeptOrders$Sheet;" ∈ wsL_law := tin_2 (List.mem_of_getElem? (i := 29) (by decide +kernel)) rfl
theorem w_982 : Cond.classLink RX11 16 RX0 ∈ wsL_law := tin_1 (List.mem_of_getElem? (i := 94) (by decide +kernel)) rfl
theorem w_983 : Cond.instantiable RX0 2 ∈ wsL_law := tin_1 (List.mem_of_getElem? (i := 95) (by decide +kernel)) rfl
theorem w_984 : Cond.fieldLink RX11 19 "KeptOrders" "marks" "LKeptOrders$Marks;" ∈ wsL_law := tin_2 (List.mem_of_getElem? (i := 30) (by decide +kernel)) rfl
theorem w_985 : Cond.classLink RX11 23 RX8 ∈ wsL_law := tin_1 (List.mem_of_getElem? (i := 126) (by decide +kernel)) rfl
theorem w_986 : Cond.classLink RX11 26 RX3 ∈ wsL_law := tin_1 (List.mem_of_getElem? (i := 128) (by decide +kernel)) rfl
theorem w_987 : Cond.instantiable RX3 3 ∈ wsL_law := tin_1 (List.mem_of_getElem? (i := 129) (by decide +kernel)) rfl
theorem w_988 : Cond.classLink RX11 31 RX9 ∈ wsL_law := tin_1 (List.mem_of_getElem? (i := 146) (by decide +kernel)) rfl
theorem w_989 : Cond.instantiable RX9 8 ∈ wsL_law := tin_1 (List.mem_of_getElem? (i := 147) (by decide +kernel)) rfl
theorem w_990 : Cond.fieldLink RX11 36 "KeptOrders" "table" "LKeptOrders$Table;" ∈ wsL_law := tin_2 (List.mem_of_getElem? (i := 24) (by decide +kernel)) rfl
theorem w_991 : Cond.fieldLink RX11 40 "KeptOrders" "orders" "LKeptOrders$Orders;" ∈ wsL_law := tin_2 (List.mem_of_getElem? (i := 25) (by decide +kernel)) rfl
theorem w_992 : Cond.fieldLink RX11 44 "KeptOrders" "ways" "LKeptOrders$Ways;" ∈ wsL_law := tin_2 (List.mem_of_getElem? (i := 26) (by decide +kernel)) rfl
theorem w_993 : Cond.classLink RX11 48 RX10 ∈ wsL_law := tin_1 (List.mem_of_getElem? (i := 180) (by decide +kernel)) rfl
theorem w_994 : Cond.instantiable RX10 9 ∈ wsL_law := tin_1 (List.mem_of_getElem? (i := 181) (by decide +kernel)) rfl
theorem w_995 : Cond.fieldLink RX11 53 "KeptOrders" "workload" "LKeptOrders$Workload;" ∈ wsL_law := tin_2 (List.mem_of_getElem? (i := 27) (by decide +kernel)) rfl
theorem w_996 : Cond.classLink RX11 57 RX5 ∈ wsL_law := tin_1 (List.mem_of_getElem? (i := 218) (by decide +kernel)) rfl
theorem w_997 : Cond.instantiable RX5 5 ∈ wsL_law := tin_1 (List.mem_of_getElem? (i := 219) (by decide +kernel)) rfl
theorem w_998 : Cond.fieldLink RX11 60 "KeptOrders" "pictures" "LKeptOrders$Pictures;" ∈ wsL_law := tin_2 (List.mem_of_getElem? (i := 28) (by decide +kernel)) rfl
theorem w_999 : Cond.methodLink RX11 1 objectInit ∈ wsL_law := tin_1 (List.mem_of_getElem? (i := 22) (by decide +kernel)) rfl
theorem w_1000 : Cond.methodLink RX11 18 yX0_init ∈ wsL_law := tin_1 (List.mem_of_getElem? (i := 96) (by decide +kernel)) rfl
theorem w_1001 : Cond.methodLink RX11 28 yX3_init ∈ wsL_law := tin_1 (List.mem_of_getElem? (i := 130) (by decide +kernel)) rfl
theorem w_1002 : Cond.methodLink RX11 33 yX9_init ∈ wsL_law := tin_1 (List.mem_of_getElem? (i := 148) (by decide +kernel)) rfl
theorem w_1003 : Cond.methodLink RX11 50 yX10_init ∈ wsL_law := tin_1 (List.mem_of_getElem? (i := 182) (by decide +kernel)) rfl
theorem w_1004 : Cond.methodLink RX11 59 yX5_init ∈ wsL_law := tin_1 (List.mem_of_getElem? (i := 220) (by decide +kernel)) rfl
theorem w_1005 : Cond.arrayClass .boolean ∈ wsL_law := tin_6 (List.mem_of_getElem? (i := 150) (by decide +kernel)) rfl
theorem w_1006 : Cond.fieldLink RX12 7 "KeptOrdersModel" "has" "[Z" ∈ wsL_law := tin_6 (List.mem_of_getElem? (i := 29) (by decide +kernel)) rfl
theorem w_1007 : Cond.fieldLink RX12 13 "KeptOrdersModel" "cells" "[I" ∈ wsL_law := tin_6 (List.mem_of_getElem? (i := 30) (by decide +kernel)) rfl
theorem w_1008 : Cond.fieldLink RX12 17 "KeptOrdersModel" "wideNow" "I" ∈ wsL_law := tin_6 (List.mem_of_getElem? (i := 32) (by decide +kernel)) rfl
theorem w_1009 : Cond.fieldLink RX12 21 "KeptOrdersModel" "keys" "[I" ∈ wsL_law := tin_6 (List.mem_of_getElem? (i := 34) (by decide +kernel)) rfl
theorem w_1010 : Cond.fieldLink RX12 24 "KeptOrdersModel" "isLost" "[Z" ∈ wsL_law := tin_6 (List.mem_of_getElem? (i := 35) (by decide +kernel)) rfl
theorem w_1011 : Cond.fieldLink RX12 27 "KeptOrdersModel" "cuts" "[I" ∈ wsL_law := tin_6 (List.mem_of_getElem? (i := 36) (by decide +kernel)) rfl
theorem w_1012 : Cond.fieldLink RX12 30 "KeptOrdersModel" "entries" "[I" ∈ wsL_law := tin_6 (List.mem_of_getElem? (i := 37) (by decide +kernel)) rfl
theorem w_1013 : Cond.fieldLink RX12 33 "KeptOrdersModel" "entryMany" "[I" ∈ wsL_law := tin_6 (List.mem_of_getElem? (i := 38) (by decide +kernel)) rfl
theorem w_1014 : Cond.fieldLink RX12 36 "KeptOrdersModel" "leafOf" "[I" ∈ wsL_law := tin_6 (List.mem_of_getElem? (i := 39) (by decide +kernel)) rfl
theorem w_1015 : Cond.fieldLink RX12 39 "KeptOrdersModel" "leafMany" "[I" ∈ wsL_law := tin_6 (List.mem_of_getElem? (i := 40) (by decide +kernel)) rfl
theorem w_1016 : Cond.arrayClass .byte ∈ wsL_law := tin_6 (List.mem_of_getElem? (i := 151) (by decide +kernel)) rfl
theorem w_1017 : Cond.fieldLink RX12 42 "KeptOrdersModel" "page" "[B" ∈ wsL_law := tin_6 (List.mem_of_getElem? (i := 42) (by decide +kernel)) rfl
theorem w_1018 : Cond.fieldLink RX12 46 "KeptOrdersModel" "bounds" "[I" ∈ wsL_law := tin_6 (List.mem_of_getElem? (i := 44) (by decide +kernel)) rfl
theorem w_1019 : Cond.fieldLink RX12 49 "KeptOrdersModel" "shownOf" "[I" ∈ wsL_law := tin_6 (List.mem_of_getElem? (i := 45) (by decide +kernel)) rfl
theorem w_1020 : Cond.fieldLink RX12 52 "KeptOrdersModel" "sortOf" "[I" ∈ wsL_law := tin_6 (List.mem_of_getElem? (i := 46) (by decide +kernel)) rfl
theorem w_1021 : Cond.fieldLink RX12 55 "KeptOrdersModel" "weights" "[I" ∈ wsL_law := tin_6 (List.mem_of_getElem? (i := 47) (by decide +kernel)) rfl
theorem w_1022 : Cond.fieldLink RX12 58 "KeptOrdersModel" "hasPicture" "[Z" ∈ wsL_law := tin_6 (List.mem_of_getElem? (i := 51) (by decide +kernel)) rfl
theorem w_1023 : Cond.fieldLink RX12 61 "KeptOrdersModel" "parts" "[I" ∈ wsL_law := tin_6 (List.mem_of_getElem? (i := 52) (by decide +kernel)) rfl
theorem w_1024 : Cond.fieldLink RX12 64 "KeptOrdersModel" "markHas" "[Z" ∈ wsL_law := tin_6 (List.mem_of_getElem? (i := 55) (by decide +kernel)) rfl
theorem w_1025 : Cond.fieldLink RX12 67 "KeptOrdersModel" "markCells" "[I" ∈ wsL_law := tin_6 (List.mem_of_getElem? (i := 56) (by decide +kernel)) rfl
theorem w_1026 : Cond.fieldLink RX12 70 "KeptOrdersModel" "readBounds" "[I" ∈ wsL_law := tin_6 (List.mem_of_getElem? (i := 60) (by decide +kernel)) rfl
theorem w_1027 : Cond.fieldLink RX12 73 "KeptOrdersModel" "table" "[I" ∈ wsL_law := tin_6 (List.mem_of_getElem? (i := 63) (by decide +kernel)) rfl
theorem w_1028 : Cond.fieldLink RX12 76 "KeptOrdersModel" "cameOf" "[I" ∈ wsL_law := tin_6 (List.mem_of_getElem? (i := 66) (by decide +kernel)) rfl
theorem w_1029 : Cond.fieldLink RX12 79 "KeptOrdersModel" "sorted" "[I" ∈ wsL_law := tin_6 (List.mem_of_getElem? (i := 67) (by decide +kernel)) rfl
theorem w_1030 : Cond.methodLink RX12 1 objectInit ∈ wsL_law := tin_6 (List.mem_of_getElem? (i := 28) (by decide +kernel)) rfl
theorem w_1031 : Cond.fieldLink RX8 28 "KeptOrders$Table" "taken" "J" ∈ wsL_law := tin_1 (List.mem_of_getElem? (i := 110) (by decide +kernel)) rfl
theorem w_1032 : Cond.methodLink RX8 48 yX1_put ∈ wsL_law := tin_2 (List.mem_of_getElem? (i := 70) (by decide +kernel)) rfl
theorem w_1033 : Cond.fieldLink RX2 64 "KeptOrders$Order" "dropped" "Z" ∈ wsL_law := tin_3 (List.mem_of_getElem? (i := 29) (by decide +kernel)) rfl
theorem w_1034 : Cond.methodLink RX3 25 yX2_isDropped ∈ wsL_law := tin_2 (List.mem_of_getElem? (i := 90) (by decide +kernel)) rfl
theorem w_1035 : Cond.methodLink RX8 44 yX1_at ∈ wsL_law := tin_2 (List.mem_of_getElem? (i := 115) (by decide +kernel)) rfl
theorem w_1036 : Cond.fieldLink RX2 34 "KeptOrders$Order" "width" "I" ∈ wsL_law := tin_3 (List.mem_of_getElem? (i := 20) (by decide +kernel)) rfl
theorem w_1037 : Cond.fieldLink RX2 14 "KeptOrders$Order" "along" "LKeptOrders$Numbers;" ∈ wsL_law := tin_3 (List.mem_of_getElem? (i := 23) (by decide +kernel)) rfl
theorem w_1038 : Cond.fieldLink RX2 26 "KeptOrders$Order" "table" "LKeptOrders$Table;" ∈ wsL_law := tin_3 (List.mem_of_getElem? (i := 18) (by decide +kernel)) rfl
theorem w_1039 : Cond.methodLink RX2 68 yX1_at ∈ wsL_law := tin_2 (List.mem_of_getElem? (i := 103) (by decide +kernel)) rfl
theorem w_1040 : Cond.methodLink RX2 121 yX8_number ∈ wsL_law := tin_2 (List.mem_of_getElem? (i := 111) (by decide +kernel)) rfl
theorem w_1041 : Cond.fieldLink RX2 55 "KeptOrders$Order" "entries" "I" ∈ wsL_law := tin_3 (List.mem_of_getElem? (i := 26) (by decide +kernel)) rfl
theorem w_1042 : Cond.fieldLink RX2 20 "KeptOrders$Order" "slots" "LKeptOrders$Numbers;" ∈ wsL_law := tin_3 (List.mem_of_getElem? (i := 24) (by decide +kernel)) rfl
theorem w_1043 : Cond.methodLink RX2 118 yX2_isAhead ∈ wsL_law := tin_2 (List.mem_of_getElem? (i := 107) (by decide +kernel)) rfl
theorem w_1044 : Cond.fieldLink RX2 58 "KeptOrders$Order" "leaves" "I" ∈ wsL_law := tin_3 (List.mem_of_getElem? (i := 27) (by decide +kernel)) rfl
theorem w_1045 : Cond.fieldLink RX2 23 "KeptOrders$Order" "sizes" "LKeptOrders$Numbers;" ∈ wsL_law := tin_3 (List.mem_of_getElem? (i := 25) (by decide +kernel)) rfl
theorem w_1046 : Cond.methodLink RX2 112 yX2_leafAt ∈ wsL_law := tin_2 (List.mem_of_getElem? (i := 120) (by decide +kernel)) rfl
theorem w_1047 : Cond.methodLink RX1 15 yX1_at ∈ wsL_law := tin_2 (List.mem_of_getElem? (i := 128) (by decide +kernel)) rfl
theorem w_1048 : Cond.methodLink RX1 19 yX1_put ∈ wsL_law := tin_2 (List.mem_of_getElem? (i := 129) (by decide +kernel)) rfl
theorem w_1049 : Cond.methodLink RX11 423 yX11_quotient ∈ wsL_law := tin_2 (List.mem_of_getElem? (i := 142) (by decide +kernel)) rfl
theorem w_1050 : Cond.fieldLink RX2 61 "KeptOrders$Order" "cuts" "I" ∈ wsL_law := tin_3 (List.mem_of_getElem? (i := 28) (by decide +kernel)) rfl
theorem w_1051 : Cond.methodLink RX2 40 yX1_put ∈ wsL_law := tin_2 (List.mem_of_getElem? (i := 130) (by decide +kernel)) rfl
theorem w_1052 : Cond.methodLink RX2 88 yX1_insert ∈ wsL_law := tin_2 (List.mem_of_getElem? (i := 124) (by decide +kernel)) rfl
theorem w_1053 : Cond.fieldLink RX2 37 "KeptOrders$Order" "room" "I" ∈ wsL_law := tin_3 (List.mem_of_getElem? (i := 21) (by decide +kernel)) rfl
theorem w_1054 : Cond.methodLink RX2 85 yX2_placeFor ∈ wsL_law := tin_2 (List.mem_of_getElem? (i := 98) (by decide +kernel)) rfl
theorem w_1055 : Cond.methodLink RX2 100 yX2_leafFor ∈ wsL_law := tin_2 (List.mem_of_getElem? (i := 116) (by decide +kernel)) rfl
theorem w_1056 : Cond.methodLink RX2 103 yX1_raise ∈ wsL_law := tin_2 (List.mem_of_getElem? (i := 131) (by decide +kernel)) rfl
theorem w_1057 : Cond.methodLink RX2 106 yX2_cut ∈ wsL_law := tin_2 (List.mem_of_getElem? (i := 135) (by decide +kernel)) rfl
theorem w_1058 : Cond.fieldLink RX3 21 "KeptOrders$Orders" "told" "I" ∈ wsL_law := tin_1 (List.mem_of_getElem? (i := 138) (by decide +kernel)) rfl
theorem w_1059 : Cond.methodLink RX3 29 yX3_kept ∈ wsL_law := tin_2 (List.mem_of_getElem? (i := 86) (by decide +kernel)) rfl
theorem w_1060 : Cond.methodLink RX3 47 yX2_entryComes ∈ wsL_law := tin_2 (List.mem_of_getElem? (i := 94) (by decide +kernel)) rfl
theorem w_1061 : Cond.methodLink RX11 418 yX8_hold ∈ wsL_law := tin_2 (List.mem_of_getElem? (i := 78) (by decide +kernel)) rfl
theorem w_1062 : Cond.methodLink RX11 93 yX3_entriesCome ∈ wsL_law := tin_2 (List.mem_of_getElem? (i := 82) (by decide +kernel)) rfl
theorem w_1063 : Cond.methodLink RX11 64 yX11_isNumber ∈ wsL_law := tin_2 (List.mem_of_getElem? (i := 56) (by decide +kernel)) rfl
theorem w_1064 : Cond.methodLink RX11 68 yX8_emptySlot ∈ wsL_law := tin_2 (List.mem_of_getElem? (i := 59) (by decide +kernel)) rfl
theorem w_1065 : Cond.methodLink RX11 72 yX8_put ∈ wsL_law := tin_2 (List.mem_of_getElem? (i := 66) (by decide +kernel)) rfl
theorem w_1066 : Cond.methodLink RX11 76 yX11_rowComes ∈ wsL_law := tin_2 (List.mem_of_getElem? (i := 74) (by decide +kernel)) rfl
theorem w_1067 : Cond.methodLink RX12 82 yX12_in ∈ wsL_law := tin_6 (List.mem_of_getElem? (i := 159) (by decide +kernel)) rfl
theorem w_1068 : Cond.methodLink RX12 86 yX12_keySize ∈ wsL_law := tin_6 (List.mem_of_getElem? (i := 162) (by decide +kernel)) rfl
theorem w_1069 : Cond.methodLink RX12 90 yX12_keyAt ∈ wsL_law := tin_6 (List.mem_of_getElem? (i := 165) (by decide +kernel)) rfl
theorem w_1070 : Cond.methodLink RX12 97 yX12_isAhead ∈ wsL_law := tin_6 (List.mem_of_getElem? (i := 172) (by decide +kernel)) rfl
theorem w_1071 : Cond.methodLink RX12 100 yX12_roomOf ∈ wsL_law := tin_6 (List.mem_of_getElem? (i := 176) (by decide +kernel)) rfl
theorem w_1072 : Cond.methodLink RX12 103 yX12_cut ∈ wsL_law := tin_6 (List.mem_of_getElem? (i := 238) (by decide +kernel)) rfl
theorem w_1073 : Cond.fieldLink RX12 94 "KeptOrdersModel" "orders" "I" ∈ wsL_law := tin_6 (List.mem_of_getElem? (i := 33) (by decide +kernel)) rfl
theorem w_1074 : Cond.methodLink RX12 107 yX12_comeInto ∈ wsL_law := tin_6 (List.mem_of_getElem? (i := 234) (by decide +kernel)) rfl
theorem w_1075 : Cond.fieldLink RX12 130 "KeptOrdersModel" "rowMany" "I" ∈ wsL_law := tin_6 (List.mem_of_getElem? (i := 31) (by decide +kernel)) rfl
theorem w_1076 : Cond.methodLink RX12 133 yX12_comeIntoAll ∈ wsL_law := tin_6 (List.mem_of_getElem? (i := 230) (by decide +kernel)) rfl
theorem w_1077 : Cond.methodLink RX12 136 yX12_isNumber ∈ wsL_law := tin_6 (List.mem_of_getElem? (i := 219) (by decide +kernel)) rfl
theorem w_1078 : Cond.methodLink RX12 139 yX12_emptySlot ∈ wsL_law := tin_6 (List.mem_of_getElem? (i := 222) (by decide +kernel)) rfl
theorem w_1079 : Cond.methodLink RX12 143 yX12_lay ∈ wsL_law := tin_6 (List.mem_of_getElem? (i := 226) (by decide +kernel)) rfl
theorem w_1080 : Cond.methodLink RX2 109 yX1_placeOf ∈ wsL_law := tin_2 (List.mem_of_getElem? (i := 168) (by decide +kernel)) rfl
theorem w_1081 : Cond.methodLink RX2 115 yX1_remove ∈ wsL_law := tin_2 (List.mem_of_getElem? (i := 172) (by decide +kernel)) rfl
theorem w_1082 : Cond.methodLink RX3 43 yX2_entryGoes ∈ wsL_law := tin_2 (List.mem_of_getElem? (i := 164) (by decide +kernel)) rfl
theorem w_1083 : Cond.methodLink RX11 80 yX8_holds ∈ wsL_law := tin_2 (List.mem_of_getElem? (i := 149) (by decide +kernel)) rfl
theorem w_1084 : Cond.methodLink RX11 83 yX11_isColumn ∈ wsL_law := tin_2 (List.mem_of_getElem? (i := 156) (by decide +kernel)) rfl
theorem w_1085 : Cond.methodLink RX11 86 yX8_number ∈ wsL_law := tin_2 (List.mem_of_getElem? (i := 159) (by decide +kernel)) rfl
theorem w_1086 : Cond.methodLink RX11 90 yX3_entriesGo ∈ wsL_law := tin_2 (List.mem_of_getElem? (i := 160) (by decide +kernel)) rfl
theorem w_1087 : Cond.methodLink RX12 147 yX12_isSlot ∈ wsL_law := tin_7 (List.mem_of_getElem? (i := 6) (by decide +kernel)) rfl
theorem w_1088 : Cond.methodLink RX12 150 yX12_goFrom ∈ wsL_law := tin_7 (List.mem_of_getElem? (i := 10) (by decide +kernel)) rfl
theorem w_1089 : Cond.constantLong RX8 36 (-1) ∈ wsL_law := tin_2 (List.mem_of_getElem? (i := 184) (by decide +kernel)) rfl
theorem w_1090 : Cond.constantLong RJ13 314 (6148914691236517205) ∈ wsL_law := tin_2 (List.mem_of_getElem? (i := 192) (by decide +kernel)) rfl
theorem w_1091 : Cond.constantLong RJ13 316 (3689348814741910323) ∈ wsL_law := tin_2 (List.mem_of_getElem? (i := 193) (by decide +kernel)) rfl
theorem w_1092 : Cond.constantLong RJ13 318 (1085102592571150095) ∈ wsL_law := tin_2 (List.mem_of_getElem? (i := 194) (by decide +kernel)) rfl
theorem w_1093 : Cond.methodLink RX8 38 yJ13_bitCount_95d88 ∈ wsL_law := tin_2 (List.mem_of_getElem? (i := 189) (by decide +kernel)) rfl
theorem w_1094 : Cond.methodLink RX11 96 yX8_release ∈ wsL_law := tin_2 (List.mem_of_getElem? (i := 180) (by decide +kernel)) rfl
theorem w_1095 : Cond.methodLink RX11 99 yX8_rows ∈ wsL_law := tin_2 (List.mem_of_getElem? (i := 185) (by decide +kernel)) rfl
theorem w_1096 : Cond.constantLong RX11 102 (1103515245) ∈ wsL_law := tin_2 (List.mem_of_getElem? (i := 199) (by decide +kernel)) rfl
theorem w_1097 : Cond.constantLong RX11 104 (12345) ∈ wsL_law := tin_2 (List.mem_of_getElem? (i := 200) (by decide +kernel)) rfl
theorem w_1098 : Cond.constantLong RX11 106 (2147483647) ∈ wsL_law := tin_2 (List.mem_of_getElem? (i := 201) (by decide +kernel)) rfl
theorem w_1099 : Cond.constantLong RX11 108 (65536) ∈ wsL_law := tin_2 (List.mem_of_getElem? (i := 202) (by decide +kernel)) rfl
theorem w_1100 : Cond.methodLink RX11 110 yX11_rest ∈ wsL_law := tin_2 (List.mem_of_getElem? (i := 203) (by decide +kernel)) rfl
theorem w_1101 : Cond.constantLong RX12 153 (1103515245) ∈ wsL_law := tin_7 (List.mem_of_getElem? (i := 26) (by decide +kernel)) rfl
theorem w_1102 : Cond.fieldLink RX12 155 "KeptOrdersModel" "lot" "I" ∈ wsL_law := tin_6 (List.mem_of_getElem? (i := 57) (by decide +kernel)) rfl
theorem w_1103 : Cond.constantLong RX12 158 (12345) ∈ wsL_law := tin_7 (List.mem_of_getElem? (i := 27) (by decide +kernel)) rfl
theorem w_1104 : Cond.constantLong RX12 160 (2147483647) ∈ wsL_law := tin_7 (List.mem_of_getElem? (i := 28) (by decide +kernel)) rfl
theorem w_1105 : Cond.constant RX12 162 (65536) ∈ wsL_law := tin_7 (List.mem_of_getElem? (i := 29) (by decide +kernel)) rfl
theorem w_1106 : Cond.methodLink RX12 163 yX12_nextNumber ∈ wsL_law := tin_7 (List.mem_of_getElem? (i := 22) (by decide +kernel)) rfl
theorem w_1107 : Cond.methodLink RX11 113 yX11_isSlot ∈ wsL_law := tin_2 (List.mem_of_getElem? (i := 210) (by decide +kernel)) rfl
theorem w_1108 : Cond.methodLink RX11 116 yX8_pageWidth ∈ wsL_law := tin_2 (List.mem_of_getElem? (i := 215) (by decide +kernel)) rfl
theorem w_1109 : Cond.methodLink RX11 119 yX8_widen ∈ wsL_law := tin_2 (List.mem_of_getElem? (i := 219) (by decide +kernel)) rfl
theorem w_1110 : Cond.fieldLink RX2 30 "KeptOrders$Order" "key" "I" ∈ wsL_law := tin_3 (List.mem_of_getElem? (i := 19) (by decide +kernel)) rfl
theorem w_1111 : Cond.methodLink RX3 33 yX2_key ∈ wsL_law := tin_3 (List.mem_of_getElem? (i := 0) (by decide +kernel)) rfl
theorem w_1112 : Cond.classLink RX2 9 RX1 ∈ wsL_law := tin_3 (List.mem_of_getElem? (i := 16) (by decide +kernel)) rfl
theorem w_1113 : Cond.fieldLink RX2 48 "KeptOrders$Order" "columns" "I" ∈ wsL_law := tin_3 (List.mem_of_getElem? (i := 22) (by decide +kernel)) rfl
theorem w_1114 : Cond.methodLink RX2 3 objectInit ∈ wsL_law := tin_3 (List.mem_of_getElem? (i := 15) (by decide +kernel)) rfl
theorem w_1115 : Cond.methodLink RX2 11 yX1_init ∈ wsL_law := tin_3 (List.mem_of_getElem? (i := 17) (by decide +kernel)) rfl
theorem w_1116 : Cond.methodLink RX2 95 Lib.Math.min.name ∈ wsL_law := tin_3 (List.mem_of_getElem? (i := 64) (by decide +kernel)) rfl
theorem w_1117 : Cond.static Lib.Math.min.name ∈ wsL_law := tin_3 (List.mem_of_getElem? (i := 65) (by decide +kernel)) rfl
theorem w_1118 : Cond.initialized RJ9 ∈ wsL_law := tin_1 (List.mem_of_getElem? (i := 15) (by decide +kernel)) rfl
theorem w_1119 : Cond.code Lib.Math.min.name Lib.Math.min.code 2 (some .int) ∈ wsL_law := tin_3 (List.mem_of_getElem? (i := 66) (by decide +kernel)) rfl
theorem w_1120 : Cond.methodLink RX2 79 yX8_holds ∈ wsL_law := tin_3 (List.mem_of_getElem? (i := 59) (by decide +kernel)) rfl
theorem w_1121 : Cond.methodLink RX2 92 yX2_fillLeaves ∈ wsL_law := tin_3 (List.mem_of_getElem? (i := 60) (by decide +kernel)) rfl
theorem w_1122 : Cond.instantiable RX2 12 ∈ wsL_law := tin_2 (List.mem_of_getElem? (i := 101) (by decide +kernel)) rfl
theorem w_1123 : Cond.methodLink RX3 37 yX2_init ∈ wsL_law := tin_3 (List.mem_of_getElem? (i := 12) (by decide +kernel)) rfl
theorem w_1124 : Cond.methodLink RX3 40 yX2_rebuild ∈ wsL_law := tin_3 (List.mem_of_getElem? (i := 55) (by decide +kernel)) rfl
theorem w_1125 : Cond.methodLink RX11 122 yX2_isKey ∈ wsL_law := tin_2 (List.mem_of_getElem? (i := 227) (by decide +kernel)) rfl
theorem w_1126 : Cond.methodLink RX11 127 yX3_haveKey ∈ wsL_law := tin_2 (List.mem_of_getElem? (i := 236) (by decide +kernel)) rfl
theorem w_1127 : Cond.methodLink RX11 130 yX3_told ∈ wsL_law := tin_3 (List.mem_of_getElem? (i := 4) (by decide +kernel)) rfl
theorem w_1128 : Cond.methodLink RX11 133 yX3_tell ∈ wsL_law := tin_3 (List.mem_of_getElem? (i := 8) (by decide +kernel)) rfl
theorem w_1129 : Cond.methodLink RX12 110 yX12_isKey ∈ wsL_law := tin_6 (List.mem_of_getElem? (i := 156) (by decide +kernel)) rfl
theorem w_1130 : Cond.methodLink RX12 114 yX12_packOne ∈ wsL_law := tin_6 (List.mem_of_getElem? (i := 168) (by decide +kernel)) rfl
theorem w_1131 : Cond.methodLink RX2 75 yX2_height ∈ wsL_law := tin_3 (List.mem_of_getElem? (i := 80) (by decide +kernel)) rfl
theorem w_1132 : Cond.methodLink RX11 137 yX3_kept ∈ wsL_law := tin_3 (List.mem_of_getElem? (i := 71) (by decide +kernel)) rfl
theorem w_1133 : Cond.methodLink RX11 141 yX2_dismiss ∈ wsL_law := tin_3 (List.mem_of_getElem? (i := 72) (by decide +kernel)) rfl
theorem w_1134 : Cond.methodLink RX11 144 yX2_size ∈ wsL_law := tin_3 (List.mem_of_getElem? (i := 76) (by decide +kernel)) rfl
theorem w_1135 : Cond.methodLink RX12 118 yX12_isOrder ∈ wsL_law := tin_6 (List.mem_of_getElem? (i := 183) (by decide +kernel)) rfl
theorem w_1136 : Cond.methodLink RX12 121 yX12_sizeOf ∈ wsL_law := tin_6 (List.mem_of_getElem? (i := 187) (by decide +kernel)) rfl
theorem w_1137 : Cond.methodLink RX11 147 yX2_fillLeaves ∈ wsL_law := tin_3 (List.mem_of_getElem? (i := 88) (by decide +kernel)) rfl
theorem w_1138 : Cond.methodLink RX11 150 yX2_key ∈ wsL_law := tin_3 (List.mem_of_getElem? (i := 93) (by decide +kernel)) rfl
theorem w_1139 : Cond.methodLink RX11 153 yX2_leaves ∈ wsL_law := tin_3 (List.mem_of_getElem? (i := 94) (by decide +kernel)) rfl
theorem w_1140 : Cond.methodLink RX11 156 yX2_height ∈ wsL_law := tin_3 (List.mem_of_getElem? (i := 98) (by decide +kernel)) rfl
theorem w_1141 : Cond.methodLink RX11 159 yX2_cuts ∈ wsL_law := tin_3 (List.mem_of_getElem? (i := 99) (by decide +kernel)) rfl
theorem w_1142 : Cond.methodLink RX12 124 yX12_heightOf ∈ wsL_law := tin_6 (List.mem_of_getElem? (i := 203) (by decide +kernel)) rfl
theorem w_1143 : Cond.methodLink RX12 127 yX12_aboutOf ∈ wsL_law := tin_6 (List.mem_of_getElem? (i := 199) (by decide +kernel)) rfl
theorem w_1144 : Cond.methodLink RX11 162 yX2_slotAt ∈ wsL_law := tin_3 (List.mem_of_getElem? (i := 107) (by decide +kernel)) rfl
theorem w_1145 : Cond.methodLink RX11 165 yX2_entriesInLeaf ∈ wsL_law := tin_3 (List.mem_of_getElem? (i := 115) (by decide +kernel)) rfl
theorem w_1146 : Cond.constantLong RX11 421 (255) ∈ wsL_law := tin_3 (List.mem_of_getElem? (i := 129) (by decide +kernel)) rfl
theorem w_1147 : Cond.methodLink RX11 175 yX11_byteOf ∈ wsL_law := tin_3 (List.mem_of_getElem? (i := 126) (by decide +kernel)) rfl
theorem w_1148 : Cond.fieldLink RX7 27 "KeptOrders$Sheet" "length" "I" ∈ wsL_law := tin_1 (List.mem_of_getElem? (i := 73) (by decide +kernel)) rfl
theorem w_1149 : Cond.methodLink RX7 35 yX1_put ∈ wsL_law := tin_3 (List.mem_of_getElem? (i := 138) (by decide +kernel)) rfl
theorem w_1150 : Cond.methodLink RX11 168 yX11_lettersIn ∈ wsL_law := tin_3 (List.mem_of_getElem? (i := 123) (by decide +kernel)) rfl
theorem w_1151 : Cond.methodLink RX11 172 yX7_length ∈ wsL_law := tin_3 (List.mem_of_getElem? (i := 130) (by decide +kernel)) rfl
theorem w_1152 : Cond.methodLink RX11 179 yX7_write ∈ wsL_law := tin_3 (List.mem_of_getElem? (i := 134) (by decide +kernel)) rfl
theorem w_1153 : Cond.constantLong RX12 166 (255) ∈ wsL_law := tin_7 (List.mem_of_getElem? (i := 42) (by decide +kernel)) rfl
theorem w_1154 : Cond.fieldLink RX12 168 "KeptOrdersModel" "pageLength" "I" ∈ wsL_law := tin_6 (List.mem_of_getElem? (i := 41) (by decide +kernel)) rfl
theorem w_1155 : Cond.methodLink RX11 182 yX7_clear ∈ wsL_law := tin_3 (List.mem_of_getElem? (i := 143) (by decide +kernel)) rfl
theorem w_1156 : Cond.fieldLink RX6 27 "KeptOrders$Question" "bound" "I" ∈ wsL_law := tin_1 (List.mem_of_getElem? (i := 52) (by decide +kernel)) rfl
theorem w_1157 : Cond.fieldLink RX6 31 "KeptOrders$Question" "fixed" "I" ∈ wsL_law := tin_1 (List.mem_of_getElem? (i := 53) (by decide +kernel)) rfl
theorem w_1158 : Cond.fieldLink RX6 34 "KeptOrders$Question" "shown" "I" ∈ wsL_law := tin_1 (List.mem_of_getElem? (i := 54) (by decide +kernel)) rfl
theorem w_1159 : Cond.fieldLink RX6 37 "KeptOrders$Question" "sortColumn" "I" ∈ wsL_law := tin_1 (List.mem_of_getElem? (i := 55) (by decide +kernel)) rfl
theorem w_1160 : Cond.fieldLink RX6 40 "KeptOrders$Question" "heft" "I" ∈ wsL_law := tin_1 (List.mem_of_getElem? (i := 56) (by decide +kernel)) rfl
theorem w_1161 : Cond.methodLink RX6 23 yX1_put ∈ wsL_law := tin_3 (List.mem_of_getElem? (i := 159) (by decide +kernel)) rfl
theorem w_1162 : Cond.fieldLink RX7 42 "KeptOrders$Sheet" "state" "I" ∈ wsL_law := tin_1 (List.mem_of_getElem? (i := 75) (by decide +kernel)) rfl
theorem w_1163 : Cond.fieldLink RX7 77 "KeptOrders$Sheet" "column" "I" ∈ wsL_law := tin_1 (List.mem_of_getElem? (i := 76) (by decide +kernel)) rfl
theorem w_1164 : Cond.methodLink RX7 74 yX7_isLetter ∈ wsL_law := tin_3 (List.mem_of_getElem? (i := 173) (by decide +kernel)) rfl
theorem w_1165 : Cond.methodLink RX7 49 yX7_moves ∈ wsL_law := tin_3 (List.mem_of_getElem? (i := 165) (by decide +kernel)) rfl
theorem w_1166 : Cond.fieldLink RX7 80 "KeptOrders$Sheet" "sign" "I" ∈ wsL_law := tin_1 (List.mem_of_getElem? (i := 77) (by decide +kernel)) rfl
theorem w_1167 : Cond.fieldLink RX7 62 "KeptOrders$Sheet" "number" "I" ∈ wsL_law := tin_1 (List.mem_of_getElem? (i := 78) (by decide +kernel)) rfl
theorem w_1168 : Cond.methodLink RX6 43 yX1_at ∈ wsL_law := tin_3 (List.mem_of_getElem? (i := 192) (by decide +kernel)) rfl
theorem w_1169 : Cond.methodLink RX6 47 Lib.Math.max.name ∈ wsL_law := tin_3 (List.mem_of_getElem? (i := 193) (by decide +kernel)) rfl
theorem w_1170 : Cond.static Lib.Math.max.name ∈ wsL_law := tin_3 (List.mem_of_getElem? (i := 194) (by decide +kernel)) rfl
theorem w_1171 : Cond.code Lib.Math.max.name Lib.Math.max.code 2 (some .int) ∈ wsL_law := tin_3 (List.mem_of_getElem? (i := 195) (by decide +kernel)) rfl
theorem w_1172 : Cond.methodLink RX6 53 Lib.Math.min.name ∈ wsL_law := tin_3 (List.mem_of_getElem? (i := 196) (by decide +kernel)) rfl
theorem w_1173 : Cond.methodLink RX7 83 yX6_narrow ∈ wsL_law := tin_3 (List.mem_of_getElem? (i := 188) (by decide +kernel)) rfl
theorem w_1174 : Cond.methodLink RX7 87 yX6_shows ∈ wsL_law := tin_3 (List.mem_of_getElem? (i := 205) (by decide +kernel)) rfl
theorem w_1175 : Cond.methodLink RX7 90 yX6_show ∈ wsL_law := tin_3 (List.mem_of_getElem? (i := 210) (by decide +kernel)) rfl
theorem w_1176 : Cond.methodLink RX7 93 yX6_sortBy ∈ wsL_law := tin_3 (List.mem_of_getElem? (i := 218) (by decide +kernel)) rfl
theorem w_1177 : Cond.methodLink RX7 52 yX7_takesColumn ∈ wsL_law := tin_3 (List.mem_of_getElem? (i := 169) (by decide +kernel)) rfl
theorem w_1178 : Cond.methodLink RX7 55 yX7_takesSign ∈ wsL_law := tin_3 (List.mem_of_getElem? (i := 176) (by decide +kernel)) rfl
theorem w_1179 : Cond.methodLink RX7 58 yX7_takesDigit ∈ wsL_law := tin_3 (List.mem_of_getElem? (i := 180) (by decide +kernel)) rfl
theorem w_1180 : Cond.methodLink RX7 65 yX7_endsCondition ∈ wsL_law := tin_3 (List.mem_of_getElem? (i := 184) (by decide +kernel)) rfl
theorem w_1181 : Cond.methodLink RX7 68 yX7_takesShown ∈ wsL_law := tin_3 (List.mem_of_getElem? (i := 201) (by decide +kernel)) rfl
theorem w_1182 : Cond.methodLink RX7 71 yX7_takesSort ∈ wsL_law := tin_3 (List.mem_of_getElem? (i := 214) (by decide +kernel)) rfl
theorem w_1183 : Cond.methodLink RX7 39 yX6_clear ∈ wsL_law := tin_3 (List.mem_of_getElem? (i := 155) (by decide +kernel)) rfl
theorem w_1184 : Cond.methodLink RX7 31 yX1_at ∈ wsL_law := tin_3 (List.mem_of_getElem? (i := 160) (by decide +kernel)) rfl
theorem w_1185 : Cond.methodLink RX7 45 yX7_takes ∈ wsL_law := tin_3 (List.mem_of_getElem? (i := 161) (by decide +kernel)) rfl
theorem w_1186 : Cond.methodLink RX11 185 yX7_read ∈ wsL_law := tin_3 (List.mem_of_getElem? (i := 151) (by decide +kernel)) rfl
theorem w_1187 : Cond.fieldLink RX12 171 "KeptOrdersModel" "readShown" "I" ∈ wsL_law := tin_6 (List.mem_of_getElem? (i := 61) (by decide +kernel)) rfl
theorem w_1188 : Cond.fieldLink RX12 174 "KeptOrdersModel" "readSort" "I" ∈ wsL_law := tin_6 (List.mem_of_getElem? (i := 62) (by decide +kernel)) rfl
theorem w_1189 : Cond.fieldLink RX12 181 "KeptOrdersModel" "goodMany" "I" ∈ wsL_law := tin_6 (List.mem_of_getElem? (i := 58) (by decide +kernel)) rfl
theorem w_1190 : Cond.fieldLink RX12 184 "KeptOrdersModel" "isWhole" "Z" ∈ wsL_law := tin_6 (List.mem_of_getElem? (i := 59) (by decide +kernel)) rfl
theorem w_1191 : Cond.methodLink RX12 177 yX12_narrow ∈ wsL_law := tin_7 (List.mem_of_getElem? (i := 55) (by decide +kernel)) rfl
theorem w_1192 : Cond.methodLink RX12 188 yX12_readQuestion ∈ wsL_law := tin_7 (List.mem_of_getElem? (i := 51) (by decide +kernel)) rfl
theorem w_1193 : Cond.fieldLink RX10 40 "KeptOrders$Workload" "asked" "I" ∈ wsL_law := tin_1 (List.mem_of_getElem? (i := 196) (by decide +kernel)) rfl
theorem w_1194 : Cond.methodLink RX11 188 yX7_isWhole ∈ wsL_law := tin_3 (List.mem_of_getElem? (i := 226) (by decide +kernel)) rfl
theorem w_1195 : Cond.methodLink RX11 192 yX10_asked ∈ wsL_law := tin_3 (List.mem_of_getElem? (i := 230) (by decide +kernel)) rfl
theorem w_1196 : Cond.methodLink RX11 195 yX7_handOver ∈ wsL_law := tin_3 (List.mem_of_getElem? (i := 234) (by decide +kernel)) rfl
theorem w_1197 : Cond.methodLink RX11 199 yX10_add ∈ wsL_law := tin_3 (List.mem_of_getElem? (i := 238) (by decide +kernel)) rfl
theorem w_1198 : Cond.fieldLink RX12 191 "KeptOrdersModel" "questions" "I" ∈ wsL_law := tin_6 (List.mem_of_getElem? (i := 43) (by decide +kernel)) rfl
theorem w_1199 : Cond.methodLink RX6 66 yX6_least ∈ wsL_law := tin_4 (List.mem_of_getElem? (i := 14) (by decide +kernel)) rfl
theorem w_1200 : Cond.methodLink RX6 69 yX6_greatest ∈ wsL_law := tin_4 (List.mem_of_getElem? (i := 18) (by decide +kernel)) rfl
theorem w_1201 : Cond.methodLink RX11 203 yX10_question ∈ wsL_law := tin_4 (List.mem_of_getElem? (i := 6) (by decide +kernel)) rfl
theorem w_1202 : Cond.methodLink RX11 207 yX6_letsNone ∈ wsL_law := tin_4 (List.mem_of_getElem? (i := 10) (by decide +kernel)) rfl
theorem w_1203 : Cond.methodLink RX11 212 yX6_least ∈ wsL_law := tin_4 (List.mem_of_getElem? (i := 22) (by decide +kernel)) rfl
theorem w_1204 : Cond.methodLink RX11 215 yX6_greatest ∈ wsL_law := tin_4 (List.mem_of_getElem? (i := 23) (by decide +kernel)) rfl
theorem w_1205 : Cond.methodLink RX12 200 yX12_isQuestion ∈ wsL_law := tin_7 (List.mem_of_getElem? (i := 67) (by decide +kernel)) rfl
theorem w_1206 : Cond.methodLink RX11 218 yX6_heft ∈ wsL_law := tin_4 (List.mem_of_getElem? (i := 28) (by decide +kernel)) rfl
theorem w_1207 : Cond.methodLink RX11 221 yX6_weigh ∈ wsL_law := tin_4 (List.mem_of_getElem? (i := 32) (by decide +kernel)) rfl
theorem w_1208 : Cond.methodLink RX6 76 yX8_taken ∈ wsL_law := tin_4 (List.mem_of_getElem? (i := 44) (by decide +kernel)) rfl
theorem w_1209 : Cond.methodLink RX6 82 yX8_rowsWithin ∈ wsL_law := tin_4 (List.mem_of_getElem? (i := 48) (by decide +kernel)) rfl
theorem w_1210 : Cond.methodLink RX11 224 yX6_rowsWithin ∈ wsL_law := tin_4 (List.mem_of_getElem? (i := 40) (by decide +kernel)) rfl
theorem w_1211 : Cond.methodLink RX11 228 yJ13_bitCount_95d88 ∈ wsL_law := tin_4 (List.mem_of_getElem? (i := 52) (by decide +kernel)) rfl
theorem w_1212 : Cond.methodLink RX12 194 yX12_leastOf ∈ wsL_law := tin_7 (List.mem_of_getElem? (i := 91) (by decide +kernel)) rfl
theorem w_1213 : Cond.methodLink RX12 197 yX12_mostOf ∈ wsL_law := tin_7 (List.mem_of_getElem? (i := 95) (by decide +kernel)) rfl
theorem w_1214 : Cond.methodLink RX12 203 yX12_isWithin ∈ wsL_law := tin_7 (List.mem_of_getElem? (i := 87) (by decide +kernel)) rfl
theorem w_1215 : Cond.methodLink RX12 206 yX12_isAnswer ∈ wsL_law := tin_7 (List.mem_of_getElem? (i := 83) (by decide +kernel)) rfl
theorem w_1216 : Cond.methodLink RX12 210 yX12_answersOf ∈ wsL_law := tin_7 (List.mem_of_getElem? (i := 79) (by decide +kernel)) rfl
theorem w_1217 : Cond.methodLink RX6 101 yX8_number ∈ wsL_law := tin_4 (List.mem_of_getElem? (i := 71) (by decide +kernel)) rfl
theorem w_1218 : Cond.methodLink RX6 97 yX6_sortNumber ∈ wsL_law := tin_4 (List.mem_of_getElem? (i := 67) (by decide +kernel)) rfl
theorem w_1219 : Cond.methodLink RX6 86 yX6_rowsWithin ∈ wsL_law := tin_4 (List.mem_of_getElem? (i := 61) (by decide +kernel)) rfl
theorem w_1220 : Cond.methodLink RX6 93 yX6_rowsAhead ∈ wsL_law := tin_4 (List.mem_of_getElem? (i := 63) (by decide +kernel)) rfl
theorem w_1221 : Cond.methodLink RX11 233 yX6_placed ∈ wsL_law := tin_4 (List.mem_of_getElem? (i := 57) (by decide +kernel)) rfl
theorem w_1222 : Cond.methodLink RX6 72 yX6_isFixed ∈ wsL_law := tin_4 (List.mem_of_getElem? (i := 84) (by decide +kernel)) rfl
theorem w_1223 : Cond.methodLink RX8 52 yX8_pagesOf ∈ wsL_law := tin_4 (List.mem_of_getElem? (i := 94) (by decide +kernel)) rfl
theorem w_1224 : Cond.fieldLink RX9 57 "KeptOrders$Ways" "listed" "I" ∈ wsL_law := tin_1 (List.mem_of_getElem? (i := 161) (by decide +kernel)) rfl
theorem w_1225 : Cond.methodLink RX9 99 yX1_put ∈ wsL_law := tin_4 (List.mem_of_getElem? (i := 102) (by decide +kernel)) rfl
theorem w_1226 : Cond.methodLink RX2 124 yX6_isBound ∈ wsL_law := tin_4 (List.mem_of_getElem? (i := 116) (by decide +kernel)) rfl
theorem w_1227 : Cond.methodLink RX2 129 yX6_isFixed ∈ wsL_law := tin_4 (List.mem_of_getElem? (i := 120) (by decide +kernel)) rfl
theorem w_1228 : Cond.methodLink RX2 132 yX2_hasSome ∈ wsL_law := tin_4 (List.mem_of_getElem? (i := 126) (by decide +kernel)) rfl
theorem w_1229 : Cond.methodLink RX2 140 yX6_usedColumns ∈ wsL_law := tin_4 (List.mem_of_getElem? (i := 135) (by decide +kernel)) rfl
theorem w_1230 : Cond.methodLink RX2 143 yX6_sortColumn ∈ wsL_law := tin_4 (List.mem_of_getElem? (i := 145) (by decide +kernel)) rfl
theorem w_1231 : Cond.methodLink RX9 78 yX3_kept ∈ wsL_law := tin_4 (List.mem_of_getElem? (i := 107) (by decide +kernel)) rfl
theorem w_1232 : Cond.methodLink RX9 84 yX2_columns ∈ wsL_law := tin_4 (List.mem_of_getElem? (i := 108) (by decide +kernel)) rfl
theorem w_1233 : Cond.methodLink RX9 47 yX6_rowsWithin ∈ wsL_law := tin_4 (List.mem_of_getElem? (i := 88) (by decide +kernel)) rfl
theorem w_1234 : Cond.methodLink RX9 89 yX2_runColumns ∈ wsL_law := tin_4 (List.mem_of_getElem? (i := 112) (by decide +kernel)) rfl
theorem w_1235 : Cond.methodLink RX9 93 yX2_height ∈ wsL_law := tin_4 (List.mem_of_getElem? (i := 121) (by decide +kernel)) rfl
theorem w_1236 : Cond.methodLink RX9 96 yX2_leavesOf ∈ wsL_law := tin_4 (List.mem_of_getElem? (i := 122) (by decide +kernel)) rfl
theorem w_1237 : Cond.methodLink RX9 103 yX2_covers ∈ wsL_law := tin_4 (List.mem_of_getElem? (i := 131) (by decide +kernel)) rfl
theorem w_1238 : Cond.methodLink RX9 107 yX8_pagesOf ∈ wsL_law := tin_4 (List.mem_of_getElem? (i := 139) (by decide +kernel)) rfl
theorem w_1239 : Cond.methodLink RX9 114 yX2_sortsFor ∈ wsL_law := tin_4 (List.mem_of_getElem? (i := 141) (by decide +kernel)) rfl
theorem w_1240 : Cond.methodLink RX9 67 yX9_add ∈ wsL_law := tin_4 (List.mem_of_getElem? (i := 98) (by decide +kernel)) rfl
theorem w_1241 : Cond.methodLink RX9 117 yX1_at ∈ wsL_law := tin_4 (List.mem_of_getElem? (i := 153) (by decide +kernel)) rfl
theorem w_1242 : Cond.methodLink RX9 121 yX9_leftBy ∈ wsL_law := tin_4 (List.mem_of_getElem? (i := 154) (by decide +kernel)) rfl
theorem w_1243 : Cond.methodLink RX9 41 yX6_mustSort ∈ wsL_law := tin_4 (List.mem_of_getElem? (i := 80) (by decide +kernel)) rfl
theorem w_1244 : Cond.methodLink RX9 51 yJ13_bitCount_95d88 ∈ wsL_law := tin_4 (List.mem_of_getElem? (i := 89) (by decide +kernel)) rfl
theorem w_1245 : Cond.methodLink RX9 61 yX8_fullPages ∈ wsL_law := tin_4 (List.mem_of_getElem? (i := 90) (by decide +kernel)) rfl
theorem w_1246 : Cond.methodLink RX9 71 yX9_listAlone ∈ wsL_law := tin_4 (List.mem_of_getElem? (i := 103) (by decide +kernel)) rfl
theorem w_1247 : Cond.methodLink RX9 75 yX9_listBoth ∈ wsL_law := tin_4 (List.mem_of_getElem? (i := 149) (by decide +kernel)) rfl
theorem w_1248 : Cond.methodLink RX9 125 yX1_placeOf ∈ wsL_law := tin_4 (List.mem_of_getElem? (i := 162) (by decide +kernel)) rfl
theorem w_1249 : Cond.methodLink RX11 237 yX9_list ∈ wsL_law := tin_4 (List.mem_of_getElem? (i := 76) (by decide +kernel)) rfl
theorem w_1250 : Cond.methodLink RX11 241 yX9_placeOf ∈ wsL_law := tin_4 (List.mem_of_getElem? (i := 158) (by decide +kernel)) rfl
theorem w_1251 : Cond.methodLink RX11 244 yX9_costAt ∈ wsL_law := tin_4 (List.mem_of_getElem? (i := 163) (by decide +kernel)) rfl
theorem w_1252 : Cond.methodLink RX12 213 yX12_isFixed ∈ wsL_law := tin_7 (List.mem_of_getElem? (i := 115) (by decide +kernel)) rfl
theorem w_1253 : Cond.methodLink RX12 238 yX12_fullPages ∈ wsL_law := tin_7 (List.mem_of_getElem? (i := 139) (by decide +kernel)) rfl
theorem w_1254 : Cond.methodLink RX12 235 yX12_isSorted ∈ wsL_law := tin_7 (List.mem_of_getElem? (i := 143) (by decide +kernel)) rfl
theorem w_1255 : Cond.methodLink RX12 216 yX12_isBound ∈ wsL_law := tin_7 (List.mem_of_getElem? (i := 119) (by decide +kernel)) rfl
theorem w_1256 : Cond.methodLink RX12 219 yX12_runColumns ∈ wsL_law := tin_7 (List.mem_of_getElem? (i := 111) (by decide +kernel)) rfl
theorem w_1257 : Cond.methodLink RX12 222 yX12_isInRun ∈ wsL_law := tin_7 (List.mem_of_getElem? (i := 123) (by decide +kernel)) rfl
theorem w_1258 : Cond.methodLink RX12 229 yX12_isInKey ∈ wsL_law := tin_7 (List.mem_of_getElem? (i := 159) (by decide +kernel)) rfl
theorem w_1259 : Cond.methodLink RX12 232 yX12_leaves ∈ wsL_law := tin_7 (List.mem_of_getElem? (i := 166) (by decide +kernel)) rfl
theorem w_1260 : Cond.methodLink RX12 241 yX12_wayDown ∈ wsL_law := tin_7 (List.mem_of_getElem? (i := 151) (by decide +kernel)) rfl
theorem w_1261 : Cond.methodLink RX12 244 yX12_isCovered ∈ wsL_law := tin_7 (List.mem_of_getElem? (i := 155) (by decide +kernel)) rfl
theorem w_1262 : Cond.methodLink RX12 247 yX12_pagesLeft ∈ wsL_law := tin_7 (List.mem_of_getElem? (i := 162) (by decide +kernel)) rfl
theorem w_1263 : Cond.methodLink RX12 251 yX12_isSortedBy ∈ wsL_law := tin_7 (List.mem_of_getElem? (i := 170) (by decide +kernel)) rfl
theorem w_1264 : Cond.methodLink RX12 254 yX12_looksByTable ∈ wsL_law := tin_7 (List.mem_of_getElem? (i := 135) (by decide +kernel)) rfl
theorem w_1265 : Cond.methodLink RX12 257 yX12_looksBy ∈ wsL_law := tin_7 (List.mem_of_getElem? (i := 147) (by decide +kernel)) rfl
theorem w_1266 : Cond.methodLink RX12 260 yX12_looksByBoth ∈ wsL_law := tin_7 (List.mem_of_getElem? (i := 174) (by decide +kernel)) rfl
theorem w_1267 : Cond.methodLink RX12 263 yX12_looksOf ∈ wsL_law := tin_7 (List.mem_of_getElem? (i := 131) (by decide +kernel)) rfl
theorem w_1268 : Cond.methodLink RX11 247 yX2_runColumns ∈ wsL_law := tin_4 (List.mem_of_getElem? (i := 171) (by decide +kernel)) rfl
theorem w_1269 : Cond.methodLink RX12 226 yX12_runOf ∈ wsL_law := tin_7 (List.mem_of_getElem? (i := 107) (by decide +kernel)) rfl
theorem w_1270 : Cond.methodLink RX11 250 yX11_isSet ∈ wsL_law := tin_4 (List.mem_of_getElem? (i := 176) (by decide +kernel)) rfl
theorem w_1271 : Cond.methodLink RX11 253 yX9_bestPlace ∈ wsL_law := tin_4 (List.mem_of_getElem? (i := 179) (by decide +kernel)) rfl
theorem w_1272 : Cond.methodLink RX11 256 yX9_numberAt ∈ wsL_law := tin_4 (List.mem_of_getElem? (i := 183) (by decide +kernel)) rfl
theorem w_1273 : Cond.fieldLink RX12 266 "KeptOrdersModel" "bestLooks" "I" ∈ wsL_law := tin_6 (List.mem_of_getElem? (i := 64) (by decide +kernel)) rfl
theorem w_1274 : Cond.fieldLink RX12 269 "KeptOrdersModel" "bestWay" "I" ∈ wsL_law := tin_6 (List.mem_of_getElem? (i := 65) (by decide +kernel)) rfl
theorem w_1275 : Cond.methodLink RX12 272 yX12_better ∈ wsL_law := tin_7 (List.mem_of_getElem? (i := 190) (by decide +kernel)) rfl
theorem w_1276 : Cond.methodLink RX12 275 yX12_lookAll ∈ wsL_law := tin_7 (List.mem_of_getElem? (i := 182) (by decide +kernel)) rfl
theorem w_1277 : Cond.methodLink RX12 278 yX12_seekBest ∈ wsL_law := tin_7 (List.mem_of_getElem? (i := 186) (by decide +kernel)) rfl
theorem w_1278 : Cond.methodLink RX3 61 yX2_height ∈ wsL_law := tin_4 (List.mem_of_getElem? (i := 200) (by decide +kernel)) rfl
theorem w_1279 : Cond.fieldLink RX10 44 "KeptOrders$Workload" "upkeepNow" "I" ∈ wsL_law := tin_1 (List.mem_of_getElem? (i := 198) (by decide +kernel)) rfl
theorem w_1280 : Cond.methodLink RX10 47 yX3_burdenOf ∈ wsL_law := tin_4 (List.mem_of_getElem? (i := 195) (by decide +kernel)) rfl
theorem w_1281 : Cond.methodLink RX10 53 yX10_question ∈ wsL_law := tin_4 (List.mem_of_getElem? (i := 201) (by decide +kernel)) rfl
theorem w_1282 : Cond.methodLink RX10 57 yX9_list ∈ wsL_law := tin_4 (List.mem_of_getElem? (i := 202) (by decide +kernel)) rfl
theorem w_1283 : Cond.methodLink RX10 63 yX6_heft ∈ wsL_law := tin_4 (List.mem_of_getElem? (i := 203) (by decide +kernel)) rfl
theorem w_1284 : Cond.methodLink RX10 67 yX9_bestPlace ∈ wsL_law := tin_4 (List.mem_of_getElem? (i := 204) (by decide +kernel)) rfl
theorem w_1285 : Cond.methodLink RX10 70 yX9_costAt ∈ wsL_law := tin_4 (List.mem_of_getElem? (i := 205) (by decide +kernel)) rfl
theorem w_1286 : Cond.methodLink RX11 259 yX10_workOf ∈ wsL_law := tin_4 (List.mem_of_getElem? (i := 191) (by decide +kernel)) rfl
theorem w_1287 : Cond.fieldLink RX12 281 "KeptOrdersModel" "upkeepNow" "I" ∈ wsL_law := tin_6 (List.mem_of_getElem? (i := 48) (by decide +kernel)) rfl
theorem w_1288 : Cond.methodLink RX12 284 yX12_lookAtAll ∈ wsL_law := tin_7 (List.mem_of_getElem? (i := 198) (by decide +kernel)) rfl
theorem w_1289 : Cond.methodLink RX12 287 yX12_workOf ∈ wsL_law := tin_7 (List.mem_of_getElem? (i := 202) (by decide +kernel)) rfl
theorem w_1290 : Cond.methodLink RX11 262 yX10_upkeepNow ∈ wsL_law := tin_4 (List.mem_of_getElem? (i := 210) (by decide +kernel)) rfl
theorem w_1291 : Cond.methodLink RX11 265 yX10_setUpkeep ∈ wsL_law := tin_4 (List.mem_of_getElem? (i := 214) (by decide +kernel)) rfl
theorem w_1292 : Cond.methodLink RX9 128 Lib.Math.min.name ∈ wsL_law := tin_4 (List.mem_of_getElem? (i := 238) (by decide +kernel)) rfl
theorem w_1293 : Cond.methodLink RX10 93 yX1_put ∈ wsL_law := tin_4 (List.mem_of_getElem? (i := 233) (by decide +kernel)) rfl
theorem w_1294 : Cond.methodLink RX10 103 yX9_fewestOfAll ∈ wsL_law := tin_4 (List.mem_of_getElem? (i := 234) (by decide +kernel)) rfl
theorem w_1295 : Cond.methodLink RX10 100 yX1_at ∈ wsL_law := tin_5 (List.mem_of_getElem? (i := 0) (by decide +kernel)) rfl
theorem w_1296 : Cond.methodLink RX10 107 yX1_raise ∈ wsL_law := tin_5 (List.mem_of_getElem? (i := 1) (by decide +kernel)) rfl
theorem w_1297 : Cond.methodLink RX3 58 yX2_size ∈ wsL_law := tin_5 (List.mem_of_getElem? (i := 11) (by decide +kernel)) rfl
theorem w_1298 : Cond.methodLink RX10 79 yX3_sizesOf ∈ wsL_law := tin_5 (List.mem_of_getElem? (i := 7) (by decide +kernel)) rfl
theorem w_1299 : Cond.methodLink RX10 73 yX10_workOutAll ∈ wsL_law := tin_4 (List.mem_of_getElem? (i := 229) (by decide +kernel)) rfl
theorem w_1300 : Cond.methodLink RX10 76 yX3_keptSet ∈ wsL_law := tin_5 (List.mem_of_getElem? (i := 2) (by decide +kernel)) rfl
theorem w_1301 : Cond.methodLink RX10 82 yX10_isBetter ∈ wsL_law := tin_5 (List.mem_of_getElem? (i := 12) (by decide +kernel)) rfl
theorem w_1302 : Cond.fieldLink RX11 271 "KeptOrders" "choices" "I" ∈ wsL_law := tin_2 (List.mem_of_getElem? (i := 31) (by decide +kernel)) rfl
theorem w_1303 : Cond.methodLink RX11 268 yX11_isSpace ∈ wsL_law := tin_4 (List.mem_of_getElem? (i := 222) (by decide +kernel)) rfl
theorem w_1304 : Cond.methodLink RX11 275 yX10_bestSet ∈ wsL_law := tin_4 (List.mem_of_getElem? (i := 225) (by decide +kernel)) rfl
theorem w_1305 : Cond.methodLink RX11 278 yX10_workedOut ∈ wsL_law := tin_5 (List.mem_of_getElem? (i := 16) (by decide +kernel)) rfl
theorem w_1306 : Cond.methodLink RX11 281 yX3_sizesOf ∈ wsL_law := tin_5 (List.mem_of_getElem? (i := 20) (by decide +kernel)) rfl
theorem w_1307 : Cond.fieldLink RX12 290 "KeptOrdersModel" "chosenDone" "I" ∈ wsL_law := tin_6 (List.mem_of_getElem? (i := 49) (by decide +kernel)) rfl
theorem w_1308 : Cond.methodLink RX12 293 yX12_isKept ∈ wsL_law := tin_7 (List.mem_of_getElem? (i := 214) (by decide +kernel)) rfl
theorem w_1309 : Cond.methodLink RX12 296 yX12_spaceOf ∈ wsL_law := tin_7 (List.mem_of_getElem? (i := 218) (by decide +kernel)) rfl
theorem w_1310 : Cond.methodLink RX10 110 yX3_kept ∈ wsL_law := tin_5 (List.mem_of_getElem? (i := 34) (by decide +kernel)) rfl
theorem w_1311 : Cond.fieldLink RX10 86 "KeptOrders$Workload" "steppedCount" "I" ∈ wsL_law := tin_1 (List.mem_of_getElem? (i := 197) (by decide +kernel)) rfl
theorem w_1312 : Cond.methodLink RX10 89 yX10_nextStep ∈ wsL_law := tin_5 (List.mem_of_getElem? (i := 29) (by decide +kernel)) rfl
theorem w_1313 : Cond.constant RJ6 265 (1431655765) ∈ wsL_law := tin_5 (List.mem_of_getElem? (i := 42) (by decide +kernel)) rfl
theorem w_1314 : Cond.constant RJ6 266 (858993459) ∈ wsL_law := tin_5 (List.mem_of_getElem? (i := 43) (by decide +kernel)) rfl
theorem w_1315 : Cond.constant RJ6 267 (252645135) ∈ wsL_law := tin_5 (List.mem_of_getElem? (i := 44) (by decide +kernel)) rfl
theorem w_1316 : Cond.fieldLink RX11 284 "KeptOrders" "stepwise" "I" ∈ wsL_law := tin_2 (List.mem_of_getElem? (i := 32) (by decide +kernel)) rfl
theorem w_1317 : Cond.methodLink RX11 287 yX10_stepByStep ∈ wsL_law := tin_5 (List.mem_of_getElem? (i := 25) (by decide +kernel)) rfl
theorem w_1318 : Cond.methodLink RX11 290 yX10_stepAt ∈ wsL_law := tin_5 (List.mem_of_getElem? (i := 35) (by decide +kernel)) rfl
theorem w_1319 : Cond.methodLink RX11 293 yJ6_bitCount_0f7a4 ∈ wsL_law := tin_5 (List.mem_of_getElem? (i := 39) (by decide +kernel)) rfl
theorem w_1320 : Cond.fieldLink RX12 299 "KeptOrdersModel" "stepsDone" "I" ∈ wsL_law := tin_6 (List.mem_of_getElem? (i := 50) (by decide +kernel)) rfl
theorem w_1321 : Cond.methodLink RX11 297 yX11_has ∈ wsL_law := tin_5 (List.mem_of_getElem? (i := 49) (by decide +kernel)) rfl
theorem w_1322 : Cond.methodLink RX11 301 yX11_without ∈ wsL_law := tin_5 (List.mem_of_getElem? (i := 50) (by decide +kernel)) rfl
theorem w_1323 : Cond.methodLink RX5 64 yX1_at ∈ wsL_law := tin_5 (List.mem_of_getElem? (i := 69) (by decide +kernel)) rfl
theorem w_1324 : Cond.fieldLink RX4 26 "KeptOrders$Picture" "taken" "Z" ∈ wsL_law := tin_1 (List.mem_of_getElem? (i := 238) (by decide +kernel)) rfl
theorem w_1325 : Cond.methodLink RX4 38 yX1_put ∈ wsL_law := tin_5 (List.mem_of_getElem? (i := 76) (by decide +kernel)) rfl
theorem w_1326 : Cond.methodLink RX4 30 yX1_at ∈ wsL_law := tin_5 (List.mem_of_getElem? (i := 77) (by decide +kernel)) rfl
theorem w_1327 : Cond.fieldLink RX5 56 "KeptOrders$Pictures" "rows" "I" ∈ wsL_law := tin_2 (List.mem_of_getElem? (i := 12) (by decide +kernel)) rfl
theorem w_1328 : Cond.methodLink RX5 35 yX5_of ∈ wsL_law := tin_5 (List.mem_of_getElem? (i := 59) (by decide +kernel)) rfl
theorem w_1329 : Cond.methodLink RX5 39 yX8_holds ∈ wsL_law := tin_5 (List.mem_of_getElem? (i := 63) (by decide +kernel)) rfl
theorem w_1330 : Cond.methodLink RX5 45 yX8_number ∈ wsL_law := tin_5 (List.mem_of_getElem? (i := 64) (by decide +kernel)) rfl
theorem w_1331 : Cond.methodLink RX5 49 yX5_placeFor ∈ wsL_law := tin_5 (List.mem_of_getElem? (i := 65) (by decide +kernel)) rfl
theorem w_1332 : Cond.methodLink RX5 52 yX1_insert ∈ wsL_law := tin_5 (List.mem_of_getElem? (i := 70) (by decide +kernel)) rfl
theorem w_1333 : Cond.methodLink RX5 60 yX4_take ∈ wsL_law := tin_5 (List.mem_of_getElem? (i := 71) (by decide +kernel)) rfl
theorem w_1334 : Cond.methodLink RX11 304 yX5_take ∈ wsL_law := tin_5 (List.mem_of_getElem? (i := 55) (by decide +kernel)) rfl
theorem w_1335 : Cond.fieldLink RX12 302 "KeptOrdersModel" "pictureRows" "I" ∈ wsL_law := tin_6 (List.mem_of_getElem? (i := 53) (by decide +kernel)) rfl
theorem w_1336 : Cond.methodLink RX11 307 yX5_of ∈ wsL_law := tin_5 (List.mem_of_getElem? (i := 82) (by decide +kernel)) rfl
theorem w_1337 : Cond.methodLink RX11 311 yX4_partCount ∈ wsL_law := tin_5 (List.mem_of_getElem? (i := 83) (by decide +kernel)) rfl
theorem w_1338 : Cond.methodLink RX11 316 yX4_partLeast ∈ wsL_law := tin_5 (List.mem_of_getElem? (i := 87) (by decide +kernel)) rfl
theorem w_1339 : Cond.methodLink RX11 319 yX4_partGreatest ∈ wsL_law := tin_5 (List.mem_of_getElem? (i := 91) (by decide +kernel)) rfl
theorem w_1340 : Cond.methodLink RX12 305 yX12_partOf ∈ wsL_law := tin_7 (List.mem_of_getElem? (i := 238) (by decide +kernel)) rfl
theorem w_1341 : Cond.methodLink RX4 46 Lib.Math.max.name ∈ wsL_law := tin_5 (List.mem_of_getElem? (i := 115) (by decide +kernel)) rfl
theorem w_1342 : Cond.methodLink RX4 51 Lib.Math.min.name ∈ wsL_law := tin_5 (List.mem_of_getElem? (i := 116) (by decide +kernel)) rfl
theorem w_1343 : Cond.methodLink RX4 42 yX4_shared ∈ wsL_law := tin_5 (List.mem_of_getElem? (i := 111) (by decide +kernel)) rfl
theorem w_1344 : Cond.methodLink RX11 322 yX4_isTaken ∈ wsL_law := tin_5 (List.mem_of_getElem? (i := 99) (by decide +kernel)) rfl
theorem w_1345 : Cond.methodLink RX11 325 yX4_surelyWithin ∈ wsL_law := tin_5 (List.mem_of_getElem? (i := 103) (by decide +kernel)) rfl
theorem w_1346 : Cond.methodLink RX11 328 yX4_perhapsWithin ∈ wsL_law := tin_5 (List.mem_of_getElem? (i := 107) (by decide +kernel)) rfl
theorem w_1347 : Cond.methodLink RX11 331 yX4_likelyWithin ∈ wsL_law := tin_5 (List.mem_of_getElem? (i := 117) (by decide +kernel)) rfl
theorem w_1348 : Cond.methodLink RX12 308 yX12_foretoldOf ∈ wsL_law := tin_8 (List.mem_of_getElem? (i := 6) (by decide +kernel)) rfl
theorem w_1349 : Cond.methodLink RX5 68 yX4_isTaken ∈ wsL_law := tin_5 (List.mem_of_getElem? (i := 129) (by decide +kernel)) rfl
theorem w_1350 : Cond.methodLink RX5 76 yX6_isBound ∈ wsL_law := tin_5 (List.mem_of_getElem? (i := 131) (by decide +kernel)) rfl
theorem w_1351 : Cond.methodLink RX5 81 yX6_least ∈ wsL_law := tin_5 (List.mem_of_getElem? (i := 132) (by decide +kernel)) rfl
theorem w_1352 : Cond.methodLink RX5 84 yX6_greatest ∈ wsL_law := tin_5 (List.mem_of_getElem? (i := 133) (by decide +kernel)) rfl
theorem w_1353 : Cond.methodLink RX5 87 yX4_likelyWithin ∈ wsL_law := tin_5 (List.mem_of_getElem? (i := 134) (by decide +kernel)) rfl
theorem w_1354 : Cond.methodLink RX11 334 yX5_likelyRows ∈ wsL_law := tin_5 (List.mem_of_getElem? (i := 125) (by decide +kernel)) rfl
theorem w_1355 : Cond.methodLink RX12 312 yX12_likelyBy ∈ wsL_law := tin_8 (List.mem_of_getElem? (i := 14) (by decide +kernel)) rfl
theorem w_1356 : Cond.methodLink RX5 150 yX6_mustSort ∈ wsL_law := tin_5 (List.mem_of_getElem? (i := 149) (by decide +kernel)) rfl
theorem w_1357 : Cond.methodLink RX5 106 yX5_likelyRows ∈ wsL_law := tin_5 (List.mem_of_getElem? (i := 150) (by decide +kernel)) rfl
theorem w_1358 : Cond.methodLink RX5 93 yX8_fullPages ∈ wsL_law := tin_5 (List.mem_of_getElem? (i := 144) (by decide +kernel)) rfl
theorem w_1359 : Cond.methodLink RX5 97 yX5_looksForSorting ∈ wsL_law := tin_5 (List.mem_of_getElem? (i := 145) (by decide +kernel)) rfl
theorem w_1360 : Cond.methodLink RX5 101 yX2_runColumns ∈ wsL_law := tin_5 (List.mem_of_getElem? (i := 155) (by decide +kernel)) rfl
theorem w_1361 : Cond.methodLink RX5 110 yX2_height ∈ wsL_law := tin_5 (List.mem_of_getElem? (i := 156) (by decide +kernel)) rfl
theorem w_1362 : Cond.methodLink RX5 113 yX2_room ∈ wsL_law := tin_5 (List.mem_of_getElem? (i := 157) (by decide +kernel)) rfl
theorem w_1363 : Cond.methodLink RX5 119 Lib.Math.max.name ∈ wsL_law := tin_5 (List.mem_of_getElem? (i := 162) (by decide +kernel)) rfl
theorem w_1364 : Cond.methodLink RX5 124 yX2_covers ∈ wsL_law := tin_5 (List.mem_of_getElem? (i := 163) (by decide +kernel)) rfl
theorem w_1365 : Cond.methodLink RX5 128 yX2_columns ∈ wsL_law := tin_5 (List.mem_of_getElem? (i := 164) (by decide +kernel)) rfl
theorem w_1366 : Cond.methodLink RX5 131 Lib.Math.min.name ∈ wsL_law := tin_5 (List.mem_of_getElem? (i := 165) (by decide +kernel)) rfl
theorem w_1367 : Cond.methodLink RX5 134 yX2_sortsFor ∈ wsL_law := tin_5 (List.mem_of_getElem? (i := 166) (by decide +kernel)) rfl
theorem w_1368 : Cond.methodLink RX11 338 yX5_looksByTable ∈ wsL_law := tin_5 (List.mem_of_getElem? (i := 140) (by decide +kernel)) rfl
theorem w_1369 : Cond.methodLink RX11 341 yX5_looksByOrder ∈ wsL_law := tin_5 (List.mem_of_getElem? (i := 151) (by decide +kernel)) rfl
theorem w_1370 : Cond.methodLink RX12 315 yX12_guessBy ∈ wsL_law := tin_8 (List.mem_of_getElem? (i := 26) (by decide +kernel)) rfl
theorem w_1371 : Cond.methodLink RX12 318 yX12_guessOf ∈ wsL_law := tin_8 (List.mem_of_getElem? (i := 22) (by decide +kernel)) rfl
theorem w_1372 : Cond.methodLink RX5 137 yX5_looksByTable ∈ wsL_law := tin_5 (List.mem_of_getElem? (i := 175) (by decide +kernel)) rfl
theorem w_1373 : Cond.methodLink RX5 140 yX3_kept ∈ wsL_law := tin_5 (List.mem_of_getElem? (i := 176) (by decide +kernel)) rfl
theorem w_1374 : Cond.methodLink RX5 146 yX5_looksByOrder ∈ wsL_law := tin_5 (List.mem_of_getElem? (i := 177) (by decide +kernel)) rfl
theorem w_1375 : Cond.methodLink RX11 345 yX5_chosenWay ∈ wsL_law := tin_5 (List.mem_of_getElem? (i := 171) (by decide +kernel)) rfl
theorem w_1376 : Cond.methodLink RX12 321 yX12_chosenOf ∈ wsL_law := tin_8 (List.mem_of_getElem? (i := 34) (by decide +kernel)) rfl
theorem w_1377 : Cond.methodLink RX8 55 yX1_copy ∈ wsL_law := tin_5 (List.mem_of_getElem? (i := 194) (by decide +kernel)) rfl
theorem w_1378 : Cond.fieldLink RX0 18 "KeptOrders$Marks" "marked" "I" ∈ wsL_law := tin_1 (List.mem_of_getElem? (i := 120) (by decide +kernel)) rfl
theorem w_1379 : Cond.methodLink RX0 22 yX8_takeRowsOf ∈ wsL_law := tin_5 (List.mem_of_getElem? (i := 190) (by decide +kernel)) rfl
theorem w_1380 : Cond.methodLink RX11 348 yX0_keep ∈ wsL_law := tin_5 (List.mem_of_getElem? (i := 186) (by decide +kernel)) rfl
theorem w_1381 : Cond.fieldLink RX12 324 "KeptOrdersModel" "marks" "I" ∈ wsL_law := tin_6 (List.mem_of_getElem? (i := 54) (by decide +kernel)) rfl
theorem w_1382 : Cond.methodLink RX11 352 yX0_numbered ∈ wsL_law := tin_5 (List.mem_of_getElem? (i := 202) (by decide +kernel)) rfl
theorem w_1383 : Cond.methodLink RX11 356 yX8_takeRowsOf ∈ wsL_law := tin_5 (List.mem_of_getElem? (i := 206) (by decide +kernel)) rfl
theorem w_1384 : Cond.methodLink RX11 359 yX3_rebuild ∈ wsL_law := tin_5 (List.mem_of_getElem? (i := 207) (by decide +kernel)) rfl
theorem w_1385 : Cond.methodLink RX11 362 yX0_forgetBehind ∈ wsL_law := tin_5 (List.mem_of_getElem? (i := 211) (by decide +kernel)) rfl
theorem w_1386 : Cond.methodLink RX11 365 yX8_fullPages ∈ wsL_law := tin_5 (List.mem_of_getElem? (i := 219) (by decide +kernel)) rfl
theorem w_1387 : Cond.methodLink RX11 368 yX3_keptSet ∈ wsL_law := tin_5 (List.mem_of_getElem? (i := 220) (by decide +kernel)) rfl
theorem w_1388 : Cond.methodLink RX11 371 yX0_marked ∈ wsL_law := tin_5 (List.mem_of_getElem? (i := 221) (by decide +kernel)) rfl
theorem w_1389 : Cond.methodLink RX12 327 yX12_kept ∈ wsL_law := tin_8 (List.mem_of_getElem? (i := 58) (by decide +kernel)) rfl
theorem w_1390 : Cond.methodLink RX12 330 yX12_countOf ∈ wsL_law := tin_8 (List.mem_of_getElem? (i := 54) (by decide +kernel)) rfl
theorem w_1391 : Cond.constantLong RX11 416 (31) ∈ wsL_law := tin_5 (List.mem_of_getElem? (i := 233) (by decide +kernel)) rfl
theorem w_1392 : Cond.methodLink RX11 400 yX11_get ∈ wsL_law := tin_5 (List.mem_of_getElem? (i := 238) (by decide +kernel)) rfl
theorem w_1393 : Cond.methodLink RX11 376 yX11_mixed ∈ wsL_law := tin_5 (List.mem_of_getElem? (i := 230) (by decide +kernel)) rfl
theorem w_1394 : Cond.methodLink RX11 403 yX11_about ∈ wsL_law := tin_6 (List.mem_of_getElem? (i := 3) (by decide +kernel)) rfl
theorem w_1395 : Cond.methodLink RX11 406 yX2_entries ∈ wsL_law := tin_6 (List.mem_of_getElem? (i := 4) (by decide +kernel)) rfl
theorem w_1396 : Cond.methodLink RX11 409 yX11_bound ∈ wsL_law := tin_6 (List.mem_of_getElem? (i := 12) (by decide +kernel)) rfl
theorem w_1397 : Cond.methodLink RX11 413 yX11_part ∈ wsL_law := tin_6 (List.mem_of_getElem? (i := 17) (by decide +kernel)) rfl
theorem w_1398 : Cond.constantLong RX11 374 (241) ∈ wsL_law := tin_5 (List.mem_of_getElem? (i := 229) (by decide +kernel)) rfl
theorem w_1399 : Cond.methodLink RX11 380 yX11_mixTable ∈ wsL_law := tin_5 (List.mem_of_getElem? (i := 234) (by decide +kernel)) rfl
theorem w_1400 : Cond.methodLink RX11 384 yX11_mixOrder ∈ wsL_law := tin_5 (List.mem_of_getElem? (i := 239) (by decide +kernel)) rfl
theorem w_1401 : Cond.methodLink RX11 388 yX11_mixQuestion ∈ wsL_law := tin_6 (List.mem_of_getElem? (i := 8) (by decide +kernel)) rfl
theorem w_1402 : Cond.methodLink RX11 391 yX11_mixPictures ∈ wsL_law := tin_6 (List.mem_of_getElem? (i := 13) (by decide +kernel)) rfl
theorem w_1403 : Cond.methodLink RX11 394 yX7_letterAt ∈ wsL_law := tin_6 (List.mem_of_getElem? (i := 18) (by decide +kernel)) rfl
theorem w_1404 : Cond.methodLink RX11 397 yX11_count ∈ wsL_law := tin_6 (List.mem_of_getElem? (i := 22) (by decide +kernel)) rfl
theorem w_1405 : Cond.constantLong RX12 333 (31) ∈ wsL_law := tin_8 (List.mem_of_getElem? (i := 75) (by decide +kernel)) rfl
theorem w_1406 : Cond.fieldLink RX12 335 "KeptOrdersModel" "h" "J" ∈ wsL_law := tin_6 (List.mem_of_getElem? (i := 68) (by decide +kernel)) rfl
theorem w_1407 : Cond.constantLong RX12 343 (-1) ∈ wsL_law := tin_8 (List.mem_of_getElem? (i := 76) (by decide +kernel)) rfl
theorem w_1408 : Cond.methodLink RX12 339 yX12_mix ∈ wsL_law := tin_8 (List.mem_of_getElem? (i := 71) (by decide +kernel)) rfl
theorem w_1409 : Cond.constantLong RX12 345 (241) ∈ wsL_law := tin_8 (List.mem_of_getElem? (i := 66) (by decide +kernel)) rfl
theorem w_1410 : Cond.methodLink RX12 347 yX12_mixTable ∈ wsL_law := tin_8 (List.mem_of_getElem? (i := 67) (by decide +kernel)) rfl
