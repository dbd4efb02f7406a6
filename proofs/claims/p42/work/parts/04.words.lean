theorem tin_1 {w : Cond} (h : w ∈ tables_1_1) (hg : goodWord w = true) : w ∈ wsL_law := List.mem_filter.mpr ⟨List.mem_append_right _ (List.mem_append_left _ (h)), hg⟩
theorem tin_2 {w : Cond} (h : w ∈ tables_1_2) (hg : goodWord w = true) : w ∈ wsL_law := List.mem_filter.mpr ⟨List.mem_append_right _ (List.mem_append_right _ (List.mem_append_left _ (h))), hg⟩
theorem tin_3 {w : Cond} (h : w ∈ tables_1_3) (hg : goodWord w = true) : w ∈ wsL_law := List.mem_filter.mpr ⟨List.mem_append_right _ (List.mem_append_right _ (List.mem_append_right _ (List.mem_append_left _ (h)))), hg⟩
theorem tin_4 {w : Cond} (h : w ∈ tables_1_4) (hg : goodWord w = true) : w ∈ wsL_law := List.mem_filter.mpr ⟨List.mem_append_right _ (List.mem_append_right _ (List.mem_append_right _ (List.mem_append_right _ (List.mem_append_left _ (h))))), hg⟩
theorem tin_5 {w : Cond} (h : w ∈ tables_1_5) (hg : goodWord w = true) : w ∈ wsL_law := List.mem_filter.mpr ⟨List.mem_append_right _ (List.mem_append_right _ (List.mem_append_right _ (List.mem_append_right _ (List.mem_append_right _ (h))))), hg⟩
theorem tip_1 {q : MethodName × Nat} (h : q ∈ lw_privs_1) : Cond.selects q.1.cls q.1 q.1 ∈ wsL_law := List.mem_filter.mpr ⟨List.mem_append_left _ (List.mem_map.mpr ⟨q, List.mem_append_left _ (h), rfl⟩), rfl⟩
theorem tip_2 {q : MethodName × Nat} (h : q ∈ lw_privs_2) : Cond.selects q.1.cls q.1 q.1 ∈ wsL_law := List.mem_filter.mpr ⟨List.mem_append_left _ (List.mem_map.mpr ⟨q, List.mem_append_right _ (h), rfl⟩), rfl⟩
set_option maxRecDepth 20000 in
theorem in_X0 : ∀ w ∈ u_ws RX0 TX0 2, w ∈ wsL_law := by
  intro w hw
  refine List.mem_filter.mpr ⟨?_, ?_⟩
  · revert w
    exact List.all_eq_true.mp (by decide +kernel : (u_ws RX0 TX0 2).all (fun w => decide (w ∈ lw_tbl)) = true) |> fun h w hw => of_decide_eq_true (h w hw)
  · revert w
    exact List.all_eq_true.mp (by decide +kernel : (u_ws RX0 TX0 2).all goodWord = true)
theorem kc_X0 : Kc 0 RX0 TX0 2 tyX0 := ⟨rfl, in_X0, tyX0_ok, nmX0⟩
set_option maxRecDepth 20000 in
theorem in_X1 : ∀ w ∈ u_ws RX1 TX1 1, w ∈ wsL_law := by
  intro w hw
  refine List.mem_filter.mpr ⟨?_, ?_⟩
  · revert w
    exact List.all_eq_true.mp (by decide +kernel : (u_ws RX1 TX1 1).all (fun w => decide (w ∈ lw_tbl)) = true) |> fun h w hw => of_decide_eq_true (h w hw)
  · revert w
    exact List.all_eq_true.mp (by decide +kernel : (u_ws RX1 TX1 1).all goodWord = true)
theorem kc_X1 : Kc 1 RX1 TX1 1 tyX1 := ⟨rfl, in_X1, tyX1_ok, nmX1⟩
set_option maxRecDepth 20000 in
theorem in_X2 : ∀ w ∈ u_ws RX2 TX2 12, w ∈ wsL_law := by
  intro w hw
  refine List.mem_filter.mpr ⟨?_, ?_⟩
  · revert w
    exact List.all_eq_true.mp (by decide +kernel : (u_ws RX2 TX2 12).all (fun w => decide (w ∈ lw_tbl)) = true) |> fun h w hw => of_decide_eq_true (h w hw)
  · revert w
    exact List.all_eq_true.mp (by decide +kernel : (u_ws RX2 TX2 12).all goodWord = true)
theorem kc_X2 : Kc 2 RX2 TX2 12 tyX2 := ⟨rfl, in_X2, tyX2_ok, nmX2⟩
set_option maxRecDepth 20000 in
theorem in_X3 : ∀ w ∈ u_ws RX3 TX3 3, w ∈ wsL_law := by
  intro w hw
  refine List.mem_filter.mpr ⟨?_, ?_⟩
  · revert w
    exact List.all_eq_true.mp (by decide +kernel : (u_ws RX3 TX3 3).all (fun w => decide (w ∈ lw_tbl)) = true) |> fun h w hw => of_decide_eq_true (h w hw)
  · revert w
    exact List.all_eq_true.mp (by decide +kernel : (u_ws RX3 TX3 3).all goodWord = true)
theorem kc_X3 : Kc 3 RX3 TX3 3 tyX3 := ⟨rfl, in_X3, tyX3_ok, nmX3⟩
set_option maxRecDepth 20000 in
theorem in_X4 : ∀ w ∈ u_ws RX4 TX4 4, w ∈ wsL_law := by
  intro w hw
  refine List.mem_filter.mpr ⟨?_, ?_⟩
  · revert w
    exact List.all_eq_true.mp (by decide +kernel : (u_ws RX4 TX4 4).all (fun w => decide (w ∈ lw_tbl)) = true) |> fun h w hw => of_decide_eq_true (h w hw)
  · revert w
    exact List.all_eq_true.mp (by decide +kernel : (u_ws RX4 TX4 4).all goodWord = true)
theorem kc_X4 : Kc 4 RX4 TX4 4 tyX4 := ⟨rfl, in_X4, tyX4_ok, nmX4⟩
set_option maxRecDepth 20000 in
theorem in_X5 : ∀ w ∈ u_ws RX5 TX5 5, w ∈ wsL_law := by
  intro w hw
  refine List.mem_filter.mpr ⟨?_, ?_⟩
  · revert w
    exact List.all_eq_true.mp (by decide +kernel : (u_ws RX5 TX5 5).all (fun w => decide (w ∈ lw_tbl)) = true) |> fun h w hw => of_decide_eq_true (h w hw)
  · revert w
    exact List.all_eq_true.mp (by decide +kernel : (u_ws RX5 TX5 5).all goodWord = true)
theorem kc_X5 : Kc 5 RX5 TX5 5 tyX5 := ⟨rfl, in_X5, tyX5_ok, nmX5⟩
set_option maxRecDepth 20000 in
theorem in_X6 : ∀ w ∈ u_ws RX6 TX6 7, w ∈ wsL_law := by
  intro w hw
  refine List.mem_filter.mpr ⟨?_, ?_⟩
  · revert w
    exact List.all_eq_true.mp (by decide +kernel : (u_ws RX6 TX6 7).all (fun w => decide (w ∈ lw_tbl)) = true) |> fun h w hw => of_decide_eq_true (h w hw)
  · revert w
    exact List.all_eq_true.mp (by decide +kernel : (u_ws RX6 TX6 7).all goodWord = true)
theorem kc_X6 : Kc 6 RX6 TX6 7 tyX6 := ⟨rfl, in_X6, tyX6_ok, nmX6⟩
set_option maxRecDepth 20000 in
theorem in_X7 : ∀ w ∈ u_ws RX7 TX7 7, w ∈ wsL_law := by
  intro w hw
  refine List.mem_filter.mpr ⟨?_, ?_⟩
  · revert w
    exact List.all_eq_true.mp (by decide +kernel : (u_ws RX7 TX7 7).all (fun w => decide (w ∈ lw_tbl)) = true) |> fun h w hw => of_decide_eq_true (h w hw)
  · revert w
    exact List.all_eq_true.mp (by decide +kernel : (u_ws RX7 TX7 7).all goodWord = true)
theorem kc_X7 : Kc 7 RX7 TX7 7 tyX7 := ⟨rfl, in_X7, tyX7_ok, nmX7⟩
set_option maxRecDepth 20000 in
theorem in_X8 : ∀ w ∈ u_ws RX8 TX8 3, w ∈ wsL_law := by
  intro w hw
  refine List.mem_filter.mpr ⟨?_, ?_⟩
  · revert w
    exact List.all_eq_true.mp (by decide +kernel : (u_ws RX8 TX8 3).all (fun w => decide (w ∈ lw_tbl)) = true) |> fun h w hw => of_decide_eq_true (h w hw)
  · revert w
    exact List.all_eq_true.mp (by decide +kernel : (u_ws RX8 TX8 3).all goodWord = true)
theorem kc_X8 : Kc 8 RX8 TX8 3 tyX8 := ⟨rfl, in_X8, tyX8_ok, nmX8⟩
set_option maxRecDepth 20000 in
theorem in_X9 : ∀ w ∈ u_ws RX9 TX9 8, w ∈ wsL_law := by
  intro w hw
  refine List.mem_filter.mpr ⟨?_, ?_⟩
  · revert w
    exact List.all_eq_true.mp (by decide +kernel : (u_ws RX9 TX9 8).all (fun w => decide (w ∈ lw_tbl)) = true) |> fun h w hw => of_decide_eq_true (h w hw)
  · revert w
    exact List.all_eq_true.mp (by decide +kernel : (u_ws RX9 TX9 8).all goodWord = true)
theorem kc_X9 : Kc 9 RX9 TX9 8 tyX9 := ⟨rfl, in_X9, tyX9_ok, nmX9⟩
set_option maxRecDepth 20000 in
theorem in_X10 : ∀ w ∈ u_ws RX10 TX10 9, w ∈ wsL_law := by
  intro w hw
  refine List.mem_filter.mpr ⟨?_, ?_⟩
  · revert w
    exact List.all_eq_true.mp (by decide +kernel : (u_ws RX10 TX10 9).all (fun w => decide (w ∈ lw_tbl)) = true) |> fun h w hw => of_decide_eq_true (h w hw)
  · revert w
    exact List.all_eq_true.mp (by decide +kernel : (u_ws RX10 TX10 9).all goodWord = true)
theorem kc_X10 : Kc 10 RX10 TX10 9 tyX10 := ⟨rfl, in_X10, tyX10_ok, nmX10⟩
set_option maxRecDepth 20000 in
theorem in_X11 : ∀ w ∈ u_ws RX11 TX11 9, w ∈ wsL_law := by
  intro w hw
  refine List.mem_filter.mpr ⟨?_, ?_⟩
  · revert w
    exact List.all_eq_true.mp (by decide +kernel : (u_ws RX11 TX11 9).all (fun w => decide (w ∈ lw_tbl)) = true) |> fun h w hw => of_decide_eq_true (h w hw)
  · revert w
    exact List.all_eq_true.mp (by decide +kernel : (u_ws RX11 TX11 9).all goodWord = true)
theorem kc_X11 : Kc 11 RX11 TX11 9 tyX11 := ⟨rfl, in_X11, tyX11_ok, nmX11⟩
theorem df_X0 : ∀ j, j < 2 → defaultValue (tyX0 j) = vp_V [.null, .int 0] j := by decide +kernel
theorem df_X1 : ∀ j, j < 1 → defaultValue (tyX1 j) = vp_V [.null] j := by decide +kernel
theorem df_X2 : ∀ j, j < 12 → defaultValue (tyX2 j) = vp_V [.null, .int 0, .int 0, .int 0, .int 0, .null, .null, .null, .int 0, .int 0, .int 0, .int 0] j := by decide +kernel
theorem df_X3 : ∀ j, j < 3 → defaultValue (tyX3 j) = vp_V [.null, .null, .int 0] j := by decide +kernel
theorem df_X4 : ∀ j, j < 4 → defaultValue (tyX4 j) = vp_V [.null, .null, .null, .int 0] j := by decide +kernel
theorem df_X5 : ∀ j, j < 5 → defaultValue (tyX5 j) = vp_V [.null, .null, .null, .null, .int 0] j := by decide +kernel
theorem df_X6 : ∀ j, j < 7 → defaultValue (tyX6 j) = vp_V [.null, .null, .int 0, .int 0, .int 0, .int 0, .int 0] j := by decide +kernel
theorem df_X7 : ∀ j, j < 7 → defaultValue (tyX7 j) = vp_V [.null, .int 0, .null, .int 0, .int 0, .int 0, .int 0] j := by decide +kernel
theorem df_X8 : ∀ j, j < 3 → defaultValue (tyX8 j) = vp_V [.null, .long 0, .int 0] j := by decide +kernel
theorem df_X9 : ∀ j, j < 8 → defaultValue (tyX9 j) = vp_V [.null, .null, .null, .null, .null, .null, .null, .int 0] j := by decide +kernel
theorem df_X10 : ∀ j, j < 9 → defaultValue (tyX10 j) = vp_V [.null, .null, .null, .null, .null, .null, .int 0, .int 0, .int 0] j := by decide +kernel
theorem df_X11 : ∀ j, j < 9 → defaultValue (tyX11 j) = vp_V [.null, .null, .null, .null, .null, .null, .null, .int 0, .int 0] j := by decide +kernel
abbrev M_X1_init : MI := (yX1_init, cX1_init, 2, none, 1)
theorem ok_X1_init : okM M_X1_init 1 = true := by decide +kernel
theorem w_0 : Cond.code yX1_init cX1_init 2 none ∈ wsL_law := tin_1 (List.mem_of_getElem? (i := 34) (by decide +kernel)) rfl
theorem w_1 : Cond.initialized RX1 ∈ wsL_law := tin_1 (List.mem_of_getElem? (i := 3) (by decide +kernel)) rfl
theorem w_2 : Cond.instanceMethod yX1_init ∈ wsL_law := tin_1 (List.mem_of_getElem? (i := 33) (by decide +kernel)) rfl
theorem wd_X1_init : Wi M_X1_init := ⟨w_2, w_1, w_0⟩
abbrev M_X6_init : MI := (yX6_init, cX6_init, 1, none, 2)
theorem ok_X6_init : okM M_X6_init 0 = true := by decide +kernel
theorem w_3 : Cond.code yX6_init cX6_init 1 none ∈ wsL_law := tin_1 (List.mem_of_getElem? (i := 45) (by decide +kernel)) rfl
theorem w_4 : Cond.initialized RX6 ∈ wsL_law := tin_1 (List.mem_of_getElem? (i := 4) (by decide +kernel)) rfl
theorem w_5 : Cond.instanceMethod yX6_init ∈ wsL_law := tin_1 (List.mem_of_getElem? (i := 44) (by decide +kernel)) rfl
theorem wd_X6_init : Wi M_X6_init := ⟨w_5, w_4, w_3⟩
abbrev M_X7_init : MI := (yX7_init, cX7_init, 1, none, 3)
theorem ok_X7_init : okM M_X7_init 0 = true := by decide +kernel
theorem w_6 : Cond.code yX7_init cX7_init 1 none ∈ wsL_law := tin_1 (List.mem_of_getElem? (i := 28) (by decide +kernel)) rfl
theorem w_7 : Cond.initialized RX7 ∈ wsL_law := tin_1 (List.mem_of_getElem? (i := 2) (by decide +kernel)) rfl
theorem w_8 : Cond.instanceMethod yX7_init ∈ wsL_law := tin_1 (List.mem_of_getElem? (i := 27) (by decide +kernel)) rfl
theorem wd_X7_init : Wi M_X7_init := ⟨w_8, w_7, w_6⟩
abbrev M_X8_init : MI := (yX8_init, cX8_init, 1, none, 2)
theorem ok_X8_init : okM M_X8_init 0 = true := by decide +kernel
theorem w_9 : Cond.code yX8_init cX8_init 1 none ∈ wsL_law := tin_1 (List.mem_of_getElem? (i := 104) (by decide +kernel)) rfl
theorem w_10 : Cond.initialized RX8 ∈ wsL_law := tin_1 (List.mem_of_getElem? (i := 6) (by decide +kernel)) rfl
theorem w_11 : Cond.instanceMethod yX8_init ∈ wsL_law := tin_1 (List.mem_of_getElem? (i := 103) (by decide +kernel)) rfl
theorem wd_X8_init : Wi M_X8_init := ⟨w_11, w_10, w_9⟩
abbrev M_X0_init : MI := (yX0_init, cX0_init, 2, none, 3)
theorem ok_X0_init : okM M_X0_init 0 = true := by decide +kernel
theorem w_12 : Cond.code yX0_init cX0_init 2 none ∈ wsL_law := tin_1 (List.mem_of_getElem? (i := 97) (by decide +kernel)) rfl
theorem w_13 : Cond.initialized RX0 ∈ wsL_law := tin_1 (List.mem_of_getElem? (i := 5) (by decide +kernel)) rfl
theorem w_14 : Cond.instanceMethod yX0_init ∈ wsL_law := tin_1 (List.mem_of_getElem? (i := 96) (by decide +kernel)) rfl
theorem wd_X0_init : Wi M_X0_init := ⟨w_14, w_13, w_12⟩
abbrev M_X3_init : MI := (yX3_init, cX3_init, 2, none, 1)
theorem ok_X3_init : okM M_X3_init 1 = true := by decide +kernel
theorem w_15 : Cond.code yX3_init cX3_init 2 none ∈ wsL_law := tin_1 (List.mem_of_getElem? (i := 131) (by decide +kernel)) rfl
theorem w_16 : Cond.initialized RX3 ∈ wsL_law := tin_1 (List.mem_of_getElem? (i := 7) (by decide +kernel)) rfl
theorem w_17 : Cond.instanceMethod yX3_init ∈ wsL_law := tin_1 (List.mem_of_getElem? (i := 130) (by decide +kernel)) rfl
theorem wd_X3_init : Wi M_X3_init := ⟨w_17, w_16, w_15⟩
abbrev M_X9_init : MI := (yX9_init, cX9_init, 3, none, 2)
theorem ok_X9_init : okM M_X9_init 2 = true := by decide +kernel
theorem w_18 : Cond.code yX9_init cX9_init 3 none ∈ wsL_law := tin_1 (List.mem_of_getElem? (i := 149) (by decide +kernel)) rfl
theorem w_19 : Cond.initialized RX9 ∈ wsL_law := tin_1 (List.mem_of_getElem? (i := 8) (by decide +kernel)) rfl
theorem w_20 : Cond.instanceMethod yX9_init ∈ wsL_law := tin_1 (List.mem_of_getElem? (i := 148) (by decide +kernel)) rfl
theorem wd_X9_init : Wi M_X9_init := ⟨w_20, w_19, w_18⟩
abbrev M_X10_init : MI := (yX10_init, cX10_init, 3, none, 2)
theorem ok_X10_init : okM M_X10_init 2 = true := by decide +kernel
theorem w_21 : Cond.code yX10_init cX10_init 3 none ∈ wsL_law := tin_1 (List.mem_of_getElem? (i := 183) (by decide +kernel)) rfl
theorem w_22 : Cond.initialized RX10 ∈ wsL_law := tin_1 (List.mem_of_getElem? (i := 9) (by decide +kernel)) rfl
theorem w_23 : Cond.instanceMethod yX10_init ∈ wsL_law := tin_1 (List.mem_of_getElem? (i := 182) (by decide +kernel)) rfl
theorem wd_X10_init : Wi M_X10_init := ⟨w_23, w_22, w_21⟩
abbrev M_X4_init : MI := (yX4_init, cX4_init, 1, none, 2)
theorem ok_X4_init : okM M_X4_init 0 = true := by decide +kernel
theorem w_24 : Cond.code yX4_init cX4_init 1 none ∈ wsL_law := tin_1 (List.mem_of_getElem? (i := 230) (by decide +kernel)) rfl
theorem w_25 : Cond.initialized RX4 ∈ wsL_law := tin_1 (List.mem_of_getElem? (i := 11) (by decide +kernel)) rfl
theorem w_26 : Cond.instanceMethod yX4_init ∈ wsL_law := tin_1 (List.mem_of_getElem? (i := 229) (by decide +kernel)) rfl
theorem wd_X4_init : Wi M_X4_init := ⟨w_26, w_25, w_24⟩
abbrev M_X5_init : MI := (yX5_init, cX5_init, 4, none, 3)
theorem ok_X5_init : okM M_X5_init 2 = true := by decide +kernel
theorem w_27 : Cond.code yX5_init cX5_init 4 none ∈ wsL_law := tin_1 (List.mem_of_getElem? (i := 221) (by decide +kernel)) rfl
theorem w_28 : Cond.initialized RX5 ∈ wsL_law := tin_1 (List.mem_of_getElem? (i := 10) (by decide +kernel)) rfl
theorem w_29 : Cond.instanceMethod yX5_init ∈ wsL_law := tin_1 (List.mem_of_getElem? (i := 220) (by decide +kernel)) rfl
theorem wd_X5_init : Wi M_X5_init := ⟨w_29, w_28, w_27⟩
abbrev M_X11_init : MI := (yX11_init, cX11_init, 4, none, 4)
theorem ok_X11_init : okM M_X11_init 0 = true := by decide +kernel
theorem w_30 : Cond.code yX11_init cX11_init 4 none ∈ wsL_law := tin_1 (List.mem_of_getElem? (i := 20) (by decide +kernel)) rfl
theorem w_31 : Cond.initialized RX11 ∈ wsL_law := tin_1 (List.mem_of_getElem? (i := 1) (by decide +kernel)) rfl
theorem w_32 : Cond.instanceMethod yX11_init ∈ wsL_law := tin_1 (List.mem_of_getElem? (i := 19) (by decide +kernel)) rfl
theorem wd_X11_init : Wi M_X11_init := ⟨w_32, w_31, w_30⟩
abbrev M_L_cell : MI := (yL_cell, cL_cell, 2, (some .int), 0)
theorem ok_L_cell : okM M_L_cell 2 = true := by decide +kernel
theorem w_33 : Cond.code yL_cell cL_cell 2 (some .int) ∈ wsL_law := tin_4 (List.mem_of_getElem? (i := 134) (by decide +kernel)) rfl
theorem w_34 : Cond.initialized RL ∈ wsL_law := tin_1 (List.mem_of_getElem? (i := 0) (by decide +kernel)) rfl
theorem w_35 : Cond.static yL_cell ∈ wsL_law := tin_4 (List.mem_of_getElem? (i := 133) (by decide +kernel)) rfl
theorem wd_L_cell : Ws M_L_cell := ⟨w_35, w_34, w_33⟩
abbrev M_X8_pageWidth : MI := (yX8_pageWidth, cX8_pageWidth, 1, (some .int), 0)
theorem ok_X8_pageWidth : okM M_X8_pageWidth 0 = true := by decide +kernel
theorem w_36 : Cond.code yX8_pageWidth cX8_pageWidth 1 (some .int) ∈ wsL_law := tin_2 (List.mem_of_getElem? (i := 211) (by decide +kernel)) rfl
theorem w_37 : Cond.instanceMethod yX8_pageWidth ∈ wsL_law := tin_2 (List.mem_of_getElem? (i := 209) (by decide +kernel)) rfl
theorem w_38 : Cond.selects RX8 yX8_pageWidth yX8_pageWidth ∈ wsL_law := tin_2 (List.mem_of_getElem? (i := 210) (by decide +kernel)) rfl
theorem wd_X8_pageWidth : Wv M_X8_pageWidth := ⟨w_37, w_38, w_10, w_36⟩
abbrev M_X8_widen : MI := (yX8_widen, cX8_widen, 2, none, 0)
theorem ok_X8_widen : okM M_X8_widen 1 = true := by decide +kernel
theorem w_39 : Cond.code yX8_widen cX8_widen 2 none ∈ wsL_law := tin_2 (List.mem_of_getElem? (i := 215) (by decide +kernel)) rfl
theorem w_40 : Cond.instanceMethod yX8_widen ∈ wsL_law := tin_2 (List.mem_of_getElem? (i := 213) (by decide +kernel)) rfl
theorem w_41 : Cond.selects RX8 yX8_widen yX8_widen ∈ wsL_law := tin_2 (List.mem_of_getElem? (i := 214) (by decide +kernel)) rfl
theorem wd_X8_widen : Wv M_X8_widen := ⟨w_40, w_41, w_10, w_39⟩
abbrev M_X11_wide : MI := (yX11_wide, cX11_wide, 3, (some .int), 1)
theorem ok_X11_wide : okM M_X11_wide 1 = true := by decide +kernel
theorem w_42 : Cond.code yX11_wide cX11_wide 3 (some .int) ∈ wsL_law := tin_2 (List.mem_of_getElem? (i := 207) (by decide +kernel)) rfl
theorem w_43 : Cond.instanceMethod yX11_wide ∈ wsL_law := tin_2 (List.mem_of_getElem? (i := 205) (by decide +kernel)) rfl
theorem w_44 : Cond.selects RX11 yX11_wide yX11_wide ∈ wsL_law := tin_2 (List.mem_of_getElem? (i := 206) (by decide +kernel)) rfl
theorem wd_X11_wide : Wv M_X11_wide := ⟨w_43, w_44, w_31, w_42⟩
abbrev M_X11_hasSlot : MI := (yX11_hasSlot, cX11_hasSlot, 3, (some .boolean), 0)
theorem ok_X11_hasSlot : okM M_X11_hasSlot 2 = true := by decide +kernel
theorem w_45 : Cond.code yX11_hasSlot cX11_hasSlot 3 (some .boolean) ∈ wsL_law := tin_2 (List.mem_of_getElem? (i := 62) (by decide +kernel)) rfl
theorem w_46 : Cond.static yX11_hasSlot ∈ wsL_law := tin_2 (List.mem_of_getElem? (i := 61) (by decide +kernel)) rfl
theorem wd_X11_hasSlot : Ws M_X11_hasSlot := ⟨w_46, w_31, w_45⟩
abbrev M_X8_emptySlot : MI := (yX8_emptySlot, cX8_emptySlot, 2, (some .int), 1)
theorem ok_X8_emptySlot : okM M_X8_emptySlot 0 = true := by decide +kernel
theorem w_47 : Cond.code yX8_emptySlot cX8_emptySlot 2 (some .int) ∈ wsL_law := tin_2 (List.mem_of_getElem? (i := 59) (by decide +kernel)) rfl
theorem w_48 : Cond.instanceMethod yX8_emptySlot ∈ wsL_law := tin_2 (List.mem_of_getElem? (i := 57) (by decide +kernel)) rfl
theorem w_49 : Cond.selects RX8 yX8_emptySlot yX8_emptySlot ∈ wsL_law := tin_2 (List.mem_of_getElem? (i := 58) (by decide +kernel)) rfl
theorem wd_X8_emptySlot : Wv M_X8_emptySlot := ⟨w_48, w_49, w_10, w_47⟩
abbrev M_X11_rest : MI := (yX11_rest, cX11_rest, 2, (some .int), 0)
theorem ok_X11_rest : okM M_X11_rest 2 = true := by decide +kernel
theorem w_50 : Cond.code yX11_rest cX11_rest 2 (some .int) ∈ wsL_law := tin_2 (List.mem_of_getElem? (i := 194) (by decide +kernel)) rfl
theorem w_51 : Cond.static yX11_rest ∈ wsL_law := tin_2 (List.mem_of_getElem? (i := 193) (by decide +kernel)) rfl
theorem wd_X11_rest : Ws M_X11_rest := ⟨w_51, w_31, w_50⟩
abbrev M_X1_put : MI := (yX1_put, cX1_put, 3, none, 0)
theorem ok_X1_put : okM M_X1_put 2 = true := by decide +kernel
theorem w_52 : Cond.code yX1_put cX1_put 3 none ∈ wsL_law := tin_2 (List.mem_of_getElem? (i := 70) (by decide +kernel)) rfl
theorem w_53 : Cond.instanceMethod yX1_put ∈ wsL_law := tin_2 (List.mem_of_getElem? (i := 68) (by decide +kernel)) rfl
theorem w_54 : Cond.selects RX1 yX1_put yX1_put ∈ wsL_law := tin_2 (List.mem_of_getElem? (i := 69) (by decide +kernel)) rfl
theorem wd_X1_put : Wv M_X1_put := ⟨w_53, w_54, w_1, w_52⟩
abbrev M_X8_put : MI := (yX8_put, cX8_put, 4, none, 1)
theorem ok_X8_put : okM M_X8_put 3 = true := by decide +kernel
theorem w_55 : Cond.code yX8_put cX8_put 4 none ∈ wsL_law := tin_2 (List.mem_of_getElem? (i := 66) (by decide +kernel)) rfl
theorem w_56 : Cond.instanceMethod yX8_put ∈ wsL_law := tin_2 (List.mem_of_getElem? (i := 64) (by decide +kernel)) rfl
theorem w_57 : Cond.selects RX8 yX8_put yX8_put ∈ wsL_law := tin_2 (List.mem_of_getElem? (i := 65) (by decide +kernel)) rfl
theorem wd_X8_put : Wv M_X8_put := ⟨w_56, w_57, w_10, w_55⟩
abbrev M_X8_hold : MI := (yX8_hold, cX8_hold, 2, none, 0)
theorem ok_X8_hold : okM M_X8_hold 1 = true := by decide +kernel
theorem w_58 : Cond.code yX8_hold cX8_hold 2 none ∈ wsL_law := tin_2 (List.mem_of_getElem? (i := 78) (by decide +kernel)) rfl
theorem w_59 : Cond.instanceMethod yX8_hold ∈ wsL_law := tin_2 (List.mem_of_getElem? (i := 76) (by decide +kernel)) rfl
theorem w_60 : Cond.selects RX8 yX8_hold yX8_hold ∈ wsL_law := tin_2 (List.mem_of_getElem? (i := 77) (by decide +kernel)) rfl
theorem wd_X8_hold : Wv M_X8_hold := ⟨w_59, w_60, w_10, w_58⟩
abbrev M_X2_isDropped : MI := (yX2_isDropped, cX2_isDropped, 1, (some .boolean), 0)
theorem ok_X2_isDropped : okM M_X2_isDropped 0 = true := by decide +kernel
theorem w_61 : Cond.code yX2_isDropped cX2_isDropped 1 (some .boolean) ∈ wsL_law := tin_2 (List.mem_of_getElem? (i := 90) (by decide +kernel)) rfl
theorem w_62 : Cond.initialized RX2 ∈ wsL_law := tin_1 (List.mem_of_getElem? (i := 12) (by decide +kernel)) rfl
theorem w_63 : Cond.instanceMethod yX2_isDropped ∈ wsL_law := tin_2 (List.mem_of_getElem? (i := 88) (by decide +kernel)) rfl
theorem w_64 : Cond.selects RX2 yX2_isDropped yX2_isDropped ∈ wsL_law := tin_2 (List.mem_of_getElem? (i := 89) (by decide +kernel)) rfl
theorem wd_X2_isDropped : Wv M_X2_isDropped := ⟨w_63, w_64, w_62, w_61⟩
abbrev M_X3_kept : MI := (yX3_kept, cX3_kept, 3, (some (.object "KeptOrders$Order")), 1)
theorem ok_X3_kept : okM M_X3_kept 1 = true := by decide +kernel
theorem w_65 : Cond.code yX3_kept cX3_kept 3 (some (.object "KeptOrders$Order")) ∈ wsL_law := tin_2 (List.mem_of_getElem? (i := 86) (by decide +kernel)) rfl
theorem w_66 : Cond.instanceMethod yX3_kept ∈ wsL_law := tin_2 (List.mem_of_getElem? (i := 84) (by decide +kernel)) rfl
theorem w_67 : Cond.selects RX3 yX3_kept yX3_kept ∈ wsL_law := tin_2 (List.mem_of_getElem? (i := 85) (by decide +kernel)) rfl
theorem wd_X3_kept : Wv M_X3_kept := ⟨w_66, w_67, w_16, w_65⟩
abbrev M_X1_at : MI := (yX1_at, cX1_at, 2, (some .int), 0)
theorem ok_X1_at : okM M_X1_at 1 = true := by decide +kernel
theorem w_68 : Cond.code yX1_at cX1_at 2 (some .int) ∈ wsL_law := tin_2 (List.mem_of_getElem? (i := 103) (by decide +kernel)) rfl
theorem w_69 : Cond.instanceMethod yX1_at ∈ wsL_law := tin_2 (List.mem_of_getElem? (i := 101) (by decide +kernel)) rfl
theorem w_70 : Cond.selects RX1 yX1_at yX1_at ∈ wsL_law := tin_2 (List.mem_of_getElem? (i := 102) (by decide +kernel)) rfl
theorem wd_X1_at : Wv M_X1_at := ⟨w_69, w_70, w_1, w_68⟩
abbrev M_X8_number : MI := (yX8_number, cX8_number, 3, (some .int), 1)
theorem ok_X8_number : okM M_X8_number 2 = true := by decide +kernel
theorem w_71 : Cond.code yX8_number cX8_number 3 (some .int) ∈ wsL_law := tin_2 (List.mem_of_getElem? (i := 111) (by decide +kernel)) rfl
theorem w_72 : Cond.instanceMethod yX8_number ∈ wsL_law := tin_2 (List.mem_of_getElem? (i := 109) (by decide +kernel)) rfl
theorem w_73 : Cond.selects RX8 yX8_number yX8_number ∈ wsL_law := tin_2 (List.mem_of_getElem? (i := 110) (by decide +kernel)) rfl
theorem wd_X8_number : Wv M_X8_number := ⟨w_72, w_73, w_10, w_71⟩
abbrev M_X2_isAhead : MI := (yX2_isAhead, cX2_isAhead, 7, (some .boolean), 2)
theorem ok_X2_isAhead : okM M_X2_isAhead 2 = true := by decide +kernel
theorem w_74 : Cond.code yX2_isAhead cX2_isAhead 7 (some .boolean) ∈ wsL_law := tin_2 (List.mem_of_getElem? (i := 107) (by decide +kernel)) rfl
theorem w_75 : Cond.instanceMethod yX2_isAhead ∈ wsL_law := tin_2 (List.mem_of_getElem? (i := 106) (by decide +kernel)) rfl
theorem w_76 : Cond.selects RX2 yX2_isAhead yX2_isAhead ∈ wsL_law := tip_1 (q := (yX2_isAhead, 12)) (List.mem_of_getElem? (i := 2) (by decide +kernel))
theorem wd_X2_isAhead : Wv M_X2_isAhead := ⟨w_75, w_76, w_62, w_74⟩
abbrev M_X2_placeFor : MI := (yX2_placeFor, cX2_placeFor, 3, (some .int), 3)
theorem ok_X2_placeFor : okM M_X2_placeFor 1 = true := by decide +kernel
theorem w_77 : Cond.code yX2_placeFor cX2_placeFor 3 (some .int) ∈ wsL_law := tin_2 (List.mem_of_getElem? (i := 99) (by decide +kernel)) rfl
theorem w_78 : Cond.instanceMethod yX2_placeFor ∈ wsL_law := tin_2 (List.mem_of_getElem? (i := 97) (by decide +kernel)) rfl
theorem w_79 : Cond.selects RX2 yX2_placeFor yX2_placeFor ∈ wsL_law := tip_1 (q := (yX2_placeFor, 12)) (List.mem_of_getElem? (i := 1) (by decide +kernel))
theorem wd_X2_placeFor : Wv M_X2_placeFor := ⟨w_78, w_79, w_62, w_77⟩
abbrev M_X2_leafAt : MI := (yX2_leafAt, cX2_leafAt, 4, (some .int), 1)
theorem ok_X2_leafAt : okM M_X2_leafAt 1 = true := by decide +kernel
theorem w_80 : Cond.code yX2_leafAt cX2_leafAt 4 (some .int) ∈ wsL_law := tin_2 (List.mem_of_getElem? (i := 120) (by decide +kernel)) rfl
theorem w_81 : Cond.instanceMethod yX2_leafAt ∈ wsL_law := tin_2 (List.mem_of_getElem? (i := 119) (by decide +kernel)) rfl
theorem w_82 : Cond.selects RX2 yX2_leafAt yX2_leafAt ∈ wsL_law := tip_1 (q := (yX2_leafAt, 12)) (List.mem_of_getElem? (i := 4) (by decide +kernel))
theorem wd_X2_leafAt : Wv M_X2_leafAt := ⟨w_81, w_82, w_62, w_80⟩
abbrev M_X2_leafFor : MI := (yX2_leafFor, cX2_leafFor, 2, (some .int), 2)
theorem ok_X2_leafFor : okM M_X2_leafFor 1 = true := by decide +kernel
theorem w_83 : Cond.code yX2_leafFor cX2_leafFor 2 (some .int) ∈ wsL_law := tin_2 (List.mem_of_getElem? (i := 116) (by decide +kernel)) rfl
theorem w_84 : Cond.instanceMethod yX2_leafFor ∈ wsL_law := tin_2 (List.mem_of_getElem? (i := 115) (by decide +kernel)) rfl
theorem w_85 : Cond.selects RX2 yX2_leafFor yX2_leafFor ∈ wsL_law := tip_1 (q := (yX2_leafFor, 12)) (List.mem_of_getElem? (i := 3) (by decide +kernel))
theorem wd_X2_leafFor : Wv M_X2_leafFor := ⟨w_84, w_85, w_62, w_83⟩
abbrev M_X1_insert : MI := (yX1_insert, cX1_insert, 5, none, 1)
theorem ok_X1_insert : okM M_X1_insert 3 = true := by decide +kernel
theorem w_86 : Cond.code yX1_insert cX1_insert 5 none ∈ wsL_law := tin_2 (List.mem_of_getElem? (i := 124) (by decide +kernel)) rfl
theorem w_87 : Cond.instanceMethod yX1_insert ∈ wsL_law := tin_2 (List.mem_of_getElem? (i := 122) (by decide +kernel)) rfl
theorem w_88 : Cond.selects RX1 yX1_insert yX1_insert ∈ wsL_law := tin_2 (List.mem_of_getElem? (i := 123) (by decide +kernel)) rfl
theorem wd_X1_insert : Wv M_X1_insert := ⟨w_87, w_88, w_1, w_86⟩
abbrev M_X1_raise : MI := (yX1_raise, cX1_raise, 3, none, 1)
theorem ok_X1_raise : okM M_X1_raise 2 = true := by decide +kernel
theorem w_89 : Cond.code yX1_raise cX1_raise 3 none ∈ wsL_law := tin_2 (List.mem_of_getElem? (i := 131) (by decide +kernel)) rfl
theorem w_90 : Cond.instanceMethod yX1_raise ∈ wsL_law := tin_2 (List.mem_of_getElem? (i := 129) (by decide +kernel)) rfl
theorem w_91 : Cond.selects RX1 yX1_raise yX1_raise ∈ wsL_law := tin_2 (List.mem_of_getElem? (i := 130) (by decide +kernel)) rfl
theorem wd_X1_raise : Wv M_X1_raise := ⟨w_90, w_91, w_1, w_89⟩
abbrev M_X11_quotient : MI := (yX11_quotient, cX11_quotient, 2, (some .int), 0)
theorem ok_X11_quotient : okM M_X11_quotient 2 = true := by decide +kernel
theorem w_92 : Cond.code yX11_quotient cX11_quotient 2 (some .int) ∈ wsL_law := tin_2 (List.mem_of_getElem? (i := 141) (by decide +kernel)) rfl
theorem w_93 : Cond.static yX11_quotient ∈ wsL_law := tin_2 (List.mem_of_getElem? (i := 140) (by decide +kernel)) rfl
theorem wd_X11_quotient : Ws M_X11_quotient := ⟨w_93, w_31, w_92⟩
abbrev M_X11_roundedUp : MI := (yX11_roundedUp, cX11_roundedUp, 2, (some .int), 1)
theorem ok_X11_roundedUp : okM M_X11_roundedUp 2 = true := by decide +kernel
theorem w_94 : Cond.code yX11_roundedUp cX11_roundedUp 2 (some .int) ∈ wsL_law := tin_2 (List.mem_of_getElem? (i := 138) (by decide +kernel)) rfl
theorem w_95 : Cond.static yX11_roundedUp ∈ wsL_law := tin_2 (List.mem_of_getElem? (i := 137) (by decide +kernel)) rfl
theorem wd_X11_roundedUp : Ws M_X11_roundedUp := ⟨w_95, w_31, w_94⟩
abbrev M_X2_cut : MI := (yX2_cut, cX2_cut, 4, none, 2)
theorem ok_X2_cut : okM M_X2_cut 1 = true := by decide +kernel
theorem w_96 : Cond.code yX2_cut cX2_cut 4 none ∈ wsL_law := tin_2 (List.mem_of_getElem? (i := 135) (by decide +kernel)) rfl
theorem w_97 : Cond.instanceMethod yX2_cut ∈ wsL_law := tin_2 (List.mem_of_getElem? (i := 134) (by decide +kernel)) rfl
theorem w_98 : Cond.selects RX2 yX2_cut yX2_cut ∈ wsL_law := tip_1 (q := (yX2_cut, 12)) (List.mem_of_getElem? (i := 5) (by decide +kernel))
theorem wd_X2_cut : Wv M_X2_cut := ⟨w_97, w_98, w_62, w_96⟩
abbrev M_X2_entryComes : MI := (yX2_entryComes, cX2_entryComes, 4, none, 4)
theorem ok_X2_entryComes : okM M_X2_entryComes 1 = true := by decide +kernel
theorem w_99 : Cond.code yX2_entryComes cX2_entryComes 4 none ∈ wsL_law := tin_2 (List.mem_of_getElem? (i := 94) (by decide +kernel)) rfl
theorem w_100 : Cond.instanceMethod yX2_entryComes ∈ wsL_law := tin_2 (List.mem_of_getElem? (i := 92) (by decide +kernel)) rfl
theorem w_101 : Cond.selects RX2 yX2_entryComes yX2_entryComes ∈ wsL_law := tin_2 (List.mem_of_getElem? (i := 93) (by decide +kernel)) rfl
theorem wd_X2_entryComes : Wv M_X2_entryComes := ⟨w_100, w_101, w_62, w_99⟩
abbrev M_X3_entriesCome : MI := (yX3_entriesCome, cX3_entriesCome, 4, none, 5)
theorem ok_X3_entriesCome : okM M_X3_entriesCome 1 = true := by decide +kernel
theorem w_102 : Cond.code yX3_entriesCome cX3_entriesCome 4 none ∈ wsL_law := tin_2 (List.mem_of_getElem? (i := 82) (by decide +kernel)) rfl
theorem w_103 : Cond.instanceMethod yX3_entriesCome ∈ wsL_law := tin_2 (List.mem_of_getElem? (i := 80) (by decide +kernel)) rfl
theorem w_104 : Cond.selects RX3 yX3_entriesCome yX3_entriesCome ∈ wsL_law := tin_2 (List.mem_of_getElem? (i := 81) (by decide +kernel)) rfl
theorem wd_X3_entriesCome : Wv M_X3_entriesCome := ⟨w_103, w_104, w_16, w_102⟩
abbrev M_X11_rowComes : MI := (yX11_rowComes, cX11_rowComes, 2, none, 6)
theorem ok_X11_rowComes : okM M_X11_rowComes 1 = true := by decide +kernel
theorem w_105 : Cond.code yX11_rowComes cX11_rowComes 2 none ∈ wsL_law := tin_2 (List.mem_of_getElem? (i := 74) (by decide +kernel)) rfl
theorem w_106 : Cond.instanceMethod yX11_rowComes ∈ wsL_law := tin_2 (List.mem_of_getElem? (i := 73) (by decide +kernel)) rfl
theorem w_107 : Cond.selects RX11 yX11_rowComes yX11_rowComes ∈ wsL_law := tip_1 (q := (yX11_rowComes, 9)) (List.mem_of_getElem? (i := 0) (by decide +kernel))
theorem wd_X11_rowComes : Wv M_X11_rowComes := ⟨w_106, w_107, w_31, w_105⟩
abbrev M_X11_fill : MI := (yX11_fill, cX11_fill, 10, (some .int), 7)
theorem ok_X11_fill : okM M_X11_fill 3 = true := by decide +kernel
theorem w_108 : Cond.code yX11_fill cX11_fill 10 (some .int) ∈ wsL_law := tin_2 (List.mem_of_getElem? (i := 187) (by decide +kernel)) rfl
theorem w_109 : Cond.instanceMethod yX11_fill ∈ wsL_law := tin_2 (List.mem_of_getElem? (i := 185) (by decide +kernel)) rfl
theorem w_110 : Cond.selects RX11 yX11_fill yX11_fill ∈ wsL_law := tin_2 (List.mem_of_getElem? (i := 186) (by decide +kernel)) rfl
theorem wd_X11_fill : Wv M_X11_fill := ⟨w_109, w_110, w_31, w_108⟩
abbrev M_L_key : MI := (yL_key, cL_key, 5, (some .int), 0)
theorem ok_L_key : okM M_L_key 1 = true := by decide +kernel
theorem w_111 : Cond.code yL_key cL_key 5 (some .int) ∈ wsL_law := tin_4 (List.mem_of_getElem? (i := 138) (by decide +kernel)) rfl
theorem w_112 : Cond.static yL_key ∈ wsL_law := tin_4 (List.mem_of_getElem? (i := 137) (by decide +kernel)) rfl
theorem wd_L_key : Ws M_L_key := ⟨w_112, w_34, w_111⟩
abbrev M_X11_has : MI := (yX11_has, cX11_has, 2, (some .boolean), 0)
theorem ok_X11_has : okM M_X11_has 2 = true := by decide +kernel
theorem w_113 : Cond.code yX11_has cX11_has 2 (some .boolean) ∈ wsL_law := tin_2 (List.mem_of_getElem? (i := 225) (by decide +kernel)) rfl
theorem w_114 : Cond.static yX11_has ∈ wsL_law := tin_2 (List.mem_of_getElem? (i := 224) (by decide +kernel)) rfl
theorem wd_X11_has : Ws M_X11_has := ⟨w_114, w_31, w_113⟩
abbrev M_X11_with : MI := (yX11_with, cX11_with, 2, (some .int), 0)
theorem ok_X11_with : okM M_X11_with 2 = true := by decide +kernel
theorem w_115 : Cond.code yX11_with cX11_with 2 (some .int) ∈ wsL_law := tin_2 (List.mem_of_getElem? (i := 228) (by decide +kernel)) rfl
theorem w_116 : Cond.static yX11_with ∈ wsL_law := tin_2 (List.mem_of_getElem? (i := 227) (by decide +kernel)) rfl
theorem wd_X11_with : Ws M_X11_with := ⟨w_116, w_31, w_115⟩
abbrev M_X2_isKey : MI := (yX2_isKey, cX2_isKey, 5, (some .boolean), 1)
theorem ok_X2_isKey : okM M_X2_isKey 1 = true := by decide +kernel
theorem w_117 : Cond.code yX2_isKey cX2_isKey 5 (some .boolean) ∈ wsL_law := tin_2 (List.mem_of_getElem? (i := 222) (by decide +kernel)) rfl
theorem w_118 : Cond.static yX2_isKey ∈ wsL_law := tin_2 (List.mem_of_getElem? (i := 221) (by decide +kernel)) rfl
theorem wd_X2_isKey : Ws M_X2_isKey := ⟨w_118, w_62, w_117⟩
abbrev M_X2_key : MI := (yX2_key, cX2_key, 1, (some .int), 0)
theorem ok_X2_key : okM M_X2_key 0 = true := by decide +kernel
theorem w_119 : Cond.code yX2_key cX2_key 1 (some .int) ∈ wsL_law := tin_2 (List.mem_of_getElem? (i := 236) (by decide +kernel)) rfl
theorem w_120 : Cond.instanceMethod yX2_key ∈ wsL_law := tin_2 (List.mem_of_getElem? (i := 234) (by decide +kernel)) rfl
theorem w_121 : Cond.selects RX2 yX2_key yX2_key ∈ wsL_law := tin_2 (List.mem_of_getElem? (i := 235) (by decide +kernel)) rfl
theorem wd_X2_key : Wv M_X2_key := ⟨w_120, w_121, w_62, w_119⟩
abbrev M_X3_haveKey : MI := (yX3_haveKey, cX3_haveKey, 4, (some .boolean), 2)
theorem ok_X3_haveKey : okM M_X3_haveKey 1 = true := by decide +kernel
theorem w_122 : Cond.code yX3_haveKey cX3_haveKey 4 (some .boolean) ∈ wsL_law := tin_2 (List.mem_of_getElem? (i := 232) (by decide +kernel)) rfl
theorem w_123 : Cond.instanceMethod yX3_haveKey ∈ wsL_law := tin_2 (List.mem_of_getElem? (i := 230) (by decide +kernel)) rfl
theorem w_124 : Cond.selects RX3 yX3_haveKey yX3_haveKey ∈ wsL_law := tin_2 (List.mem_of_getElem? (i := 231) (by decide +kernel)) rfl
theorem wd_X3_haveKey : Wv M_X3_haveKey := ⟨w_123, w_124, w_16, w_122⟩
abbrev M_X3_told : MI := (yX3_told, cX3_told, 1, (some .int), 0)
theorem ok_X3_told : okM M_X3_told 0 = true := by decide +kernel
theorem w_125 : Cond.code yX3_told cX3_told 1 (some .int) ∈ wsL_law := tin_3 (List.mem_of_getElem? (i := 0) (by decide +kernel)) rfl
theorem w_126 : Cond.instanceMethod yX3_told ∈ wsL_law := tin_2 (List.mem_of_getElem? (i := 238) (by decide +kernel)) rfl
theorem w_127 : Cond.selects RX3 yX3_told yX3_told ∈ wsL_law := tin_2 (List.mem_of_getElem? (i := 239) (by decide +kernel)) rfl
theorem wd_X3_told : Wv M_X3_told := ⟨w_126, w_127, w_16, w_125⟩
abbrev M_X2_init : MI := (yX2_init, cX2_init, 7, none, 2)
theorem ok_X2_init : okM M_X2_init 2 = true := by decide +kernel
theorem w_128 : Cond.code yX2_init cX2_init 7 none ∈ wsL_law := tin_3 (List.mem_of_getElem? (i := 7) (by decide +kernel)) rfl
theorem w_129 : Cond.instanceMethod yX2_init ∈ wsL_law := tin_3 (List.mem_of_getElem? (i := 6) (by decide +kernel)) rfl
theorem wd_X2_init : Wi M_X2_init := ⟨w_129, w_62, w_128⟩
abbrev M_X11_isSlot : MI := (yX11_isSlot, cX11_isSlot, 1, (some .boolean), 0)
theorem ok_X11_isSlot : okM M_X11_isSlot 1 = true := by decide +kernel
theorem w_130 : Cond.code yX11_isSlot cX11_isSlot 1 (some .boolean) ∈ wsL_law := tin_2 (List.mem_of_getElem? (i := 152) (by decide +kernel)) rfl
theorem w_131 : Cond.static yX11_isSlot ∈ wsL_law := tin_2 (List.mem_of_getElem? (i := 151) (by decide +kernel)) rfl
theorem wd_X11_isSlot : Ws M_X11_isSlot := ⟨w_131, w_31, w_130⟩
abbrev M_X8_holds : MI := (yX8_holds, cX8_holds, 2, (some .boolean), 1)
theorem ok_X8_holds : okM M_X8_holds 1 = true := by decide +kernel
theorem w_132 : Cond.code yX8_holds cX8_holds 2 (some .boolean) ∈ wsL_law := tin_2 (List.mem_of_getElem? (i := 149) (by decide +kernel)) rfl
theorem w_133 : Cond.instanceMethod yX8_holds ∈ wsL_law := tin_2 (List.mem_of_getElem? (i := 147) (by decide +kernel)) rfl
theorem w_134 : Cond.selects RX8 yX8_holds yX8_holds ∈ wsL_law := tin_2 (List.mem_of_getElem? (i := 148) (by decide +kernel)) rfl
theorem wd_X8_holds : Wv M_X8_holds := ⟨w_133, w_134, w_10, w_132⟩
abbrev M_X2_fillLeaves : MI := (yX2_fillLeaves, cX2_fillLeaves, 2, none, 1)
theorem ok_X2_fillLeaves : okM M_X2_fillLeaves 0 = true := by decide +kernel
theorem w_135 : Cond.code yX2_fillLeaves cX2_fillLeaves 2 none ∈ wsL_law := tin_3 (List.mem_of_getElem? (i := 56) (by decide +kernel)) rfl
theorem w_136 : Cond.instanceMethod yX2_fillLeaves ∈ wsL_law := tin_3 (List.mem_of_getElem? (i := 54) (by decide +kernel)) rfl
theorem w_137 : Cond.selects RX2 yX2_fillLeaves yX2_fillLeaves ∈ wsL_law := tin_3 (List.mem_of_getElem? (i := 55) (by decide +kernel)) rfl
theorem wd_X2_fillLeaves : Wv M_X2_fillLeaves := ⟨w_136, w_137, w_62, w_135⟩
abbrev M_X2_rebuild : MI := (yX2_rebuild, cX2_rebuild, 2, none, 4)
theorem ok_X2_rebuild : okM M_X2_rebuild 0 = true := by decide +kernel
theorem w_138 : Cond.code yX2_rebuild cX2_rebuild 2 none ∈ wsL_law := tin_3 (List.mem_of_getElem? (i := 51) (by decide +kernel)) rfl
theorem w_139 : Cond.instanceMethod yX2_rebuild ∈ wsL_law := tin_3 (List.mem_of_getElem? (i := 49) (by decide +kernel)) rfl
theorem w_140 : Cond.selects RX2 yX2_rebuild yX2_rebuild ∈ wsL_law := tin_3 (List.mem_of_getElem? (i := 50) (by decide +kernel)) rfl
theorem wd_X2_rebuild : Wv M_X2_rebuild := ⟨w_139, w_140, w_62, w_138⟩
abbrev M_X3_tell : MI := (yX3_tell, cX3_tell, 4, (some .int), 5)
theorem ok_X3_tell : okM M_X3_tell 1 = true := by decide +kernel
theorem w_141 : Cond.code yX3_tell cX3_tell 4 (some .int) ∈ wsL_law := tin_3 (List.mem_of_getElem? (i := 4) (by decide +kernel)) rfl
theorem w_142 : Cond.instanceMethod yX3_tell ∈ wsL_law := tin_3 (List.mem_of_getElem? (i := 2) (by decide +kernel)) rfl
theorem w_143 : Cond.selects RX3 yX3_tell yX3_tell ∈ wsL_law := tin_3 (List.mem_of_getElem? (i := 3) (by decide +kernel)) rfl
theorem wd_X3_tell : Wv M_X3_tell := ⟨w_142, w_143, w_16, w_141⟩
abbrev M_X11_order : MI := (yX11_order, cX11_order, 2, (some .int), 6)
theorem ok_X11_order : okM M_X11_order 1 = true := by decide +kernel
theorem w_144 : Cond.code yX11_order cX11_order 2 (some .int) ∈ wsL_law := tin_2 (List.mem_of_getElem? (i := 219) (by decide +kernel)) rfl
theorem w_145 : Cond.instanceMethod yX11_order ∈ wsL_law := tin_2 (List.mem_of_getElem? (i := 217) (by decide +kernel)) rfl
theorem w_146 : Cond.selects RX11 yX11_order yX11_order ∈ wsL_law := tin_2 (List.mem_of_getElem? (i := 218) (by decide +kernel)) rfl
theorem wd_X11_order : Wv M_X11_order := ⟨w_145, w_146, w_31, w_144⟩
abbrev M_X11_isColumn : MI := (yX11_isColumn, cX11_isColumn, 1, (some .boolean), 0)
theorem ok_X11_isColumn : okM M_X11_isColumn 1 = true := by decide +kernel
theorem w_147 : Cond.code yX11_isColumn cX11_isColumn 1 (some .boolean) ∈ wsL_law := tin_2 (List.mem_of_getElem? (i := 202) (by decide +kernel)) rfl
theorem w_148 : Cond.static yX11_isColumn ∈ wsL_law := tin_2 (List.mem_of_getElem? (i := 201) (by decide +kernel)) rfl
theorem wd_X11_isColumn : Ws M_X11_isColumn := ⟨w_148, w_31, w_147⟩
abbrev M_X11_get : MI := (yX11_get, cX11_get, 3, (some .int), 2)
theorem ok_X11_get : okM M_X11_get 2 = true := by decide +kernel
theorem w_149 : Cond.code yX11_get cX11_get 3 (some .int) ∈ wsL_law := tin_2 (List.mem_of_getElem? (i := 198) (by decide +kernel)) rfl
theorem w_150 : Cond.instanceMethod yX11_get ∈ wsL_law := tin_2 (List.mem_of_getElem? (i := 196) (by decide +kernel)) rfl
theorem w_151 : Cond.selects RX11 yX11_get yX11_get ∈ wsL_law := tin_2 (List.mem_of_getElem? (i := 197) (by decide +kernel)) rfl
theorem wd_X11_get : Wv M_X11_get := ⟨w_150, w_151, w_31, w_149⟩
abbrev M_X1_placeOf : MI := (yX1_placeOf, cX1_placeOf, 4, (some .int), 1)
theorem ok_X1_placeOf : okM M_X1_placeOf 2 = true := by decide +kernel
theorem w_152 : Cond.code yX1_placeOf cX1_placeOf 4 (some .int) ∈ wsL_law := tin_2 (List.mem_of_getElem? (i := 164) (by decide +kernel)) rfl
theorem w_153 : Cond.instanceMethod yX1_placeOf ∈ wsL_law := tin_2 (List.mem_of_getElem? (i := 162) (by decide +kernel)) rfl
theorem w_154 : Cond.selects RX1 yX1_placeOf yX1_placeOf ∈ wsL_law := tin_2 (List.mem_of_getElem? (i := 163) (by decide +kernel)) rfl
theorem wd_X1_placeOf : Wv M_X1_placeOf := ⟨w_153, w_154, w_1, w_152⟩
abbrev M_X1_remove : MI := (yX1_remove, cX1_remove, 4, none, 1)
theorem ok_X1_remove : okM M_X1_remove 2 = true := by decide +kernel
theorem w_155 : Cond.code yX1_remove cX1_remove 4 none ∈ wsL_law := tin_2 (List.mem_of_getElem? (i := 168) (by decide +kernel)) rfl
theorem w_156 : Cond.instanceMethod yX1_remove ∈ wsL_law := tin_2 (List.mem_of_getElem? (i := 166) (by decide +kernel)) rfl
theorem w_157 : Cond.selects RX1 yX1_remove yX1_remove ∈ wsL_law := tin_2 (List.mem_of_getElem? (i := 167) (by decide +kernel)) rfl
theorem wd_X1_remove : Wv M_X1_remove := ⟨w_156, w_157, w_1, w_155⟩
abbrev M_X2_entryGoes : MI := (yX2_entryGoes, cX2_entryGoes, 4, none, 2)
theorem ok_X2_entryGoes : okM M_X2_entryGoes 1 = true := by decide +kernel
theorem w_158 : Cond.code yX2_entryGoes cX2_entryGoes 4 none ∈ wsL_law := tin_2 (List.mem_of_getElem? (i := 160) (by decide +kernel)) rfl
theorem w_159 : Cond.instanceMethod yX2_entryGoes ∈ wsL_law := tin_2 (List.mem_of_getElem? (i := 158) (by decide +kernel)) rfl
theorem w_160 : Cond.selects RX2 yX2_entryGoes yX2_entryGoes ∈ wsL_law := tin_2 (List.mem_of_getElem? (i := 159) (by decide +kernel)) rfl
theorem wd_X2_entryGoes : Wv M_X2_entryGoes := ⟨w_159, w_160, w_62, w_158⟩
abbrev M_X3_entriesGo : MI := (yX3_entriesGo, cX3_entriesGo, 4, none, 3)
theorem ok_X3_entriesGo : okM M_X3_entriesGo 1 = true := by decide +kernel
theorem w_161 : Cond.code yX3_entriesGo cX3_entriesGo 4 none ∈ wsL_law := tin_2 (List.mem_of_getElem? (i := 156) (by decide +kernel)) rfl
theorem w_162 : Cond.instanceMethod yX3_entriesGo ∈ wsL_law := tin_2 (List.mem_of_getElem? (i := 154) (by decide +kernel)) rfl
theorem w_163 : Cond.selects RX3 yX3_entriesGo yX3_entriesGo ∈ wsL_law := tin_2 (List.mem_of_getElem? (i := 155) (by decide +kernel)) rfl
theorem wd_X3_entriesGo : Wv M_X3_entriesGo := ⟨w_162, w_163, w_16, w_161⟩
abbrev M_X8_release : MI := (yX8_release, cX8_release, 2, none, 0)
theorem ok_X8_release : okM M_X8_release 1 = true := by decide +kernel
theorem w_164 : Cond.code yX8_release cX8_release 2 none ∈ wsL_law := tin_2 (List.mem_of_getElem? (i := 172) (by decide +kernel)) rfl
theorem w_165 : Cond.instanceMethod yX8_release ∈ wsL_law := tin_2 (List.mem_of_getElem? (i := 170) (by decide +kernel)) rfl
theorem w_166 : Cond.selects RX8 yX8_release yX8_release ∈ wsL_law := tin_2 (List.mem_of_getElem? (i := 171) (by decide +kernel)) rfl
theorem wd_X8_release : Wv M_X8_release := ⟨w_165, w_166, w_10, w_164⟩
abbrev M_J13_bitCount_95d88 : MI := (yJ13_bitCount_95d88, cJ13_bitCount_95d88, 2, (some .int), 0)
theorem ok_J13_bitCount_95d88 : okM M_J13_bitCount_95d88 1 = true := by decide +kernel
theorem w_167 : Cond.code yJ13_bitCount_95d88 cJ13_bitCount_95d88 2 (some .int) ∈ wsL_law := tin_2 (List.mem_of_getElem? (i := 180) (by decide +kernel)) rfl
theorem w_168 : Cond.initialized RJ13 ∈ wsL_law := tin_1 (List.mem_of_getElem? (i := 14) (by decide +kernel)) rfl
theorem w_169 : Cond.static yJ13_bitCount_95d88 ∈ wsL_law := tin_2 (List.mem_of_getElem? (i := 179) (by decide +kernel)) rfl
theorem wd_J13_bitCount_95d88 : Ws M_J13_bitCount_95d88 := ⟨w_169, w_168, w_167⟩
abbrev M_X8_rows : MI := (yX8_rows, cX8_rows, 1, (some .int), 1)
theorem ok_X8_rows : okM M_X8_rows 0 = true := by decide +kernel
theorem w_170 : Cond.code yX8_rows cX8_rows 1 (some .int) ∈ wsL_law := tin_2 (List.mem_of_getElem? (i := 177) (by decide +kernel)) rfl
theorem w_171 : Cond.instanceMethod yX8_rows ∈ wsL_law := tin_2 (List.mem_of_getElem? (i := 175) (by decide +kernel)) rfl
theorem w_172 : Cond.selects RX8 yX8_rows yX8_rows ∈ wsL_law := tin_2 (List.mem_of_getElem? (i := 176) (by decide +kernel)) rfl
theorem wd_X8_rows : Wv M_X8_rows := ⟨w_171, w_172, w_10, w_170⟩
abbrev M_X11_drop : MI := (yX11_drop, cX11_drop, 2, (some .int), 4)
theorem ok_X11_drop : okM M_X11_drop 1 = true := by decide +kernel
theorem w_173 : Cond.code yX11_drop cX11_drop 2 (some .int) ∈ wsL_law := tin_2 (List.mem_of_getElem? (i := 145) (by decide +kernel)) rfl
theorem w_174 : Cond.instanceMethod yX11_drop ∈ wsL_law := tin_2 (List.mem_of_getElem? (i := 143) (by decide +kernel)) rfl
theorem w_175 : Cond.selects RX11 yX11_drop yX11_drop ∈ wsL_law := tin_2 (List.mem_of_getElem? (i := 144) (by decide +kernel)) rfl
theorem wd_X11_drop : Wv M_X11_drop := ⟨w_174, w_175, w_31, w_173⟩
abbrev M_X11_isNumber : MI := (yX11_isNumber, cX11_isNumber, 1, (some .boolean), 0)
theorem ok_X11_isNumber : okM M_X11_isNumber 1 = true := by decide +kernel
theorem w_176 : Cond.code yX11_isNumber cX11_isNumber 1 (some .boolean) ∈ wsL_law := tin_2 (List.mem_of_getElem? (i := 55) (by decide +kernel)) rfl
theorem w_177 : Cond.static yX11_isNumber ∈ wsL_law := tin_2 (List.mem_of_getElem? (i := 54) (by decide +kernel)) rfl
theorem wd_X11_isNumber : Ws M_X11_isNumber := ⟨w_177, w_31, w_176⟩
abbrev M_X11_row : MI := (yX11_row, cX11_row, 6, (some .int), 7)
theorem ok_X11_row : okM M_X11_row 4 = true := by decide +kernel
theorem w_178 : Cond.code yX11_row cX11_row 6 (some .int) ∈ wsL_law := tin_2 (List.mem_of_getElem? (i := 52) (by decide +kernel)) rfl
theorem w_179 : Cond.instanceMethod yX11_row ∈ wsL_law := tin_2 (List.mem_of_getElem? (i := 50) (by decide +kernel)) rfl
theorem w_180 : Cond.selects RX11 yX11_row yX11_row ∈ wsL_law := tin_2 (List.mem_of_getElem? (i := 51) (by decide +kernel)) rfl
theorem wd_X11_row : Wv M_X11_row := ⟨w_179, w_180, w_31, w_178⟩
abbrev M_X11_byteOf : MI := (yX11_byteOf, cX11_byteOf, 3, (some .int), 0)
theorem ok_X11_byteOf : okM M_X11_byteOf 2 = true := by decide +kernel
theorem w_181 : Cond.code yX11_byteOf cX11_byteOf 3 (some .int) ∈ wsL_law := tin_4 (List.mem_of_getElem? (i := 154) (by decide +kernel)) rfl
theorem w_182 : Cond.static yX11_byteOf ∈ wsL_law := tin_4 (List.mem_of_getElem? (i := 153) (by decide +kernel)) rfl
theorem wd_X11_byteOf : Ws M_X11_byteOf := ⟨w_182, w_31, w_181⟩
abbrev M_X11_lettersIn : MI := (yX11_lettersIn, cX11_lettersIn, 5, (some .int), 1)
theorem ok_X11_lettersIn : okM M_X11_lettersIn 1 = true := by decide +kernel
theorem w_183 : Cond.code yX11_lettersIn cX11_lettersIn 5 (some .int) ∈ wsL_law := tin_4 (List.mem_of_getElem? (i := 151) (by decide +kernel)) rfl
theorem w_184 : Cond.static yX11_lettersIn ∈ wsL_law := tin_4 (List.mem_of_getElem? (i := 150) (by decide +kernel)) rfl
theorem wd_X11_lettersIn : Ws M_X11_lettersIn := ⟨w_184, w_31, w_183⟩
abbrev M_X7_length : MI := (yX7_length, cX7_length, 1, (some .int), 0)
theorem ok_X7_length : okM M_X7_length 0 = true := by decide +kernel
theorem w_185 : Cond.code yX7_length cX7_length 1 (some .int) ∈ wsL_law := tin_4 (List.mem_of_getElem? (i := 159) (by decide +kernel)) rfl
theorem w_186 : Cond.instanceMethod yX7_length ∈ wsL_law := tin_4 (List.mem_of_getElem? (i := 157) (by decide +kernel)) rfl
theorem w_187 : Cond.selects RX7 yX7_length yX7_length ∈ wsL_law := tin_4 (List.mem_of_getElem? (i := 158) (by decide +kernel)) rfl
theorem wd_X7_length : Wv M_X7_length := ⟨w_186, w_187, w_7, w_185⟩
abbrev M_X7_write : MI := (yX7_write, cX7_write, 2, none, 1)
theorem ok_X7_write : okM M_X7_write 1 = true := by decide +kernel
theorem w_188 : Cond.code yX7_write cX7_write 2 none ∈ wsL_law := tin_4 (List.mem_of_getElem? (i := 163) (by decide +kernel)) rfl
theorem w_189 : Cond.instanceMethod yX7_write ∈ wsL_law := tin_4 (List.mem_of_getElem? (i := 161) (by decide +kernel)) rfl
theorem w_190 : Cond.selects RX7 yX7_write yX7_write ∈ wsL_law := tin_4 (List.mem_of_getElem? (i := 162) (by decide +kernel)) rfl
theorem wd_X7_write : Wv M_X7_write := ⟨w_189, w_190, w_7, w_188⟩
abbrev M_X11_letters : MI := (yX11_letters, cX11_letters, 5, (some .int), 2)
theorem ok_X11_letters : okM M_X11_letters 1 = true := by decide +kernel
theorem w_191 : Cond.code yX11_letters cX11_letters 5 (some .int) ∈ wsL_law := tin_4 (List.mem_of_getElem? (i := 148) (by decide +kernel)) rfl
theorem w_192 : Cond.instanceMethod yX11_letters ∈ wsL_law := tin_4 (List.mem_of_getElem? (i := 146) (by decide +kernel)) rfl
theorem w_193 : Cond.selects RX11 yX11_letters yX11_letters ∈ wsL_law := tin_4 (List.mem_of_getElem? (i := 147) (by decide +kernel)) rfl
theorem wd_X11_letters : Wv M_X11_letters := ⟨w_192, w_193, w_31, w_191⟩
abbrev M_L_put : MI := (yL_put, cL_put, 2, (some .boolean), 3)
theorem ok_L_put : okM M_L_put 2 = true := by decide +kernel
theorem w_194 : Cond.code yL_put cL_put 2 (some .boolean) ∈ wsL_law := tin_4 (List.mem_of_getElem? (i := 144) (by decide +kernel)) rfl
theorem w_195 : Cond.static yL_put ∈ wsL_law := tin_4 (List.mem_of_getElem? (i := 143) (by decide +kernel)) rfl
theorem wd_L_put : Ws M_L_put := ⟨w_195, w_34, w_194⟩
abbrev M_X6_clear : MI := (yX6_clear, cX6_clear, 2, none, 1)
theorem ok_X6_clear : okM M_X6_clear 0 = true := by decide +kernel
theorem w_196 : Cond.code yX6_clear cX6_clear 2 none ∈ wsL_law := tin_4 (List.mem_of_getElem? (i := 178) (by decide +kernel)) rfl
theorem w_197 : Cond.instanceMethod yX6_clear ∈ wsL_law := tin_4 (List.mem_of_getElem? (i := 176) (by decide +kernel)) rfl
theorem w_198 : Cond.selects RX6 yX6_clear yX6_clear ∈ wsL_law := tin_4 (List.mem_of_getElem? (i := 177) (by decide +kernel)) rfl
theorem wd_X6_clear : Wv M_X6_clear := ⟨w_197, w_198, w_4, w_196⟩
abbrev M_X7_moves : MI := (yX7_moves, cX7_moves, 2, (some .boolean), 0)
theorem ok_X7_moves : okM M_X7_moves 1 = true := by decide +kernel
theorem w_199 : Cond.code yX7_moves cX7_moves 2 (some .boolean) ∈ wsL_law := tin_4 (List.mem_of_getElem? (i := 188) (by decide +kernel)) rfl
theorem w_200 : Cond.instanceMethod yX7_moves ∈ wsL_law := tin_4 (List.mem_of_getElem? (i := 187) (by decide +kernel)) rfl
theorem w_201 : Cond.selects RX7 yX7_moves yX7_moves ∈ wsL_law := tip_2 (q := (yX7_moves, 7)) (List.mem_of_getElem? (i := 1) (by decide +kernel))
theorem wd_X7_moves : Wv M_X7_moves := ⟨w_200, w_201, w_7, w_199⟩
abbrev M_X7_isLetter : MI := (yX7_isLetter, cX7_isLetter, 1, (some .boolean), 0)
theorem ok_X7_isLetter : okM M_X7_isLetter 1 = true := by decide +kernel
theorem w_202 : Cond.code yX7_isLetter cX7_isLetter 1 (some .boolean) ∈ wsL_law := tin_4 (List.mem_of_getElem? (i := 195) (by decide +kernel)) rfl
theorem w_203 : Cond.static yX7_isLetter ∈ wsL_law := tin_4 (List.mem_of_getElem? (i := 194) (by decide +kernel)) rfl
theorem wd_X7_isLetter : Ws M_X7_isLetter := ⟨w_203, w_7, w_202⟩
abbrev M_X7_takesColumn : MI := (yX7_takesColumn, cX7_takesColumn, 2, (some .boolean), 1)
theorem ok_X7_takesColumn : okM M_X7_takesColumn 1 = true := by decide +kernel
theorem w_204 : Cond.code yX7_takesColumn cX7_takesColumn 2 (some .boolean) ∈ wsL_law := tin_4 (List.mem_of_getElem? (i := 192) (by decide +kernel)) rfl
theorem w_205 : Cond.instanceMethod yX7_takesColumn ∈ wsL_law := tin_4 (List.mem_of_getElem? (i := 191) (by decide +kernel)) rfl
theorem w_206 : Cond.selects RX7 yX7_takesColumn yX7_takesColumn ∈ wsL_law := tip_2 (q := (yX7_takesColumn, 7)) (List.mem_of_getElem? (i := 2) (by decide +kernel))
theorem wd_X7_takesColumn : Wv M_X7_takesColumn := ⟨w_205, w_206, w_7, w_204⟩
abbrev M_X7_takesSign : MI := (yX7_takesSign, cX7_takesSign, 2, (some .boolean), 1)
theorem ok_X7_takesSign : okM M_X7_takesSign 1 = true := by decide +kernel
theorem w_207 : Cond.code yX7_takesSign cX7_takesSign 2 (some .boolean) ∈ wsL_law := tin_4 (List.mem_of_getElem? (i := 199) (by decide +kernel)) rfl
theorem w_208 : Cond.instanceMethod yX7_takesSign ∈ wsL_law := tin_4 (List.mem_of_getElem? (i := 198) (by decide +kernel)) rfl
theorem w_209 : Cond.selects RX7 yX7_takesSign yX7_takesSign ∈ wsL_law := tip_2 (q := (yX7_takesSign, 7)) (List.mem_of_getElem? (i := 3) (by decide +kernel))
theorem wd_X7_takesSign : Wv M_X7_takesSign := ⟨w_208, w_209, w_7, w_207⟩
abbrev M_X7_takesDigit : MI := (yX7_takesDigit, cX7_takesDigit, 4, (some .boolean), 1)
theorem ok_X7_takesDigit : okM M_X7_takesDigit 3 = true := by decide +kernel
theorem w_210 : Cond.code yX7_takesDigit cX7_takesDigit 4 (some .boolean) ∈ wsL_law := tin_4 (List.mem_of_getElem? (i := 203) (by decide +kernel)) rfl
theorem w_211 : Cond.instanceMethod yX7_takesDigit ∈ wsL_law := tin_4 (List.mem_of_getElem? (i := 202) (by decide +kernel)) rfl
theorem w_212 : Cond.selects RX7 yX7_takesDigit yX7_takesDigit ∈ wsL_law := tip_2 (q := (yX7_takesDigit, 7)) (List.mem_of_getElem? (i := 4) (by decide +kernel))
theorem wd_X7_takesDigit : Wv M_X7_takesDigit := ⟨w_211, w_212, w_7, w_210⟩
abbrev M_X11_without : MI := (yX11_without, cX11_without, 2, (some .int), 0)
theorem ok_X11_without : okM M_X11_without 2 = true := by decide +kernel
theorem w_213 : Cond.code yX11_without cX11_without 2 (some .int) ∈ wsL_law := tin_4 (List.mem_of_getElem? (i := 80) (by decide +kernel)) rfl
theorem w_214 : Cond.static yX11_without ∈ wsL_law := tin_4 (List.mem_of_getElem? (i := 79) (by decide +kernel)) rfl
theorem wd_X11_without : Ws M_X11_without := ⟨w_214, w_31, w_213⟩
abbrev M_X6_narrow : MI := (yX6_narrow, cX6_narrow, 6, none, 1)
theorem ok_X6_narrow : okM M_X6_narrow 3 = true := by decide +kernel
theorem w_215 : Cond.code yX6_narrow cX6_narrow 6 none ∈ wsL_law := tin_4 (List.mem_of_getElem? (i := 211) (by decide +kernel)) rfl
theorem w_216 : Cond.instanceMethod yX6_narrow ∈ wsL_law := tin_4 (List.mem_of_getElem? (i := 209) (by decide +kernel)) rfl
theorem w_217 : Cond.selects RX6 yX6_narrow yX6_narrow ∈ wsL_law := tin_4 (List.mem_of_getElem? (i := 210) (by decide +kernel)) rfl
theorem wd_X6_narrow : Wv M_X6_narrow := ⟨w_216, w_217, w_4, w_215⟩
abbrev M_X7_endsCondition : MI := (yX7_endsCondition, cX7_endsCondition, 2, (some .boolean), 2)
theorem ok_X7_endsCondition : okM M_X7_endsCondition 1 = true := by decide +kernel
theorem w_218 : Cond.code yX7_endsCondition cX7_endsCondition 2 (some .boolean) ∈ wsL_law := tin_4 (List.mem_of_getElem? (i := 207) (by decide +kernel)) rfl
theorem w_219 : Cond.instanceMethod yX7_endsCondition ∈ wsL_law := tin_4 (List.mem_of_getElem? (i := 206) (by decide +kernel)) rfl
theorem w_220 : Cond.selects RX7 yX7_endsCondition yX7_endsCondition ∈ wsL_law := tip_2 (q := (yX7_endsCondition, 7)) (List.mem_of_getElem? (i := 5) (by decide +kernel))
theorem wd_X7_endsCondition : Wv M_X7_endsCondition := ⟨w_219, w_220, w_7, w_218⟩
abbrev M_X6_shows : MI := (yX6_shows, cX6_shows, 2, (some .boolean), 1)
theorem ok_X6_shows : okM M_X6_shows 1 = true := by decide +kernel
theorem w_221 : Cond.code yX6_shows cX6_shows 2 (some .boolean) ∈ wsL_law := tin_4 (List.mem_of_getElem? (i := 224) (by decide +kernel)) rfl
theorem w_222 : Cond.instanceMethod yX6_shows ∈ wsL_law := tin_4 (List.mem_of_getElem? (i := 222) (by decide +kernel)) rfl
theorem w_223 : Cond.selects RX6 yX6_shows yX6_shows ∈ wsL_law := tin_4 (List.mem_of_getElem? (i := 223) (by decide +kernel)) rfl
theorem wd_X6_shows : Wv M_X6_shows := ⟨w_222, w_223, w_4, w_221⟩
abbrev M_X6_show : MI := (yX6_show, cX6_show, 2, none, 1)
theorem ok_X6_show : okM M_X6_show 1 = true := by decide +kernel
theorem w_224 : Cond.code yX6_show cX6_show 2 none ∈ wsL_law := tin_4 (List.mem_of_getElem? (i := 228) (by decide +kernel)) rfl
theorem w_225 : Cond.instanceMethod yX6_show ∈ wsL_law := tin_4 (List.mem_of_getElem? (i := 226) (by decide +kernel)) rfl
theorem w_226 : Cond.selects RX6 yX6_show yX6_show ∈ wsL_law := tin_4 (List.mem_of_getElem? (i := 227) (by decide +kernel)) rfl
theorem wd_X6_show : Wv M_X6_show := ⟨w_225, w_226, w_4, w_224⟩
abbrev M_X7_takesShown : MI := (yX7_takesShown, cX7_takesShown, 2, (some .boolean), 2)
theorem ok_X7_takesShown : okM M_X7_takesShown 1 = true := by decide +kernel
theorem w_227 : Cond.code yX7_takesShown cX7_takesShown 2 (some .boolean) ∈ wsL_law := tin_4 (List.mem_of_getElem? (i := 220) (by decide +kernel)) rfl
theorem w_228 : Cond.instanceMethod yX7_takesShown ∈ wsL_law := tin_4 (List.mem_of_getElem? (i := 219) (by decide +kernel)) rfl
theorem w_229 : Cond.selects RX7 yX7_takesShown yX7_takesShown ∈ wsL_law := tip_2 (q := (yX7_takesShown, 7)) (List.mem_of_getElem? (i := 6) (by decide +kernel))
theorem wd_X7_takesShown : Wv M_X7_takesShown := ⟨w_228, w_229, w_7, w_227⟩
abbrev M_X6_sortBy : MI := (yX6_sortBy, cX6_sortBy, 2, none, 0)
theorem ok_X6_sortBy : okM M_X6_sortBy 1 = true := by decide +kernel
theorem w_230 : Cond.code yX6_sortBy cX6_sortBy 2 none ∈ wsL_law := tin_4 (List.mem_of_getElem? (i := 236) (by decide +kernel)) rfl
theorem w_231 : Cond.instanceMethod yX6_sortBy ∈ wsL_law := tin_4 (List.mem_of_getElem? (i := 234) (by decide +kernel)) rfl
theorem w_232 : Cond.selects RX6 yX6_sortBy yX6_sortBy ∈ wsL_law := tin_4 (List.mem_of_getElem? (i := 235) (by decide +kernel)) rfl
theorem wd_X6_sortBy : Wv M_X6_sortBy := ⟨w_231, w_232, w_4, w_230⟩
abbrev M_X7_takesSort : MI := (yX7_takesSort, cX7_takesSort, 2, (some .boolean), 1)
theorem ok_X7_takesSort : okM M_X7_takesSort 1 = true := by decide +kernel
theorem w_233 : Cond.code yX7_takesSort cX7_takesSort 2 (some .boolean) ∈ wsL_law := tin_4 (List.mem_of_getElem? (i := 232) (by decide +kernel)) rfl
theorem w_234 : Cond.instanceMethod yX7_takesSort ∈ wsL_law := tin_4 (List.mem_of_getElem? (i := 231) (by decide +kernel)) rfl
theorem w_235 : Cond.selects RX7 yX7_takesSort yX7_takesSort ∈ wsL_law := tip_2 (q := (yX7_takesSort, 7)) (List.mem_of_getElem? (i := 7) (by decide +kernel))
theorem wd_X7_takesSort : Wv M_X7_takesSort := ⟨w_234, w_235, w_7, w_233⟩
abbrev M_X7_takes : MI := (yX7_takes, cX7_takes, 2, (some .boolean), 3)
theorem ok_X7_takes : okM M_X7_takes 1 = true := by decide +kernel
theorem w_236 : Cond.code yX7_takes cX7_takes 2 (some .boolean) ∈ wsL_law := tin_4 (List.mem_of_getElem? (i := 184) (by decide +kernel)) rfl
theorem w_237 : Cond.instanceMethod yX7_takes ∈ wsL_law := tin_4 (List.mem_of_getElem? (i := 183) (by decide +kernel)) rfl
theorem w_238 : Cond.selects RX7 yX7_takes yX7_takes ∈ wsL_law := tip_2 (q := (yX7_takes, 7)) (List.mem_of_getElem? (i := 0) (by decide +kernel))
theorem wd_X7_takes : Wv M_X7_takes := ⟨w_237, w_238, w_7, w_236⟩
abbrev M_X7_read : MI := (yX7_read, cX7_read, 2, (some .int), 4)
theorem ok_X7_read : okM M_X7_read 0 = true := by decide +kernel
theorem w_239 : Cond.code yX7_read cX7_read 2 (some .int) ∈ wsL_law := tin_4 (List.mem_of_getElem? (i := 174) (by decide +kernel)) rfl
theorem w_240 : Cond.instanceMethod yX7_read ∈ wsL_law := tin_4 (List.mem_of_getElem? (i := 172) (by decide +kernel)) rfl
theorem w_241 : Cond.selects RX7 yX7_read yX7_read ∈ wsL_law := tin_4 (List.mem_of_getElem? (i := 173) (by decide +kernel)) rfl
theorem wd_X7_read : Wv M_X7_read := ⟨w_240, w_241, w_7, w_239⟩
abbrev M_X11_good : MI := (yX11_good, cX11_good, 1, (some .int), 5)
theorem ok_X11_good : okM M_X11_good 0 = true := by decide +kernel
theorem w_242 : Cond.code yX11_good cX11_good 1 (some .int) ∈ wsL_law := tin_4 (List.mem_of_getElem? (i := 170) (by decide +kernel)) rfl
theorem w_243 : Cond.instanceMethod yX11_good ∈ wsL_law := tin_4 (List.mem_of_getElem? (i := 168) (by decide +kernel)) rfl
theorem w_244 : Cond.selects RX11 yX11_good yX11_good ∈ wsL_law := tin_4 (List.mem_of_getElem? (i := 169) (by decide +kernel)) rfl
theorem wd_X11_good : Wv M_X11_good := ⟨w_243, w_244, w_31, w_242⟩
abbrev M_X8_pagesOf : MI := (yX8_pagesOf, cX8_pagesOf, 8, (some .int), 0)
theorem ok_X8_pagesOf : okM M_X8_pagesOf 1 = true := by decide +kernel
theorem w_245 : Cond.code yX8_pagesOf cX8_pagesOf 8 (some .int) ∈ wsL_law := tin_3 (List.mem_of_getElem? (i := 180) (by decide +kernel)) rfl
theorem w_246 : Cond.instanceMethod yX8_pagesOf ∈ wsL_law := tin_3 (List.mem_of_getElem? (i := 178) (by decide +kernel)) rfl
theorem w_247 : Cond.selects RX8 yX8_pagesOf yX8_pagesOf ∈ wsL_law := tin_3 (List.mem_of_getElem? (i := 179) (by decide +kernel)) rfl
theorem wd_X8_pagesOf : Wv M_X8_pagesOf := ⟨w_246, w_247, w_10, w_245⟩
abbrev M_X8_fullPages : MI := (yX8_fullPages, cX8_fullPages, 1, (some .int), 1)
theorem ok_X8_fullPages : okM M_X8_fullPages 0 = true := by decide +kernel
theorem w_248 : Cond.code yX8_fullPages cX8_fullPages 1 (some .int) ∈ wsL_law := tin_3 (List.mem_of_getElem? (i := 176) (by decide +kernel)) rfl
theorem w_249 : Cond.instanceMethod yX8_fullPages ∈ wsL_law := tin_3 (List.mem_of_getElem? (i := 174) (by decide +kernel)) rfl
theorem w_250 : Cond.selects RX8 yX8_fullPages yX8_fullPages ∈ wsL_law := tin_3 (List.mem_of_getElem? (i := 175) (by decide +kernel)) rfl
theorem wd_X8_fullPages : Wv M_X8_fullPages := ⟨w_249, w_250, w_10, w_248⟩
abbrev M_X3_keptSet : MI := (yX3_keptSet, cX3_keptSet, 3, (some .int), 2)
theorem ok_X3_keptSet : okM M_X3_keptSet 0 = true := by decide +kernel
theorem w_251 : Cond.code yX3_keptSet cX3_keptSet 3 (some .int) ∈ wsL_law := tin_4 (List.mem_of_getElem? (i := 86) (by decide +kernel)) rfl
theorem w_252 : Cond.instanceMethod yX3_keptSet ∈ wsL_law := tin_4 (List.mem_of_getElem? (i := 84) (by decide +kernel)) rfl
theorem w_253 : Cond.selects RX3 yX3_keptSet yX3_keptSet ∈ wsL_law := tin_4 (List.mem_of_getElem? (i := 85) (by decide +kernel)) rfl
theorem wd_X3_keptSet : Wv M_X3_keptSet := ⟨w_252, w_253, w_16, w_251⟩
abbrev M_J6_bitCount_0f7a4 : MI := (yJ6_bitCount_0f7a4, cJ6_bitCount_0f7a4, 1, (some .int), 0)
theorem ok_J6_bitCount_0f7a4 : okM M_J6_bitCount_0f7a4 1 = true := by decide +kernel
theorem w_254 : Cond.code yJ6_bitCount_0f7a4 cJ6_bitCount_0f7a4 1 (some .int) ∈ wsL_law := tin_4 (List.mem_of_getElem? (i := 122) (by decide +kernel)) rfl
theorem w_255 : Cond.initialized RJ6 ∈ wsL_law := tin_1 (List.mem_of_getElem? (i := 15) (by decide +kernel)) rfl
theorem w_256 : Cond.static yJ6_bitCount_0f7a4 ∈ wsL_law := tin_4 (List.mem_of_getElem? (i := 121) (by decide +kernel)) rfl
theorem wd_J6_bitCount_0f7a4 : Ws M_J6_bitCount_0f7a4 := ⟨w_256, w_255, w_254⟩
abbrev M_X10_asked : MI := (yX10_asked, cX10_asked, 1, (some .int), 0)
theorem ok_X10_asked : okM M_X10_asked 0 = true := by decide +kernel
theorem w_257 : Cond.code yX10_asked cX10_asked 1 (some .int) ∈ wsL_law := tin_5 (List.mem_of_getElem? (i := 6) (by decide +kernel)) rfl
theorem w_258 : Cond.instanceMethod yX10_asked ∈ wsL_law := tin_5 (List.mem_of_getElem? (i := 4) (by decide +kernel)) rfl
theorem w_259 : Cond.selects RX10 yX10_asked yX10_asked ∈ wsL_law := tin_5 (List.mem_of_getElem? (i := 5) (by decide +kernel)) rfl
theorem wd_X10_asked : Wv M_X10_asked := ⟨w_258, w_259, w_22, w_257⟩
abbrev M_X0_marked : MI := (yX0_marked, cX0_marked, 1, (some .int), 0)
theorem ok_X0_marked : okM M_X0_marked 0 = true := by decide +kernel
theorem w_260 : Cond.code yX0_marked cX0_marked 1 (some .int) ∈ wsL_law := tin_5 (List.mem_of_getElem? (i := 10) (by decide +kernel)) rfl
theorem w_261 : Cond.instanceMethod yX0_marked ∈ wsL_law := tin_5 (List.mem_of_getElem? (i := 8) (by decide +kernel)) rfl
theorem w_262 : Cond.selects RX0 yX0_marked yX0_marked ∈ wsL_law := tin_5 (List.mem_of_getElem? (i := 9) (by decide +kernel)) rfl
theorem wd_X0_marked : Wv M_X0_marked := ⟨w_261, w_262, w_13, w_260⟩
abbrev M_X11_count : MI := (yX11_count, cX11_count, 2, (some .int), 3)
theorem ok_X11_count : okM M_X11_count 1 = true := by decide +kernel
theorem w_263 : Cond.code yX11_count cX11_count 2 (some .int) ∈ wsL_law := tin_5 (List.mem_of_getElem? (i := 0) (by decide +kernel)) rfl
theorem w_264 : Cond.instanceMethod yX11_count ∈ wsL_law := tin_4 (List.mem_of_getElem? (i := 238) (by decide +kernel)) rfl
theorem w_265 : Cond.selects RX11 yX11_count yX11_count ∈ wsL_law := tin_4 (List.mem_of_getElem? (i := 239) (by decide +kernel)) rfl
theorem wd_X11_count : Wv M_X11_count := ⟨w_264, w_265, w_31, w_263⟩
abbrev M_X7_isWhole : MI := (yX7_isWhole, cX7_isWhole, 1, (some .boolean), 0)
theorem ok_X7_isWhole : okM M_X7_isWhole 0 = true := by decide +kernel
theorem w_266 : Cond.code yX7_isWhole cX7_isWhole 1 (some .boolean) ∈ wsL_law := tin_5 (List.mem_of_getElem? (i := 18) (by decide +kernel)) rfl
theorem w_267 : Cond.instanceMethod yX7_isWhole ∈ wsL_law := tin_5 (List.mem_of_getElem? (i := 16) (by decide +kernel)) rfl
theorem w_268 : Cond.selects RX7 yX7_isWhole yX7_isWhole ∈ wsL_law := tin_5 (List.mem_of_getElem? (i := 17) (by decide +kernel)) rfl
theorem wd_X7_isWhole : Wv M_X7_isWhole := ⟨w_267, w_268, w_7, w_266⟩
abbrev M_X7_handOver : MI := (yX7_handOver, cX7_handOver, 2, (some (.object "KeptOrders$Question")), 3)
theorem ok_X7_handOver : okM M_X7_handOver 0 = true := by decide +kernel
theorem w_269 : Cond.code yX7_handOver cX7_handOver 2 (some (.object "KeptOrders$Question")) ∈ wsL_law := tin_5 (List.mem_of_getElem? (i := 22) (by decide +kernel)) rfl
theorem w_270 : Cond.instanceMethod yX7_handOver ∈ wsL_law := tin_5 (List.mem_of_getElem? (i := 20) (by decide +kernel)) rfl
theorem w_271 : Cond.selects RX7 yX7_handOver yX7_handOver ∈ wsL_law := tin_5 (List.mem_of_getElem? (i := 21) (by decide +kernel)) rfl
theorem wd_X7_handOver : Wv M_X7_handOver := ⟨w_270, w_271, w_7, w_269⟩
abbrev M_X10_add : MI := (yX10_add, cX10_add, 3, (some .int), 0)
theorem ok_X10_add : okM M_X10_add 1 = true := by decide +kernel
theorem w_272 : Cond.code yX10_add cX10_add 3 (some .int) ∈ wsL_law := tin_5 (List.mem_of_getElem? (i := 26) (by decide +kernel)) rfl
theorem w_273 : Cond.instanceMethod yX10_add ∈ wsL_law := tin_5 (List.mem_of_getElem? (i := 24) (by decide +kernel)) rfl
theorem w_274 : Cond.selects RX10 yX10_add yX10_add ∈ wsL_law := tin_5 (List.mem_of_getElem? (i := 25) (by decide +kernel)) rfl
theorem wd_X10_add : Wv M_X10_add := ⟨w_273, w_274, w_22, w_272⟩
abbrev M_X7_clear : MI := (yX7_clear, cX7_clear, 1, none, 0)
theorem ok_X7_clear : okM M_X7_clear 0 = true := by decide +kernel
theorem w_275 : Cond.code yX7_clear cX7_clear 1 none ∈ wsL_law := tin_5 (List.mem_of_getElem? (i := 30) (by decide +kernel)) rfl
theorem w_276 : Cond.instanceMethod yX7_clear ∈ wsL_law := tin_5 (List.mem_of_getElem? (i := 28) (by decide +kernel)) rfl
theorem w_277 : Cond.selects RX7 yX7_clear yX7_clear ∈ wsL_law := tin_5 (List.mem_of_getElem? (i := 29) (by decide +kernel)) rfl
theorem wd_X7_clear : Wv M_X7_clear := ⟨w_276, w_277, w_7, w_275⟩
abbrev M_X11_ask : MI := (yX11_ask, cX11_ask, 2, (some .int), 5)
theorem ok_X11_ask : okM M_X11_ask 0 = true := by decide +kernel
theorem w_278 : Cond.code yX11_ask cX11_ask 2 (some .int) ∈ wsL_law := tin_5 (List.mem_of_getElem? (i := 14) (by decide +kernel)) rfl
theorem w_279 : Cond.instanceMethod yX11_ask ∈ wsL_law := tin_5 (List.mem_of_getElem? (i := 12) (by decide +kernel)) rfl
theorem w_280 : Cond.selects RX11 yX11_ask yX11_ask ∈ wsL_law := tin_5 (List.mem_of_getElem? (i := 13) (by decide +kernel)) rfl
theorem wd_X11_ask : Wv M_X11_ask := ⟨w_279, w_280, w_31, w_278⟩
abbrev M_L_ask : MI := (yL_ask, cL_ask, 13, (some .boolean), 6)
theorem ok_L_ask : okM M_L_ask 5 = true := by decide +kernel
theorem w_281 : Cond.code yL_ask cL_ask 13 (some .boolean) ∈ wsL_law := tin_4 (List.mem_of_getElem? (i := 141) (by decide +kernel)) rfl
theorem w_282 : Cond.static yL_ask ∈ wsL_law := tin_4 (List.mem_of_getElem? (i := 140) (by decide +kernel)) rfl
theorem wd_L_ask : Ws M_L_ask := ⟨w_282, w_34, w_281⟩
abbrev M_X10_question : MI := (yX10_question, cX10_question, 2, (some (.object "KeptOrders$Question")), 0)
theorem ok_X10_question : okM M_X10_question 1 = true := by decide +kernel
theorem w_283 : Cond.code yX10_question cX10_question 2 (some (.object "KeptOrders$Question")) ∈ wsL_law := tin_3 (List.mem_of_getElem? (i := 90) (by decide +kernel)) rfl
theorem w_284 : Cond.instanceMethod yX10_question ∈ wsL_law := tin_3 (List.mem_of_getElem? (i := 88) (by decide +kernel)) rfl
theorem w_285 : Cond.selects RX10 yX10_question yX10_question ∈ wsL_law := tin_3 (List.mem_of_getElem? (i := 89) (by decide +kernel)) rfl
theorem wd_X10_question : Wv M_X10_question := ⟨w_284, w_285, w_22, w_283⟩
abbrev M_X6_heft : MI := (yX6_heft, cX6_heft, 1, (some .int), 0)
theorem ok_X6_heft : okM M_X6_heft 0 = true := by decide +kernel
theorem w_286 : Cond.code yX6_heft cX6_heft 1 (some .int) ∈ wsL_law := tin_3 (List.mem_of_getElem? (i := 113) (by decide +kernel)) rfl
theorem w_287 : Cond.instanceMethod yX6_heft ∈ wsL_law := tin_3 (List.mem_of_getElem? (i := 111) (by decide +kernel)) rfl
theorem w_288 : Cond.selects RX6 yX6_heft yX6_heft ∈ wsL_law := tin_3 (List.mem_of_getElem? (i := 112) (by decide +kernel)) rfl
theorem wd_X6_heft : Wv M_X6_heft := ⟨w_287, w_288, w_4, w_286⟩
abbrev M_X6_weigh : MI := (yX6_weigh, cX6_weigh, 2, none, 0)
theorem ok_X6_weigh : okM M_X6_weigh 1 = true := by decide +kernel
theorem w_289 : Cond.code yX6_weigh cX6_weigh 2 none ∈ wsL_law := tin_3 (List.mem_of_getElem? (i := 117) (by decide +kernel)) rfl
theorem w_290 : Cond.instanceMethod yX6_weigh ∈ wsL_law := tin_3 (List.mem_of_getElem? (i := 115) (by decide +kernel)) rfl
theorem w_291 : Cond.selects RX6 yX6_weigh yX6_weigh ∈ wsL_law := tin_3 (List.mem_of_getElem? (i := 116) (by decide +kernel)) rfl
theorem wd_X6_weigh : Wv M_X6_weigh := ⟨w_290, w_291, w_4, w_289⟩
abbrev M_X11_weight : MI := (yX11_weight, cX11_weight, 5, (some .int), 1)
theorem ok_X11_weight : okM M_X11_weight 2 = true := by decide +kernel
theorem w_292 : Cond.code yX11_weight cX11_weight 5 (some .int) ∈ wsL_law := tin_3 (List.mem_of_getElem? (i := 109) (by decide +kernel)) rfl
theorem w_293 : Cond.instanceMethod yX11_weight ∈ wsL_law := tin_3 (List.mem_of_getElem? (i := 107) (by decide +kernel)) rfl
theorem w_294 : Cond.selects RX11 yX11_weight yX11_weight ∈ wsL_law := tin_3 (List.mem_of_getElem? (i := 108) (by decide +kernel)) rfl
theorem wd_X11_weight : Wv M_X11_weight := ⟨w_293, w_294, w_31, w_292⟩
abbrev M_L_within : MI := (yL_within, cL_within, 6, (some .boolean), 3)
theorem ok_L_within : okM M_L_within 5 = true := by decide +kernel
theorem w_295 : Cond.code yL_within cL_within 6 (some .boolean) ∈ wsL_law := tin_5 (List.mem_of_getElem? (i := 33) (by decide +kernel)) rfl
theorem w_296 : Cond.static yL_within ∈ wsL_law := tin_5 (List.mem_of_getElem? (i := 32) (by decide +kernel)) rfl
theorem wd_L_within : Ws M_L_within := ⟨w_296, w_34, w_295⟩
abbrev M_X6_least : MI := (yX6_least, cX6_least, 2, (some .int), 1)
theorem ok_X6_least : okM M_X6_least 1 = true := by decide +kernel
theorem w_297 : Cond.code yX6_least cX6_least 2 (some .int) ∈ wsL_law := tin_3 (List.mem_of_getElem? (i := 98) (by decide +kernel)) rfl
theorem w_298 : Cond.instanceMethod yX6_least ∈ wsL_law := tin_3 (List.mem_of_getElem? (i := 96) (by decide +kernel)) rfl
theorem w_299 : Cond.selects RX6 yX6_least yX6_least ∈ wsL_law := tin_3 (List.mem_of_getElem? (i := 97) (by decide +kernel)) rfl
theorem wd_X6_least : Wv M_X6_least := ⟨w_298, w_299, w_4, w_297⟩
abbrev M_X6_greatest : MI := (yX6_greatest, cX6_greatest, 2, (some .int), 1)
theorem ok_X6_greatest : okM M_X6_greatest 1 = true := by decide +kernel
theorem w_300 : Cond.code yX6_greatest cX6_greatest 2 (some .int) ∈ wsL_law := tin_3 (List.mem_of_getElem? (i := 103) (by decide +kernel)) rfl
theorem w_301 : Cond.instanceMethod yX6_greatest ∈ wsL_law := tin_3 (List.mem_of_getElem? (i := 101) (by decide +kernel)) rfl
theorem w_302 : Cond.selects RX6 yX6_greatest yX6_greatest ∈ wsL_law := tin_3 (List.mem_of_getElem? (i := 102) (by decide +kernel)) rfl
theorem wd_X6_greatest : Wv M_X6_greatest := ⟨w_301, w_302, w_4, w_300⟩
abbrev M_X6_letsNone : MI := (yX6_letsNone, cX6_letsNone, 2, (some .boolean), 2)
theorem ok_X6_letsNone : okM M_X6_letsNone 1 = true := by decide +kernel
theorem w_303 : Cond.code yX6_letsNone cX6_letsNone 2 (some .boolean) ∈ wsL_law := tin_3 (List.mem_of_getElem? (i := 94) (by decide +kernel)) rfl
theorem w_304 : Cond.instanceMethod yX6_letsNone ∈ wsL_law := tin_3 (List.mem_of_getElem? (i := 92) (by decide +kernel)) rfl
theorem w_305 : Cond.selects RX6 yX6_letsNone yX6_letsNone ∈ wsL_law := tin_3 (List.mem_of_getElem? (i := 93) (by decide +kernel)) rfl
theorem wd_X6_letsNone : Wv M_X6_letsNone := ⟨w_304, w_305, w_4, w_303⟩
abbrev M_X11_bound : MI := (yX11_bound, cX11_bound, 5, (some .int), 3)
theorem ok_X11_bound : okM M_X11_bound 3 = true := by decide +kernel
theorem w_306 : Cond.code yX11_bound cX11_bound 5 (some .int) ∈ wsL_law := tin_3 (List.mem_of_getElem? (i := 86) (by decide +kernel)) rfl
theorem w_307 : Cond.instanceMethod yX11_bound ∈ wsL_law := tin_3 (List.mem_of_getElem? (i := 84) (by decide +kernel)) rfl
theorem w_308 : Cond.selects RX11 yX11_bound yX11_bound ∈ wsL_law := tin_3 (List.mem_of_getElem? (i := 85) (by decide +kernel)) rfl
theorem wd_X11_bound : Wv M_X11_bound := ⟨w_307, w_308, w_31, w_306⟩
abbrev M_X8_taken : MI := (yX8_taken, cX8_taken, 1, (some .long), 0)
theorem ok_X8_taken : okM M_X8_taken 0 = true := by decide +kernel
theorem w_309 : Cond.code yX8_taken cX8_taken 1 (some .long) ∈ wsL_law := tin_3 (List.mem_of_getElem? (i := 129) (by decide +kernel)) rfl
theorem w_310 : Cond.instanceMethod yX8_taken ∈ wsL_law := tin_3 (List.mem_of_getElem? (i := 127) (by decide +kernel)) rfl
theorem w_311 : Cond.selects RX8 yX8_taken yX8_taken ∈ wsL_law := tin_3 (List.mem_of_getElem? (i := 128) (by decide +kernel)) rfl
theorem wd_X8_taken : Wv M_X8_taken := ⟨w_310, w_311, w_10, w_309⟩
abbrev M_X8_rowsWithin : MI := (yX8_rowsWithin, cX8_rowsWithin, 8, (some .long), 1)
theorem ok_X8_rowsWithin : okM M_X8_rowsWithin 3 = true := by decide +kernel
theorem w_312 : Cond.code yX8_rowsWithin cX8_rowsWithin 8 (some .long) ∈ wsL_law := tin_3 (List.mem_of_getElem? (i := 134) (by decide +kernel)) rfl
theorem w_313 : Cond.instanceMethod yX8_rowsWithin ∈ wsL_law := tin_3 (List.mem_of_getElem? (i := 132) (by decide +kernel)) rfl
theorem w_314 : Cond.selects RX8 yX8_rowsWithin yX8_rowsWithin ∈ wsL_law := tin_3 (List.mem_of_getElem? (i := 133) (by decide +kernel)) rfl
theorem wd_X8_rowsWithin : Wv M_X8_rowsWithin := ⟨w_313, w_314, w_10, w_312⟩
abbrev M_X6_rowsWithin : MI := (yX6_rowsWithin, cX6_rowsWithin, 6, (some .long), 2)
theorem ok_X6_rowsWithin : okM M_X6_rowsWithin 2 = true := by decide +kernel
theorem w_315 : Cond.code yX6_rowsWithin cX6_rowsWithin 6 (some .long) ∈ wsL_law := tin_3 (List.mem_of_getElem? (i := 125) (by decide +kernel)) rfl
theorem w_316 : Cond.instanceMethod yX6_rowsWithin ∈ wsL_law := tin_3 (List.mem_of_getElem? (i := 123) (by decide +kernel)) rfl
theorem w_317 : Cond.selects RX6 yX6_rowsWithin yX6_rowsWithin ∈ wsL_law := tin_3 (List.mem_of_getElem? (i := 124) (by decide +kernel)) rfl
theorem wd_X6_rowsWithin : Wv M_X6_rowsWithin := ⟨w_316, w_317, w_4, w_315⟩
abbrev M_X6_sortNumber : MI := (yX6_sortNumber, cX6_sortNumber, 3, (some .int), 2)
theorem ok_X6_sortNumber : okM M_X6_sortNumber 2 = true := by decide +kernel
theorem w_318 : Cond.code yX6_sortNumber cX6_sortNumber 3 (some .int) ∈ wsL_law := tin_3 (List.mem_of_getElem? (i := 153) (by decide +kernel)) rfl
theorem w_319 : Cond.instanceMethod yX6_sortNumber ∈ wsL_law := tin_3 (List.mem_of_getElem? (i := 152) (by decide +kernel)) rfl
theorem w_320 : Cond.selects RX6 yX6_sortNumber yX6_sortNumber ∈ wsL_law := tip_1 (q := (yX6_sortNumber, 7)) (List.mem_of_getElem? (i := 7) (by decide +kernel))
theorem wd_X6_sortNumber : Wv M_X6_sortNumber := ⟨w_319, w_320, w_4, w_318⟩
abbrev M_X6_rowsAhead : MI := (yX6_rowsAhead, cX6_rowsAhead, 9, (some .int), 3)
theorem ok_X6_rowsAhead : okM M_X6_rowsAhead 3 = true := by decide +kernel
theorem w_321 : Cond.code yX6_rowsAhead cX6_rowsAhead 9 (some .int) ∈ wsL_law := tin_3 (List.mem_of_getElem? (i := 149) (by decide +kernel)) rfl
theorem w_322 : Cond.instanceMethod yX6_rowsAhead ∈ wsL_law := tin_3 (List.mem_of_getElem? (i := 148) (by decide +kernel)) rfl
theorem w_323 : Cond.selects RX6 yX6_rowsAhead yX6_rowsAhead ∈ wsL_law := tip_1 (q := (yX6_rowsAhead, 7)) (List.mem_of_getElem? (i := 6) (by decide +kernel))
theorem wd_X6_rowsAhead : Wv M_X6_rowsAhead := ⟨w_322, w_323, w_4, w_321⟩
abbrev M_X6_placed : MI := (yX6_placed, cX6_placed, 6, (some .int), 4)
theorem ok_X6_placed : okM M_X6_placed 2 = true := by decide +kernel
theorem w_324 : Cond.code yX6_placed cX6_placed 6 (some .int) ∈ wsL_law := tin_3 (List.mem_of_getElem? (i := 143) (by decide +kernel)) rfl
theorem w_325 : Cond.instanceMethod yX6_placed ∈ wsL_law := tin_3 (List.mem_of_getElem? (i := 141) (by decide +kernel)) rfl
theorem w_326 : Cond.selects RX6 yX6_placed yX6_placed ∈ wsL_law := tin_3 (List.mem_of_getElem? (i := 142) (by decide +kernel)) rfl
theorem wd_X6_placed : Wv M_X6_placed := ⟨w_325, w_326, w_4, w_324⟩
abbrev M_X11_answer : MI := (yX11_answer, cX11_answer, 4, (some .int), 5)
theorem ok_X11_answer : okM M_X11_answer 2 = true := by decide +kernel
theorem w_327 : Cond.code yX11_answer cX11_answer 4 (some .int) ∈ wsL_law := tin_3 (List.mem_of_getElem? (i := 139) (by decide +kernel)) rfl
theorem w_328 : Cond.instanceMethod yX11_answer ∈ wsL_law := tin_3 (List.mem_of_getElem? (i := 137) (by decide +kernel)) rfl
theorem w_329 : Cond.selects RX11 yX11_answer yX11_answer ∈ wsL_law := tin_3 (List.mem_of_getElem? (i := 138) (by decide +kernel)) rfl
theorem wd_X11_answer : Wv M_X11_answer := ⟨w_328, w_329, w_31, w_327⟩
abbrev M_X11_answers : MI := (yX11_answers, cX11_answers, 3, (some .int), 3)
theorem ok_X11_answers : okM M_X11_answers 1 = true := by decide +kernel
theorem w_330 : Cond.code yX11_answers cX11_answers 3 (some .int) ∈ wsL_law := tin_3 (List.mem_of_getElem? (i := 121) (by decide +kernel)) rfl
theorem w_331 : Cond.instanceMethod yX11_answers ∈ wsL_law := tin_3 (List.mem_of_getElem? (i := 119) (by decide +kernel)) rfl
theorem w_332 : Cond.selects RX11 yX11_answers yX11_answers ∈ wsL_law := tin_3 (List.mem_of_getElem? (i := 120) (by decide +kernel)) rfl
theorem wd_X11_answers : Wv M_X11_answers := ⟨w_331, w_332, w_31, w_330⟩
abbrev M_L_all : MI := (yL_all, cL_all, 3, none, 3)
theorem ok_L_all : okM M_L_all 2 = true := by decide +kernel
theorem w_333 : Cond.code yL_all cL_all 3 none ∈ wsL_law := tin_5 (List.mem_of_getElem? (i := 39) (by decide +kernel)) rfl
theorem w_334 : Cond.static yL_all ∈ wsL_law := tin_5 (List.mem_of_getElem? (i := 38) (by decide +kernel)) rfl
theorem wd_L_all : Ws M_L_all := ⟨w_334, w_34, w_333⟩
abbrev M_L_fixed : MI := (yL_fixed, cL_fixed, 3, (some .boolean), 0)
theorem ok_L_fixed : okM M_L_fixed 3 = true := by decide +kernel
theorem w_335 : Cond.code yL_fixed cL_fixed 3 (some .boolean) ∈ wsL_law := tin_5 (List.mem_of_getElem? (i := 42) (by decide +kernel)) rfl
theorem w_336 : Cond.static yL_fixed ∈ wsL_law := tin_5 (List.mem_of_getElem? (i := 41) (by decide +kernel)) rfl
theorem wd_L_fixed : Ws M_L_fixed := ⟨w_336, w_34, w_335⟩
abbrev M_L_pages : MI := (yL_pages, cL_pages, 6, (some .int), 0)
theorem ok_L_pages : okM M_L_pages 2 = true := by decide +kernel
theorem w_337 : Cond.code yL_pages cL_pages 6 (some .int) ∈ wsL_law := tin_5 (List.mem_of_getElem? (i := 45) (by decide +kernel)) rfl
theorem w_338 : Cond.static yL_pages ∈ wsL_law := tin_5 (List.mem_of_getElem? (i := 44) (by decide +kernel)) rfl
theorem wd_L_pages : Ws M_L_pages := ⟨w_338, w_34, w_337⟩
abbrev M_X2_leaves : MI := (yX2_leaves, cX2_leaves, 1, (some .int), 0)
theorem ok_X2_leaves : okM M_X2_leaves 0 = true := by decide +kernel
theorem w_339 : Cond.code yX2_leaves cX2_leaves 1 (some .int) ∈ wsL_law := tin_3 (List.mem_of_getElem? (i := 69) (by decide +kernel)) rfl
theorem w_340 : Cond.instanceMethod yX2_leaves ∈ wsL_law := tin_3 (List.mem_of_getElem? (i := 67) (by decide +kernel)) rfl
theorem w_341 : Cond.selects RX2 yX2_leaves yX2_leaves ∈ wsL_law := tin_3 (List.mem_of_getElem? (i := 68) (by decide +kernel)) rfl
theorem wd_X2_leaves : Wv M_X2_leaves := ⟨w_340, w_341, w_62, w_339⟩
abbrev M_X2_height : MI := (yX2_height, cX2_height, 3, (some .int), 2)
theorem ok_X2_height : okM M_X2_height 0 = true := by decide +kernel
theorem w_342 : Cond.code yX2_height cX2_height 3 (some .int) ∈ wsL_law := tin_3 (List.mem_of_getElem? (i := 73) (by decide +kernel)) rfl
theorem w_343 : Cond.instanceMethod yX2_height ∈ wsL_law := tin_3 (List.mem_of_getElem? (i := 71) (by decide +kernel)) rfl
theorem w_344 : Cond.selects RX2 yX2_height yX2_height ∈ wsL_law := tin_3 (List.mem_of_getElem? (i := 72) (by decide +kernel)) rfl
theorem wd_X2_height : Wv M_X2_height := ⟨w_343, w_344, w_62, w_342⟩
abbrev M_X2_size : MI := (yX2_size, cX2_size, 4, (some .int), 3)
theorem ok_X2_size : okM M_X2_size 0 = true := by decide +kernel
theorem w_345 : Cond.code yX2_size cX2_size 4 (some .int) ∈ wsL_law := tin_3 (List.mem_of_getElem? (i := 77) (by decide +kernel)) rfl
theorem w_346 : Cond.instanceMethod yX2_size ∈ wsL_law := tin_3 (List.mem_of_getElem? (i := 75) (by decide +kernel)) rfl
theorem w_347 : Cond.selects RX2 yX2_size yX2_size ∈ wsL_law := tin_3 (List.mem_of_getElem? (i := 76) (by decide +kernel)) rfl
theorem wd_X2_size : Wv M_X2_size := ⟨w_346, w_347, w_62, w_345⟩
abbrev M_X2_cuts : MI := (yX2_cuts, cX2_cuts, 1, (some .int), 0)
theorem ok_X2_cuts : okM M_X2_cuts 0 = true := by decide +kernel
theorem w_348 : Cond.code yX2_cuts cX2_cuts 1 (some .int) ∈ wsL_law := tin_3 (List.mem_of_getElem? (i := 82) (by decide +kernel)) rfl
theorem w_349 : Cond.instanceMethod yX2_cuts ∈ wsL_law := tin_3 (List.mem_of_getElem? (i := 80) (by decide +kernel)) rfl
theorem w_350 : Cond.selects RX2 yX2_cuts yX2_cuts ∈ wsL_law := tin_3 (List.mem_of_getElem? (i := 81) (by decide +kernel)) rfl
theorem wd_X2_cuts : Wv M_X2_cuts := ⟨w_349, w_350, w_62, w_348⟩
abbrev M_X11_about : MI := (yX11_about, cX11_about, 4, (some .int), 4)
theorem ok_X11_about : okM M_X11_about 2 = true := by decide +kernel
theorem w_351 : Cond.code yX11_about cX11_about 4 (some .int) ∈ wsL_law := tin_3 (List.mem_of_getElem? (i := 63) (by decide +kernel)) rfl
theorem w_352 : Cond.instanceMethod yX11_about ∈ wsL_law := tin_3 (List.mem_of_getElem? (i := 61) (by decide +kernel)) rfl
theorem w_353 : Cond.selects RX11 yX11_about yX11_about ∈ wsL_law := tin_3 (List.mem_of_getElem? (i := 62) (by decide +kernel)) rfl
theorem wd_X11_about : Wv M_X11_about := ⟨w_352, w_353, w_31, w_351⟩
abbrev M_L_column : MI := (yL_column, cL_column, 5, (some .int), 0)
theorem ok_L_column : okM M_L_column 2 = true := by decide +kernel
theorem w_354 : Cond.code yL_column cL_column 5 (some .int) ∈ wsL_law := tin_5 (List.mem_of_getElem? (i := 54) (by decide +kernel)) rfl
theorem w_355 : Cond.static yL_column ∈ wsL_law := tin_5 (List.mem_of_getElem? (i := 53) (by decide +kernel)) rfl
theorem wd_L_column : Ws M_L_column := ⟨w_355, w_34, w_354⟩
abbrev M_L_bound : MI := (yL_bound, cL_bound, 3, (some .boolean), 0)
theorem ok_L_bound : okM M_L_bound 3 = true := by decide +kernel
theorem w_356 : Cond.code yL_bound cL_bound 3 (some .boolean) ∈ wsL_law := tin_5 (List.mem_of_getElem? (i := 57) (by decide +kernel)) rfl
theorem w_357 : Cond.static yL_bound ∈ wsL_law := tin_5 (List.mem_of_getElem? (i := 56) (by decide +kernel)) rfl
theorem wd_L_bound : Ws M_L_bound := ⟨w_357, w_34, w_356⟩
abbrev M_L_run : MI := (yL_run, cL_run, 5, (some .int), 1)
theorem ok_L_run : okM M_L_run 3 = true := by decide +kernel
theorem w_358 : Cond.code yL_run cL_run 5 (some .int) ∈ wsL_law := tin_5 (List.mem_of_getElem? (i := 51) (by decide +kernel)) rfl
theorem w_359 : Cond.static yL_run ∈ wsL_law := tin_5 (List.mem_of_getElem? (i := 50) (by decide +kernel)) rfl
theorem wd_L_run : Ws M_L_run := ⟨w_359, w_34, w_358⟩
abbrev M_X2_entriesInLeaf : MI := (yX2_entriesInLeaf, cX2_entriesInLeaf, 2, (some .int), 1)
theorem ok_X2_entriesInLeaf : okM M_X2_entriesInLeaf 1 = true := by decide +kernel
theorem w_360 : Cond.code yX2_entriesInLeaf cX2_entriesInLeaf 2 (some .int) ∈ wsL_law := tin_5 (List.mem_of_getElem? (i := 65) (by decide +kernel)) rfl
theorem w_361 : Cond.instanceMethod yX2_entriesInLeaf ∈ wsL_law := tin_5 (List.mem_of_getElem? (i := 63) (by decide +kernel)) rfl
theorem w_362 : Cond.selects RX2 yX2_entriesInLeaf yX2_entriesInLeaf ∈ wsL_law := tin_5 (List.mem_of_getElem? (i := 64) (by decide +kernel)) rfl
theorem wd_X2_entriesInLeaf : Wv M_X2_entriesInLeaf := ⟨w_361, w_362, w_62, w_360⟩
abbrev M_X11_leaf : MI := (yX11_leaf, cX11_leaf, 4, (some .int), 2)
theorem ok_X11_leaf : okM M_X11_leaf 2 = true := by decide +kernel
theorem w_363 : Cond.code yX11_leaf cX11_leaf 4 (some .int) ∈ wsL_law := tin_5 (List.mem_of_getElem? (i := 61) (by decide +kernel)) rfl
theorem w_364 : Cond.instanceMethod yX11_leaf ∈ wsL_law := tin_5 (List.mem_of_getElem? (i := 59) (by decide +kernel)) rfl
theorem w_365 : Cond.selects RX11 yX11_leaf yX11_leaf ∈ wsL_law := tin_5 (List.mem_of_getElem? (i := 60) (by decide +kernel)) rfl
theorem wd_X11_leaf : Wv M_X11_leaf := ⟨w_364, w_365, w_31, w_363⟩
abbrev M_X2_slotAt : MI := (yX2_slotAt, cX2_slotAt, 2, (some .int), 1)
theorem ok_X2_slotAt : okM M_X2_slotAt 1 = true := by decide +kernel
theorem w_366 : Cond.code yX2_slotAt cX2_slotAt 2 (some .int) ∈ wsL_law := tin_5 (List.mem_of_getElem? (i := 73) (by decide +kernel)) rfl
theorem w_367 : Cond.instanceMethod yX2_slotAt ∈ wsL_law := tin_5 (List.mem_of_getElem? (i := 71) (by decide +kernel)) rfl
theorem w_368 : Cond.selects RX2 yX2_slotAt yX2_slotAt ∈ wsL_law := tin_5 (List.mem_of_getElem? (i := 72) (by decide +kernel)) rfl
theorem wd_X2_slotAt : Wv M_X2_slotAt := ⟨w_367, w_368, w_62, w_366⟩
abbrev M_X11_entry : MI := (yX11_entry, cX11_entry, 4, (some .int), 2)
theorem ok_X11_entry : okM M_X11_entry 2 = true := by decide +kernel
theorem w_369 : Cond.code yX11_entry cX11_entry 4 (some .int) ∈ wsL_law := tin_5 (List.mem_of_getElem? (i := 69) (by decide +kernel)) rfl
theorem w_370 : Cond.instanceMethod yX11_entry ∈ wsL_law := tin_5 (List.mem_of_getElem? (i := 67) (by decide +kernel)) rfl
theorem w_371 : Cond.selects RX11 yX11_entry yX11_entry ∈ wsL_law := tin_5 (List.mem_of_getElem? (i := 68) (by decide +kernel)) rfl
theorem wd_X11_entry : Wv M_X11_entry := ⟨w_370, w_371, w_31, w_369⟩
abbrev M_L_leaves : MI := (yL_leaves, cL_leaves, 18, (some .int), 5)
theorem ok_L_leaves : okM M_L_leaves 5 = true := by decide +kernel
theorem w_372 : Cond.code yL_leaves cL_leaves 18 (some .int) ∈ wsL_law := tin_5 (List.mem_of_getElem? (i := 48) (by decide +kernel)) rfl
theorem w_373 : Cond.static yL_leaves ∈ wsL_law := tin_5 (List.mem_of_getElem? (i := 47) (by decide +kernel)) rfl
theorem wd_L_leaves : Ws M_L_leaves := ⟨w_373, w_34, w_372⟩
abbrev M_L_looks : MI := (yL_looks, cL_looks, 15, (some .int), 6)
theorem ok_L_looks : okM M_L_looks 6 = true := by decide +kernel
theorem w_374 : Cond.code yL_looks cL_looks 15 (some .int) ∈ wsL_law := tin_5 (List.mem_of_getElem? (i := 36) (by decide +kernel)) rfl
theorem w_375 : Cond.static yL_looks ∈ wsL_law := tin_5 (List.mem_of_getElem? (i := 35) (by decide +kernel)) rfl
theorem wd_L_looks : Ws M_L_looks := ⟨w_375, w_34, w_374⟩
abbrev M_X6_isFixed : MI := (yX6_isFixed, cX6_isFixed, 2, (some .boolean), 1)
theorem ok_X6_isFixed : okM M_X6_isFixed 1 = true := by decide +kernel
theorem w_376 : Cond.code yX6_isFixed cX6_isFixed 2 (some .boolean) ∈ wsL_law := tin_3 (List.mem_of_getElem? (i := 170) (by decide +kernel)) rfl
theorem w_377 : Cond.instanceMethod yX6_isFixed ∈ wsL_law := tin_3 (List.mem_of_getElem? (i := 168) (by decide +kernel)) rfl
theorem w_378 : Cond.selects RX6 yX6_isFixed yX6_isFixed ∈ wsL_law := tin_3 (List.mem_of_getElem? (i := 169) (by decide +kernel)) rfl
theorem wd_X6_isFixed : Wv M_X6_isFixed := ⟨w_377, w_378, w_4, w_376⟩
abbrev M_X6_mustSort : MI := (yX6_mustSort, cX6_mustSort, 1, (some .boolean), 2)
theorem ok_X6_mustSort : okM M_X6_mustSort 0 = true := by decide +kernel
theorem w_379 : Cond.code yX6_mustSort cX6_mustSort 1 (some .boolean) ∈ wsL_law := tin_3 (List.mem_of_getElem? (i := 166) (by decide +kernel)) rfl
theorem w_380 : Cond.instanceMethod yX6_mustSort ∈ wsL_law := tin_3 (List.mem_of_getElem? (i := 164) (by decide +kernel)) rfl
theorem w_381 : Cond.selects RX6 yX6_mustSort yX6_mustSort ∈ wsL_law := tin_3 (List.mem_of_getElem? (i := 165) (by decide +kernel)) rfl
theorem wd_X6_mustSort : Wv M_X6_mustSort := ⟨w_380, w_381, w_4, w_379⟩
abbrev M_X9_add : MI := (yX9_add, cX9_add, 4, none, 1)
theorem ok_X9_add : okM M_X9_add 3 = true := by decide +kernel
theorem w_382 : Cond.code yX9_add cX9_add 4 none ∈ wsL_law := tin_3 (List.mem_of_getElem? (i := 184) (by decide +kernel)) rfl
theorem w_383 : Cond.instanceMethod yX9_add ∈ wsL_law := tin_3 (List.mem_of_getElem? (i := 183) (by decide +kernel)) rfl
theorem w_384 : Cond.selects RX9 yX9_add yX9_add ∈ wsL_law := tip_1 (q := (yX9_add, 8)) (List.mem_of_getElem? (i := 8) (by decide +kernel))
theorem wd_X9_add : Wv M_X9_add := ⟨w_383, w_384, w_19, w_382⟩
abbrev M_X2_columns : MI := (yX2_columns, cX2_columns, 1, (some .int), 0)
theorem ok_X2_columns : okM M_X2_columns 0 = true := by decide +kernel
theorem w_385 : Cond.code yX2_columns cX2_columns 1 (some .int) ∈ wsL_law := tin_3 (List.mem_of_getElem? (i := 194) (by decide +kernel)) rfl
theorem w_386 : Cond.instanceMethod yX2_columns ∈ wsL_law := tin_3 (List.mem_of_getElem? (i := 192) (by decide +kernel)) rfl
theorem w_387 : Cond.selects RX2 yX2_columns yX2_columns ∈ wsL_law := tin_3 (List.mem_of_getElem? (i := 193) (by decide +kernel)) rfl
theorem wd_X2_columns : Wv M_X2_columns := ⟨w_386, w_387, w_62, w_385⟩
abbrev M_X6_isBound : MI := (yX6_isBound, cX6_isBound, 2, (some .boolean), 1)
theorem ok_X6_isBound : okM M_X6_isBound 1 = true := by decide +kernel
theorem w_388 : Cond.code yX6_isBound cX6_isBound 2 (some .boolean) ∈ wsL_law := tin_3 (List.mem_of_getElem? (i := 202) (by decide +kernel)) rfl
theorem w_389 : Cond.instanceMethod yX6_isBound ∈ wsL_law := tin_3 (List.mem_of_getElem? (i := 200) (by decide +kernel)) rfl
theorem w_390 : Cond.selects RX6 yX6_isBound yX6_isBound ∈ wsL_law := tin_3 (List.mem_of_getElem? (i := 201) (by decide +kernel)) rfl
theorem wd_X6_isBound : Wv M_X6_isBound := ⟨w_389, w_390, w_4, w_388⟩
abbrev M_X2_runColumns : MI := (yX2_runColumns, cX2_runColumns, 5, (some .int), 2)
theorem ok_X2_runColumns : okM M_X2_runColumns 1 = true := by decide +kernel
theorem w_391 : Cond.code yX2_runColumns cX2_runColumns 5 (some .int) ∈ wsL_law := tin_3 (List.mem_of_getElem? (i := 198) (by decide +kernel)) rfl
theorem w_392 : Cond.instanceMethod yX2_runColumns ∈ wsL_law := tin_3 (List.mem_of_getElem? (i := 196) (by decide +kernel)) rfl
theorem w_393 : Cond.selects RX2 yX2_runColumns yX2_runColumns ∈ wsL_law := tin_3 (List.mem_of_getElem? (i := 197) (by decide +kernel)) rfl
theorem wd_X2_runColumns : Wv M_X2_runColumns := ⟨w_392, w_393, w_62, w_391⟩
abbrev M_X2_hasSome : MI := (yX2_hasSome, cX2_hasSome, 6, (some .boolean), 1)
theorem ok_X2_hasSome : okM M_X2_hasSome 3 = true := by decide +kernel
theorem w_394 : Cond.code yX2_hasSome cX2_hasSome 6 (some .boolean) ∈ wsL_law := tin_3 (List.mem_of_getElem? (i := 212) (by decide +kernel)) rfl
theorem w_395 : Cond.instanceMethod yX2_hasSome ∈ wsL_law := tin_3 (List.mem_of_getElem? (i := 211) (by decide +kernel)) rfl
theorem w_396 : Cond.selects RX2 yX2_hasSome yX2_hasSome ∈ wsL_law := tip_1 (q := (yX2_hasSome, 12)) (List.mem_of_getElem? (i := 10) (by decide +kernel))
theorem wd_X2_hasSome : Wv M_X2_hasSome := ⟨w_395, w_396, w_62, w_394⟩
abbrev M_X2_leavesOf : MI := (yX2_leavesOf, cX2_leavesOf, 7, (some .int), 2)
theorem ok_X2_leavesOf : okM M_X2_leavesOf 1 = true := by decide +kernel
theorem w_397 : Cond.code yX2_leavesOf cX2_leavesOf 7 (some .int) ∈ wsL_law := tin_3 (List.mem_of_getElem? (i := 208) (by decide +kernel)) rfl
theorem w_398 : Cond.instanceMethod yX2_leavesOf ∈ wsL_law := tin_3 (List.mem_of_getElem? (i := 206) (by decide +kernel)) rfl
theorem w_399 : Cond.selects RX2 yX2_leavesOf yX2_leavesOf ∈ wsL_law := tin_3 (List.mem_of_getElem? (i := 207) (by decide +kernel)) rfl
theorem wd_X2_leavesOf : Wv M_X2_leavesOf := ⟨w_398, w_399, w_62, w_397⟩
abbrev M_X6_usedColumns : MI := (yX6_usedColumns, cX6_usedColumns, 2, (some .int), 1)
theorem ok_X6_usedColumns : okM M_X6_usedColumns 0 = true := by decide +kernel
theorem w_400 : Cond.code yX6_usedColumns cX6_usedColumns 2 (some .int) ∈ wsL_law := tin_3 (List.mem_of_getElem? (i := 221) (by decide +kernel)) rfl
theorem w_401 : Cond.instanceMethod yX6_usedColumns ∈ wsL_law := tin_3 (List.mem_of_getElem? (i := 219) (by decide +kernel)) rfl
theorem w_402 : Cond.selects RX6 yX6_usedColumns yX6_usedColumns ∈ wsL_law := tin_3 (List.mem_of_getElem? (i := 220) (by decide +kernel)) rfl
theorem wd_X6_usedColumns : Wv M_X6_usedColumns := ⟨w_401, w_402, w_4, w_400⟩
abbrev M_X2_covers : MI := (yX2_covers, cX2_covers, 2, (some .boolean), 2)
theorem ok_X2_covers : okM M_X2_covers 1 = true := by decide +kernel
theorem w_403 : Cond.code yX2_covers cX2_covers 2 (some .boolean) ∈ wsL_law := tin_3 (List.mem_of_getElem? (i := 217) (by decide +kernel)) rfl
theorem w_404 : Cond.instanceMethod yX2_covers ∈ wsL_law := tin_3 (List.mem_of_getElem? (i := 215) (by decide +kernel)) rfl
theorem w_405 : Cond.selects RX2 yX2_covers yX2_covers ∈ wsL_law := tin_3 (List.mem_of_getElem? (i := 216) (by decide +kernel)) rfl
theorem wd_X2_covers : Wv M_X2_covers := ⟨w_404, w_405, w_62, w_403⟩
abbrev M_X6_sortColumn : MI := (yX6_sortColumn, cX6_sortColumn, 1, (some .int), 0)
theorem ok_X6_sortColumn : okM M_X6_sortColumn 0 = true := by decide +kernel
theorem w_406 : Cond.code yX6_sortColumn cX6_sortColumn 1 (some .int) ∈ wsL_law := tin_3 (List.mem_of_getElem? (i := 232) (by decide +kernel)) rfl
theorem w_407 : Cond.instanceMethod yX6_sortColumn ∈ wsL_law := tin_3 (List.mem_of_getElem? (i := 230) (by decide +kernel)) rfl
theorem w_408 : Cond.selects RX6 yX6_sortColumn yX6_sortColumn ∈ wsL_law := tin_3 (List.mem_of_getElem? (i := 231) (by decide +kernel)) rfl
theorem wd_X6_sortColumn : Wv M_X6_sortColumn := ⟨w_407, w_408, w_4, w_406⟩
abbrev M_X2_sortsFor : MI := (yX2_sortsFor, cX2_sortsFor, 4, (some .boolean), 2)
theorem ok_X2_sortsFor : okM M_X2_sortsFor 1 = true := by decide +kernel
theorem w_409 : Cond.code yX2_sortsFor cX2_sortsFor 4 (some .boolean) ∈ wsL_law := tin_3 (List.mem_of_getElem? (i := 228) (by decide +kernel)) rfl
theorem w_410 : Cond.instanceMethod yX2_sortsFor ∈ wsL_law := tin_3 (List.mem_of_getElem? (i := 226) (by decide +kernel)) rfl
theorem w_411 : Cond.selects RX2 yX2_sortsFor yX2_sortsFor ∈ wsL_law := tin_3 (List.mem_of_getElem? (i := 227) (by decide +kernel)) rfl
theorem wd_X2_sortsFor : Wv M_X2_sortsFor := ⟨w_410, w_411, w_62, w_409⟩
abbrev M_X9_listAlone : MI := (yX9_listAlone, cX9_listAlone, 8, none, 3)
theorem ok_X9_listAlone : okM M_X9_listAlone 3 = true := by decide +kernel
theorem w_412 : Cond.code yX9_listAlone cX9_listAlone 8 none ∈ wsL_law := tin_3 (List.mem_of_getElem? (i := 189) (by decide +kernel)) rfl
theorem w_413 : Cond.instanceMethod yX9_listAlone ∈ wsL_law := tin_3 (List.mem_of_getElem? (i := 188) (by decide +kernel)) rfl
theorem w_414 : Cond.selects RX9 yX9_listAlone yX9_listAlone ∈ wsL_law := tip_1 (q := (yX9_listAlone, 8)) (List.mem_of_getElem? (i := 9) (by decide +kernel))
theorem wd_X9_listAlone : Wv M_X9_listAlone := ⟨w_413, w_414, w_19, w_412⟩
abbrev M_X9_leftBy : MI := (yX9_leftBy, cX9_leftBy, 2, (some .long), 0)
theorem ok_X9_leftBy : okM M_X9_leftBy 1 = true := by decide +kernel
theorem w_415 : Cond.code yX9_leftBy cX9_leftBy 2 (some .long) ∈ wsL_law := tin_4 (List.mem_of_getElem? (i := 1) (by decide +kernel)) rfl
theorem w_416 : Cond.instanceMethod yX9_leftBy ∈ wsL_law := tin_4 (List.mem_of_getElem? (i := 0) (by decide +kernel)) rfl
theorem w_417 : Cond.selects RX9 yX9_leftBy yX9_leftBy ∈ wsL_law := tip_1 (q := (yX9_leftBy, 8)) (List.mem_of_getElem? (i := 12) (by decide +kernel))
theorem wd_X9_leftBy : Wv M_X9_leftBy := ⟨w_416, w_417, w_19, w_415⟩
abbrev M_X9_listBoth : MI := (yX9_listBoth, cX9_listBoth, 5, none, 2)
theorem ok_X9_listBoth : okM M_X9_listBoth 3 = true := by decide +kernel
theorem w_418 : Cond.code yX9_listBoth cX9_listBoth 5 none ∈ wsL_law := tin_3 (List.mem_of_getElem? (i := 236) (by decide +kernel)) rfl
theorem w_419 : Cond.instanceMethod yX9_listBoth ∈ wsL_law := tin_3 (List.mem_of_getElem? (i := 235) (by decide +kernel)) rfl
theorem w_420 : Cond.selects RX9 yX9_listBoth yX9_listBoth ∈ wsL_law := tip_1 (q := (yX9_listBoth, 8)) (List.mem_of_getElem? (i := 11) (by decide +kernel))
theorem wd_X9_listBoth : Wv M_X9_listBoth := ⟨w_419, w_420, w_19, w_418⟩
abbrev M_X9_list : MI := (yX9_list, cX9_list, 5, none, 4)
theorem ok_X9_list : okM M_X9_list 1 = true := by decide +kernel
theorem w_421 : Cond.code yX9_list cX9_list 5 none ∈ wsL_law := tin_3 (List.mem_of_getElem? (i := 162) (by decide +kernel)) rfl
theorem w_422 : Cond.instanceMethod yX9_list ∈ wsL_law := tin_3 (List.mem_of_getElem? (i := 160) (by decide +kernel)) rfl
theorem w_423 : Cond.selects RX9 yX9_list yX9_list ∈ wsL_law := tin_3 (List.mem_of_getElem? (i := 161) (by decide +kernel)) rfl
theorem wd_X9_list : Wv M_X9_list := ⟨w_422, w_423, w_19, w_421⟩
abbrev M_X9_placeOf : MI := (yX9_placeOf, cX9_placeOf, 2, (some .int), 2)
theorem ok_X9_placeOf : okM M_X9_placeOf 1 = true := by decide +kernel
theorem w_424 : Cond.code yX9_placeOf cX9_placeOf 2 (some .int) ∈ wsL_law := tin_4 (List.mem_of_getElem? (i := 5) (by decide +kernel)) rfl
theorem w_425 : Cond.instanceMethod yX9_placeOf ∈ wsL_law := tin_4 (List.mem_of_getElem? (i := 3) (by decide +kernel)) rfl
theorem w_426 : Cond.selects RX9 yX9_placeOf yX9_placeOf ∈ wsL_law := tin_4 (List.mem_of_getElem? (i := 4) (by decide +kernel)) rfl
theorem wd_X9_placeOf : Wv M_X9_placeOf := ⟨w_425, w_426, w_19, w_424⟩
abbrev M_X9_costAt : MI := (yX9_costAt, cX9_costAt, 2, (some .int), 1)
theorem ok_X9_costAt : okM M_X9_costAt 1 = true := by decide +kernel
theorem w_427 : Cond.code yX9_costAt cX9_costAt 2 (some .int) ∈ wsL_law := tin_4 (List.mem_of_getElem? (i := 10) (by decide +kernel)) rfl
theorem w_428 : Cond.instanceMethod yX9_costAt ∈ wsL_law := tin_4 (List.mem_of_getElem? (i := 8) (by decide +kernel)) rfl
theorem w_429 : Cond.selects RX9 yX9_costAt yX9_costAt ∈ wsL_law := tin_4 (List.mem_of_getElem? (i := 9) (by decide +kernel)) rfl
theorem wd_X9_costAt : Wv M_X9_costAt := ⟨w_428, w_429, w_19, w_427⟩
abbrev M_X11_looks : MI := (yX11_looks, cX11_looks, 5, (some .int), 5)
theorem ok_X11_looks : okM M_X11_looks 2 = true := by decide +kernel
theorem w_430 : Cond.code yX11_looks cX11_looks 5 (some .int) ∈ wsL_law := tin_3 (List.mem_of_getElem? (i := 158) (by decide +kernel)) rfl
theorem w_431 : Cond.instanceMethod yX11_looks ∈ wsL_law := tin_3 (List.mem_of_getElem? (i := 156) (by decide +kernel)) rfl
theorem w_432 : Cond.selects RX11 yX11_looks yX11_looks ∈ wsL_law := tin_3 (List.mem_of_getElem? (i := 157) (by decide +kernel)) rfl
theorem wd_X11_looks : Wv M_X11_looks := ⟨w_431, w_432, w_31, w_430⟩
abbrev M_X10_upkeepNow : MI := (yX10_upkeepNow, cX10_upkeepNow, 1, (some .int), 0)
theorem ok_X10_upkeepNow : okM M_X10_upkeepNow 0 = true := by decide +kernel
theorem w_433 : Cond.code yX10_upkeepNow cX10_upkeepNow 1 (some .int) ∈ wsL_law := tin_4 (List.mem_of_getElem? (i := 52) (by decide +kernel)) rfl
theorem w_434 : Cond.instanceMethod yX10_upkeepNow ∈ wsL_law := tin_4 (List.mem_of_getElem? (i := 50) (by decide +kernel)) rfl
theorem w_435 : Cond.selects RX10 yX10_upkeepNow yX10_upkeepNow ∈ wsL_law := tin_4 (List.mem_of_getElem? (i := 51) (by decide +kernel)) rfl
theorem wd_X10_upkeepNow : Wv M_X10_upkeepNow := ⟨w_434, w_435, w_22, w_433⟩
abbrev M_X10_setUpkeep : MI := (yX10_setUpkeep, cX10_setUpkeep, 2, none, 0)
theorem ok_X10_setUpkeep : okM M_X10_setUpkeep 1 = true := by decide +kernel
theorem w_436 : Cond.code yX10_setUpkeep cX10_setUpkeep 2 none ∈ wsL_law := tin_4 (List.mem_of_getElem? (i := 56) (by decide +kernel)) rfl
theorem w_437 : Cond.instanceMethod yX10_setUpkeep ∈ wsL_law := tin_4 (List.mem_of_getElem? (i := 54) (by decide +kernel)) rfl
theorem w_438 : Cond.selects RX10 yX10_setUpkeep yX10_setUpkeep ∈ wsL_law := tin_4 (List.mem_of_getElem? (i := 55) (by decide +kernel)) rfl
theorem wd_X10_setUpkeep : Wv M_X10_setUpkeep := ⟨w_437, w_438, w_22, w_436⟩
abbrev M_X11_upkeep : MI := (yX11_upkeep, cX11_upkeep, 3, (some .int), 1)
theorem ok_X11_upkeep : okM M_X11_upkeep 1 = true := by decide +kernel
theorem w_439 : Cond.code yX11_upkeep cX11_upkeep 3 (some .int) ∈ wsL_law := tin_4 (List.mem_of_getElem? (i := 48) (by decide +kernel)) rfl
theorem w_440 : Cond.instanceMethod yX11_upkeep ∈ wsL_law := tin_4 (List.mem_of_getElem? (i := 46) (by decide +kernel)) rfl
theorem w_441 : Cond.selects RX11 yX11_upkeep yX11_upkeep ∈ wsL_law := tin_4 (List.mem_of_getElem? (i := 47) (by decide +kernel)) rfl
theorem wd_X11_upkeep : Wv M_X11_upkeep := ⟨w_440, w_441, w_31, w_439⟩
abbrev M_X11_isSet : MI := (yX11_isSet, cX11_isSet, 1, (some .boolean), 0)
theorem ok_X11_isSet : okM M_X11_isSet 1 = true := by decide +kernel
theorem w_442 : Cond.code yX11_isSet cX11_isSet 1 (some .boolean) ∈ wsL_law := tin_4 (List.mem_of_getElem? (i := 17) (by decide +kernel)) rfl
theorem w_443 : Cond.static yX11_isSet ∈ wsL_law := tin_4 (List.mem_of_getElem? (i := 16) (by decide +kernel)) rfl
theorem wd_X11_isSet : Ws M_X11_isSet := ⟨w_443, w_31, w_442⟩
abbrev M_X9_bestPlace : MI := (yX9_bestPlace, cX9_bestPlace, 4, (some .int), 1)
theorem ok_X9_bestPlace : okM M_X9_bestPlace 1 = true := by decide +kernel
theorem w_444 : Cond.code yX9_bestPlace cX9_bestPlace 4 (some .int) ∈ wsL_law := tin_4 (List.mem_of_getElem? (i := 21) (by decide +kernel)) rfl
theorem w_445 : Cond.instanceMethod yX9_bestPlace ∈ wsL_law := tin_4 (List.mem_of_getElem? (i := 19) (by decide +kernel)) rfl
theorem w_446 : Cond.selects RX9 yX9_bestPlace yX9_bestPlace ∈ wsL_law := tin_4 (List.mem_of_getElem? (i := 20) (by decide +kernel)) rfl
theorem wd_X9_bestPlace : Wv M_X9_bestPlace := ⟨w_445, w_446, w_19, w_444⟩
abbrev M_X9_numberAt : MI := (yX9_numberAt, cX9_numberAt, 2, (some .int), 1)
theorem ok_X9_numberAt : okM M_X9_numberAt 1 = true := by decide +kernel
theorem w_447 : Cond.code yX9_numberAt cX9_numberAt 2 (some .int) ∈ wsL_law := tin_4 (List.mem_of_getElem? (i := 25) (by decide +kernel)) rfl
theorem w_448 : Cond.instanceMethod yX9_numberAt ∈ wsL_law := tin_4 (List.mem_of_getElem? (i := 23) (by decide +kernel)) rfl
theorem w_449 : Cond.selects RX9 yX9_numberAt yX9_numberAt ∈ wsL_law := tin_4 (List.mem_of_getElem? (i := 24) (by decide +kernel)) rfl
theorem wd_X9_numberAt : Wv M_X9_numberAt := ⟨w_448, w_449, w_19, w_447⟩
abbrev M_X11_best : MI := (yX11_best, cX11_best, 4, (some .int), 5)
theorem ok_X11_best : okM M_X11_best 2 = true := by decide +kernel
theorem w_450 : Cond.code yX11_best cX11_best 4 (some .int) ∈ wsL_law := tin_4 (List.mem_of_getElem? (i := 14) (by decide +kernel)) rfl
theorem w_451 : Cond.instanceMethod yX11_best ∈ wsL_law := tin_4 (List.mem_of_getElem? (i := 12) (by decide +kernel)) rfl
theorem w_452 : Cond.selects RX11 yX11_best yX11_best ∈ wsL_law := tin_4 (List.mem_of_getElem? (i := 13) (by decide +kernel)) rfl
theorem wd_X11_best : Wv M_X11_best := ⟨w_451, w_452, w_31, w_450⟩
abbrev M_X3_burdenOf : MI := (yX3_burdenOf, cX3_burdenOf, 5, (some .int), 3)
theorem ok_X3_burdenOf : okM M_X3_burdenOf 1 = true := by decide +kernel
theorem w_453 : Cond.code yX3_burdenOf cX3_burdenOf 5 (some .int) ∈ wsL_law := tin_4 (List.mem_of_getElem? (i := 37) (by decide +kernel)) rfl
theorem w_454 : Cond.instanceMethod yX3_burdenOf ∈ wsL_law := tin_4 (List.mem_of_getElem? (i := 35) (by decide +kernel)) rfl
theorem w_455 : Cond.selects RX3 yX3_burdenOf yX3_burdenOf ∈ wsL_law := tin_4 (List.mem_of_getElem? (i := 36) (by decide +kernel)) rfl
theorem wd_X3_burdenOf : Wv M_X3_burdenOf := ⟨w_454, w_455, w_16, w_453⟩
abbrev M_X10_workOf : MI := (yX10_workOf, cX10_workOf, 5, (some .int), 5)
theorem ok_X10_workOf : okM M_X10_workOf 1 = true := by decide +kernel
theorem w_456 : Cond.code yX10_workOf cX10_workOf 5 (some .int) ∈ wsL_law := tin_4 (List.mem_of_getElem? (i := 33) (by decide +kernel)) rfl
theorem w_457 : Cond.instanceMethod yX10_workOf ∈ wsL_law := tin_4 (List.mem_of_getElem? (i := 31) (by decide +kernel)) rfl
theorem w_458 : Cond.selects RX10 yX10_workOf yX10_workOf ∈ wsL_law := tin_4 (List.mem_of_getElem? (i := 32) (by decide +kernel)) rfl
theorem wd_X10_workOf : Wv M_X10_workOf := ⟨w_457, w_458, w_22, w_456⟩
abbrev M_X11_work : MI := (yX11_work, cX11_work, 2, (some .int), 6)
theorem ok_X11_work : okM M_X11_work 1 = true := by decide +kernel
theorem w_459 : Cond.code yX11_work cX11_work 2 (some .int) ∈ wsL_law := tin_4 (List.mem_of_getElem? (i := 29) (by decide +kernel)) rfl
theorem w_460 : Cond.instanceMethod yX11_work ∈ wsL_law := tin_4 (List.mem_of_getElem? (i := 27) (by decide +kernel)) rfl
theorem w_461 : Cond.selects RX11 yX11_work yX11_work ∈ wsL_law := tin_4 (List.mem_of_getElem? (i := 28) (by decide +kernel)) rfl
theorem wd_X11_work : Wv M_X11_work := ⟨w_460, w_461, w_31, w_459⟩
abbrev M_X11_isSpace : MI := (yX11_isSpace, cX11_isSpace, 1, (some .boolean), 0)
theorem ok_X11_isSpace : okM M_X11_isSpace 1 = true := by decide +kernel
theorem w_462 : Cond.code yX11_isSpace cX11_isSpace 1 (some .boolean) ∈ wsL_law := tin_4 (List.mem_of_getElem? (i := 63) (by decide +kernel)) rfl
theorem w_463 : Cond.static yX11_isSpace ∈ wsL_law := tin_4 (List.mem_of_getElem? (i := 62) (by decide +kernel)) rfl
theorem wd_X11_isSpace : Ws M_X11_isSpace := ⟨w_463, w_31, w_462⟩
abbrev M_X9_fewestOfAll : MI := (yX9_fewestOfAll, cX9_fewestOfAll, 4, none, 1)
theorem ok_X9_fewestOfAll : okM M_X9_fewestOfAll 1 = true := by decide +kernel
theorem w_464 : Cond.code yX9_fewestOfAll cX9_fewestOfAll 4 none ∈ wsL_law := tin_4 (List.mem_of_getElem? (i := 76) (by decide +kernel)) rfl
theorem w_465 : Cond.instanceMethod yX9_fewestOfAll ∈ wsL_law := tin_4 (List.mem_of_getElem? (i := 74) (by decide +kernel)) rfl
theorem w_466 : Cond.selects RX9 yX9_fewestOfAll yX9_fewestOfAll ∈ wsL_law := tin_4 (List.mem_of_getElem? (i := 75) (by decide +kernel)) rfl
theorem wd_X9_fewestOfAll : Wv M_X9_fewestOfAll := ⟨w_465, w_466, w_19, w_464⟩
abbrev M_X10_workOutAll : MI := (yX10_workOutAll, cX10_workOutAll, 4, none, 5)
theorem ok_X10_workOutAll : okM M_X10_workOutAll 0 = true := by decide +kernel
theorem w_467 : Cond.code yX10_workOutAll cX10_workOutAll 4 none ∈ wsL_law := tin_4 (List.mem_of_getElem? (i := 71) (by decide +kernel)) rfl
theorem w_468 : Cond.instanceMethod yX10_workOutAll ∈ wsL_law := tin_4 (List.mem_of_getElem? (i := 70) (by decide +kernel)) rfl
theorem w_469 : Cond.selects RX10 yX10_workOutAll yX10_workOutAll ∈ wsL_law := tip_1 (q := (yX10_workOutAll, 9)) (List.mem_of_getElem? (i := 13) (by decide +kernel))
theorem wd_X10_workOutAll : Wv M_X10_workOutAll := ⟨w_468, w_469, w_22, w_467⟩
abbrev M_X3_sizesOf : MI := (yX3_sizesOf, cX3_sizesOf, 5, (some .int), 4)
theorem ok_X3_sizesOf : okM M_X3_sizesOf 1 = true := by decide +kernel
theorem w_470 : Cond.code yX3_sizesOf cX3_sizesOf 5 (some .int) ∈ wsL_law := tin_4 (List.mem_of_getElem? (i := 91) (by decide +kernel)) rfl
theorem w_471 : Cond.instanceMethod yX3_sizesOf ∈ wsL_law := tin_4 (List.mem_of_getElem? (i := 89) (by decide +kernel)) rfl
theorem w_472 : Cond.selects RX3 yX3_sizesOf yX3_sizesOf ∈ wsL_law := tin_4 (List.mem_of_getElem? (i := 90) (by decide +kernel)) rfl
theorem wd_X3_sizesOf : Wv M_X3_sizesOf := ⟨w_471, w_472, w_16, w_470⟩
abbrev M_X10_isBetter : MI := (yX10_isBetter, cX10_isBetter, 3, (some .boolean), 5)
theorem ok_X10_isBetter : okM M_X10_isBetter 2 = true := by decide +kernel
theorem w_473 : Cond.code yX10_isBetter cX10_isBetter 3 (some .boolean) ∈ wsL_law := tin_4 (List.mem_of_getElem? (i := 96) (by decide +kernel)) rfl
theorem w_474 : Cond.instanceMethod yX10_isBetter ∈ wsL_law := tin_4 (List.mem_of_getElem? (i := 95) (by decide +kernel)) rfl
theorem w_475 : Cond.selects RX10 yX10_isBetter yX10_isBetter ∈ wsL_law := tip_1 (q := (yX10_isBetter, 9)) (List.mem_of_getElem? (i := 14) (by decide +kernel))
theorem wd_X10_isBetter : Wv M_X10_isBetter := ⟨w_474, w_475, w_22, w_473⟩
abbrev M_X10_bestSet : MI := (yX10_bestSet, cX10_bestSet, 5, (some .int), 6)
theorem ok_X10_bestSet : okM M_X10_bestSet 1 = true := by decide +kernel
theorem w_476 : Cond.code yX10_bestSet cX10_bestSet 5 (some .int) ∈ wsL_law := tin_4 (List.mem_of_getElem? (i := 67) (by decide +kernel)) rfl
theorem w_477 : Cond.instanceMethod yX10_bestSet ∈ wsL_law := tin_4 (List.mem_of_getElem? (i := 65) (by decide +kernel)) rfl
theorem w_478 : Cond.selects RX10 yX10_bestSet yX10_bestSet ∈ wsL_law := tin_4 (List.mem_of_getElem? (i := 66) (by decide +kernel)) rfl
theorem wd_X10_bestSet : Wv M_X10_bestSet := ⟨w_477, w_478, w_22, w_476⟩
abbrev M_X10_workedOut : MI := (yX10_workedOut, cX10_workedOut, 2, (some .int), 1)
theorem ok_X10_workedOut : okM M_X10_workedOut 1 = true := by decide +kernel
theorem w_479 : Cond.code yX10_workedOut cX10_workedOut 2 (some .int) ∈ wsL_law := tin_4 (List.mem_of_getElem? (i := 100) (by decide +kernel)) rfl
theorem w_480 : Cond.instanceMethod yX10_workedOut ∈ wsL_law := tin_4 (List.mem_of_getElem? (i := 98) (by decide +kernel)) rfl
theorem w_481 : Cond.selects RX10 yX10_workedOut yX10_workedOut ∈ wsL_law := tin_4 (List.mem_of_getElem? (i := 99) (by decide +kernel)) rfl
theorem wd_X10_workedOut : Wv M_X10_workedOut := ⟨w_480, w_481, w_22, w_479⟩
abbrev M_X11_choose : MI := (yX11_choose, cX11_choose, 4, (some .int), 7)
theorem ok_X11_choose : okM M_X11_choose 2 = true := by decide +kernel
theorem w_482 : Cond.code yX11_choose cX11_choose 4 (some .int) ∈ wsL_law := tin_4 (List.mem_of_getElem? (i := 60) (by decide +kernel)) rfl
theorem w_483 : Cond.instanceMethod yX11_choose ∈ wsL_law := tin_4 (List.mem_of_getElem? (i := 58) (by decide +kernel)) rfl
theorem w_484 : Cond.selects RX11 yX11_choose yX11_choose ∈ wsL_law := tin_4 (List.mem_of_getElem? (i := 59) (by decide +kernel)) rfl
theorem wd_X11_choose : Wv M_X11_choose := ⟨w_483, w_484, w_31, w_482⟩
abbrev M_X10_nextStep : MI := (yX10_nextStep, cX10_nextStep, 8, (some .int), 5)
theorem ok_X10_nextStep : okM M_X10_nextStep 2 = true := by decide +kernel
theorem w_485 : Cond.code yX10_nextStep cX10_nextStep 8 (some .int) ∈ wsL_law := tin_4 (List.mem_of_getElem? (i := 113) (by decide +kernel)) rfl
theorem w_486 : Cond.instanceMethod yX10_nextStep ∈ wsL_law := tin_4 (List.mem_of_getElem? (i := 112) (by decide +kernel)) rfl
theorem w_487 : Cond.selects RX10 yX10_nextStep yX10_nextStep ∈ wsL_law := tip_1 (q := (yX10_nextStep, 9)) (List.mem_of_getElem? (i := 15) (by decide +kernel))
theorem wd_X10_nextStep : Wv M_X10_nextStep := ⟨w_486, w_487, w_22, w_485⟩
abbrev M_X10_stepByStep : MI := (yX10_stepByStep, cX10_stepByStep, 5, (some .int), 6)
theorem ok_X10_stepByStep : okM M_X10_stepByStep 1 = true := by decide +kernel
theorem w_488 : Cond.code yX10_stepByStep cX10_stepByStep 5 (some .int) ∈ wsL_law := tin_4 (List.mem_of_getElem? (i := 109) (by decide +kernel)) rfl
theorem w_489 : Cond.instanceMethod yX10_stepByStep ∈ wsL_law := tin_4 (List.mem_of_getElem? (i := 107) (by decide +kernel)) rfl
theorem w_490 : Cond.selects RX10 yX10_stepByStep yX10_stepByStep ∈ wsL_law := tin_4 (List.mem_of_getElem? (i := 108) (by decide +kernel)) rfl
theorem wd_X10_stepByStep : Wv M_X10_stepByStep := ⟨w_489, w_490, w_22, w_488⟩
abbrev M_X10_stepAt : MI := (yX10_stepAt, cX10_stepAt, 2, (some .int), 1)
theorem ok_X10_stepAt : okM M_X10_stepAt 1 = true := by decide +kernel
theorem w_491 : Cond.code yX10_stepAt cX10_stepAt 2 (some .int) ∈ wsL_law := tin_4 (List.mem_of_getElem? (i := 119) (by decide +kernel)) rfl
theorem w_492 : Cond.instanceMethod yX10_stepAt ∈ wsL_law := tin_4 (List.mem_of_getElem? (i := 117) (by decide +kernel)) rfl
theorem w_493 : Cond.selects RX10 yX10_stepAt yX10_stepAt ∈ wsL_law := tin_4 (List.mem_of_getElem? (i := 118) (by decide +kernel)) rfl
theorem wd_X10_stepAt : Wv M_X10_stepAt := ⟨w_492, w_493, w_22, w_491⟩
abbrev M_X11_steps : MI := (yX11_steps, cX11_steps, 5, (some .int), 7)
theorem ok_X11_steps : okM M_X11_steps 2 = true := by decide +kernel
theorem w_494 : Cond.code yX11_steps cX11_steps 5 (some .int) ∈ wsL_law := tin_4 (List.mem_of_getElem? (i := 105) (by decide +kernel)) rfl
theorem w_495 : Cond.instanceMethod yX11_steps ∈ wsL_law := tin_4 (List.mem_of_getElem? (i := 103) (by decide +kernel)) rfl
theorem w_496 : Cond.selects RX11 yX11_steps yX11_steps ∈ wsL_law := tin_4 (List.mem_of_getElem? (i := 104) (by decide +kernel)) rfl
theorem wd_X11_steps : Wv M_X11_steps := ⟨w_495, w_496, w_31, w_494⟩
abbrev M_X11_worth : MI := (yX11_worth, cX11_worth, 3, (some .int), 6)
theorem ok_X11_worth : okM M_X11_worth 2 = true := by decide +kernel
theorem w_497 : Cond.code yX11_worth cX11_worth 3 (some .int) ∈ wsL_law := tin_4 (List.mem_of_getElem? (i := 129) (by decide +kernel)) rfl
theorem w_498 : Cond.instanceMethod yX11_worth ∈ wsL_law := tin_4 (List.mem_of_getElem? (i := 127) (by decide +kernel)) rfl
theorem w_499 : Cond.selects RX11 yX11_worth yX11_worth ∈ wsL_law := tin_4 (List.mem_of_getElem? (i := 128) (by decide +kernel)) rfl
theorem wd_X11_worth : Wv M_X11_worth := ⟨w_498, w_499, w_31, w_497⟩
theorem w_500 : Cond.arrayClass .int ∈ wsL_law := tin_1 (List.mem_of_getElem? (i := 40) (by decide +kernel)) rfl
theorem w_501 : Cond.fieldLink RX1 9 "KeptOrders$Numbers" "held" "[I" ∈ wsL_law := tin_1 (List.mem_of_getElem? (i := 36) (by decide +kernel)) rfl
theorem w_502 : Cond.methodLink RX1 3 objectInit ∈ wsL_law := tin_1 (List.mem_of_getElem? (i := 35) (by decide +kernel)) rfl
theorem w_503 : Cond.instanceMethod objectInit ∈ wsL_law := tin_1 (List.mem_of_getElem? (i := 22) (by decide +kernel)) rfl
theorem w_504 : Cond.code objectInit ⟨#[0xb1]⟩ 1 none ∈ wsL_law := tin_1 (List.mem_of_getElem? (i := 23) (by decide +kernel)) rfl
theorem w_505 : Cond.classLink RX6 9 RX1 ∈ wsL_law := tin_1 (List.mem_of_getElem? (i := 47) (by decide +kernel)) rfl
theorem w_506 : Cond.instantiable RX1 1 ∈ wsL_law := tin_1 (List.mem_of_getElem? (i := 31) (by decide +kernel)) rfl
theorem w_507 : Cond.fieldLink RX6 14 "KeptOrders$Question" "leasts" "LKeptOrders$Numbers;" ∈ wsL_law := tin_1 (List.mem_of_getElem? (i := 49) (by decide +kernel)) rfl
theorem w_508 : Cond.fieldLink RX6 20 "KeptOrders$Question" "greatests" "LKeptOrders$Numbers;" ∈ wsL_law := tin_1 (List.mem_of_getElem? (i := 50) (by decide +kernel)) rfl
theorem w_509 : Cond.methodLink RX6 3 objectInit ∈ wsL_law := tin_1 (List.mem_of_getElem? (i := 46) (by decide +kernel)) rfl
theorem w_510 : Cond.methodLink RX6 11 yX1_init ∈ wsL_law := tin_1 (List.mem_of_getElem? (i := 48) (by decide +kernel)) rfl
theorem w_511 : Cond.classLink RX7 9 RX1 ∈ wsL_law := tin_1 (List.mem_of_getElem? (i := 30) (by decide +kernel)) rfl
theorem w_512 : Cond.fieldLink RX7 14 "KeptOrders$Sheet" "codes" "LKeptOrders$Numbers;" ∈ wsL_law := tin_1 (List.mem_of_getElem? (i := 71) (by decide +kernel)) rfl
theorem w_513 : Cond.classLink RX7 20 RX6 ∈ wsL_law := tin_1 (List.mem_of_getElem? (i := 41) (by decide +kernel)) rfl
theorem w_514 : Cond.instantiable RX6 7 ∈ wsL_law := tin_1 (List.mem_of_getElem? (i := 42) (by decide +kernel)) rfl
theorem w_515 : Cond.fieldLink RX7 23 "KeptOrders$Sheet" "draft" "LKeptOrders$Question;" ∈ wsL_law := tin_1 (List.mem_of_getElem? (i := 73) (by decide +kernel)) rfl
theorem w_516 : Cond.methodLink RX7 3 objectInit ∈ wsL_law := tin_1 (List.mem_of_getElem? (i := 29) (by decide +kernel)) rfl
theorem w_517 : Cond.methodLink RX7 11 yX1_init ∈ wsL_law := tin_1 (List.mem_of_getElem? (i := 32) (by decide +kernel)) rfl
theorem w_518 : Cond.classLink RX8 9 RX1 ∈ wsL_law := tin_1 (List.mem_of_getElem? (i := 106) (by decide +kernel)) rfl
theorem w_519 : Cond.fieldLink RX8 14 "KeptOrders$Table" "numbers" "LKeptOrders$Numbers;" ∈ wsL_law := tin_1 (List.mem_of_getElem? (i := 108) (by decide +kernel)) rfl
theorem w_520 : Cond.fieldLink RX8 20 "KeptOrders$Table" "wide" "I" ∈ wsL_law := tin_1 (List.mem_of_getElem? (i := 110) (by decide +kernel)) rfl
theorem w_521 : Cond.methodLink RX8 3 objectInit ∈ wsL_law := tin_1 (List.mem_of_getElem? (i := 105) (by decide +kernel)) rfl
theorem w_522 : Cond.methodLink RX8 11 yX1_init ∈ wsL_law := tin_1 (List.mem_of_getElem? (i := 107) (by decide +kernel)) rfl
theorem w_523 : Cond.classLink RX0 9 RX8 ∈ wsL_law := tin_1 (List.mem_of_getElem? (i := 99) (by decide +kernel)) rfl
theorem w_524 : Cond.fieldLink RX0 11 "KeptOrders$Marks" "list" "[LKeptOrders$Table;" ∈ wsL_law := tin_1 (List.mem_of_getElem? (i := 118) (by decide +kernel)) rfl
theorem w_525 : Cond.instantiable RX8 3 ∈ wsL_law := tin_1 (List.mem_of_getElem? (i := 101) (by decide +kernel)) rfl
theorem w_526 : Cond.methodLink RX0 3 objectInit ∈ wsL_law := tin_1 (List.mem_of_getElem? (i := 98) (by decide +kernel)) rfl
theorem w_527 : Cond.classLink RX3 9 RX2 ∈ wsL_law := tin_1 (List.mem_of_getElem? (i := 133) (by decide +kernel)) rfl
theorem w_528 : Cond.fieldLink RX3 11 "KeptOrders$Orders" "list" "[LKeptOrders$Order;" ∈ wsL_law := tin_1 (List.mem_of_getElem? (i := 136) (by decide +kernel)) rfl
theorem w_529 : Cond.fieldLink RX3 17 "KeptOrders$Orders" "table" "LKeptOrders$Table;" ∈ wsL_law := tin_1 (List.mem_of_getElem? (i := 135) (by decide +kernel)) rfl
theorem w_530 : Cond.methodLink RX3 3 objectInit ∈ wsL_law := tin_1 (List.mem_of_getElem? (i := 132) (by decide +kernel)) rfl
theorem w_531 : Cond.classLink RX9 9 RX1 ∈ wsL_law := tin_1 (List.mem_of_getElem? (i := 151) (by decide +kernel)) rfl
theorem w_532 : Cond.fieldLink RX9 14 "KeptOrders$Ways" "numbers" "LKeptOrders$Numbers;" ∈ wsL_law := tin_1 (List.mem_of_getElem? (i := 155) (by decide +kernel)) rfl
theorem w_533 : Cond.fieldLink RX9 20 "KeptOrders$Ways" "sets" "LKeptOrders$Numbers;" ∈ wsL_law := tin_1 (List.mem_of_getElem? (i := 156) (by decide +kernel)) rfl
theorem w_534 : Cond.fieldLink RX9 23 "KeptOrders$Ways" "costs" "LKeptOrders$Numbers;" ∈ wsL_law := tin_1 (List.mem_of_getElem? (i := 157) (by decide +kernel)) rfl
theorem w_535 : Cond.fieldLink RX9 26 "KeptOrders$Ways" "reaches" "LKeptOrders$Numbers;" ∈ wsL_law := tin_1 (List.mem_of_getElem? (i := 158) (by decide +kernel)) rfl
theorem w_536 : Cond.arrayClass .long ∈ wsL_law := tin_1 (List.mem_of_getElem? (i := 178) (by decide +kernel)) rfl
theorem w_537 : Cond.fieldLink RX9 29 "KeptOrders$Ways" "left" "[J" ∈ wsL_law := tin_1 (List.mem_of_getElem? (i := 159) (by decide +kernel)) rfl
theorem w_538 : Cond.fieldLink RX9 33 "KeptOrders$Ways" "table" "LKeptOrders$Table;" ∈ wsL_law := tin_1 (List.mem_of_getElem? (i := 153) (by decide +kernel)) rfl
theorem w_539 : Cond.fieldLink RX9 37 "KeptOrders$Ways" "orders" "LKeptOrders$Orders;" ∈ wsL_law := tin_1 (List.mem_of_getElem? (i := 154) (by decide +kernel)) rfl
theorem w_540 : Cond.methodLink RX9 3 objectInit ∈ wsL_law := tin_1 (List.mem_of_getElem? (i := 150) (by decide +kernel)) rfl
theorem w_541 : Cond.methodLink RX9 11 yX1_init ∈ wsL_law := tin_1 (List.mem_of_getElem? (i := 152) (by decide +kernel)) rfl
theorem w_542 : Cond.classLink RX10 9 RX6 ∈ wsL_law := tin_1 (List.mem_of_getElem? (i := 185) (by decide +kernel)) rfl
theorem w_543 : Cond.fieldLink RX10 11 "KeptOrders$Workload" "questions" "[LKeptOrders$Question;" ∈ wsL_law := tin_1 (List.mem_of_getElem? (i := 191) (by decide +kernel)) rfl
theorem w_544 : Cond.classLink RX10 17 RX1 ∈ wsL_law := tin_1 (List.mem_of_getElem? (i := 187) (by decide +kernel)) rfl
theorem w_545 : Cond.fieldLink RX10 22 "KeptOrders$Workload" "works" "LKeptOrders$Numbers;" ∈ wsL_law := tin_1 (List.mem_of_getElem? (i := 192) (by decide +kernel)) rfl
theorem w_546 : Cond.fieldLink RX10 26 "KeptOrders$Workload" "fewest" "LKeptOrders$Numbers;" ∈ wsL_law := tin_1 (List.mem_of_getElem? (i := 193) (by decide +kernel)) rfl
theorem w_547 : Cond.fieldLink RX10 29 "KeptOrders$Workload" "stepped" "LKeptOrders$Numbers;" ∈ wsL_law := tin_1 (List.mem_of_getElem? (i := 194) (by decide +kernel)) rfl
theorem w_548 : Cond.fieldLink RX10 32 "KeptOrders$Workload" "orders" "LKeptOrders$Orders;" ∈ wsL_law := tin_1 (List.mem_of_getElem? (i := 189) (by decide +kernel)) rfl
theorem w_549 : Cond.fieldLink RX10 36 "KeptOrders$Workload" "ways" "LKeptOrders$Ways;" ∈ wsL_law := tin_1 (List.mem_of_getElem? (i := 190) (by decide +kernel)) rfl
theorem w_550 : Cond.methodLink RX10 3 objectInit ∈ wsL_law := tin_1 (List.mem_of_getElem? (i := 184) (by decide +kernel)) rfl
theorem w_551 : Cond.methodLink RX10 19 yX1_init ∈ wsL_law := tin_1 (List.mem_of_getElem? (i := 188) (by decide +kernel)) rfl
theorem w_552 : Cond.classLink RX4 9 RX1 ∈ wsL_law := tin_1 (List.mem_of_getElem? (i := 232) (by decide +kernel)) rfl
theorem w_553 : Cond.fieldLink RX4 14 "KeptOrders$Picture" "counts" "LKeptOrders$Numbers;" ∈ wsL_law := tin_1 (List.mem_of_getElem? (i := 234) (by decide +kernel)) rfl
theorem w_554 : Cond.fieldLink RX4 20 "KeptOrders$Picture" "leasts" "LKeptOrders$Numbers;" ∈ wsL_law := tin_1 (List.mem_of_getElem? (i := 235) (by decide +kernel)) rfl
theorem w_555 : Cond.fieldLink RX4 23 "KeptOrders$Picture" "greatests" "LKeptOrders$Numbers;" ∈ wsL_law := tin_1 (List.mem_of_getElem? (i := 236) (by decide +kernel)) rfl
theorem w_556 : Cond.methodLink RX4 3 objectInit ∈ wsL_law := tin_1 (List.mem_of_getElem? (i := 231) (by decide +kernel)) rfl
theorem w_557 : Cond.methodLink RX4 11 yX1_init ∈ wsL_law := tin_1 (List.mem_of_getElem? (i := 233) (by decide +kernel)) rfl
theorem w_558 : Cond.classLink RX5 9 RX4 ∈ wsL_law := tin_1 (List.mem_of_getElem? (i := 223) (by decide +kernel)) rfl
theorem w_559 : Cond.fieldLink RX5 11 "KeptOrders$Pictures" "list" "[LKeptOrders$Picture;" ∈ wsL_law := tin_2 (List.mem_of_getElem? (i := 8) (by decide +kernel)) rfl
theorem w_560 : Cond.classLink RX5 17 RX1 ∈ wsL_law := tin_1 (List.mem_of_getElem? (i := 225) (by decide +kernel)) rfl
theorem w_561 : Cond.fieldLink RX5 22 "KeptOrders$Pictures" "sorted" "LKeptOrders$Numbers;" ∈ wsL_law := tin_2 (List.mem_of_getElem? (i := 9) (by decide +kernel)) rfl
theorem w_562 : Cond.fieldLink RX5 26 "KeptOrders$Pictures" "table" "LKeptOrders$Table;" ∈ wsL_law := tin_2 (List.mem_of_getElem? (i := 6) (by decide +kernel)) rfl
theorem w_563 : Cond.fieldLink RX5 30 "KeptOrders$Pictures" "orders" "LKeptOrders$Orders;" ∈ wsL_law := tin_2 (List.mem_of_getElem? (i := 7) (by decide +kernel)) rfl
theorem w_564 : Cond.instantiable RX4 4 ∈ wsL_law := tin_1 (List.mem_of_getElem? (i := 227) (by decide +kernel)) rfl
theorem w_565 : Cond.methodLink RX5 3 objectInit ∈ wsL_law := tin_1 (List.mem_of_getElem? (i := 222) (by decide +kernel)) rfl
theorem w_566 : Cond.methodLink RX5 19 yX1_init ∈ wsL_law := tin_1 (List.mem_of_getElem? (i := 226) (by decide +kernel)) rfl
theorem w_567 : Cond.classLink RX11 7 RX7 ∈ wsL_law := tin_1 (List.mem_of_getElem? (i := 24) (by decide +kernel)) rfl
theorem w_568 : Cond.instantiable RX7 7 ∈ wsL_law := tin_1 (List.mem_of_getElem? (i := 25) (by decide +kernel)) rfl
theorem w_569 : Cond.fieldLink RX11 10 "KeptOrders" "sheet" "LKeptOrders$Sheet;" ∈ wsL_law := tin_2 (List.mem_of_getElem? (i := 26) (by decide +kernel)) rfl
theorem w_570 : Cond.classLink RX11 16 RX0 ∈ wsL_law := tin_1 (List.mem_of_getElem? (i := 93) (by decide +kernel)) rfl
theorem w_571 : Cond.instantiable RX0 2 ∈ wsL_law := tin_1 (List.mem_of_getElem? (i := 94) (by decide +kernel)) rfl
theorem w_572 : Cond.fieldLink RX11 19 "KeptOrders" "marks" "LKeptOrders$Marks;" ∈ wsL_law := tin_2 (List.mem_of_getElem? (i := 27) (by decide +kernel)) rfl
theorem w_573 : Cond.classLink RX11 23 RX8 ∈ wsL_law := tin_1 (List.mem_of_getElem? (i := 125) (by decide +kernel)) rfl
theorem w_574 : Cond.classLink RX11 26 RX3 ∈ wsL_law := tin_1 (List.mem_of_getElem? (i := 127) (by decide +kernel)) rfl
theorem w_575 : Cond.instantiable RX3 3 ∈ wsL_law := tin_1 (List.mem_of_getElem? (i := 128) (by decide +kernel)) rfl
theorem w_576 : Cond.classLink RX11 31 RX9 ∈ wsL_law := tin_1 (List.mem_of_getElem? (i := 145) (by decide +kernel)) rfl
theorem w_577 : Cond.instantiable RX9 8 ∈ wsL_law := tin_1 (List.mem_of_getElem? (i := 146) (by decide +kernel)) rfl
theorem w_578 : Cond.fieldLink RX11 36 "KeptOrders" "table" "LKeptOrders$Table;" ∈ wsL_law := tin_2 (List.mem_of_getElem? (i := 21) (by decide +kernel)) rfl
theorem w_579 : Cond.fieldLink RX11 40 "KeptOrders" "orders" "LKeptOrders$Orders;" ∈ wsL_law := tin_2 (List.mem_of_getElem? (i := 22) (by decide +kernel)) rfl
theorem w_580 : Cond.fieldLink RX11 44 "KeptOrders" "ways" "LKeptOrders$Ways;" ∈ wsL_law := tin_2 (List.mem_of_getElem? (i := 23) (by decide +kernel)) rfl
theorem w_581 : Cond.classLink RX11 48 RX10 ∈ wsL_law := tin_1 (List.mem_of_getElem? (i := 179) (by decide +kernel)) rfl
theorem w_582 : Cond.instantiable RX10 9 ∈ wsL_law := tin_1 (List.mem_of_getElem? (i := 180) (by decide +kernel)) rfl
theorem w_583 : Cond.fieldLink RX11 53 "KeptOrders" "workload" "LKeptOrders$Workload;" ∈ wsL_law := tin_2 (List.mem_of_getElem? (i := 24) (by decide +kernel)) rfl
theorem w_584 : Cond.classLink RX11 57 RX5 ∈ wsL_law := tin_1 (List.mem_of_getElem? (i := 217) (by decide +kernel)) rfl
theorem w_585 : Cond.instantiable RX5 5 ∈ wsL_law := tin_1 (List.mem_of_getElem? (i := 218) (by decide +kernel)) rfl
theorem w_586 : Cond.fieldLink RX11 60 "KeptOrders" "pictures" "LKeptOrders$Pictures;" ∈ wsL_law := tin_2 (List.mem_of_getElem? (i := 25) (by decide +kernel)) rfl
theorem w_587 : Cond.methodLink RX11 1 objectInit ∈ wsL_law := tin_1 (List.mem_of_getElem? (i := 21) (by decide +kernel)) rfl
theorem w_588 : Cond.methodLink RX11 18 yX0_init ∈ wsL_law := tin_1 (List.mem_of_getElem? (i := 95) (by decide +kernel)) rfl
theorem w_589 : Cond.methodLink RX11 28 yX3_init ∈ wsL_law := tin_1 (List.mem_of_getElem? (i := 129) (by decide +kernel)) rfl
theorem w_590 : Cond.methodLink RX11 33 yX9_init ∈ wsL_law := tin_1 (List.mem_of_getElem? (i := 147) (by decide +kernel)) rfl
theorem w_591 : Cond.methodLink RX11 50 yX10_init ∈ wsL_law := tin_1 (List.mem_of_getElem? (i := 181) (by decide +kernel)) rfl
theorem w_592 : Cond.methodLink RX11 59 yX5_init ∈ wsL_law := tin_1 (List.mem_of_getElem? (i := 219) (by decide +kernel)) rfl
theorem w_593 : Cond.constant RL 7 (2147483647) ∈ wsL_law := tin_4 (List.mem_of_getElem? (i := 135) (by decide +kernel)) rfl
theorem w_594 : Cond.methodLink RX11 116 yX8_pageWidth ∈ wsL_law := tin_2 (List.mem_of_getElem? (i := 208) (by decide +kernel)) rfl
theorem w_595 : Cond.methodLink RX11 119 yX8_widen ∈ wsL_law := tin_2 (List.mem_of_getElem? (i := 212) (by decide +kernel)) rfl
theorem w_596 : Cond.fieldLink RX8 28 "KeptOrders$Table" "taken" "J" ∈ wsL_law := tin_1 (List.mem_of_getElem? (i := 109) (by decide +kernel)) rfl
theorem w_597 : Cond.methodLink RX8 48 yX1_put ∈ wsL_law := tin_2 (List.mem_of_getElem? (i := 67) (by decide +kernel)) rfl
theorem w_598 : Cond.fieldLink RX2 64 "KeptOrders$Order" "dropped" "Z" ∈ wsL_law := tin_3 (List.mem_of_getElem? (i := 22) (by decide +kernel)) rfl
theorem w_599 : Cond.methodLink RX3 25 yX2_isDropped ∈ wsL_law := tin_2 (List.mem_of_getElem? (i := 87) (by decide +kernel)) rfl
theorem w_600 : Cond.methodLink RX8 44 yX1_at ∈ wsL_law := tin_2 (List.mem_of_getElem? (i := 112) (by decide +kernel)) rfl
theorem w_601 : Cond.fieldLink RX2 34 "KeptOrders$Order" "width" "I" ∈ wsL_law := tin_3 (List.mem_of_getElem? (i := 13) (by decide +kernel)) rfl
theorem w_602 : Cond.fieldLink RX2 14 "KeptOrders$Order" "along" "LKeptOrders$Numbers;" ∈ wsL_law := tin_3 (List.mem_of_getElem? (i := 16) (by decide +kernel)) rfl
theorem w_603 : Cond.fieldLink RX2 26 "KeptOrders$Order" "table" "LKeptOrders$Table;" ∈ wsL_law := tin_3 (List.mem_of_getElem? (i := 11) (by decide +kernel)) rfl
theorem w_604 : Cond.methodLink RX2 68 yX1_at ∈ wsL_law := tin_2 (List.mem_of_getElem? (i := 100) (by decide +kernel)) rfl
theorem w_605 : Cond.methodLink RX2 121 yX8_number ∈ wsL_law := tin_2 (List.mem_of_getElem? (i := 108) (by decide +kernel)) rfl
theorem w_606 : Cond.fieldLink RX2 55 "KeptOrders$Order" "entries" "I" ∈ wsL_law := tin_3 (List.mem_of_getElem? (i := 19) (by decide +kernel)) rfl
theorem w_607 : Cond.fieldLink RX2 20 "KeptOrders$Order" "slots" "LKeptOrders$Numbers;" ∈ wsL_law := tin_3 (List.mem_of_getElem? (i := 17) (by decide +kernel)) rfl
theorem w_608 : Cond.methodLink RX2 118 yX2_isAhead ∈ wsL_law := tin_2 (List.mem_of_getElem? (i := 104) (by decide +kernel)) rfl
theorem w_609 : Cond.fieldLink RX2 58 "KeptOrders$Order" "leaves" "I" ∈ wsL_law := tin_3 (List.mem_of_getElem? (i := 20) (by decide +kernel)) rfl
theorem w_610 : Cond.fieldLink RX2 23 "KeptOrders$Order" "sizes" "LKeptOrders$Numbers;" ∈ wsL_law := tin_3 (List.mem_of_getElem? (i := 18) (by decide +kernel)) rfl
theorem w_611 : Cond.methodLink RX2 112 yX2_leafAt ∈ wsL_law := tin_2 (List.mem_of_getElem? (i := 117) (by decide +kernel)) rfl
theorem w_612 : Cond.methodLink RX1 15 yX1_at ∈ wsL_law := tin_2 (List.mem_of_getElem? (i := 125) (by decide +kernel)) rfl
theorem w_613 : Cond.methodLink RX1 19 yX1_put ∈ wsL_law := tin_2 (List.mem_of_getElem? (i := 126) (by decide +kernel)) rfl
theorem w_614 : Cond.methodLink RX11 423 yX11_quotient ∈ wsL_law := tin_2 (List.mem_of_getElem? (i := 139) (by decide +kernel)) rfl
theorem w_615 : Cond.fieldLink RX2 61 "KeptOrders$Order" "cuts" "I" ∈ wsL_law := tin_3 (List.mem_of_getElem? (i := 21) (by decide +kernel)) rfl
theorem w_616 : Cond.methodLink RX2 40 yX1_put ∈ wsL_law := tin_2 (List.mem_of_getElem? (i := 127) (by decide +kernel)) rfl
theorem w_617 : Cond.methodLink RX2 88 yX1_insert ∈ wsL_law := tin_2 (List.mem_of_getElem? (i := 121) (by decide +kernel)) rfl
theorem w_618 : Cond.fieldLink RX2 37 "KeptOrders$Order" "room" "I" ∈ wsL_law := tin_3 (List.mem_of_getElem? (i := 14) (by decide +kernel)) rfl
theorem w_619 : Cond.methodLink RX2 85 yX2_placeFor ∈ wsL_law := tin_2 (List.mem_of_getElem? (i := 95) (by decide +kernel)) rfl
theorem w_620 : Cond.methodLink RX2 100 yX2_leafFor ∈ wsL_law := tin_2 (List.mem_of_getElem? (i := 113) (by decide +kernel)) rfl
theorem w_621 : Cond.methodLink RX2 103 yX1_raise ∈ wsL_law := tin_2 (List.mem_of_getElem? (i := 128) (by decide +kernel)) rfl
theorem w_622 : Cond.methodLink RX2 106 yX2_cut ∈ wsL_law := tin_2 (List.mem_of_getElem? (i := 132) (by decide +kernel)) rfl
theorem w_623 : Cond.fieldLink RX3 21 "KeptOrders$Orders" "told" "I" ∈ wsL_law := tin_1 (List.mem_of_getElem? (i := 137) (by decide +kernel)) rfl
theorem w_624 : Cond.methodLink RX3 29 yX3_kept ∈ wsL_law := tin_2 (List.mem_of_getElem? (i := 83) (by decide +kernel)) rfl
theorem w_625 : Cond.methodLink RX3 47 yX2_entryComes ∈ wsL_law := tin_2 (List.mem_of_getElem? (i := 91) (by decide +kernel)) rfl
theorem w_626 : Cond.methodLink RX11 418 yX8_hold ∈ wsL_law := tin_2 (List.mem_of_getElem? (i := 75) (by decide +kernel)) rfl
theorem w_627 : Cond.methodLink RX11 93 yX3_entriesCome ∈ wsL_law := tin_2 (List.mem_of_getElem? (i := 79) (by decide +kernel)) rfl
theorem w_628 : Cond.constantLong RX11 102 (1103515245) ∈ wsL_law := tin_2 (List.mem_of_getElem? (i := 188) (by decide +kernel)) rfl
theorem w_629 : Cond.constantLong RX11 104 (12345) ∈ wsL_law := tin_2 (List.mem_of_getElem? (i := 189) (by decide +kernel)) rfl
theorem w_630 : Cond.constantLong RX11 106 (2147483647) ∈ wsL_law := tin_2 (List.mem_of_getElem? (i := 190) (by decide +kernel)) rfl
theorem w_631 : Cond.constantLong RX11 108 (65536) ∈ wsL_law := tin_2 (List.mem_of_getElem? (i := 191) (by decide +kernel)) rfl
theorem w_632 : Cond.methodLink RX11 68 yX8_emptySlot ∈ wsL_law := tin_2 (List.mem_of_getElem? (i := 56) (by decide +kernel)) rfl
theorem w_633 : Cond.methodLink RX11 110 yX11_rest ∈ wsL_law := tin_2 (List.mem_of_getElem? (i := 192) (by decide +kernel)) rfl
theorem w_634 : Cond.methodLink RX11 72 yX8_put ∈ wsL_law := tin_2 (List.mem_of_getElem? (i := 63) (by decide +kernel)) rfl
theorem w_635 : Cond.methodLink RX11 76 yX11_rowComes ∈ wsL_law := tin_2 (List.mem_of_getElem? (i := 71) (by decide +kernel)) rfl
theorem w_636 : Cond.fieldLink RX2 30 "KeptOrders$Order" "key" "I" ∈ wsL_law := tin_3 (List.mem_of_getElem? (i := 12) (by decide +kernel)) rfl
theorem w_637 : Cond.methodLink RX3 33 yX2_key ∈ wsL_law := tin_2 (List.mem_of_getElem? (i := 233) (by decide +kernel)) rfl
theorem w_638 : Cond.classLink RX2 9 RX1 ∈ wsL_law := tin_3 (List.mem_of_getElem? (i := 9) (by decide +kernel)) rfl
theorem w_639 : Cond.fieldLink RX2 48 "KeptOrders$Order" "columns" "I" ∈ wsL_law := tin_3 (List.mem_of_getElem? (i := 15) (by decide +kernel)) rfl
theorem w_640 : Cond.methodLink RX2 3 objectInit ∈ wsL_law := tin_3 (List.mem_of_getElem? (i := 8) (by decide +kernel)) rfl
theorem w_641 : Cond.methodLink RX2 11 yX1_init ∈ wsL_law := tin_3 (List.mem_of_getElem? (i := 10) (by decide +kernel)) rfl
theorem w_642 : Cond.methodLink RX2 95 Lib.Math.min.name ∈ wsL_law := tin_3 (List.mem_of_getElem? (i := 57) (by decide +kernel)) rfl
theorem w_643 : Cond.static Lib.Math.min.name ∈ wsL_law := tin_3 (List.mem_of_getElem? (i := 58) (by decide +kernel)) rfl
theorem w_644 : Cond.initialized RJ9 ∈ wsL_law := tin_1 (List.mem_of_getElem? (i := 13) (by decide +kernel)) rfl
theorem w_645 : Cond.code Lib.Math.min.name Lib.Math.min.code 2 (some .int) ∈ wsL_law := tin_3 (List.mem_of_getElem? (i := 59) (by decide +kernel)) rfl
theorem w_646 : Cond.methodLink RX2 79 yX8_holds ∈ wsL_law := tin_3 (List.mem_of_getElem? (i := 52) (by decide +kernel)) rfl
theorem w_647 : Cond.methodLink RX2 92 yX2_fillLeaves ∈ wsL_law := tin_3 (List.mem_of_getElem? (i := 53) (by decide +kernel)) rfl
theorem w_648 : Cond.instantiable RX2 12 ∈ wsL_law := tin_2 (List.mem_of_getElem? (i := 98) (by decide +kernel)) rfl
theorem w_649 : Cond.methodLink RX3 37 yX2_init ∈ wsL_law := tin_3 (List.mem_of_getElem? (i := 5) (by decide +kernel)) rfl
theorem w_650 : Cond.methodLink RX3 40 yX2_rebuild ∈ wsL_law := tin_3 (List.mem_of_getElem? (i := 48) (by decide +kernel)) rfl
theorem w_651 : Cond.methodLink RX11 122 yX2_isKey ∈ wsL_law := tin_2 (List.mem_of_getElem? (i := 220) (by decide +kernel)) rfl
theorem w_652 : Cond.methodLink RX11 127 yX3_haveKey ∈ wsL_law := tin_2 (List.mem_of_getElem? (i := 229) (by decide +kernel)) rfl
theorem w_653 : Cond.methodLink RX11 130 yX3_told ∈ wsL_law := tin_2 (List.mem_of_getElem? (i := 237) (by decide +kernel)) rfl
theorem w_654 : Cond.methodLink RX11 133 yX3_tell ∈ wsL_law := tin_3 (List.mem_of_getElem? (i := 1) (by decide +kernel)) rfl
theorem w_655 : Cond.methodLink RX11 113 yX11_isSlot ∈ wsL_law := tin_2 (List.mem_of_getElem? (i := 199) (by decide +kernel)) rfl
theorem w_656 : Cond.methodLink RX11 83 yX11_isColumn ∈ wsL_law := tin_2 (List.mem_of_getElem? (i := 200) (by decide +kernel)) rfl
theorem w_657 : Cond.methodLink RX11 80 yX8_holds ∈ wsL_law := tin_2 (List.mem_of_getElem? (i := 146) (by decide +kernel)) rfl
theorem w_658 : Cond.methodLink RX11 86 yX8_number ∈ wsL_law := tin_2 (List.mem_of_getElem? (i := 203) (by decide +kernel)) rfl
theorem w_659 : Cond.methodLink RX2 109 yX1_placeOf ∈ wsL_law := tin_2 (List.mem_of_getElem? (i := 161) (by decide +kernel)) rfl
theorem w_660 : Cond.methodLink RX2 115 yX1_remove ∈ wsL_law := tin_2 (List.mem_of_getElem? (i := 165) (by decide +kernel)) rfl
theorem w_661 : Cond.methodLink RX3 43 yX2_entryGoes ∈ wsL_law := tin_2 (List.mem_of_getElem? (i := 157) (by decide +kernel)) rfl
theorem w_662 : Cond.constantLong RX8 36 (-1) ∈ wsL_law := tin_2 (List.mem_of_getElem? (i := 173) (by decide +kernel)) rfl
theorem w_663 : Cond.constantLong RJ13 314 (6148914691236517205) ∈ wsL_law := tin_2 (List.mem_of_getElem? (i := 181) (by decide +kernel)) rfl
theorem w_664 : Cond.constantLong RJ13 316 (3689348814741910323) ∈ wsL_law := tin_2 (List.mem_of_getElem? (i := 182) (by decide +kernel)) rfl
theorem w_665 : Cond.constantLong RJ13 318 (1085102592571150095) ∈ wsL_law := tin_2 (List.mem_of_getElem? (i := 183) (by decide +kernel)) rfl
theorem w_666 : Cond.methodLink RX8 38 yJ13_bitCount_95d88 ∈ wsL_law := tin_2 (List.mem_of_getElem? (i := 178) (by decide +kernel)) rfl
theorem w_667 : Cond.methodLink RX11 90 yX3_entriesGo ∈ wsL_law := tin_2 (List.mem_of_getElem? (i := 153) (by decide +kernel)) rfl
theorem w_668 : Cond.methodLink RX11 96 yX8_release ∈ wsL_law := tin_2 (List.mem_of_getElem? (i := 169) (by decide +kernel)) rfl
theorem w_669 : Cond.methodLink RX11 99 yX8_rows ∈ wsL_law := tin_2 (List.mem_of_getElem? (i := 174) (by decide +kernel)) rfl
theorem w_670 : Cond.methodLink RX11 64 yX11_isNumber ∈ wsL_law := tin_2 (List.mem_of_getElem? (i := 53) (by decide +kernel)) rfl
theorem w_671 : Cond.constantLong RX11 421 (255) ∈ wsL_law := tin_4 (List.mem_of_getElem? (i := 155) (by decide +kernel)) rfl
theorem w_672 : Cond.methodLink RX11 175 yX11_byteOf ∈ wsL_law := tin_4 (List.mem_of_getElem? (i := 152) (by decide +kernel)) rfl
theorem w_673 : Cond.fieldLink RX7 27 "KeptOrders$Sheet" "length" "I" ∈ wsL_law := tin_1 (List.mem_of_getElem? (i := 72) (by decide +kernel)) rfl
theorem w_674 : Cond.methodLink RX7 35 yX1_put ∈ wsL_law := tin_4 (List.mem_of_getElem? (i := 164) (by decide +kernel)) rfl
theorem w_675 : Cond.methodLink RX11 168 yX11_lettersIn ∈ wsL_law := tin_4 (List.mem_of_getElem? (i := 149) (by decide +kernel)) rfl
theorem w_676 : Cond.methodLink RX11 172 yX7_length ∈ wsL_law := tin_4 (List.mem_of_getElem? (i := 156) (by decide +kernel)) rfl
theorem w_677 : Cond.methodLink RX11 179 yX7_write ∈ wsL_law := tin_4 (List.mem_of_getElem? (i := 160) (by decide +kernel)) rfl
theorem w_678 : Cond.methodLink RL 8 yX11_letters ∈ wsL_law := tin_4 (List.mem_of_getElem? (i := 145) (by decide +kernel)) rfl
theorem w_679 : Cond.fieldLink RX6 27 "KeptOrders$Question" "bound" "I" ∈ wsL_law := tin_1 (List.mem_of_getElem? (i := 51) (by decide +kernel)) rfl
theorem w_680 : Cond.fieldLink RX6 31 "KeptOrders$Question" "fixed" "I" ∈ wsL_law := tin_1 (List.mem_of_getElem? (i := 52) (by decide +kernel)) rfl
theorem w_681 : Cond.fieldLink RX6 34 "KeptOrders$Question" "shown" "I" ∈ wsL_law := tin_1 (List.mem_of_getElem? (i := 53) (by decide +kernel)) rfl
theorem w_682 : Cond.fieldLink RX6 37 "KeptOrders$Question" "sortColumn" "I" ∈ wsL_law := tin_1 (List.mem_of_getElem? (i := 54) (by decide +kernel)) rfl
theorem w_683 : Cond.fieldLink RX6 40 "KeptOrders$Question" "heft" "I" ∈ wsL_law := tin_1 (List.mem_of_getElem? (i := 55) (by decide +kernel)) rfl
theorem w_684 : Cond.methodLink RX6 23 yX1_put ∈ wsL_law := tin_4 (List.mem_of_getElem? (i := 179) (by decide +kernel)) rfl
theorem w_685 : Cond.fieldLink RX7 42 "KeptOrders$Sheet" "state" "I" ∈ wsL_law := tin_1 (List.mem_of_getElem? (i := 74) (by decide +kernel)) rfl
theorem w_686 : Cond.fieldLink RX7 77 "KeptOrders$Sheet" "column" "I" ∈ wsL_law := tin_1 (List.mem_of_getElem? (i := 75) (by decide +kernel)) rfl
theorem w_687 : Cond.methodLink RX7 74 yX7_isLetter ∈ wsL_law := tin_4 (List.mem_of_getElem? (i := 193) (by decide +kernel)) rfl
theorem w_688 : Cond.methodLink RX7 49 yX7_moves ∈ wsL_law := tin_4 (List.mem_of_getElem? (i := 185) (by decide +kernel)) rfl
theorem w_689 : Cond.fieldLink RX7 80 "KeptOrders$Sheet" "sign" "I" ∈ wsL_law := tin_1 (List.mem_of_getElem? (i := 76) (by decide +kernel)) rfl
theorem w_690 : Cond.fieldLink RX7 62 "KeptOrders$Sheet" "number" "I" ∈ wsL_law := tin_1 (List.mem_of_getElem? (i := 77) (by decide +kernel)) rfl
theorem w_691 : Cond.methodLink RX6 43 yX1_at ∈ wsL_law := tin_3 (List.mem_of_getElem? (i := 99) (by decide +kernel)) rfl
theorem w_692 : Cond.methodLink RX6 47 Lib.Math.max.name ∈ wsL_law := tin_4 (List.mem_of_getElem? (i := 212) (by decide +kernel)) rfl
theorem w_693 : Cond.static Lib.Math.max.name ∈ wsL_law := tin_4 (List.mem_of_getElem? (i := 213) (by decide +kernel)) rfl
theorem w_694 : Cond.code Lib.Math.max.name Lib.Math.max.code 2 (some .int) ∈ wsL_law := tin_4 (List.mem_of_getElem? (i := 214) (by decide +kernel)) rfl
theorem w_695 : Cond.methodLink RX6 53 Lib.Math.min.name ∈ wsL_law := tin_4 (List.mem_of_getElem? (i := 215) (by decide +kernel)) rfl
theorem w_696 : Cond.methodLink RX7 83 yX6_narrow ∈ wsL_law := tin_4 (List.mem_of_getElem? (i := 208) (by decide +kernel)) rfl
theorem w_697 : Cond.methodLink RX7 87 yX6_shows ∈ wsL_law := tin_4 (List.mem_of_getElem? (i := 221) (by decide +kernel)) rfl
theorem w_698 : Cond.methodLink RX7 90 yX6_show ∈ wsL_law := tin_4 (List.mem_of_getElem? (i := 225) (by decide +kernel)) rfl
theorem w_699 : Cond.methodLink RX7 93 yX6_sortBy ∈ wsL_law := tin_4 (List.mem_of_getElem? (i := 233) (by decide +kernel)) rfl
theorem w_700 : Cond.methodLink RX7 52 yX7_takesColumn ∈ wsL_law := tin_4 (List.mem_of_getElem? (i := 189) (by decide +kernel)) rfl
theorem w_701 : Cond.methodLink RX7 55 yX7_takesSign ∈ wsL_law := tin_4 (List.mem_of_getElem? (i := 196) (by decide +kernel)) rfl
theorem w_702 : Cond.methodLink RX7 58 yX7_takesDigit ∈ wsL_law := tin_4 (List.mem_of_getElem? (i := 200) (by decide +kernel)) rfl
theorem w_703 : Cond.methodLink RX7 65 yX7_endsCondition ∈ wsL_law := tin_4 (List.mem_of_getElem? (i := 204) (by decide +kernel)) rfl
theorem w_704 : Cond.methodLink RX7 68 yX7_takesShown ∈ wsL_law := tin_4 (List.mem_of_getElem? (i := 217) (by decide +kernel)) rfl
theorem w_705 : Cond.methodLink RX7 71 yX7_takesSort ∈ wsL_law := tin_4 (List.mem_of_getElem? (i := 229) (by decide +kernel)) rfl
theorem w_706 : Cond.methodLink RX7 39 yX6_clear ∈ wsL_law := tin_4 (List.mem_of_getElem? (i := 175) (by decide +kernel)) rfl
theorem w_707 : Cond.methodLink RX7 31 yX1_at ∈ wsL_law := tin_4 (List.mem_of_getElem? (i := 180) (by decide +kernel)) rfl
theorem w_708 : Cond.methodLink RX7 45 yX7_takes ∈ wsL_law := tin_4 (List.mem_of_getElem? (i := 181) (by decide +kernel)) rfl
theorem w_709 : Cond.methodLink RX11 185 yX7_read ∈ wsL_law := tin_4 (List.mem_of_getElem? (i := 171) (by decide +kernel)) rfl
theorem w_710 : Cond.methodLink RX8 52 yX8_pagesOf ∈ wsL_law := tin_3 (List.mem_of_getElem? (i := 177) (by decide +kernel)) rfl
theorem w_711 : Cond.constant RJ6 265 (1431655765) ∈ wsL_law := tin_4 (List.mem_of_getElem? (i := 123) (by decide +kernel)) rfl
theorem w_712 : Cond.constant RJ6 266 (858993459) ∈ wsL_law := tin_4 (List.mem_of_getElem? (i := 124) (by decide +kernel)) rfl
theorem w_713 : Cond.constant RJ6 267 (252645135) ∈ wsL_law := tin_4 (List.mem_of_getElem? (i := 125) (by decide +kernel)) rfl
theorem w_714 : Cond.fieldLink RX10 40 "KeptOrders$Workload" "asked" "I" ∈ wsL_law := tin_1 (List.mem_of_getElem? (i := 195) (by decide +kernel)) rfl
theorem w_715 : Cond.fieldLink RX0 18 "KeptOrders$Marks" "marked" "I" ∈ wsL_law := tin_1 (List.mem_of_getElem? (i := 119) (by decide +kernel)) rfl
theorem w_716 : Cond.fieldLink RX11 271 "KeptOrders" "choices" "I" ∈ wsL_law := tin_2 (List.mem_of_getElem? (i := 28) (by decide +kernel)) rfl
theorem w_717 : Cond.fieldLink RX11 284 "KeptOrders" "stepwise" "I" ∈ wsL_law := tin_2 (List.mem_of_getElem? (i := 29) (by decide +kernel)) rfl
theorem w_718 : Cond.methodLink RX11 365 yX8_fullPages ∈ wsL_law := tin_5 (List.mem_of_getElem? (i := 1) (by decide +kernel)) rfl
theorem w_719 : Cond.methodLink RX11 368 yX3_keptSet ∈ wsL_law := tin_5 (List.mem_of_getElem? (i := 2) (by decide +kernel)) rfl
theorem w_720 : Cond.methodLink RX11 293 yJ6_bitCount_0f7a4 ∈ wsL_law := tin_4 (List.mem_of_getElem? (i := 120) (by decide +kernel)) rfl
theorem w_721 : Cond.methodLink RX11 192 yX10_asked ∈ wsL_law := tin_5 (List.mem_of_getElem? (i := 3) (by decide +kernel)) rfl
theorem w_722 : Cond.methodLink RX11 371 yX0_marked ∈ wsL_law := tin_5 (List.mem_of_getElem? (i := 7) (by decide +kernel)) rfl
theorem w_723 : Cond.methodLink RX11 188 yX7_isWhole ∈ wsL_law := tin_5 (List.mem_of_getElem? (i := 15) (by decide +kernel)) rfl
theorem w_724 : Cond.methodLink RX11 195 yX7_handOver ∈ wsL_law := tin_5 (List.mem_of_getElem? (i := 19) (by decide +kernel)) rfl
theorem w_725 : Cond.methodLink RX11 199 yX10_add ∈ wsL_law := tin_5 (List.mem_of_getElem? (i := 23) (by decide +kernel)) rfl
theorem w_726 : Cond.methodLink RX11 182 yX7_clear ∈ wsL_law := tin_5 (List.mem_of_getElem? (i := 27) (by decide +kernel)) rfl
theorem w_727 : Cond.constant RL 24 (65536) ∈ wsL_law := tin_4 (List.mem_of_getElem? (i := 165) (by decide +kernel)) rfl
theorem w_728 : Cond.constant RL 25 (131072) ∈ wsL_law := tin_4 (List.mem_of_getElem? (i := 166) (by decide +kernel)) rfl
theorem w_729 : Cond.methodLink RL 20 yL_put ∈ wsL_law := tin_4 (List.mem_of_getElem? (i := 142) (by decide +kernel)) rfl
theorem w_730 : Cond.methodLink RL 26 yX11_good ∈ wsL_law := tin_4 (List.mem_of_getElem? (i := 167) (by decide +kernel)) rfl
theorem w_731 : Cond.methodLink RL 30 yX11_count ∈ wsL_law := tin_4 (List.mem_of_getElem? (i := 237) (by decide +kernel)) rfl
theorem w_732 : Cond.methodLink RL 34 yX11_ask ∈ wsL_law := tin_5 (List.mem_of_getElem? (i := 11) (by decide +kernel)) rfl
theorem w_733 : Cond.methodLink RX11 203 yX10_question ∈ wsL_law := tin_3 (List.mem_of_getElem? (i := 87) (by decide +kernel)) rfl
theorem w_734 : Cond.methodLink RX11 218 yX6_heft ∈ wsL_law := tin_3 (List.mem_of_getElem? (i := 110) (by decide +kernel)) rfl
theorem w_735 : Cond.methodLink RX11 221 yX6_weigh ∈ wsL_law := tin_3 (List.mem_of_getElem? (i := 114) (by decide +kernel)) rfl
theorem w_736 : Cond.methodLink RL 37 yX11_get ∈ wsL_law := tin_2 (List.mem_of_getElem? (i := 195) (by decide +kernel)) rfl
theorem w_737 : Cond.methodLink RX6 66 yX6_least ∈ wsL_law := tin_3 (List.mem_of_getElem? (i := 95) (by decide +kernel)) rfl
theorem w_738 : Cond.methodLink RX6 69 yX6_greatest ∈ wsL_law := tin_3 (List.mem_of_getElem? (i := 100) (by decide +kernel)) rfl
theorem w_739 : Cond.methodLink RX11 207 yX6_letsNone ∈ wsL_law := tin_3 (List.mem_of_getElem? (i := 91) (by decide +kernel)) rfl
theorem w_740 : Cond.methodLink RX11 212 yX6_least ∈ wsL_law := tin_3 (List.mem_of_getElem? (i := 104) (by decide +kernel)) rfl
theorem w_741 : Cond.methodLink RX11 215 yX6_greatest ∈ wsL_law := tin_3 (List.mem_of_getElem? (i := 105) (by decide +kernel)) rfl
theorem w_742 : Cond.methodLink RX6 76 yX8_taken ∈ wsL_law := tin_3 (List.mem_of_getElem? (i := 126) (by decide +kernel)) rfl
theorem w_743 : Cond.methodLink RX6 82 yX8_rowsWithin ∈ wsL_law := tin_3 (List.mem_of_getElem? (i := 131) (by decide +kernel)) rfl
theorem w_744 : Cond.methodLink RX6 101 yX8_number ∈ wsL_law := tin_3 (List.mem_of_getElem? (i := 154) (by decide +kernel)) rfl
theorem w_745 : Cond.methodLink RX6 97 yX6_sortNumber ∈ wsL_law := tin_3 (List.mem_of_getElem? (i := 150) (by decide +kernel)) rfl
theorem w_746 : Cond.methodLink RX6 86 yX6_rowsWithin ∈ wsL_law := tin_3 (List.mem_of_getElem? (i := 144) (by decide +kernel)) rfl
theorem w_747 : Cond.methodLink RX6 93 yX6_rowsAhead ∈ wsL_law := tin_3 (List.mem_of_getElem? (i := 146) (by decide +kernel)) rfl
theorem w_748 : Cond.methodLink RX11 233 yX6_placed ∈ wsL_law := tin_3 (List.mem_of_getElem? (i := 140) (by decide +kernel)) rfl
theorem w_749 : Cond.methodLink RX11 224 yX6_rowsWithin ∈ wsL_law := tin_3 (List.mem_of_getElem? (i := 122) (by decide +kernel)) rfl
theorem w_750 : Cond.methodLink RX11 228 yJ13_bitCount_95d88 ∈ wsL_law := tin_3 (List.mem_of_getElem? (i := 135) (by decide +kernel)) rfl
theorem w_751 : Cond.methodLink RX2 75 yX2_height ∈ wsL_law := tin_3 (List.mem_of_getElem? (i := 78) (by decide +kernel)) rfl
theorem w_752 : Cond.methodLink RX11 137 yX3_kept ∈ wsL_law := tin_3 (List.mem_of_getElem? (i := 64) (by decide +kernel)) rfl
theorem w_753 : Cond.methodLink RX11 150 yX2_key ∈ wsL_law := tin_3 (List.mem_of_getElem? (i := 65) (by decide +kernel)) rfl
theorem w_754 : Cond.methodLink RX11 153 yX2_leaves ∈ wsL_law := tin_3 (List.mem_of_getElem? (i := 66) (by decide +kernel)) rfl
theorem w_755 : Cond.methodLink RX11 156 yX2_height ∈ wsL_law := tin_3 (List.mem_of_getElem? (i := 70) (by decide +kernel)) rfl
theorem w_756 : Cond.methodLink RX11 144 yX2_size ∈ wsL_law := tin_3 (List.mem_of_getElem? (i := 74) (by decide +kernel)) rfl
theorem w_757 : Cond.methodLink RX11 159 yX2_cuts ∈ wsL_law := tin_3 (List.mem_of_getElem? (i := 79) (by decide +kernel)) rfl
theorem w_758 : Cond.methodLink RL 40 yL_column ∈ wsL_law := tin_5 (List.mem_of_getElem? (i := 52) (by decide +kernel)) rfl
theorem w_759 : Cond.methodLink RL 43 yL_fixed ∈ wsL_law := tin_5 (List.mem_of_getElem? (i := 40) (by decide +kernel)) rfl
theorem w_760 : Cond.methodLink RL 47 yL_bound ∈ wsL_law := tin_5 (List.mem_of_getElem? (i := 55) (by decide +kernel)) rfl
theorem w_761 : Cond.methodLink RX11 165 yX2_entriesInLeaf ∈ wsL_law := tin_5 (List.mem_of_getElem? (i := 62) (by decide +kernel)) rfl
theorem w_762 : Cond.methodLink RX11 162 yX2_slotAt ∈ wsL_law := tin_5 (List.mem_of_getElem? (i := 70) (by decide +kernel)) rfl
theorem w_763 : Cond.methodLink RL 50 yX11_about ∈ wsL_law := tin_3 (List.mem_of_getElem? (i := 60) (by decide +kernel)) rfl
theorem w_764 : Cond.methodLink RL 53 yL_run ∈ wsL_law := tin_5 (List.mem_of_getElem? (i := 49) (by decide +kernel)) rfl
theorem w_765 : Cond.methodLink RL 57 yX11_leaf ∈ wsL_law := tin_5 (List.mem_of_getElem? (i := 58) (by decide +kernel)) rfl
theorem w_766 : Cond.methodLink RL 60 yX11_entry ∈ wsL_law := tin_5 (List.mem_of_getElem? (i := 66) (by decide +kernel)) rfl
theorem w_767 : Cond.methodLink RL 63 yL_within ∈ wsL_law := tin_5 (List.mem_of_getElem? (i := 31) (by decide +kernel)) rfl
theorem w_768 : Cond.methodLink RL 67 yL_all ∈ wsL_law := tin_5 (List.mem_of_getElem? (i := 37) (by decide +kernel)) rfl
theorem w_769 : Cond.methodLink RL 71 yL_pages ∈ wsL_law := tin_5 (List.mem_of_getElem? (i := 43) (by decide +kernel)) rfl
theorem w_770 : Cond.methodLink RL 75 yL_leaves ∈ wsL_law := tin_5 (List.mem_of_getElem? (i := 46) (by decide +kernel)) rfl
theorem w_771 : Cond.methodLink RX6 72 yX6_isFixed ∈ wsL_law := tin_3 (List.mem_of_getElem? (i := 167) (by decide +kernel)) rfl
theorem w_772 : Cond.fieldLink RX9 57 "KeptOrders$Ways" "listed" "I" ∈ wsL_law := tin_1 (List.mem_of_getElem? (i := 160) (by decide +kernel)) rfl
theorem w_773 : Cond.methodLink RX9 99 yX1_put ∈ wsL_law := tin_3 (List.mem_of_getElem? (i := 185) (by decide +kernel)) rfl
theorem w_774 : Cond.methodLink RX2 124 yX6_isBound ∈ wsL_law := tin_3 (List.mem_of_getElem? (i := 199) (by decide +kernel)) rfl
theorem w_775 : Cond.methodLink RX2 129 yX6_isFixed ∈ wsL_law := tin_3 (List.mem_of_getElem? (i := 203) (by decide +kernel)) rfl
theorem w_776 : Cond.methodLink RX2 132 yX2_hasSome ∈ wsL_law := tin_3 (List.mem_of_getElem? (i := 209) (by decide +kernel)) rfl
theorem w_777 : Cond.methodLink RX2 140 yX6_usedColumns ∈ wsL_law := tin_3 (List.mem_of_getElem? (i := 218) (by decide +kernel)) rfl
theorem w_778 : Cond.methodLink RX2 143 yX6_sortColumn ∈ wsL_law := tin_3 (List.mem_of_getElem? (i := 229) (by decide +kernel)) rfl
theorem w_779 : Cond.methodLink RX9 78 yX3_kept ∈ wsL_law := tin_3 (List.mem_of_getElem? (i := 190) (by decide +kernel)) rfl
theorem w_780 : Cond.methodLink RX9 84 yX2_columns ∈ wsL_law := tin_3 (List.mem_of_getElem? (i := 191) (by decide +kernel)) rfl
theorem w_781 : Cond.methodLink RX9 47 yX6_rowsWithin ∈ wsL_law := tin_3 (List.mem_of_getElem? (i := 171) (by decide +kernel)) rfl
theorem w_782 : Cond.methodLink RX9 89 yX2_runColumns ∈ wsL_law := tin_3 (List.mem_of_getElem? (i := 195) (by decide +kernel)) rfl
theorem w_783 : Cond.methodLink RX9 93 yX2_height ∈ wsL_law := tin_3 (List.mem_of_getElem? (i := 204) (by decide +kernel)) rfl
theorem w_784 : Cond.methodLink RX9 96 yX2_leavesOf ∈ wsL_law := tin_3 (List.mem_of_getElem? (i := 205) (by decide +kernel)) rfl
theorem w_785 : Cond.methodLink RX9 103 yX2_covers ∈ wsL_law := tin_3 (List.mem_of_getElem? (i := 214) (by decide +kernel)) rfl
theorem w_786 : Cond.methodLink RX9 107 yX8_pagesOf ∈ wsL_law := tin_3 (List.mem_of_getElem? (i := 223) (by decide +kernel)) rfl
theorem w_787 : Cond.methodLink RX9 114 yX2_sortsFor ∈ wsL_law := tin_3 (List.mem_of_getElem? (i := 225) (by decide +kernel)) rfl
theorem w_788 : Cond.methodLink RX9 67 yX9_add ∈ wsL_law := tin_3 (List.mem_of_getElem? (i := 181) (by decide +kernel)) rfl
theorem w_789 : Cond.methodLink RX9 117 yX1_at ∈ wsL_law := tin_3 (List.mem_of_getElem? (i := 237) (by decide +kernel)) rfl
theorem w_790 : Cond.methodLink RX9 121 yX9_leftBy ∈ wsL_law := tin_3 (List.mem_of_getElem? (i := 238) (by decide +kernel)) rfl
theorem w_791 : Cond.methodLink RX9 41 yX6_mustSort ∈ wsL_law := tin_3 (List.mem_of_getElem? (i := 163) (by decide +kernel)) rfl
theorem w_792 : Cond.methodLink RX9 51 yJ13_bitCount_95d88 ∈ wsL_law := tin_3 (List.mem_of_getElem? (i := 172) (by decide +kernel)) rfl
theorem w_793 : Cond.methodLink RX9 61 yX8_fullPages ∈ wsL_law := tin_3 (List.mem_of_getElem? (i := 173) (by decide +kernel)) rfl
theorem w_794 : Cond.methodLink RX9 71 yX9_listAlone ∈ wsL_law := tin_3 (List.mem_of_getElem? (i := 186) (by decide +kernel)) rfl
theorem w_795 : Cond.methodLink RX9 75 yX9_listBoth ∈ wsL_law := tin_3 (List.mem_of_getElem? (i := 233) (by decide +kernel)) rfl
theorem w_796 : Cond.methodLink RX9 125 yX1_placeOf ∈ wsL_law := tin_4 (List.mem_of_getElem? (i := 6) (by decide +kernel)) rfl
theorem w_797 : Cond.methodLink RX11 237 yX9_list ∈ wsL_law := tin_3 (List.mem_of_getElem? (i := 159) (by decide +kernel)) rfl
theorem w_798 : Cond.methodLink RX11 241 yX9_placeOf ∈ wsL_law := tin_4 (List.mem_of_getElem? (i := 2) (by decide +kernel)) rfl
theorem w_799 : Cond.methodLink RX11 244 yX9_costAt ∈ wsL_law := tin_4 (List.mem_of_getElem? (i := 7) (by decide +kernel)) rfl
theorem w_800 : Cond.fieldLink RX10 44 "KeptOrders$Workload" "upkeepNow" "I" ∈ wsL_law := tin_1 (List.mem_of_getElem? (i := 197) (by decide +kernel)) rfl
theorem w_801 : Cond.methodLink RX11 262 yX10_upkeepNow ∈ wsL_law := tin_4 (List.mem_of_getElem? (i := 49) (by decide +kernel)) rfl
theorem w_802 : Cond.methodLink RX11 265 yX10_setUpkeep ∈ wsL_law := tin_4 (List.mem_of_getElem? (i := 53) (by decide +kernel)) rfl
theorem w_803 : Cond.methodLink RX11 250 yX11_isSet ∈ wsL_law := tin_4 (List.mem_of_getElem? (i := 15) (by decide +kernel)) rfl
theorem w_804 : Cond.methodLink RX11 253 yX9_bestPlace ∈ wsL_law := tin_4 (List.mem_of_getElem? (i := 18) (by decide +kernel)) rfl
theorem w_805 : Cond.methodLink RX11 256 yX9_numberAt ∈ wsL_law := tin_4 (List.mem_of_getElem? (i := 22) (by decide +kernel)) rfl
theorem w_806 : Cond.methodLink RX3 61 yX2_height ∈ wsL_law := tin_4 (List.mem_of_getElem? (i := 39) (by decide +kernel)) rfl
theorem w_807 : Cond.methodLink RX10 47 yX3_burdenOf ∈ wsL_law := tin_4 (List.mem_of_getElem? (i := 34) (by decide +kernel)) rfl
theorem w_808 : Cond.methodLink RX10 53 yX10_question ∈ wsL_law := tin_4 (List.mem_of_getElem? (i := 40) (by decide +kernel)) rfl
theorem w_809 : Cond.methodLink RX10 57 yX9_list ∈ wsL_law := tin_4 (List.mem_of_getElem? (i := 41) (by decide +kernel)) rfl
theorem w_810 : Cond.methodLink RX10 63 yX6_heft ∈ wsL_law := tin_4 (List.mem_of_getElem? (i := 42) (by decide +kernel)) rfl
theorem w_811 : Cond.methodLink RX10 67 yX9_bestPlace ∈ wsL_law := tin_4 (List.mem_of_getElem? (i := 43) (by decide +kernel)) rfl
theorem w_812 : Cond.methodLink RX10 70 yX9_costAt ∈ wsL_law := tin_4 (List.mem_of_getElem? (i := 44) (by decide +kernel)) rfl
theorem w_813 : Cond.methodLink RX11 259 yX10_workOf ∈ wsL_law := tin_4 (List.mem_of_getElem? (i := 30) (by decide +kernel)) rfl
theorem w_814 : Cond.methodLink RX9 128 Lib.Math.min.name ∈ wsL_law := tin_4 (List.mem_of_getElem? (i := 77) (by decide +kernel)) rfl
theorem w_815 : Cond.methodLink RX10 93 yX1_put ∈ wsL_law := tin_4 (List.mem_of_getElem? (i := 72) (by decide +kernel)) rfl
theorem w_816 : Cond.methodLink RX10 103 yX9_fewestOfAll ∈ wsL_law := tin_4 (List.mem_of_getElem? (i := 73) (by decide +kernel)) rfl
theorem w_817 : Cond.methodLink RX10 100 yX1_at ∈ wsL_law := tin_4 (List.mem_of_getElem? (i := 81) (by decide +kernel)) rfl
theorem w_818 : Cond.methodLink RX10 107 yX1_raise ∈ wsL_law := tin_4 (List.mem_of_getElem? (i := 82) (by decide +kernel)) rfl
theorem w_819 : Cond.methodLink RX3 58 yX2_size ∈ wsL_law := tin_4 (List.mem_of_getElem? (i := 92) (by decide +kernel)) rfl
theorem w_820 : Cond.methodLink RX10 79 yX3_sizesOf ∈ wsL_law := tin_4 (List.mem_of_getElem? (i := 88) (by decide +kernel)) rfl
theorem w_821 : Cond.methodLink RX10 73 yX10_workOutAll ∈ wsL_law := tin_4 (List.mem_of_getElem? (i := 68) (by decide +kernel)) rfl
theorem w_822 : Cond.methodLink RX10 76 yX3_keptSet ∈ wsL_law := tin_4 (List.mem_of_getElem? (i := 83) (by decide +kernel)) rfl
theorem w_823 : Cond.methodLink RX10 82 yX10_isBetter ∈ wsL_law := tin_4 (List.mem_of_getElem? (i := 93) (by decide +kernel)) rfl
theorem w_824 : Cond.methodLink RX11 268 yX11_isSpace ∈ wsL_law := tin_4 (List.mem_of_getElem? (i := 61) (by decide +kernel)) rfl
theorem w_825 : Cond.methodLink RX11 275 yX10_bestSet ∈ wsL_law := tin_4 (List.mem_of_getElem? (i := 64) (by decide +kernel)) rfl
theorem w_826 : Cond.methodLink RX11 278 yX10_workedOut ∈ wsL_law := tin_4 (List.mem_of_getElem? (i := 97) (by decide +kernel)) rfl
theorem w_827 : Cond.methodLink RX11 281 yX3_sizesOf ∈ wsL_law := tin_4 (List.mem_of_getElem? (i := 101) (by decide +kernel)) rfl
theorem w_828 : Cond.methodLink RX10 110 yX3_kept ∈ wsL_law := tin_4 (List.mem_of_getElem? (i := 115) (by decide +kernel)) rfl
theorem w_829 : Cond.fieldLink RX10 86 "KeptOrders$Workload" "steppedCount" "I" ∈ wsL_law := tin_1 (List.mem_of_getElem? (i := 196) (by decide +kernel)) rfl
theorem w_830 : Cond.methodLink RX10 89 yX10_nextStep ∈ wsL_law := tin_4 (List.mem_of_getElem? (i := 110) (by decide +kernel)) rfl
theorem w_831 : Cond.methodLink RX11 287 yX10_stepByStep ∈ wsL_law := tin_4 (List.mem_of_getElem? (i := 106) (by decide +kernel)) rfl
theorem w_832 : Cond.methodLink RX11 290 yX10_stepAt ∈ wsL_law := tin_4 (List.mem_of_getElem? (i := 116) (by decide +kernel)) rfl
theorem w_833 : Cond.methodLink RX11 297 yX11_has ∈ wsL_law := tin_4 (List.mem_of_getElem? (i := 130) (by decide +kernel)) rfl
theorem w_834 : Cond.methodLink RX11 301 yX11_without ∈ wsL_law := tin_4 (List.mem_of_getElem? (i := 131) (by decide +kernel)) rfl
theorem w_835 : Cond.classLink RL 9 RX11 ∈ wsL_law := tin_1 (List.mem_of_getElem? (i := 16) (by decide +kernel)) rfl
theorem w_836 : Cond.instantiable RX11 9 ∈ wsL_law := tin_1 (List.mem_of_getElem? (i := 17) (by decide +kernel)) rfl
theorem w_837 : Cond.constant RL 99 (32768) ∈ wsL_law := tin_5 (List.mem_of_getElem? (i := 74) (by decide +kernel)) rfl
theorem w_838 : Cond.methodLink RL 79 yX11_init ∈ wsL_law := tin_1 (List.mem_of_getElem? (i := 18) (by decide +kernel)) rfl
theorem w_839 : Cond.methodLink RL 80 yL_cell ∈ wsL_law := tin_4 (List.mem_of_getElem? (i := 132) (by decide +kernel)) rfl
theorem w_840 : Cond.methodLink RL 83 yX11_wide ∈ wsL_law := tin_2 (List.mem_of_getElem? (i := 204) (by decide +kernel)) rfl
theorem w_841 : Cond.methodLink RL 86 yX11_fill ∈ wsL_law := tin_2 (List.mem_of_getElem? (i := 184) (by decide +kernel)) rfl
theorem w_842 : Cond.methodLink RL 90 yL_key ∈ wsL_law := tin_4 (List.mem_of_getElem? (i := 136) (by decide +kernel)) rfl
theorem w_843 : Cond.methodLink RL 93 yX11_order ∈ wsL_law := tin_2 (List.mem_of_getElem? (i := 216) (by decide +kernel)) rfl
theorem w_844 : Cond.methodLink RL 96 yX11_drop ∈ wsL_law := tin_2 (List.mem_of_getElem? (i := 142) (by decide +kernel)) rfl
theorem w_845 : Cond.methodLink RL 100 yX11_row ∈ wsL_law := tin_2 (List.mem_of_getElem? (i := 49) (by decide +kernel)) rfl
theorem w_846 : Cond.methodLink RL 104 yL_ask ∈ wsL_law := tin_4 (List.mem_of_getElem? (i := 139) (by decide +kernel)) rfl
theorem w_847 : Cond.methodLink RL 107 yX11_weight ∈ wsL_law := tin_3 (List.mem_of_getElem? (i := 106) (by decide +kernel)) rfl
theorem w_848 : Cond.methodLink RL 110 yX11_bound ∈ wsL_law := tin_3 (List.mem_of_getElem? (i := 83) (by decide +kernel)) rfl
theorem w_849 : Cond.methodLink RL 112 yX11_answer ∈ wsL_law := tin_3 (List.mem_of_getElem? (i := 136) (by decide +kernel)) rfl
theorem w_850 : Cond.methodLink RL 115 yX11_answers ∈ wsL_law := tin_3 (List.mem_of_getElem? (i := 118) (by decide +kernel)) rfl
theorem w_851 : Cond.methodLink RL 118 yL_looks ∈ wsL_law := tin_5 (List.mem_of_getElem? (i := 34) (by decide +kernel)) rfl
theorem w_852 : Cond.methodLink RL 122 yX11_looks ∈ wsL_law := tin_3 (List.mem_of_getElem? (i := 155) (by decide +kernel)) rfl
theorem w_853 : Cond.methodLink RL 124 yX11_upkeep ∈ wsL_law := tin_4 (List.mem_of_getElem? (i := 45) (by decide +kernel)) rfl
theorem w_854 : Cond.methodLink RL 127 yX11_best ∈ wsL_law := tin_4 (List.mem_of_getElem? (i := 11) (by decide +kernel)) rfl
theorem w_855 : Cond.methodLink RL 130 yX11_work ∈ wsL_law := tin_4 (List.mem_of_getElem? (i := 26) (by decide +kernel)) rfl
theorem w_856 : Cond.methodLink RL 133 yX11_choose ∈ wsL_law := tin_4 (List.mem_of_getElem? (i := 57) (by decide +kernel)) rfl
theorem w_857 : Cond.methodLink RL 136 yX11_steps ∈ wsL_law := tin_4 (List.mem_of_getElem? (i := 102) (by decide +kernel)) rfl
theorem w_858 : Cond.methodLink RL 139 yX11_worth ∈ wsL_law := tin_4 (List.mem_of_getElem? (i := 126) (by decide +kernel)) rfl
