set_option maxHeartbeats 4000000 in
set_option maxRecDepth 100000 in
theorem q_X6_sortColumn {g : GG} {σ : Hs} {post : Option Value → Hs → Prop} (r0 : Nat) (hW : FI σ r0 6 5 (fun i1 => post (some (.int i1)) σ)) : Do g M_X6_sortColumn 0 0 [.ref r0] σ post := by
  refine Do.of (by decide +kernel) (Nat.le_of_ble_eq_true rfl) ?_
  show Fr g M_X6_sortColumn (0, 0, 0, 0) [(0, .ref r0)] [] 0 σ post
  refine fr_aload_n (pc := 0) 0 rfl rfl dX6_sortColumn_0 ?_
  refine fr_getI (pc := 1) (T := TX6) (k := 5) kc_X6 (by decide) w_1159 dX6_sortColumn_1 hW (fun i1 hW => ?_)
  exact fr_iret (pc := 4) dX6_sortColumn_4 rfl ⟨Nat.le_refl 0, Nat.le_refl 0⟩ hW
def J_X2_sortsFor_2 (g : GG) (post : Option Value → Hs → Prop) (σ : Hs) (a0 : Nat) (a1 : Nat) (v2 : Int32) : Prop := Fr g M_X2_sortsFor (0, 0, 0, 0) [(0, .ref a0), (1, .ref a1), (2, .int v2)] [] 2 σ post
set_option maxHeartbeats 4000000 in
set_option maxRecDepth 100000 in
theorem q_X2_sortsFor {g : GG} {σ : Hs} {post : Option Value → Hs → Prop} (r0 : Nat) (p0 : Nat) (hW : J_X2_sortsFor_2 g post σ r0 p0 0 ) : Do g M_X2_sortsFor 0 0 [.ref r0, .ref p0] σ post := by
  refine Do.of (by decide +kernel) (Nat.le_of_ble_eq_true rfl) ?_
  show Fr g M_X2_sortsFor (0, 0, 0, 0) [(0, .ref r0), (1, .ref p0)] [] 0 σ post
  refine fr_iconst (pc := 0) 0 (by decide) dX2_sortsFor_0 ?_
  refine fr_istore_n (pc := 1) (lv' := [(2, .int 0), (0, .ref r0), (1, .ref p0)]) rfl (by decide) rfl dX2_sortsFor_1 ?_
  exact fr_sub [1, 2, 0] rfl hW
set_option maxHeartbeats 4000000 in
set_option maxRecDepth 100000 in
theorem q_X2_sortsFor_2 {g : GG} {σ : Hs} {post : Option Value → Hs → Prop} (a0 : Nat) (a1 : Nat) (v2 : Int32) (hW : FI σ a0 2 2 (fun i1 => (i1 ≤ v2 → post (some (.int 0)) σ) ∧ (¬ i1 ≤ v2 → FR σ a0 2 5 (fun r2 => Rc σ r2 1 ∧ Do g M_X1_at 0 0 [.ref r2, .int v2] σ (kI (fun i4 s3 => Rc s3 a1 6 ∧ Do g M_X6_isFixed 0 0 [.ref a1, .int i4] s3 (kI (fun i8 s7 => (¬ i8 = 0 → J_X2_sortsFor_2 g post s7 a0 a1 ((v2 + 1)) ) ∧ (i8 = 0 → Rc s7 a1 6 ∧ Do g M_X6_sortColumn 0 0 [.ref a1] s7 (kI (fun i12 s11 => (¬ i4 = i12 → post (some (.int 0)) s11) ∧ (i4 = i12 → post (some (.int 1)) s11)))))))))))) : J_X2_sortsFor_2 g post σ a0 a1 v2 := by
  show Fr g M_X2_sortsFor (0, 0, 0, 0) [(0, .ref a0), (1, .ref a1), (2, .int v2)] [] 2 σ post
  refine fr_iload_n (pc := 2) 2 rfl rfl dX2_sortsFor_2 ?_
  refine fr_aload_n (pc := 3) 0 rfl rfl dX2_sortsFor_3 ?_
  refine fr_getI (pc := 4) (T := TX2) (k := 2) kc_X2 (by decide) w_1036 dX2_sortsFor_4 hW (fun i1 hW => ?_)
  refine fr_icmp_ge (pc := 7) (tgt := 47) (by decide) dX2_sortsFor_7 hW (fun hW => ?_) (fun hW => ?_)
  · refine fr_iconst (pc := 47) 0 (by decide) dX2_sortsFor_47 ?_
    exact fr_zret (pc := 48) dX2_sortsFor_48 rfl ⟨Nat.le_refl 0, Nat.le_refl 0⟩ ⟨rfl, hW⟩
  · refine fr_aload_n (pc := 10) 0 rfl rfl dX2_sortsFor_10 ?_
    refine fr_getR (pc := 11) (T := TX2) (k := 5) kc_X2 (by decide) w_1037 dX2_sortsFor_11 hW (fun r2 hW => ?_)
    refine fr_iload_n (pc := 14) 2 rfl rfl dX2_sortsFor_14 ?_
    obtain ⟨hrc, hW⟩ := hW
    refine fr_callV_I (pc := 15) (As := [.int v2]) (st := []) wd_X1_at w_1039 ok_X1_at (by decide) rfl (Nat.le_of_ble_eq_true rfl) dX2_sortsFor_15 ⟨Nat.le_refl 0, Nat.le_refl 0⟩ kc_X1 hrc hW (fun i4 s3 hW => ?_)
    refine fr_istore_n (pc := 18) (lv' := [(3, .int i4), (0, .ref a0), (1, .ref a1), (2, .int v2)]) rfl (by decide) rfl dX2_sortsFor_18 ?_
    refine fr_aload_n (pc := 19) 2 rfl rfl dX2_sortsFor_19 ?_
    refine fr_iload_n (pc := 20) 0 rfl rfl dX2_sortsFor_20 ?_
    obtain ⟨hrc, hW⟩ := hW
    refine fr_callV_I (pc := 21) (As := [.int i4]) (st := []) wd_X6_isFixed w_1227 ok_X6_isFixed (by decide) rfl (Nat.le_of_ble_eq_true rfl) dX2_sortsFor_21 ⟨Nat.le_refl 0, Nat.le_refl 0⟩ kc_X6 hrc hW (fun i8 s7 hW => ?_)
    refine fr_if_ne (pc := 24) (tgt := 41) (by decide) dX2_sortsFor_24 hW (fun hW => ?_) (fun hW => ?_)
    · refine fr_iinc (pc := 41) (lv' := [(2, .int (v2 + 1)), (3, .int i4), (0, .ref a0), (1, .ref a1)]) (v2 + 1) 3 rfl (congrArg (fun z => v2 + z) (by decide)) (by decide) rfl dX2_sortsFor_41 ?_
      refine fr_goto (pc := 44) (tgt := 2) (by decide) dX2_sortsFor_44 ?_
      exact fr_sub [2, 3, 0] rfl hW
    · refine fr_iload_n (pc := 27) 0 rfl rfl dX2_sortsFor_27 ?_
      refine fr_aload_n (pc := 28) 2 rfl rfl dX2_sortsFor_28 ?_
      obtain ⟨hrc, hW⟩ := hW
      refine fr_callV_I (pc := 29) (As := []) (st := [.int i4]) wd_X6_sortColumn w_1230 ok_X6_sortColumn (by decide) rfl (Nat.le_of_ble_eq_true rfl) dX2_sortsFor_29 ⟨Nat.le_refl 0, Nat.le_refl 0⟩ kc_X6 hrc hW (fun i12 s11 hW => ?_)
      refine fr_icmp_ne (pc := 32) (tgt := 39) (by decide) dX2_sortsFor_32 hW (fun hW => ?_) (fun hW => ?_)
      · refine fr_iconst (pc := 39) 0 (by decide) dX2_sortsFor_39 ?_
        exact fr_zret (pc := 40) dX2_sortsFor_40 rfl ⟨Nat.le_refl 0, Nat.le_refl 0⟩ ⟨rfl, hW⟩
      · refine fr_iconst (pc := 35) 1 (by decide) dX2_sortsFor_35 ?_
        refine fr_goto (pc := 36) (tgt := 40) (by decide) dX2_sortsFor_36 ?_
        exact fr_zret (pc := 40) dX2_sortsFor_40 rfl ⟨Nat.le_refl 0, Nat.le_refl 0⟩ ⟨rfl, hW⟩
def J_X9_listAlone_116 (g : GG) (post : Option Value → Hs → Prop) (σ : Hs) (a0 : Nat) (a1 : Nat) (v2 : Int32) (v3 : Int32) (a4 : Nat) (v7 : Int32) : Prop := Fr g M_X9_listAlone (0, 0, 0, 0) [(0, .ref a0), (1, .ref a1), (2, .int v2), (3, .int v3), (4, .ref a4), (7, .int v7)] [] 116 σ post
set_option maxHeartbeats 4000000 in
set_option maxRecDepth 100000 in
theorem q_X9_listAlone {g : GG} {σ : Hs} {post : Option Value → Hs → Prop} (r0 : Nat) (p0 : Nat) (p1 : Int32) (p2 : Int32) (hW : FR σ r0 9 1 (fun r1 => Rc σ r1 3 ∧ Do g M_X3_kept 0 0 [.ref r1, .int p1] σ (kA (fun s2 => post none s2) (fun r5 s2 => (p1 < 0 → post none s2) ∧ (¬ p1 < 0 → FR s2 r0 9 6 (fun r6 => AN g s2 r6 3 (fun i7 => (p1 < i7 → FR s2 r0 9 6 (fun r8 => FR s2 r0 9 0 (fun r9 => Rc s2 r5 2 ∧ Do g M_X2_columns 0 0 [.ref r5] s2 (kI (fun i11 s10 => Rc s10 p0 6 ∧ Do g M_X6_rowsWithin 0 0 [.ref p0, .ref r9, .int i11] s10 (kL (fun l16 s14 => SJ g s14 r8 p1 l16 (fun s18 => FR s18 r0 9 0 (fun r19 => Rc s18 r5 2 ∧ Do g M_X2_runColumns 0 0 [.ref r5, .ref p0] s18 (kI (fun i21 s20 => Rc s20 p0 6 ∧ Do g M_X6_rowsWithin 0 0 [.ref p0, .ref r19, .int i21] s20 (kL (fun l26 s24 => Rc s24 r5 2 ∧ Do g M_X2_height 0 0 [.ref r5] s24 (kI (fun i29 s28 => Rc s28 r5 2 ∧ Do g M_X2_leavesOf 0 0 [.ref r5, .long l26] s28 (kI (fun i33 s32 => FR s32 r0 9 5 (fun r36 => Rc s32 r36 1 ∧ Do g M_X1_put 0 0 [.ref r36, .int p1, .int (i29 + i33)] s32 (kV (fun s37 => Rc s37 r5 2 ∧ Do g M_X2_covers 0 0 [.ref r5, .ref p0] s37 (kI (fun i39 s38 => (¬ i39 = 0 → J_X9_listAlone_116 g post s38 r0 p0 p1 p2 r5 ((i29 + i33)) ) ∧ (i39 = 0 → FR s38 r0 9 0 (fun r42 => FR s38 r0 9 6 (fun r43 => AJ g s38 r43 p1 (fun l44 => Rc s38 r42 8 ∧ Do g M_X8_pagesOf 0 0 [.ref r42, .long l44] s38 (kI (fun i46 s45 => J_X9_listAlone_116 g post s45 r0 p0 p1 p2 r5 (((i29 + i33) + i46)) )))))))))))))))))))))))))))) ∧ (¬ p1 < i7 → post none s2)))))))) : Do g M_X9_listAlone 0 0 [.ref r0, .ref p0, .int p1, .int p2] σ post := by
  refine Do.of (by decide +kernel) (Nat.le_of_ble_eq_true rfl) ?_
  show Fr g M_X9_listAlone (0, 0, 0, 0) [(0, .ref r0), (1, .ref p0), (2, .int p1), (3, .int p2)] [] 0 σ post
  refine fr_aload_n (pc := 0) 0 rfl rfl dX9_listAlone_0 ?_
  refine fr_getR (pc := 1) (T := TX9) (k := 1) kc_X9 (by decide) w_951 dX9_listAlone_1 hW (fun r1 hW => ?_)
  refine fr_iload_n (pc := 4) 2 rfl rfl dX9_listAlone_4 ?_
  obtain ⟨hrc, hW⟩ := hW
  refine fr_callV_A (pc := 5) (As := [.int p1]) (st := []) wd_X3_kept w_1231 ok_X3_kept (by decide) rfl (Nat.le_of_ble_eq_true rfl) dX9_listAlone_5 ⟨Nat.le_refl 0, Nat.le_refl 0⟩ kc_X3 hrc hW (fun s2 hW => ?_) (fun r5 s2 hW => ?_)
  · refine fr_astoreN (pc := 8) (lv' := [(4, .null), (0, .ref r0), (1, .ref p0), (2, .int p1), (3, .int p2)]) (by decide) rfl dX9_listAlone_8 ?_
    refine fr_aloadN (pc := 10) 0 rfl dX9_listAlone_10 ?_
    refine fr_ifnullN (pc := 12) (tgt := 28) (by decide) dX9_listAlone_12 ?_
    exact fr_ret (pc := 28) dX9_listAlone_28 rfl ⟨Nat.le_refl 0, Nat.le_refl 0⟩ hW
  · refine fr_astore (pc := 8) (lv' := [(4, .ref r5), (0, .ref r0), (1, .ref p0), (2, .int p1), (3, .int p2)]) (by decide) rfl dX9_listAlone_8 ?_
    refine fr_aload (pc := 10) 0 rfl dX9_listAlone_10 ?_
    refine fr_ifnull (pc := 12) dX9_listAlone_12 ?_
    refine fr_iload_n (pc := 15) 3 rfl rfl dX9_listAlone_15 ?_
    refine fr_if_lt (pc := 16) (tgt := 28) (by decide) dX9_listAlone_16 hW (fun hW => ?_) (fun hW => ?_)
    · exact fr_ret (pc := 28) dX9_listAlone_28 rfl ⟨Nat.le_refl 0, Nat.le_refl 0⟩ hW
    · refine fr_iload_n (pc := 19) 3 rfl rfl dX9_listAlone_19 ?_
      refine fr_aload_n (pc := 20) 1 rfl rfl dX9_listAlone_20 ?_
      refine fr_getR (pc := 21) (T := TX9) (k := 6) kc_X9 (by decide) w_949 dX9_listAlone_21 hW (fun r6 hW => ?_)
      refine fr_alen (pc := 24) 3 (fun _ => rfl) dX9_listAlone_24 hW (fun i7 hW => ?_)
      refine fr_icmp_lt (pc := 25) (tgt := 29) (by decide) dX9_listAlone_25 hW (fun hW => ?_) (fun hW => ?_)
      · refine fr_aload_n (pc := 29) 1 rfl rfl dX9_listAlone_29 ?_
        refine fr_getR (pc := 30) (T := TX9) (k := 6) kc_X9 (by decide) w_949 dX9_listAlone_30 hW (fun r8 hW => ?_)
        refine fr_iload_n (pc := 33) 3 rfl rfl dX9_listAlone_33 ?_
        refine fr_aload_n (pc := 34) 2 rfl rfl dX9_listAlone_34 ?_
        refine fr_aload_n (pc := 35) 1 rfl rfl dX9_listAlone_35 ?_
        refine fr_getR (pc := 36) (T := TX9) (k := 0) kc_X9 (by decide) w_950 dX9_listAlone_36 hW (fun r9 hW => ?_)
        refine fr_aload (pc := 39) 0 rfl dX9_listAlone_39 ?_
        obtain ⟨hrc, hW⟩ := hW
        refine fr_callV_I (pc := 41) (As := []) (st := [.ref r9, .ref p0, .int p1, .ref r8]) wd_X2_columns w_1232 ok_X2_columns (by decide) rfl (Nat.le_of_ble_eq_true rfl) dX9_listAlone_41 ⟨Nat.le_refl 0, Nat.le_refl 0⟩ kc_X2 hrc hW (fun i11 s10 hW => ?_)
        obtain ⟨hrc, hW⟩ := hW
        refine fr_callV_L (pc := 44) (As := [.ref r9, .int i11]) (st := [.int p1, .ref r8]) wd_X6_rowsWithin w_1233 ok_X6_rowsWithin (by decide) rfl (Nat.le_of_ble_eq_true rfl) dX9_listAlone_44 ⟨Nat.le_refl 0, Nat.le_refl 0⟩ kc_X6 hrc hW (fun l16 s14 hW => ?_)
        refine fr_last (pc := 47) dX9_listAlone_47 hW (fun s18 hW => ?_)
        refine fr_aload_n (pc := 48) 2 rfl rfl dX9_listAlone_48 ?_
        refine fr_aload_n (pc := 49) 1 rfl rfl dX9_listAlone_49 ?_
        refine fr_getR (pc := 50) (T := TX9) (k := 0) kc_X9 (by decide) w_950 dX9_listAlone_50 hW (fun r19 hW => ?_)
        refine fr_aload (pc := 53) 0 rfl dX9_listAlone_53 ?_
        refine fr_aload_n (pc := 55) 2 rfl rfl dX9_listAlone_55 ?_
        obtain ⟨hrc, hW⟩ := hW
        refine fr_callV_I (pc := 56) (As := [.ref p0]) (st := [.ref r19, .ref p0]) wd_X2_runColumns w_1234 ok_X2_runColumns (by decide) rfl (Nat.le_of_ble_eq_true rfl) dX9_listAlone_56 ⟨Nat.le_refl 0, Nat.le_refl 0⟩ kc_X2 hrc hW (fun i21 s20 hW => ?_)
        obtain ⟨hrc, hW⟩ := hW
        refine fr_callV_L (pc := 59) (As := [.ref r19, .int i21]) (st := []) wd_X6_rowsWithin w_1233 ok_X6_rowsWithin (by decide) rfl (Nat.le_of_ble_eq_true rfl) dX9_listAlone_59 ⟨Nat.le_refl 0, Nat.le_refl 0⟩ kc_X6 hrc hW (fun l26 s24 hW => ?_)
        refine fr_lstore (pc := 62) (lv' := [(5, .long l26), (4, .ref r5), (0, .ref r0), (1, .ref p0), (2, .int p1), (3, .int p2)]) (by decide) rfl dX9_listAlone_62 ?_
        refine fr_aload (pc := 64) 1 rfl dX9_listAlone_64 ?_
        obtain ⟨hrc, hW⟩ := hW
        refine fr_callV_I (pc := 66) (As := []) (st := []) wd_X2_height w_1235 ok_X2_height (by decide) rfl (Nat.le_of_ble_eq_true rfl) dX9_listAlone_66 ⟨Nat.le_refl 0, Nat.le_refl 0⟩ kc_X2 hrc hW (fun i29 s28 hW => ?_)
        refine fr_aload (pc := 69) 1 rfl dX9_listAlone_69 ?_
        refine fr_lload (pc := 71) 0 rfl dX9_listAlone_71 ?_
        obtain ⟨hrc, hW⟩ := hW
        refine fr_callV_I (pc := 73) (As := [.long l26]) (st := [.int i29]) wd_X2_leavesOf w_1236 ok_X2_leavesOf (by decide) rfl (Nat.le_of_ble_eq_true rfl) dX9_listAlone_73 ⟨Nat.le_refl 0, Nat.le_refl 0⟩ kc_X2 hrc hW (fun i33 s32 hW => ?_)
        refine fr_iadd (pc := 76) dX9_listAlone_76 ?_
        refine fr_istore (pc := 77) (lv' := [(7, .int (i29 + i33)), (5, .long l26), (4, .ref r5), (0, .ref r0), (1, .ref p0), (2, .int p1), (3, .int p2)]) (by decide) rfl dX9_listAlone_77 ?_
        refine fr_aload_n (pc := 79) 3 rfl rfl dX9_listAlone_79 ?_
        refine fr_getR (pc := 80) (T := TX9) (k := 5) kc_X9 (by decide) w_947 dX9_listAlone_80 hW (fun r36 hW => ?_)
        refine fr_iload_n (pc := 83) 5 rfl rfl dX9_listAlone_83 ?_
        refine fr_iload (pc := 84) 0 rfl dX9_listAlone_84 ?_
        obtain ⟨hrc, hW⟩ := hW
        refine fr_callV_V (pc := 86) (As := [.int p1, .int (i29 + i33)]) (st := []) wd_X1_put w_1225 ok_X1_put (by decide) rfl (Nat.le_of_ble_eq_true rfl) dX9_listAlone_86 ⟨Nat.le_refl 0, Nat.le_refl 0⟩ kc_X1 hrc hW (fun s37 hW => ?_)
        refine fr_aload (pc := 89) 2 rfl dX9_listAlone_89 ?_
        refine fr_aload_n (pc := 91) 4 rfl rfl dX9_listAlone_91 ?_
        obtain ⟨hrc, hW⟩ := hW
        refine fr_callV_I (pc := 92) (As := [.ref p0]) (st := []) wd_X2_covers w_1237 ok_X2_covers (by decide) rfl (Nat.le_of_ble_eq_true rfl) dX9_listAlone_92 ⟨Nat.le_refl 0, Nat.le_refl 0⟩ kc_X2 hrc hW (fun i39 s38 hW => ?_)
        refine fr_if_ne (pc := 95) (tgt := 116) (by decide) dX9_listAlone_95 hW (fun hW => ?_) (fun hW => ?_)
        · exact fr_sub [3, 4, 5, 6, 2, 0] rfl hW
        · refine fr_iload (pc := 98) 0 rfl dX9_listAlone_98 ?_
          refine fr_aload_n (pc := 100) 3 rfl rfl dX9_listAlone_100 ?_
          refine fr_getR (pc := 101) (T := TX9) (k := 0) kc_X9 (by decide) w_950 dX9_listAlone_101 hW (fun r42 hW => ?_)
          refine fr_aload_n (pc := 104) 3 rfl rfl dX9_listAlone_104 ?_
          refine fr_getR (pc := 105) (T := TX9) (k := 6) kc_X9 (by decide) w_949 dX9_listAlone_105 hW (fun r43 hW => ?_)
          refine fr_iload_n (pc := 108) 5 rfl rfl dX9_listAlone_108 ?_
          refine fr_lald (pc := 109) dX9_listAlone_109 hW (fun l44 hW => ?_)
          obtain ⟨hrc, hW⟩ := hW
          refine fr_callV_I (pc := 110) (As := [.long l44]) (st := [.int (i29 + i33)]) wd_X8_pagesOf w_1238 ok_X8_pagesOf (by decide) rfl (Nat.le_of_ble_eq_true rfl) dX9_listAlone_110 ⟨Nat.le_refl 0, Nat.le_refl 0⟩ kc_X8 hrc hW (fun i46 s45 hW => ?_)
          refine fr_iadd (pc := 113) dX9_listAlone_113 ?_
          refine fr_istore (pc := 114) (lv' := [(7, .int ((i29 + i33) + i46)), (5, .long l26), (4, .ref r5), (0, .ref r0), (1, .ref p0), (2, .int p1), (3, .int p2)]) (by decide) rfl dX9_listAlone_114 ?_
          exact fr_sub [3, 4, 5, 6, 2, 0] rfl hW
      · exact fr_ret (pc := 28) dX9_listAlone_28 rfl ⟨Nat.le_refl 0, Nat.le_refl 0⟩ hW
set_option maxHeartbeats 4000000 in
set_option maxRecDepth 100000 in
theorem q_X9_listAlone_116 {g : GG} {σ : Hs} {post : Option Value → Hs → Prop} (a0 : Nat) (a1 : Nat) (v2 : Int32) (v3 : Int32) (a4 : Nat) (v7 : Int32) (hW : Do g M_X11_with 0 0 [.int 0, .int v2] σ (kI (fun i50 s49 => Rc s49 a4 2 ∧ Do g M_X2_sortsFor 0 0 [.ref a4, .ref a1] s49 (kI (fun i54 s53 => (i54 = 0 → Rc s53 a0 9 ∧ Do g M_X9_add 0 0 [.ref a0, .int (1 + v2), .int i50, .int (v7 + v3)] s53 (kV (fun s57 => post none s57))) ∧ (¬ i54 = 0 → Rc s53 a0 9 ∧ Do g M_X9_add 0 0 [.ref a0, .int (1 + v2), .int i50, .int (v7 + 0)] s53 (kV (fun s58 => post none s58)))))))) : J_X9_listAlone_116 g post σ a0 a1 v2 v3 a4 v7 := by
  show Fr g M_X9_listAlone (0, 0, 0, 0) [(0, .ref a0), (1, .ref a1), (2, .int v2), (3, .int v3), (4, .ref a4), (7, .int v7)] [] 116 σ post
  refine fr_aload_n (pc := 116) 0 rfl rfl dX9_listAlone_116 ?_
  refine fr_iconst (pc := 117) 1 (by decide) dX9_listAlone_117 ?_
  refine fr_iload_n (pc := 118) 2 rfl rfl dX9_listAlone_118 ?_
  refine fr_iadd (pc := 119) dX9_listAlone_119 ?_
  refine fr_iconst (pc := 120) 0 (by decide) dX9_listAlone_120 ?_
  refine fr_iload_n (pc := 121) 2 rfl rfl dX9_listAlone_121 ?_
  refine fr_callSN_I (pc := 122) (As := [.int 0, .int v2]) (st := [.int (1 + v2), .ref a0]) wd_X11_with ⟨RX11, by decide +kernel⟩ ok_X11_with (by decide) rfl (Nat.le_of_ble_eq_true rfl) dX9_listAlone_122 ⟨Nat.le_refl 0, Nat.le_refl 0⟩ hW (fun i50 s49 hW => ?_)
  refine fr_iload (pc := 125) 5 rfl dX9_listAlone_125 ?_
  refine fr_aload (pc := 127) 4 rfl dX9_listAlone_127 ?_
  refine fr_aload_n (pc := 129) 1 rfl rfl dX9_listAlone_129 ?_
  obtain ⟨hrc, hW⟩ := hW
  refine fr_callV_I (pc := 130) (As := [.ref a1]) (st := [.int v7, .int i50, .int (1 + v2), .ref a0]) wd_X2_sortsFor w_1239 ok_X2_sortsFor (by decide) rfl (Nat.le_of_ble_eq_true rfl) dX9_listAlone_130 ⟨Nat.le_refl 0, Nat.le_refl 0⟩ kc_X2 hrc hW (fun i54 s53 hW => ?_)
  refine fr_if_eq (pc := 133) (tgt := 140) (by decide) dX9_listAlone_133 hW (fun hW => ?_) (fun hW => ?_)
  · refine fr_iload_n (pc := 140) 3 rfl rfl dX9_listAlone_140 ?_
    refine fr_iadd (pc := 141) dX9_listAlone_141 ?_
    obtain ⟨hrc, hW⟩ := hW
    refine fr_callV_V (pc := 142) (As := [.int (1 + v2), .int i50, .int (v7 + v3)]) (st := []) wd_X9_add w_1240 ok_X9_add (by decide) rfl (Nat.le_of_ble_eq_true rfl) dX9_listAlone_142 ⟨Nat.le_refl 0, Nat.le_refl 0⟩ kc_X9 hrc hW (fun s57 hW => ?_)
    exact fr_ret (pc := 145) dX9_listAlone_145 rfl ⟨Nat.le_refl 0, Nat.le_refl 0⟩ hW
  · refine fr_iconst (pc := 136) 0 (by decide) dX9_listAlone_136 ?_
    refine fr_goto (pc := 137) (tgt := 141) (by decide) dX9_listAlone_137 ?_
    refine fr_iadd (pc := 141) dX9_listAlone_141 ?_
    obtain ⟨hrc, hW⟩ := hW
    refine fr_callV_V (pc := 142) (As := [.int (1 + v2), .int i50, .int (v7 + 0)]) (st := []) wd_X9_add w_1240 ok_X9_add (by decide) rfl (Nat.le_of_ble_eq_true rfl) dX9_listAlone_142 ⟨Nat.le_refl 0, Nat.le_refl 0⟩ kc_X9 hrc hW (fun s58 hW => ?_)
    exact fr_ret (pc := 145) dX9_listAlone_145 rfl ⟨Nat.le_refl 0, Nat.le_refl 0⟩ hW
set_option maxHeartbeats 4000000 in
set_option maxRecDepth 100000 in
theorem q_X9_leftBy {g : GG} {σ : Hs} {post : Option Value → Hs → Prop} (r0 : Nat) (p0 : Int32) (hW : (p0 < 0 → post (some (.long 0)) σ) ∧ (¬ p0 < 0 → FR σ r0 9 6 (fun r1 => AN g σ r1 3 (fun i2 => (i2 ≤ p0 → post (some (.long 0)) σ) ∧ (¬ i2 ≤ p0 → FR σ r0 9 6 (fun r3 => AJ g σ r3 p0 (fun l4 => post (some (.long l4)) σ))))))) : Do g M_X9_leftBy 0 0 [.ref r0, .int p0] σ post := by
  refine Do.of (by decide +kernel) (Nat.le_of_ble_eq_true rfl) ?_
  show Fr g M_X9_leftBy (0, 0, 0, 0) [(0, .ref r0), (1, .int p0)] [] 0 σ post
  refine fr_iload_n (pc := 0) 1 rfl rfl dX9_leftBy_0 ?_
  refine fr_if_lt (pc := 1) (tgt := 22) (by decide) dX9_leftBy_1 hW (fun hW => ?_) (fun hW => ?_)
  · refine fr_lconst (pc := 22) 0 (by decide) dX9_leftBy_22 ?_
    exact fr_lret (pc := 23) dX9_leftBy_23 rfl ⟨Nat.le_refl 0, Nat.le_refl 0⟩ hW
  · refine fr_iload_n (pc := 4) 1 rfl rfl dX9_leftBy_4 ?_
    refine fr_aload_n (pc := 5) 0 rfl rfl dX9_leftBy_5 ?_
    refine fr_getR (pc := 6) (T := TX9) (k := 6) kc_X9 (by decide) w_949 dX9_leftBy_6 hW (fun r1 hW => ?_)
    refine fr_alen (pc := 9) 3 (fun _ => rfl) dX9_leftBy_9 hW (fun i2 hW => ?_)
    refine fr_icmp_ge (pc := 10) (tgt := 22) (by decide) dX9_leftBy_10 hW (fun hW => ?_) (fun hW => ?_)
    · refine fr_lconst (pc := 22) 0 (by decide) dX9_leftBy_22 ?_
      exact fr_lret (pc := 23) dX9_leftBy_23 rfl ⟨Nat.le_refl 0, Nat.le_refl 0⟩ hW
    · refine fr_aload_n (pc := 13) 0 rfl rfl dX9_leftBy_13 ?_
      refine fr_getR (pc := 14) (T := TX9) (k := 6) kc_X9 (by decide) w_949 dX9_leftBy_14 hW (fun r3 hW => ?_)
      refine fr_iload_n (pc := 17) 1 rfl rfl dX9_leftBy_17 ?_
      refine fr_lald (pc := 18) dX9_leftBy_18 hW (fun l4 hW => ?_)
      refine fr_goto (pc := 19) (tgt := 23) (by decide) dX9_leftBy_19 ?_
      exact fr_lret (pc := 23) dX9_leftBy_23 rfl ⟨Nat.le_refl 0, Nat.le_refl 0⟩ hW
set_option maxHeartbeats 4000000 in
set_option maxRecDepth 100000 in
theorem q_X9_listBoth {g : GG} {σ : Hs} {post : Option Value → Hs → Prop} (r0 : Nat) (p0 : Int32) (p1 : Int32) (p2 : Int32) (hW : FR σ r0 9 1 (fun r1 => Rc σ r1 3 ∧ Do g M_X3_kept 0 0 [.ref r1, .int p0] σ (kA (fun s2 => post none s2) (fun r5 s2 => FR s2 r0 9 1 (fun r6 => Rc s2 r6 3 ∧ Do g M_X3_kept 0 0 [.ref r6, .int p1] s2 (kA (fun s7 => post none s7) (fun r10 s7 => FR s7 r0 9 5 (fun r11 => Rc s7 r11 1 ∧ Do g M_X1_at 0 0 [.ref r11, .int p0] s7 (kI (fun i13 s12 => FR s12 r0 9 5 (fun r16 => Rc s12 r16 1 ∧ Do g M_X1_at 0 0 [.ref r16, .int p1] s12 (kI (fun i18 s17 => FR s17 r0 9 0 (fun r21 => Rc s17 r0 9 ∧ Do g M_X9_leftBy 0 0 [.ref r0, .int p0] s17 (kL (fun l24 s22 => Rc s22 r0 9 ∧ Do g M_X9_leftBy 0 0 [.ref r0, .int p1] s22 (kL (fun l28 s26 => Rc s26 r21 8 ∧ Do g M_X8_pagesOf 0 0 [.ref r21, .long (l24 &&& l28)] s26 (kI (fun i31 s30 => Do g M_X11_with 0 0 [.int 0, .int p0] s30 (kI (fun i35 s34 => Do g M_X11_with 0 0 [.int i35, .int p1] s34 (kI (fun i39 s38 => Rc s38 r0 9 ∧ Do g M_X9_add 0 0 [.ref r0, .int ((100 + (10 * p0)) + p1), .int i39, .int (((i13 + i18) + i31) + p2)] s38 (kV (fun s42 => post none s42)))))))))))))))))))))))))) : Do g M_X9_listBoth 0 0 [.ref r0, .int p0, .int p1, .int p2] σ post := by
  refine Do.of (by decide +kernel) (Nat.le_of_ble_eq_true rfl) ?_
  show Fr g M_X9_listBoth (0, 0, 0, 0) [(0, .ref r0), (1, .int p0), (2, .int p1), (3, .int p2)] [] 0 σ post
  refine fr_aload_n (pc := 0) 0 rfl rfl dX9_listBoth_0 ?_
  refine fr_getR (pc := 1) (T := TX9) (k := 1) kc_X9 (by decide) w_951 dX9_listBoth_1 hW (fun r1 hW => ?_)
  refine fr_iload_n (pc := 4) 1 rfl rfl dX9_listBoth_4 ?_
  obtain ⟨hrc, hW⟩ := hW
  refine fr_callV_A (pc := 5) (As := [.int p0]) (st := []) wd_X3_kept w_1231 ok_X3_kept (by decide) rfl (Nat.le_of_ble_eq_true rfl) dX9_listBoth_5 ⟨Nat.le_refl 0, Nat.le_refl 0⟩ kc_X3 hrc hW (fun s2 hW => ?_) (fun r5 s2 hW => ?_)
  · refine fr_ifnullN (pc := 8) (tgt := 22) (by decide) dX9_listBoth_8 ?_
    exact fr_ret (pc := 22) dX9_listBoth_22 rfl ⟨Nat.le_refl 0, Nat.le_refl 0⟩ hW
  · refine fr_ifnull (pc := 8) dX9_listBoth_8 ?_
    refine fr_aload_n (pc := 11) 0 rfl rfl dX9_listBoth_11 ?_
    refine fr_getR (pc := 12) (T := TX9) (k := 1) kc_X9 (by decide) w_951 dX9_listBoth_12 hW (fun r6 hW => ?_)
    refine fr_iload_n (pc := 15) 2 rfl rfl dX9_listBoth_15 ?_
    obtain ⟨hrc, hW⟩ := hW
    refine fr_callV_A (pc := 16) (As := [.int p1]) (st := []) wd_X3_kept w_1231 ok_X3_kept (by decide) rfl (Nat.le_of_ble_eq_true rfl) dX9_listBoth_16 ⟨Nat.le_refl 0, Nat.le_refl 0⟩ kc_X3 hrc hW (fun s7 hW => ?_) (fun r10 s7 hW => ?_)
    · refine fr_ifnonnullN (pc := 19) dX9_listBoth_19 ?_
      exact fr_ret (pc := 22) dX9_listBoth_22 rfl ⟨Nat.le_refl 0, Nat.le_refl 0⟩ hW
    · refine fr_ifnonnull (pc := 19) (tgt := 23) (by decide) dX9_listBoth_19 ?_
      refine fr_aload_n (pc := 23) 0 rfl rfl dX9_listBoth_23 ?_
      refine fr_getR (pc := 24) (T := TX9) (k := 5) kc_X9 (by decide) w_947 dX9_listBoth_24 hW (fun r11 hW => ?_)
      refine fr_iload_n (pc := 27) 1 rfl rfl dX9_listBoth_27 ?_
      obtain ⟨hrc, hW⟩ := hW
      refine fr_callV_I (pc := 28) (As := [.int p0]) (st := []) wd_X1_at w_1241 ok_X1_at (by decide) rfl (Nat.le_of_ble_eq_true rfl) dX9_listBoth_28 ⟨Nat.le_refl 0, Nat.le_refl 0⟩ kc_X1 hrc hW (fun i13 s12 hW => ?_)
      refine fr_aload_n (pc := 31) 0 rfl rfl dX9_listBoth_31 ?_
      refine fr_getR (pc := 32) (T := TX9) (k := 5) kc_X9 (by decide) w_947 dX9_listBoth_32 hW (fun r16 hW => ?_)
      refine fr_iload_n (pc := 35) 2 rfl rfl dX9_listBoth_35 ?_
      obtain ⟨hrc, hW⟩ := hW
      refine fr_callV_I (pc := 36) (As := [.int p1]) (st := [.int i13]) wd_X1_at w_1241 ok_X1_at (by decide) rfl (Nat.le_of_ble_eq_true rfl) dX9_listBoth_36 ⟨Nat.le_refl 0, Nat.le_refl 0⟩ kc_X1 hrc hW (fun i18 s17 hW => ?_)
      refine fr_iadd (pc := 39) dX9_listBoth_39 ?_
      refine fr_aload_n (pc := 40) 0 rfl rfl dX9_listBoth_40 ?_
      refine fr_getR (pc := 41) (T := TX9) (k := 0) kc_X9 (by decide) w_950 dX9_listBoth_41 hW (fun r21 hW => ?_)
      refine fr_aload_n (pc := 44) 0 rfl rfl dX9_listBoth_44 ?_
      refine fr_iload_n (pc := 45) 1 rfl rfl dX9_listBoth_45 ?_
      obtain ⟨hrc, hW⟩ := hW
      refine fr_callV_L (pc := 46) (As := [.int p0]) (st := [.ref r21, .int (i13 + i18)]) wd_X9_leftBy w_1242 ok_X9_leftBy (by decide) rfl (Nat.le_of_ble_eq_true rfl) dX9_listBoth_46 ⟨Nat.le_refl 0, Nat.le_refl 0⟩ kc_X9 hrc hW (fun l24 s22 hW => ?_)
      refine fr_aload_n (pc := 49) 0 rfl rfl dX9_listBoth_49 ?_
      refine fr_iload_n (pc := 50) 2 rfl rfl dX9_listBoth_50 ?_
      obtain ⟨hrc, hW⟩ := hW
      refine fr_callV_L (pc := 51) (As := [.int p1]) (st := [.long l24, .ref r21, .int (i13 + i18)]) wd_X9_leftBy w_1242 ok_X9_leftBy (by decide) rfl (Nat.le_of_ble_eq_true rfl) dX9_listBoth_51 ⟨Nat.le_refl 0, Nat.le_refl 0⟩ kc_X9 hrc hW (fun l28 s26 hW => ?_)
      refine fr_land (pc := 54) dX9_listBoth_54 ?_
      obtain ⟨hrc, hW⟩ := hW
      refine fr_callV_I (pc := 55) (As := [.long (l24 &&& l28)]) (st := [.int (i13 + i18)]) wd_X8_pagesOf w_1238 ok_X8_pagesOf (by decide) rfl (Nat.le_of_ble_eq_true rfl) dX9_listBoth_55 ⟨Nat.le_refl 0, Nat.le_refl 0⟩ kc_X8 hrc hW (fun i31 s30 hW => ?_)
      refine fr_iadd (pc := 58) dX9_listBoth_58 ?_
      refine fr_istore (pc := 59) (lv' := [(4, .int ((i13 + i18) + i31)), (0, .ref r0), (1, .int p0), (2, .int p1), (3, .int p2)]) (by decide) rfl dX9_listBoth_59 ?_
      refine fr_aload_n (pc := 61) 1 rfl rfl dX9_listBoth_61 ?_
      refine fr_bipush (pc := 62) 100 (by decide) dX9_listBoth_62 ?_
      refine fr_bipush (pc := 64) 10 (by decide) dX9_listBoth_64 ?_
      refine fr_iload_n (pc := 66) 2 rfl rfl dX9_listBoth_66 ?_
      refine fr_imul (pc := 67) dX9_listBoth_67 ?_
      refine fr_iadd (pc := 68) dX9_listBoth_68 ?_
      refine fr_iload_n (pc := 69) 3 rfl rfl dX9_listBoth_69 ?_
      refine fr_iadd (pc := 70) dX9_listBoth_70 ?_
      refine fr_iconst (pc := 71) 0 (by decide) dX9_listBoth_71 ?_
      refine fr_iload_n (pc := 72) 2 rfl rfl dX9_listBoth_72 ?_
      refine fr_callSN_I (pc := 73) (As := [.int 0, .int p0]) (st := [.int ((100 + (10 * p0)) + p1), .ref r0]) wd_X11_with ⟨RX11, by decide +kernel⟩ ok_X11_with (by decide) rfl (Nat.le_of_ble_eq_true rfl) dX9_listBoth_73 ⟨Nat.le_refl 0, Nat.le_refl 0⟩ hW (fun i35 s34 hW => ?_)
      refine fr_iload_n (pc := 76) 3 rfl rfl dX9_listBoth_76 ?_
      refine fr_callSN_I (pc := 77) (As := [.int i35, .int p1]) (st := [.int ((100 + (10 * p0)) + p1), .ref r0]) wd_X11_with ⟨RX11, by decide +kernel⟩ ok_X11_with (by decide) rfl (Nat.le_of_ble_eq_true rfl) dX9_listBoth_77 ⟨Nat.le_refl 0, Nat.le_refl 0⟩ hW (fun i39 s38 hW => ?_)
      refine fr_iload (pc := 80) 0 rfl dX9_listBoth_80 ?_
      refine fr_iload_n (pc := 82) 4 rfl rfl dX9_listBoth_82 ?_
      refine fr_iadd (pc := 83) dX9_listBoth_83 ?_
      obtain ⟨hrc, hW⟩ := hW
      refine fr_callV_V (pc := 84) (As := [.int ((100 + (10 * p0)) + p1), .int i39, .int (((i13 + i18) + i31) + p2)]) (st := []) wd_X9_add w_1240 ok_X9_add (by decide) rfl (Nat.le_of_ble_eq_true rfl) dX9_listBoth_84 ⟨Nat.le_refl 0, Nat.le_refl 0⟩ kc_X9 hrc hW (fun s42 hW => ?_)
      exact fr_ret (pc := 87) dX9_listBoth_87 rfl ⟨Nat.le_refl 0, Nat.le_refl 0⟩ hW
def J_X9_list_23 (g : GG) (post : Option Value → Hs → Prop) (σ : Hs) (a0 : Nat) (a1 : Nat) (v2 : Int32) : Prop := Fr g M_X9_list (0, 0, 0, 0) [(0, .ref a0), (1, .ref a1), (2, .int v2)] [] 23 σ post
def J_X9_list_45 (g : GG) (post : Option Value → Hs → Prop) (σ : Hs) (a0 : Nat) (a1 : Nat) (v2 : Int32) (v3 : Int32) : Prop := Fr g M_X9_list (0, 0, 0, 0) [(0, .ref a0), (1, .ref a1), (2, .int v2), (3, .int v3)] [] 45 σ post
def J_X9_list_66 (g : GG) (post : Option Value → Hs → Prop) (σ : Hs) (a0 : Nat) (v2 : Int32) (v3 : Int32) : Prop := Fr g M_X9_list (0, 0, 0, 0) [(0, .ref a0), (2, .int v2), (3, .int v3)] [] 66 σ post
def J_X9_list_77 (g : GG) (post : Option Value → Hs → Prop) (σ : Hs) (a0 : Nat) (v2 : Int32) (v3 : Int32) (v4 : Int32) : Prop := Fr g M_X9_list (0, 0, 0, 0) [(0, .ref a0), (2, .int v2), (3, .int v3), (4, .int v4)] [] 77 σ post
set_option maxHeartbeats 4000000 in
set_option maxRecDepth 100000 in
theorem q_X9_list {g : GG} {σ : Hs} {post : Option Value → Hs → Prop} (r0 : Nat) (p0 : Nat) (hW : Rc σ p0 6 ∧ Do g M_X6_mustSort 0 0 [.ref p0] σ (kI (fun i2 s1 => (i2 = 0 → J_X9_list_23 g post s1 r0 p0 0 ) ∧ (¬ i2 = 0 → FR s1 r0 9 0 (fun r5 => Rc s1 p0 6 ∧ Do g M_X6_rowsWithin 0 0 [.ref p0, .ref r5, .int 15] s1 (kL (fun l8 s6 => Do g M_J13_bitCount_95d88 0 0 [.long l8] s6 (kI (fun i11 s10 => J_X9_list_23 g post s10 r0 p0 i11 ))))))))) : Do g M_X9_list 0 0 [.ref r0, .ref p0] σ post := by
  refine Do.of (by decide +kernel) (Nat.le_of_ble_eq_true rfl) ?_
  show Fr g M_X9_list (0, 0, 0, 0) [(0, .ref r0), (1, .ref p0)] [] 0 σ post
  refine fr_iconst (pc := 0) 0 (by decide) dX9_list_0 ?_
  refine fr_istore_n (pc := 1) (lv' := [(2, .int 0), (0, .ref r0), (1, .ref p0)]) rfl (by decide) rfl dX9_list_1 ?_
  refine fr_aload_n (pc := 2) 2 rfl rfl dX9_list_2 ?_
  obtain ⟨hrc, hW⟩ := hW
  refine fr_callV_I (pc := 3) (As := []) (st := []) wd_X6_mustSort w_1243 ok_X6_mustSort (by decide) rfl (Nat.le_of_ble_eq_true rfl) dX9_list_3 ⟨Nat.le_refl 0, Nat.le_refl 0⟩ kc_X6 hrc hW (fun i2 s1 hW => ?_)
  refine fr_if_eq (pc := 6) (tgt := 23) (by decide) dX9_list_6 hW (fun hW => ?_) (fun hW => ?_)
  · exact fr_sub [1, 2, 0] rfl hW
  · refine fr_aload_n (pc := 9) 2 rfl rfl dX9_list_9 ?_
    refine fr_aload_n (pc := 10) 1 rfl rfl dX9_list_10 ?_
    refine fr_getR (pc := 11) (T := TX9) (k := 0) kc_X9 (by decide) w_950 dX9_list_11 hW (fun r5 hW => ?_)
    refine fr_bipush (pc := 14) 15 (by decide) dX9_list_14 ?_
    obtain ⟨hrc, hW⟩ := hW
    refine fr_callV_L (pc := 16) (As := [.ref r5, .int 15]) (st := []) wd_X6_rowsWithin w_1233 ok_X6_rowsWithin (by decide) rfl (Nat.le_of_ble_eq_true rfl) dX9_list_16 ⟨Nat.le_refl 0, Nat.le_refl 0⟩ kc_X6 hrc hW (fun l8 s6 hW => ?_)
    refine fr_callS_I (pc := 19) (As := [.long l8]) (st := []) wd_J13_bitCount_95d88 w_1244 ok_J13_bitCount_95d88 (by decide) rfl (Nat.le_of_ble_eq_true rfl) dX9_list_19 ⟨Nat.le_refl 0, Nat.le_refl 0⟩ hW (fun i11 s10 hW => ?_)
    refine fr_istore_n (pc := 22) (lv' := [(2, .int i11), (0, .ref r0), (1, .ref p0)]) rfl (by decide) rfl dX9_list_22 ?_
    exact fr_sub [1, 2, 0] rfl hW
set_option maxHeartbeats 4000000 in
set_option maxRecDepth 100000 in
theorem q_X9_list_23 {g : GG} {σ : Hs} {post : Option Value → Hs → Prop} (a0 : Nat) (a1 : Nat) (v2 : Int32) (hW : PF σ a0 9 7 (.int 0) (fun s14 => FR s14 a0 9 0 (fun r15 => Rc s14 r15 8 ∧ Do g M_X8_fullPages 0 0 [.ref r15] s14 (kI (fun i17 s16 => Rc s16 a0 9 ∧ Do g M_X9_add 0 0 [.ref a0, .int 0, .int 0, .int (i17 + v2)] s16 (kV (fun s20 => J_X9_list_45 g post s20 a0 a1 v2 0 ))))))) : J_X9_list_23 g post σ a0 a1 v2 := by
  show Fr g M_X9_list (0, 0, 0, 0) [(0, .ref a0), (1, .ref a1), (2, .int v2)] [] 23 σ post
  refine fr_aload_n (pc := 23) 0 rfl rfl dX9_list_23 ?_
  refine fr_iconst (pc := 24) 0 (by decide) dX9_list_24 ?_
  refine fr_put (pc := 25) (T := TX9) (k := 7) kc_X9 (by decide) w_1224 rfl rfl rfl dX9_list_25 hW (fun s14 hW => ?_)
  refine fr_aload_n (pc := 28) 0 rfl rfl dX9_list_28 ?_
  refine fr_iconst (pc := 29) 0 (by decide) dX9_list_29 ?_
  refine fr_iconst (pc := 30) 0 (by decide) dX9_list_30 ?_
  refine fr_aload_n (pc := 31) 0 rfl rfl dX9_list_31 ?_
  refine fr_getR (pc := 32) (T := TX9) (k := 0) kc_X9 (by decide) w_950 dX9_list_32 hW (fun r15 hW => ?_)
  obtain ⟨hrc, hW⟩ := hW
  refine fr_callV_I (pc := 35) (As := []) (st := [.int 0, .int 0, .ref a0]) wd_X8_fullPages w_1245 ok_X8_fullPages (by decide) rfl (Nat.le_of_ble_eq_true rfl) dX9_list_35 ⟨Nat.le_refl 0, Nat.le_refl 0⟩ kc_X8 hrc hW (fun i17 s16 hW => ?_)
  refine fr_iload_n (pc := 38) 2 rfl rfl dX9_list_38 ?_
  refine fr_iadd (pc := 39) dX9_list_39 ?_
  obtain ⟨hrc, hW⟩ := hW
  refine fr_callV_V (pc := 40) (As := [.int 0, .int 0, .int (i17 + v2)]) (st := []) wd_X9_add w_1240 ok_X9_add (by decide) rfl (Nat.le_of_ble_eq_true rfl) dX9_list_40 ⟨Nat.le_refl 0, Nat.le_refl 0⟩ kc_X9 hrc hW (fun s20 hW => ?_)
  refine fr_iconst (pc := 43) 0 (by decide) dX9_list_43 ?_
  refine fr_istore_n (pc := 44) (lv' := [(3, .int 0), (0, .ref a0), (1, .ref a1), (2, .int v2)]) rfl (by decide) rfl dX9_list_44 ?_
  exact fr_sub [1, 2, 3, 0] rfl hW
set_option maxHeartbeats 4000000 in
set_option maxRecDepth 100000 in
theorem q_X9_list_45 {g : GG} {σ : Hs} {post : Option Value → Hs → Prop} (a0 : Nat) (a1 : Nat) (v2 : Int32) (v3 : Int32) (hW : (8 ≤ v3 → J_X9_list_66 g post σ a0 v2 0 ) ∧ (¬ 8 ≤ v3 → Rc σ a0 9 ∧ Do g M_X9_listAlone 0 0 [.ref a0, .ref a1, .int v3, .int v2] σ (kV (fun s21 => J_X9_list_45 g post s21 a0 a1 v2 ((v3 + 1)) )))) : J_X9_list_45 g post σ a0 a1 v2 v3 := by
  show Fr g M_X9_list (0, 0, 0, 0) [(0, .ref a0), (1, .ref a1), (2, .int v2), (3, .int v3)] [] 45 σ post
  refine fr_iload_n (pc := 45) 3 rfl rfl dX9_list_45 ?_
  refine fr_bipush (pc := 46) 8 (by decide) dX9_list_46 ?_
  refine fr_icmp_ge (pc := 48) (tgt := 64) (by decide) dX9_list_48 hW (fun hW => ?_) (fun hW => ?_)
  · refine fr_iconst (pc := 64) 0 (by decide) dX9_list_64 ?_
    refine fr_istore_n (pc := 65) (lv' := [(3, .int 0), (0, .ref a0), (1, .ref a1), (2, .int v2)]) rfl (by decide) rfl dX9_list_65 ?_
    exact fr_sub [1, 3, 0] rfl hW
  · refine fr_aload_n (pc := 51) 0 rfl rfl dX9_list_51 ?_
    refine fr_aload_n (pc := 52) 1 rfl rfl dX9_list_52 ?_
    refine fr_iload_n (pc := 53) 3 rfl rfl dX9_list_53 ?_
    refine fr_iload_n (pc := 54) 2 rfl rfl dX9_list_54 ?_
    obtain ⟨hrc, hW⟩ := hW
    refine fr_callV_V (pc := 55) (As := [.ref a1, .int v3, .int v2]) (st := []) wd_X9_listAlone w_1246 ok_X9_listAlone (by decide) rfl (Nat.le_of_ble_eq_true rfl) dX9_list_55 ⟨Nat.le_refl 0, Nat.le_refl 0⟩ kc_X9 hrc hW (fun s21 hW => ?_)
    refine fr_iinc (pc := 58) (lv' := [(3, .int (v3 + 1)), (0, .ref a0), (1, .ref a1), (2, .int v2)]) (v3 + 1) 3 rfl (congrArg (fun z => v3 + z) (by decide)) (by decide) rfl dX9_list_58 ?_
    refine fr_goto (pc := 61) (tgt := 45) (by decide) dX9_list_61 ?_
    exact fr_sub [1, 2, 3, 0] rfl hW
set_option maxHeartbeats 4000000 in
set_option maxRecDepth 100000 in
theorem q_X9_list_66 {g : GG} {σ : Hs} {post : Option Value → Hs → Prop} (a0 : Nat) (v2 : Int32) (v3 : Int32) (hW : (8 ≤ v3 → post none σ) ∧ (¬ 8 ≤ v3 → J_X9_list_77 g post σ a0 v2 v3 ((v3 + 1)) )) : J_X9_list_66 g post σ a0 v2 v3 := by
  show Fr g M_X9_list (0, 0, 0, 0) [(0, .ref a0), (2, .int v2), (3, .int v3)] [] 66 σ post
  refine fr_iload_n (pc := 66) 2 rfl rfl dX9_list_66 ?_
  refine fr_bipush (pc := 67) 8 (by decide) dX9_list_67 ?_
  refine fr_icmp_ge (pc := 69) (tgt := 104) (by decide) dX9_list_69 hW (fun hW => ?_) (fun hW => ?_)
  · exact fr_ret (pc := 104) dX9_list_104 rfl ⟨Nat.le_refl 0, Nat.le_refl 0⟩ hW
  · refine fr_iload_n (pc := 72) 2 rfl rfl dX9_list_72 ?_
    refine fr_iconst (pc := 73) 1 (by decide) dX9_list_73 ?_
    refine fr_iadd (pc := 74) dX9_list_74 ?_
    refine fr_istore (pc := 75) (lv' := [(4, .int (v3 + 1)), (0, .ref a0), (2, .int v2), (3, .int v3)]) (by decide) rfl dX9_list_75 ?_
    exact fr_sub [1, 2, 3, 0] rfl hW
set_option maxHeartbeats 4000000 in
set_option maxRecDepth 100000 in
theorem q_X9_list_77 {g : GG} {σ : Hs} {post : Option Value → Hs → Prop} (a0 : Nat) (v2 : Int32) (v3 : Int32) (v4 : Int32) (hW : (8 ≤ v4 → J_X9_list_66 g post σ a0 v2 ((v3 + 1)) ) ∧ (¬ 8 ≤ v4 → Rc σ a0 9 ∧ Do g M_X9_listBoth 0 0 [.ref a0, .int v3, .int v4, .int v2] σ (kV (fun s22 => J_X9_list_77 g post s22 a0 v2 v3 ((v4 + 1)) )))) : J_X9_list_77 g post σ a0 v2 v3 v4 := by
  show Fr g M_X9_list (0, 0, 0, 0) [(0, .ref a0), (2, .int v2), (3, .int v3), (4, .int v4)] [] 77 σ post
  refine fr_iload (pc := 77) 3 rfl dX9_list_77 ?_
  refine fr_bipush (pc := 79) 8 (by decide) dX9_list_79 ?_
  refine fr_icmp_ge (pc := 81) (tgt := 98) (by decide) dX9_list_81 hW (fun hW => ?_) (fun hW => ?_)
  · refine fr_iinc (pc := 98) (lv' := [(3, .int (v3 + 1)), (0, .ref a0), (2, .int v2), (4, .int v4)]) (v3 + 1) 2 rfl (congrArg (fun z => v3 + z) (by decide)) (by decide) rfl dX9_list_98 ?_
    refine fr_goto (pc := 101) (tgt := 66) (by decide) dX9_list_101 ?_
    exact fr_sub [1, 2, 0] rfl hW
  · refine fr_aload_n (pc := 84) 0 rfl rfl dX9_list_84 ?_
    refine fr_iload_n (pc := 85) 2 rfl rfl dX9_list_85 ?_
    refine fr_iload (pc := 86) 3 rfl dX9_list_86 ?_
    refine fr_iload_n (pc := 88) 1 rfl rfl dX9_list_88 ?_
    obtain ⟨hrc, hW⟩ := hW
    refine fr_callV_V (pc := 89) (As := [.int v3, .int v4, .int v2]) (st := []) wd_X9_listBoth w_1247 ok_X9_listBoth (by decide) rfl (Nat.le_of_ble_eq_true rfl) dX9_list_89 ⟨Nat.le_refl 0, Nat.le_refl 0⟩ kc_X9 hrc hW (fun s22 hW => ?_)
    refine fr_iinc (pc := 92) (lv' := [(4, .int (v4 + 1)), (0, .ref a0), (2, .int v2), (3, .int v3)]) (v4 + 1) 3 rfl (congrArg (fun z => v4 + z) (by decide)) (by decide) rfl dX9_list_92 ?_
    refine fr_goto (pc := 95) (tgt := 77) (by decide) dX9_list_95 ?_
    exact fr_sub [1, 2, 3, 0] rfl hW
set_option maxHeartbeats 4000000 in
set_option maxRecDepth 100000 in
theorem q_X9_placeOf {g : GG} {σ : Hs} {post : Option Value → Hs → Prop} (r0 : Nat) (p0 : Int32) (hW : FR σ r0 9 2 (fun r1 => FI σ r0 9 7 (fun i2 => Rc σ r1 1 ∧ Do g M_X1_placeOf 0 0 [.ref r1, .int p0, .int i2] σ (kI (fun i4 s3 => post (some (.int i4)) s3))))) : Do g M_X9_placeOf 0 0 [.ref r0, .int p0] σ post := by
  refine Do.of (by decide +kernel) (Nat.le_of_ble_eq_true rfl) ?_
  show Fr g M_X9_placeOf (0, 0, 0, 0) [(0, .ref r0), (1, .int p0)] [] 0 σ post
  refine fr_aload_n (pc := 0) 0 rfl rfl dX9_placeOf_0 ?_
  refine fr_getR (pc := 1) (T := TX9) (k := 2) kc_X9 (by decide) w_944 dX9_placeOf_1 hW (fun r1 hW => ?_)
  refine fr_iload_n (pc := 4) 1 rfl rfl dX9_placeOf_4 ?_
  refine fr_aload_n (pc := 5) 0 rfl rfl dX9_placeOf_5 ?_
  refine fr_getI (pc := 6) (T := TX9) (k := 7) kc_X9 (by decide) w_1224 dX9_placeOf_6 hW (fun i2 hW => ?_)
  obtain ⟨hrc, hW⟩ := hW
  refine fr_callV_I (pc := 9) (As := [.int p0, .int i2]) (st := []) wd_X1_placeOf w_1248 ok_X1_placeOf (by decide) rfl (Nat.le_of_ble_eq_true rfl) dX9_placeOf_9 ⟨Nat.le_refl 0, Nat.le_refl 0⟩ kc_X1 hrc hW (fun i4 s3 hW => ?_)
  exact fr_iret (pc := 12) dX9_placeOf_12 rfl ⟨Nat.le_refl 0, Nat.le_refl 0⟩ hW
set_option maxHeartbeats 4000000 in
set_option maxRecDepth 100000 in
theorem q_X9_costAt {g : GG} {σ : Hs} {post : Option Value → Hs → Prop} (r0 : Nat) (p0 : Int32) (hW : FR σ r0 9 4 (fun r1 => Rc σ r1 1 ∧ Do g M_X1_at 0 0 [.ref r1, .int p0] σ (kI (fun i3 s2 => post (some (.int i3)) s2)))) : Do g M_X9_costAt 0 0 [.ref r0, .int p0] σ post := by
  refine Do.of (by decide +kernel) (Nat.le_of_ble_eq_true rfl) ?_
  show Fr g M_X9_costAt (0, 0, 0, 0) [(0, .ref r0), (1, .int p0)] [] 0 σ post
  refine fr_aload_n (pc := 0) 0 rfl rfl dX9_costAt_0 ?_
  refine fr_getR (pc := 1) (T := TX9) (k := 4) kc_X9 (by decide) w_946 dX9_costAt_1 hW (fun r1 hW => ?_)
  refine fr_iload_n (pc := 4) 1 rfl rfl dX9_costAt_4 ?_
  obtain ⟨hrc, hW⟩ := hW
  refine fr_callV_I (pc := 5) (As := [.int p0]) (st := []) wd_X1_at w_1241 ok_X1_at (by decide) rfl (Nat.le_of_ble_eq_true rfl) dX9_costAt_5 ⟨Nat.le_refl 0, Nat.le_refl 0⟩ kc_X1 hrc hW (fun i3 s2 hW => ?_)
  exact fr_iret (pc := 8) dX9_costAt_8 rfl ⟨Nat.le_refl 0, Nat.le_refl 0⟩ hW
set_option maxHeartbeats 4000000 in
set_option maxRecDepth 100000 in
theorem q_X11_looks {g : GG} {σ : Hs} {post : Option Value → Hs → Prop} (r0 : Nat) (p0 : Int32) (p1 : Int32) (hW : FR σ r0 11 3 (fun r1 => Rc σ r1 10 ∧ Do g M_X10_question 0 0 [.ref r1, .int p0] σ (kA (fun s2 => post (some (.int (-101))) s2) (fun r5 s2 => FR s2 r0 11 2 (fun r6 => Rc s2 r6 9 ∧ Do g M_X9_list 0 0 [.ref r6, .ref r5] s2 (kV (fun s7 => FR s7 r0 11 2 (fun r8 => Rc s7 r8 9 ∧ Do g M_X9_placeOf 0 0 [.ref r8, .int p1] s7 (kI (fun i10 s9 => (¬ i10 = (-1) → FR s9 r0 11 2 (fun r13 => Rc s9 r13 9 ∧ Do g M_X9_costAt 0 0 [.ref r13, .int i10] s9 (kI (fun i15 s14 => post (some (.int i15)) s14)))) ∧ (i10 = (-1) → post (some (.int (-101))) s9))))))))))) : Do g M_X11_looks 0 0 [.ref r0, .int p0, .int p1] σ post := by
  refine Do.of (by decide +kernel) (Nat.le_of_ble_eq_true rfl) ?_
  show Fr g M_X11_looks (0, 0, 0, 0) [(0, .ref r0), (1, .int p0), (2, .int p1)] [] 0 σ post
  refine fr_aload_n (pc := 0) 0 rfl rfl dX11_looks_0 ?_
  refine fr_getR (pc := 1) (T := TX11) (k := 3) kc_X11 (by decide) w_995 dX11_looks_1 hW (fun r1 hW => ?_)
  refine fr_iload_n (pc := 4) 1 rfl rfl dX11_looks_4 ?_
  obtain ⟨hrc, hW⟩ := hW
  refine fr_callV_A (pc := 5) (As := [.int p0]) (st := []) wd_X10_question w_1201 ok_X10_question (by decide) rfl (Nat.le_of_ble_eq_true rfl) dX11_looks_5 ⟨Nat.le_refl 0, Nat.le_refl 0⟩ kc_X10 hrc hW (fun s2 hW => ?_) (fun r5 s2 hW => ?_)
  · refine fr_astore_nN (pc := 8) (lv' := [(3, .null), (0, .ref r0), (1, .int p0), (2, .int p1)]) rfl (by decide) rfl dX11_looks_8 ?_
    refine fr_aload_nN (pc := 9) 0 rfl rfl dX11_looks_9 ?_
    refine fr_ifnonnullN (pc := 10) dX11_looks_10 ?_
    refine fr_bipush (pc := 13) (-101) (by decide) dX11_looks_13 ?_
    exact fr_iret (pc := 15) dX11_looks_15 rfl ⟨Nat.le_refl 0, Nat.le_refl 0⟩ hW
  · refine fr_astore_n (pc := 8) (lv' := [(3, .ref r5), (0, .ref r0), (1, .int p0), (2, .int p1)]) rfl (by decide) rfl dX11_looks_8 ?_
    refine fr_aload_n (pc := 9) 0 rfl rfl dX11_looks_9 ?_
    refine fr_ifnonnull (pc := 10) (tgt := 16) (by decide) dX11_looks_10 ?_
    refine fr_aload_n (pc := 16) 1 rfl rfl dX11_looks_16 ?_
    refine fr_getR (pc := 17) (T := TX11) (k := 2) kc_X11 (by decide) w_992 dX11_looks_17 hW (fun r6 hW => ?_)
    refine fr_aload_n (pc := 20) 0 rfl rfl dX11_looks_20 ?_
    obtain ⟨hrc, hW⟩ := hW
    refine fr_callV_V (pc := 21) (As := [.ref r5]) (st := []) wd_X9_list w_1249 ok_X9_list (by decide) rfl (Nat.le_of_ble_eq_true rfl) dX11_looks_21 ⟨Nat.le_refl 0, Nat.le_refl 0⟩ kc_X9 hrc hW (fun s7 hW => ?_)
    refine fr_aload_n (pc := 24) 1 rfl rfl dX11_looks_24 ?_
    refine fr_getR (pc := 25) (T := TX11) (k := 2) kc_X11 (by decide) w_992 dX11_looks_25 hW (fun r8 hW => ?_)
    refine fr_iload_n (pc := 28) 3 rfl rfl dX11_looks_28 ?_
    obtain ⟨hrc, hW⟩ := hW
    refine fr_callV_I (pc := 29) (As := [.int p1]) (st := []) wd_X9_placeOf w_1250 ok_X9_placeOf (by decide) rfl (Nat.le_of_ble_eq_true rfl) dX11_looks_29 ⟨Nat.le_refl 0, Nat.le_refl 0⟩ kc_X9 hrc hW (fun i10 s9 hW => ?_)
    refine fr_istore (pc := 32) (lv' := [(4, .int i10), (3, .ref r5), (0, .ref r0), (1, .int p0), (2, .int p1)]) (by decide) rfl dX11_looks_32 ?_
    refine fr_iload (pc := 34) 0 rfl dX11_looks_34 ?_
    refine fr_iconst (pc := 36) (-1) (by decide) dX11_looks_36 ?_
    refine fr_icmp_ne (pc := 37) (tgt := 45) (by decide) dX11_looks_37 hW (fun hW => ?_) (fun hW => ?_)
    · refine fr_aload_n (pc := 45) 2 rfl rfl dX11_looks_45 ?_
      refine fr_getR (pc := 46) (T := TX11) (k := 2) kc_X11 (by decide) w_992 dX11_looks_46 hW (fun r13 hW => ?_)
      refine fr_iload (pc := 49) 0 rfl dX11_looks_49 ?_
      obtain ⟨hrc, hW⟩ := hW
      refine fr_callV_I (pc := 51) (As := [.int i10]) (st := []) wd_X9_costAt w_1251 ok_X9_costAt (by decide) rfl (Nat.le_of_ble_eq_true rfl) dX11_looks_51 ⟨Nat.le_refl 0, Nat.le_refl 0⟩ kc_X9 hrc hW (fun i15 s14 hW => ?_)
      exact fr_iret (pc := 54) dX11_looks_54 rfl ⟨Nat.le_refl 0, Nat.le_refl 0⟩ hW
    · refine fr_bipush (pc := 40) (-101) (by decide) dX11_looks_40 ?_
      refine fr_goto (pc := 42) (tgt := 54) (by decide) dX11_looks_42 ?_
      exact fr_iret (pc := 54) dX11_looks_54 rfl ⟨Nat.le_refl 0, Nat.le_refl 0⟩ hW
def J_X12_fullPages_4 (g : GG) (post : Option Value → Hs → Prop) (σ : Hs) (a0 : Nat) (v1 : Int32) (v2 : Int32) : Prop := Fr g M_X12_fullPages (0, 0, 0, 0) [(0, .ref a0), (1, .int v1), (2, .int v2)] [] 4 σ post
def J_X12_fullPages_27 (g : GG) (post : Option Value → Hs → Prop) (σ : Hs) (a0 : Nat) (v1 : Int32) (v2 : Int32) (v3 : Int32) (v4 : Int32) : Prop := Fr g M_X12_fullPages (0, 0, 0, 0) [(0, .ref a0), (1, .int v1), (2, .int v2), (3, .int v3), (4, .int v4)] [] 27 σ post
set_option maxHeartbeats 4000000 in
set_option maxRecDepth 100000 in
theorem q_X12_fullPages {g : GG} {σ : Hs} {post : Option Value → Hs → Prop} (r0 : Nat) (hW : J_X12_fullPages_4 g post σ r0 0 0 ) : Do g M_X12_fullPages 0 0 [.ref r0] σ post := by
  refine Do.of (by decide +kernel) (Nat.le_of_ble_eq_true rfl) ?_
  show Fr g M_X12_fullPages (0, 0, 0, 0) [(0, .ref r0)] [] 0 σ post
  refine fr_iconst (pc := 0) 0 (by decide) dX12_fullPages_0 ?_
  refine fr_istore_n (pc := 1) (lv' := [(1, .int 0), (0, .ref r0)]) rfl (by decide) rfl dX12_fullPages_1 ?_
  refine fr_iconst (pc := 2) 0 (by decide) dX12_fullPages_2 ?_
  refine fr_istore_n (pc := 3) (lv' := [(2, .int 0), (1, .int 0), (0, .ref r0)]) rfl (by decide) rfl dX12_fullPages_3 ?_
  exact fr_sub [2, 1, 0] rfl hW
set_option maxHeartbeats 4000000 in
set_option maxRecDepth 100000 in
theorem q_X12_fullPages_4 {g : GG} {σ : Hs} {post : Option Value → Hs → Prop} (a0 : Nat) (v1 : Int32) (v2 : Int32) (hW : (64 ≤ v2 → post (some (.int v1)) σ) ∧ (¬ 64 ≤ v2 → FR σ a0 12 0 (fun r1 => AI g σ r1 1 v2 (fun i2 => FI σ a0 12 3 (fun i3 => ¬ i3 = 0 ∧ J_X12_fullPages_27 g post σ a0 v1 v2 i2 ((v2 - (v2 - v2 / i3 * i3))) ))))) : J_X12_fullPages_4 g post σ a0 v1 v2 := by
  show Fr g M_X12_fullPages (0, 0, 0, 0) [(0, .ref a0), (1, .int v1), (2, .int v2)] [] 4 σ post
  refine fr_iload_n (pc := 4) 2 rfl rfl dX12_fullPages_4 ?_
  refine fr_bipush (pc := 5) 64 (by decide) dX12_fullPages_5 ?_
  refine fr_icmp_ge (pc := 7) (tgt := 77) (by decide) dX12_fullPages_7 hW (fun hW => ?_) (fun hW => ?_)
  · refine fr_iload_n (pc := 77) 1 rfl rfl dX12_fullPages_77 ?_
    exact fr_iret (pc := 78) dX12_fullPages_78 rfl ⟨Nat.le_refl 0, Nat.le_refl 0⟩ hW
  · refine fr_aload_n (pc := 10) 0 rfl rfl dX12_fullPages_10 ?_
    refine fr_getR (pc := 11) (T := TX12) (k := 0) kc_X12 (by decide) w_1006 dX12_fullPages_11 hW (fun r1 hW => ?_)
    refine fr_iload_n (pc := 14) 2 rfl rfl dX12_fullPages_14 ?_
    refine fr_zald (pc := 15) dX12_fullPages_15 hW (fun i2 hW => ?_)
    refine fr_istore_n (pc := 16) (lv' := [(3, .int i2), (0, .ref a0), (1, .int v1), (2, .int v2)]) rfl (by decide) rfl dX12_fullPages_16 ?_
    refine fr_iload_n (pc := 17) 3 rfl rfl dX12_fullPages_17 ?_
    refine fr_iload_n (pc := 18) 3 rfl rfl dX12_fullPages_18 ?_
    refine fr_aload_n (pc := 19) 1 rfl rfl dX12_fullPages_19 ?_
    refine fr_getI (pc := 20) (T := TX12) (k := 3) kc_X12 (by decide) w_1008 dX12_fullPages_20 hW (fun i3 hW => ?_)
    obtain ⟨hne, hW⟩ := hW
    refine fr_irem (pc := 23) hne dX12_fullPages_23 ?_
    refine fr_isub (pc := 24) dX12_fullPages_24 ?_
    refine fr_istore (pc := 25) (lv' := [(4, .int (v2 - (v2 - v2 / i3 * i3))), (3, .int i2), (0, .ref a0), (1, .int v1), (2, .int v2)]) (by decide) rfl dX12_fullPages_25 ?_
    exact fr_sub [2, 3, 4, 1, 0] rfl hW
set_option maxHeartbeats 4000000 in
set_option maxRecDepth 100000 in
theorem q_X12_fullPages_27 {g : GG} {σ : Hs} {post : Option Value → Hs → Prop} (a0 : Nat) (v1 : Int32) (v2 : Int32) (v3 : Int32) (v4 : Int32) (hW : (v2 ≤ v4 → (v3 = 0 → J_X12_fullPages_4 g post σ a0 ((v1 + 0)) ((v2 + 1)) ) ∧ (¬ v3 = 0 → J_X12_fullPages_4 g post σ a0 ((v1 + 1)) ((v2 + 1)) )) ∧ (¬ v2 ≤ v4 → (v3 = 0 → J_X12_fullPages_27 g post σ a0 v1 v2 0 ((v4 + 1)) ) ∧ (¬ v3 = 0 → FR σ a0 12 0 (fun r4 => AI g σ r4 1 v4 (fun i5 => (¬ i5 = 0 → J_X12_fullPages_27 g post σ a0 v1 v2 0 ((v4 + 1)) ) ∧ (i5 = 0 → J_X12_fullPages_27 g post σ a0 v1 v2 1 ((v4 + 1)) )))))) : J_X12_fullPages_27 g post σ a0 v1 v2 v3 v4 := by
  show Fr g M_X12_fullPages (0, 0, 0, 0) [(0, .ref a0), (1, .int v1), (2, .int v2), (3, .int v3), (4, .int v4)] [] 27 σ post
  refine fr_iload (pc := 27) 4 rfl dX12_fullPages_27 ?_
  refine fr_iload_n (pc := 29) 2 rfl rfl dX12_fullPages_29 ?_
  refine fr_icmp_ge (pc := 30) (tgt := 59) (by decide) dX12_fullPages_30 hW (fun hW => ?_) (fun hW => ?_)
  · refine fr_iload_n (pc := 59) 1 rfl rfl dX12_fullPages_59 ?_
    refine fr_iload_n (pc := 60) 3 rfl rfl dX12_fullPages_60 ?_
    refine fr_if_eq (pc := 61) (tgt := 68) (by decide) dX12_fullPages_61 hW (fun hW => ?_) (fun hW => ?_)
    · refine fr_iconst (pc := 68) 0 (by decide) dX12_fullPages_68 ?_
      refine fr_iadd (pc := 69) dX12_fullPages_69 ?_
      refine fr_istore_n (pc := 70) (lv' := [(1, .int (v1 + 0)), (0, .ref a0), (2, .int v2), (3, .int v3), (4, .int v4)]) rfl (by decide) rfl dX12_fullPages_70 ?_
      refine fr_iinc (pc := 71) (lv' := [(2, .int (v2 + 1)), (1, .int (v1 + 0)), (0, .ref a0), (3, .int v3), (4, .int v4)]) (v2 + 1) 2 rfl (congrArg (fun z => v2 + z) (by decide)) (by decide) rfl dX12_fullPages_71 ?_
      refine fr_goto (pc := 74) (tgt := 4) (by decide) dX12_fullPages_74 ?_
      exact fr_sub [2, 1, 0] rfl hW
    · refine fr_iconst (pc := 64) 1 (by decide) dX12_fullPages_64 ?_
      refine fr_goto (pc := 65) (tgt := 69) (by decide) dX12_fullPages_65 ?_
      refine fr_iadd (pc := 69) dX12_fullPages_69 ?_
      refine fr_istore_n (pc := 70) (lv' := [(1, .int (v1 + 1)), (0, .ref a0), (2, .int v2), (3, .int v3), (4, .int v4)]) rfl (by decide) rfl dX12_fullPages_70 ?_
      refine fr_iinc (pc := 71) (lv' := [(2, .int (v2 + 1)), (1, .int (v1 + 1)), (0, .ref a0), (3, .int v3), (4, .int v4)]) (v2 + 1) 2 rfl (congrArg (fun z => v2 + z) (by decide)) (by decide) rfl dX12_fullPages_71 ?_
      refine fr_goto (pc := 74) (tgt := 4) (by decide) dX12_fullPages_74 ?_
      exact fr_sub [2, 1, 0] rfl hW
  · refine fr_iload_n (pc := 33) 3 rfl rfl dX12_fullPages_33 ?_
    refine fr_if_eq (pc := 34) (tgt := 51) (by decide) dX12_fullPages_34 hW (fun hW => ?_) (fun hW => ?_)
    · refine fr_iconst (pc := 51) 0 (by decide) dX12_fullPages_51 ?_
      refine fr_istore_n (pc := 52) (lv' := [(3, .int 0), (0, .ref a0), (1, .int v1), (2, .int v2), (4, .int v4)]) rfl (by decide) rfl dX12_fullPages_52 ?_
      refine fr_iinc (pc := 53) (lv' := [(4, .int (v4 + 1)), (3, .int 0), (0, .ref a0), (1, .int v1), (2, .int v2)]) (v4 + 1) 4 rfl (congrArg (fun z => v4 + z) (by decide)) (by decide) rfl dX12_fullPages_53 ?_
      refine fr_goto (pc := 56) (tgt := 27) (by decide) dX12_fullPages_56 ?_
      exact fr_sub [2, 3, 4, 1, 0] rfl hW
    · refine fr_aload_n (pc := 37) 0 rfl rfl dX12_fullPages_37 ?_
      refine fr_getR (pc := 38) (T := TX12) (k := 0) kc_X12 (by decide) w_1006 dX12_fullPages_38 hW (fun r4 hW => ?_)
      refine fr_iload (pc := 41) 4 rfl dX12_fullPages_41 ?_
      refine fr_zald (pc := 43) dX12_fullPages_43 hW (fun i5 hW => ?_)
      refine fr_if_ne (pc := 44) (tgt := 51) (by decide) dX12_fullPages_44 hW (fun hW => ?_) (fun hW => ?_)
      · refine fr_iconst (pc := 51) 0 (by decide) dX12_fullPages_51 ?_
        refine fr_istore_n (pc := 52) (lv' := [(3, .int 0), (0, .ref a0), (1, .int v1), (2, .int v2), (4, .int v4)]) rfl (by decide) rfl dX12_fullPages_52 ?_
        refine fr_iinc (pc := 53) (lv' := [(4, .int (v4 + 1)), (3, .int 0), (0, .ref a0), (1, .int v1), (2, .int v2)]) (v4 + 1) 4 rfl (congrArg (fun z => v4 + z) (by decide)) (by decide) rfl dX12_fullPages_53 ?_
        refine fr_goto (pc := 56) (tgt := 27) (by decide) dX12_fullPages_56 ?_
        exact fr_sub [2, 3, 4, 1, 0] rfl hW
      · refine fr_iconst (pc := 47) 1 (by decide) dX12_fullPages_47 ?_
        refine fr_goto (pc := 48) (tgt := 52) (by decide) dX12_fullPages_48 ?_
        refine fr_istore_n (pc := 52) (lv' := [(3, .int 1), (0, .ref a0), (1, .int v1), (2, .int v2), (4, .int v4)]) rfl (by decide) rfl dX12_fullPages_52 ?_
        refine fr_iinc (pc := 53) (lv' := [(4, .int (v4 + 1)), (3, .int 1), (0, .ref a0), (1, .int v1), (2, .int v2)]) (v4 + 1) 4 rfl (congrArg (fun z => v4 + z) (by decide)) (by decide) rfl dX12_fullPages_53 ?_
        refine fr_goto (pc := 56) (tgt := 27) (by decide) dX12_fullPages_56 ?_
        exact fr_sub [2, 3, 4, 1, 0] rfl hW
set_option maxHeartbeats 4000000 in
set_option maxRecDepth 100000 in
theorem q_X12_isFixed {g : GG} {σ : Hs} {post : Option Value → Hs → Prop} (r0 : Nat) (p0 : Int32) (p1 : Int32) (hW : Rc σ r0 12 ∧ Do g M_X12_leastOf 0 0 [.ref r0, .int p0, .int p1] σ (kI (fun i2 s1 => Rc s1 r0 12 ∧ Do g M_X12_mostOf 0 0 [.ref r0, .int p0, .int p1] s1 (kI (fun i6 s5 => (¬ i2 = i6 → post (some (.int 0)) s5) ∧ (i2 = i6 → post (some (.int 1)) s5)))))) : Do g M_X12_isFixed 0 0 [.ref r0, .int p0, .int p1] σ post := by
  refine Do.of (by decide +kernel) (Nat.le_of_ble_eq_true rfl) ?_
  show Fr g M_X12_isFixed (0, 0, 0, 0) [(0, .ref r0), (1, .int p0), (2, .int p1)] [] 0 σ post
  refine fr_aload_n (pc := 0) 0 rfl rfl dX12_isFixed_0 ?_
  refine fr_iload_n (pc := 1) 1 rfl rfl dX12_isFixed_1 ?_
  refine fr_iload_n (pc := 2) 2 rfl rfl dX12_isFixed_2 ?_
  obtain ⟨hrc, hW⟩ := hW
  refine fr_callV_I (pc := 3) (As := [.int p0, .int p1]) (st := []) wd_X12_leastOf w_1212 ok_X12_leastOf (by decide) rfl (Nat.le_of_ble_eq_true rfl) dX12_isFixed_3 ⟨Nat.le_refl 0, Nat.le_refl 0⟩ kc_X12 hrc hW (fun i2 s1 hW => ?_)
  refine fr_aload_n (pc := 6) 0 rfl rfl dX12_isFixed_6 ?_
  refine fr_iload_n (pc := 7) 1 rfl rfl dX12_isFixed_7 ?_
  refine fr_iload_n (pc := 8) 2 rfl rfl dX12_isFixed_8 ?_
  obtain ⟨hrc, hW⟩ := hW
  refine fr_callV_I (pc := 9) (As := [.int p0, .int p1]) (st := [.int i2]) wd_X12_mostOf w_1213 ok_X12_mostOf (by decide) rfl (Nat.le_of_ble_eq_true rfl) dX12_isFixed_9 ⟨Nat.le_refl 0, Nat.le_refl 0⟩ kc_X12 hrc hW (fun i6 s5 hW => ?_)
  refine fr_icmp_ne (pc := 12) (tgt := 19) (by decide) dX12_isFixed_12 hW (fun hW => ?_) (fun hW => ?_)
  · refine fr_iconst (pc := 19) 0 (by decide) dX12_isFixed_19 ?_
    exact fr_zret (pc := 20) dX12_isFixed_20 rfl ⟨Nat.le_refl 0, Nat.le_refl 0⟩ ⟨rfl, hW⟩
  · refine fr_iconst (pc := 15) 1 (by decide) dX12_isFixed_15 ?_
    refine fr_goto (pc := 16) (tgt := 20) (by decide) dX12_isFixed_16 ?_
    exact fr_zret (pc := 20) dX12_isFixed_20 rfl ⟨Nat.le_refl 0, Nat.le_refl 0⟩ ⟨rfl, hW⟩
set_option maxHeartbeats 4000000 in
set_option maxRecDepth 100000 in
theorem q_X12_isSorted {g : GG} {σ : Hs} {post : Option Value → Hs → Prop} (r0 : Nat) (p0 : Int32) (hW : FR σ r0 12 17 (fun r1 => AI g σ r1 0 p0 (fun i2 => (i2 = (-1) → post (some (.int 1)) σ) ∧ (¬ i2 = (-1) → FR σ r0 12 17 (fun r3 => AI g σ r3 0 p0 (fun i4 => Rc σ r0 12 ∧ Do g M_X12_isFixed 0 0 [.ref r0, .int p0, .int i4] σ (kI (fun i6 s5 => (i6 = 0 → post (some (.int 0)) s5) ∧ (¬ i6 = 0 → post (some (.int 1)) s5))))))))) : Do g M_X12_isSorted 0 0 [.ref r0, .int p0] σ post := by
  refine Do.of (by decide +kernel) (Nat.le_of_ble_eq_true rfl) ?_
  show Fr g M_X12_isSorted (0, 0, 0, 0) [(0, .ref r0), (1, .int p0)] [] 0 σ post
  refine fr_aload_n (pc := 0) 0 rfl rfl dX12_isSorted_0 ?_
  refine fr_getR (pc := 1) (T := TX12) (k := 17) kc_X12 (by decide) w_1020 dX12_isSorted_1 hW (fun r1 hW => ?_)
  refine fr_iload_n (pc := 4) 1 rfl rfl dX12_isSorted_4 ?_
  refine fr_iald (pc := 5) dX12_isSorted_5 hW (fun i2 hW => ?_)
  refine fr_iconst (pc := 6) (-1) (by decide) dX12_isSorted_6 ?_
  refine fr_icmp_eq (pc := 7) (tgt := 24) (by decide) dX12_isSorted_7 hW (fun hW => ?_) (fun hW => ?_)
  · refine fr_iconst (pc := 24) 1 (by decide) dX12_isSorted_24 ?_
    refine fr_goto (pc := 25) (tgt := 29) (by decide) dX12_isSorted_25 ?_
    exact fr_zret (pc := 29) dX12_isSorted_29 rfl ⟨Nat.le_refl 0, Nat.le_refl 0⟩ ⟨rfl, hW⟩
  · refine fr_aload_n (pc := 10) 0 rfl rfl dX12_isSorted_10 ?_
    refine fr_iload_n (pc := 11) 1 rfl rfl dX12_isSorted_11 ?_
    refine fr_aload_n (pc := 12) 0 rfl rfl dX12_isSorted_12 ?_
    refine fr_getR (pc := 13) (T := TX12) (k := 17) kc_X12 (by decide) w_1020 dX12_isSorted_13 hW (fun r3 hW => ?_)
    refine fr_iload_n (pc := 16) 1 rfl rfl dX12_isSorted_16 ?_
    refine fr_iald (pc := 17) dX12_isSorted_17 hW (fun i4 hW => ?_)
    obtain ⟨hrc, hW⟩ := hW
    refine fr_callV_I (pc := 18) (As := [.int p0, .int i4]) (st := []) wd_X12_isFixed w_1252 ok_X12_isFixed (by decide) rfl (Nat.le_of_ble_eq_true rfl) dX12_isSorted_18 ⟨Nat.le_refl 0, Nat.le_refl 0⟩ kc_X12 hrc hW (fun i6 s5 hW => ?_)
    refine fr_if_eq (pc := 21) (tgt := 28) (by decide) dX12_isSorted_21 hW (fun hW => ?_) (fun hW => ?_)
    · refine fr_iconst (pc := 28) 0 (by decide) dX12_isSorted_28 ?_
      exact fr_zret (pc := 29) dX12_isSorted_29 rfl ⟨Nat.le_refl 0, Nat.le_refl 0⟩ ⟨rfl, hW⟩
    · refine fr_iconst (pc := 24) 1 (by decide) dX12_isSorted_24 ?_
      refine fr_goto (pc := 25) (tgt := 29) (by decide) dX12_isSorted_25 ?_
      exact fr_zret (pc := 29) dX12_isSorted_29 rfl ⟨Nat.le_refl 0, Nat.le_refl 0⟩ ⟨rfl, hW⟩
set_option maxHeartbeats 4000000 in
set_option maxRecDepth 100000 in
theorem q_X12_looksByTable {g : GG} {σ : Hs} {post : Option Value → Hs → Prop} (r0 : Nat) (p0 : Int32) (hW : Rc σ r0 12 ∧ Do g M_X12_fullPages 0 0 [.ref r0] σ (kI (fun i2 s1 => Rc s1 r0 12 ∧ Do g M_X12_isSorted 0 0 [.ref r0, .int p0] s1 (kI (fun i6 s5 => (i6 = 0 → Rc s5 r0 12 ∧ Do g M_X12_answersOf 0 0 [.ref r0, .int p0] s5 (kI (fun i10 s9 => post (some (.int (i2 + i10))) s9))) ∧ (¬ i6 = 0 → post (some (.int (i2 + 0))) s5)))))) : Do g M_X12_looksByTable 0 0 [.ref r0, .int p0] σ post := by
  refine Do.of (by decide +kernel) (Nat.le_of_ble_eq_true rfl) ?_
  show Fr g M_X12_looksByTable (0, 0, 0, 0) [(0, .ref r0), (1, .int p0)] [] 0 σ post
  refine fr_aload_n (pc := 0) 0 rfl rfl dX12_looksByTable_0 ?_
  obtain ⟨hrc, hW⟩ := hW
  refine fr_callV_I (pc := 1) (As := []) (st := []) wd_X12_fullPages w_1253 ok_X12_fullPages (by decide) rfl (Nat.le_of_ble_eq_true rfl) dX12_looksByTable_1 ⟨Nat.le_refl 0, Nat.le_refl 0⟩ kc_X12 hrc hW (fun i2 s1 hW => ?_)
  refine fr_aload_n (pc := 4) 0 rfl rfl dX12_looksByTable_4 ?_
  refine fr_iload_n (pc := 5) 1 rfl rfl dX12_looksByTable_5 ?_
  obtain ⟨hrc, hW⟩ := hW
  refine fr_callV_I (pc := 6) (As := [.int p0]) (st := [.int i2]) wd_X12_isSorted w_1254 ok_X12_isSorted (by decide) rfl (Nat.le_of_ble_eq_true rfl) dX12_looksByTable_6 ⟨Nat.le_refl 0, Nat.le_refl 0⟩ kc_X12 hrc hW (fun i6 s5 hW => ?_)
  refine fr_if_eq (pc := 9) (tgt := 16) (by decide) dX12_looksByTable_9 hW (fun hW => ?_) (fun hW => ?_)
  · refine fr_aload_n (pc := 16) 0 rfl rfl dX12_looksByTable_16 ?_
    refine fr_iload_n (pc := 17) 1 rfl rfl dX12_looksByTable_17 ?_
    obtain ⟨hrc, hW⟩ := hW
    refine fr_callV_I (pc := 18) (As := [.int p0]) (st := [.int i2]) wd_X12_answersOf w_1216 ok_X12_answersOf (by decide) rfl (Nat.le_of_ble_eq_true rfl) dX12_looksByTable_18 ⟨Nat.le_refl 0, Nat.le_refl 0⟩ kc_X12 hrc hW (fun i10 s9 hW => ?_)
    refine fr_iadd (pc := 21) dX12_looksByTable_21 ?_
    exact fr_iret (pc := 22) dX12_looksByTable_22 rfl ⟨Nat.le_refl 0, Nat.le_refl 0⟩ hW
  · refine fr_iconst (pc := 12) 0 (by decide) dX12_looksByTable_12 ?_
    refine fr_goto (pc := 13) (tgt := 21) (by decide) dX12_looksByTable_13 ?_
    refine fr_iadd (pc := 21) dX12_looksByTable_21 ?_
    exact fr_iret (pc := 22) dX12_looksByTable_22 rfl ⟨Nat.le_refl 0, Nat.le_refl 0⟩ hW
set_option maxHeartbeats 4000000 in
set_option maxRecDepth 100000 in
theorem q_X12_isBound {g : GG} {σ : Hs} {post : Option Value → Hs → Prop} (r0 : Nat) (p0 : Int32) (p1 : Int32) (hW : Rc σ r0 12 ∧ Do g M_X12_leastOf 0 0 [.ref r0, .int p0, .int p1] σ (kI (fun i2 s1 => (¬ i2 = 0 → post (some (.int 1)) s1) ∧ (i2 = 0 → Rc s1 r0 12 ∧ Do g M_X12_mostOf 0 0 [.ref r0, .int p0, .int p1] s1 (kI (fun i6 s5 => (i6 = 99 → post (some (.int 0)) s5) ∧ (¬ i6 = 99 → post (some (.int 1)) s5))))))) : Do g M_X12_isBound 0 0 [.ref r0, .int p0, .int p1] σ post := by
  refine Do.of (by decide +kernel) (Nat.le_of_ble_eq_true rfl) ?_
  show Fr g M_X12_isBound (0, 0, 0, 0) [(0, .ref r0), (1, .int p0), (2, .int p1)] [] 0 σ post
  refine fr_aload_n (pc := 0) 0 rfl rfl dX12_isBound_0 ?_
  refine fr_iload_n (pc := 1) 1 rfl rfl dX12_isBound_1 ?_
  refine fr_iload_n (pc := 2) 2 rfl rfl dX12_isBound_2 ?_
  obtain ⟨hrc, hW⟩ := hW
  refine fr_callV_I (pc := 3) (As := [.int p0, .int p1]) (st := []) wd_X12_leastOf w_1212 ok_X12_leastOf (by decide) rfl (Nat.le_of_ble_eq_true rfl) dX12_isBound_3 ⟨Nat.le_refl 0, Nat.le_refl 0⟩ kc_X12 hrc hW (fun i2 s1 hW => ?_)
  refine fr_if_ne (pc := 6) (tgt := 20) (by decide) dX12_isBound_6 hW (fun hW => ?_) (fun hW => ?_)
  · refine fr_iconst (pc := 20) 1 (by decide) dX12_isBound_20 ?_
    refine fr_goto (pc := 21) (tgt := 25) (by decide) dX12_isBound_21 ?_
    exact fr_zret (pc := 25) dX12_isBound_25 rfl ⟨Nat.le_refl 0, Nat.le_refl 0⟩ ⟨rfl, hW⟩
  · refine fr_aload_n (pc := 9) 0 rfl rfl dX12_isBound_9 ?_
    refine fr_iload_n (pc := 10) 1 rfl rfl dX12_isBound_10 ?_
    refine fr_iload_n (pc := 11) 2 rfl rfl dX12_isBound_11 ?_
    obtain ⟨hrc, hW⟩ := hW
    refine fr_callV_I (pc := 12) (As := [.int p0, .int p1]) (st := []) wd_X12_mostOf w_1213 ok_X12_mostOf (by decide) rfl (Nat.le_of_ble_eq_true rfl) dX12_isBound_12 ⟨Nat.le_refl 0, Nat.le_refl 0⟩ kc_X12 hrc hW (fun i6 s5 hW => ?_)
    refine fr_bipush (pc := 15) 99 (by decide) dX12_isBound_15 ?_
    refine fr_icmp_eq (pc := 17) (tgt := 24) (by decide) dX12_isBound_17 hW (fun hW => ?_) (fun hW => ?_)
    · refine fr_iconst (pc := 24) 0 (by decide) dX12_isBound_24 ?_
      exact fr_zret (pc := 25) dX12_isBound_25 rfl ⟨Nat.le_refl 0, Nat.le_refl 0⟩ ⟨rfl, hW⟩
    · refine fr_iconst (pc := 20) 1 (by decide) dX12_isBound_20 ?_
      refine fr_goto (pc := 21) (tgt := 25) (by decide) dX12_isBound_21 ?_
      exact fr_zret (pc := 25) dX12_isBound_25 rfl ⟨Nat.le_refl 0, Nat.le_refl 0⟩ ⟨rfl, hW⟩
def J_X12_runColumns_2 (g : GG) (post : Option Value → Hs → Prop) (σ : Hs) (a0 : Nat) (v1 : Int32) (v2 : Int32) (v3 : Int32) : Prop := Fr g M_X12_runColumns (0, 0, 0, 0) [(0, .ref a0), (1, .int v1), (2, .int v2), (3, .int v3)] [] 2 σ post
def J_X12_runColumns_39 (g : GG) (post : Option Value → Hs → Prop) (σ : Hs) (a0 : Nat) (v1 : Int32) (v2 : Int32) (v3 : Int32) : Prop := Fr g M_X12_runColumns (0, 0, 0, 0) [(0, .ref a0), (1, .int v1), (2, .int v2), (3, .int v3)] [] 39 σ post
set_option maxHeartbeats 4000000 in
set_option maxRecDepth 100000 in
theorem q_X12_runColumns {g : GG} {σ : Hs} {post : Option Value → Hs → Prop} (r0 : Nat) (p0 : Int32) (p1 : Int32) (hW : J_X12_runColumns_2 g post σ r0 p0 p1 0 ) : Do g M_X12_runColumns 0 0 [.ref r0, .int p0, .int p1] σ post := by
  refine Do.of (by decide +kernel) (Nat.le_of_ble_eq_true rfl) ?_
  show Fr g M_X12_runColumns (0, 0, 0, 0) [(0, .ref r0), (1, .int p0), (2, .int p1)] [] 0 σ post
  refine fr_iconst (pc := 0) 0 (by decide) dX12_runColumns_0 ?_
  refine fr_istore_n (pc := 1) (lv' := [(3, .int 0), (0, .ref r0), (1, .int p0), (2, .int p1)]) rfl (by decide) rfl dX12_runColumns_1 ?_
  exact fr_sub [1, 2, 3, 0] rfl hW
set_option maxHeartbeats 4000000 in
set_option maxRecDepth 100000 in
theorem q_X12_runColumns_2 {g : GG} {σ : Hs} {post : Option Value → Hs → Prop} (a0 : Nat) (v1 : Int32) (v2 : Int32) (v3 : Int32) (hW : FR σ a0 12 5 (fun r1 => AI g σ r1 0 v2 (fun i2 => Do g M_X12_keySize 0 0 [.int i2] σ (kI (fun i4 s3 => (i4 ≤ v3 → J_X12_runColumns_39 g post s3 a0 v1 v2 v3 ) ∧ (¬ i4 ≤ v3 → FR s3 a0 12 5 (fun r7 => AI g s3 r7 0 v2 (fun i8 => Do g M_X12_keyAt 0 0 [.int i8, .int v3] s3 (kI (fun i10 s9 => Rc s9 a0 12 ∧ Do g M_X12_isFixed 0 0 [.ref a0, .int v1, .int i10] s9 (kI (fun i14 s13 => (i14 = 0 → J_X12_runColumns_39 g post s13 a0 v1 v2 v3 ) ∧ (¬ i14 = 0 → J_X12_runColumns_2 g post s13 a0 v1 v2 ((v3 + 1)) ))))))))))))) : J_X12_runColumns_2 g post σ a0 v1 v2 v3 := by
  show Fr g M_X12_runColumns (0, 0, 0, 0) [(0, .ref a0), (1, .int v1), (2, .int v2), (3, .int v3)] [] 2 σ post
  refine fr_iload_n (pc := 2) 3 rfl rfl dX12_runColumns_2 ?_
  refine fr_aload_n (pc := 3) 0 rfl rfl dX12_runColumns_3 ?_
  refine fr_getR (pc := 4) (T := TX12) (k := 5) kc_X12 (by decide) w_1009 dX12_runColumns_4 hW (fun r1 hW => ?_)
  refine fr_iload_n (pc := 7) 2 rfl rfl dX12_runColumns_7 ?_
  refine fr_iald (pc := 8) dX12_runColumns_8 hW (fun i2 hW => ?_)
  refine fr_callS_I (pc := 9) (As := [.int i2]) (st := [.int v3]) wd_X12_keySize w_1068 ok_X12_keySize (by decide) rfl (Nat.le_of_ble_eq_true rfl) dX12_runColumns_9 ⟨Nat.le_refl 0, Nat.le_refl 0⟩ hW (fun i4 s3 hW => ?_)
  refine fr_icmp_ge (pc := 12) (tgt := 39) (by decide) dX12_runColumns_12 hW (fun hW => ?_) (fun hW => ?_)
  · exact fr_sub [0, 1, 2, 3] rfl hW
  · refine fr_aload_n (pc := 15) 0 rfl rfl dX12_runColumns_15 ?_
    refine fr_iload_n (pc := 16) 1 rfl rfl dX12_runColumns_16 ?_
    refine fr_aload_n (pc := 17) 0 rfl rfl dX12_runColumns_17 ?_
    refine fr_getR (pc := 18) (T := TX12) (k := 5) kc_X12 (by decide) w_1009 dX12_runColumns_18 hW (fun r7 hW => ?_)
    refine fr_iload_n (pc := 21) 2 rfl rfl dX12_runColumns_21 ?_
    refine fr_iald (pc := 22) dX12_runColumns_22 hW (fun i8 hW => ?_)
    refine fr_iload_n (pc := 23) 3 rfl rfl dX12_runColumns_23 ?_
    refine fr_callS_I (pc := 24) (As := [.int i8, .int v3]) (st := [.int v1, .ref a0]) wd_X12_keyAt w_1069 ok_X12_keyAt (by decide) rfl (Nat.le_of_ble_eq_true rfl) dX12_runColumns_24 ⟨Nat.le_refl 0, Nat.le_refl 0⟩ hW (fun i10 s9 hW => ?_)
    obtain ⟨hrc, hW⟩ := hW
    refine fr_callV_I (pc := 27) (As := [.int v1, .int i10]) (st := []) wd_X12_isFixed w_1252 ok_X12_isFixed (by decide) rfl (Nat.le_of_ble_eq_true rfl) dX12_runColumns_27 ⟨Nat.le_refl 0, Nat.le_refl 0⟩ kc_X12 hrc hW (fun i14 s13 hW => ?_)
    refine fr_if_eq (pc := 30) (tgt := 39) (by decide) dX12_runColumns_30 hW (fun hW => ?_) (fun hW => ?_)
    · exact fr_sub [0, 1, 2, 3] rfl hW
    · refine fr_iinc (pc := 33) (lv' := [(3, .int (v3 + 1)), (0, .ref a0), (1, .int v1), (2, .int v2)]) (v3 + 1) 3 rfl (congrArg (fun z => v3 + z) (by decide)) (by decide) rfl dX12_runColumns_33 ?_
      refine fr_goto (pc := 36) (tgt := 2) (by decide) dX12_runColumns_36 ?_
      exact fr_sub [1, 2, 3, 0] rfl hW
set_option maxHeartbeats 4000000 in
set_option maxRecDepth 100000 in
theorem q_X12_runColumns_39 {g : GG} {σ : Hs} {post : Option Value → Hs → Prop} (a0 : Nat) (v1 : Int32) (v2 : Int32) (v3 : Int32) (hW : FR σ a0 12 5 (fun r17 => AI g σ r17 0 v2 (fun i18 => Do g M_X12_keySize 0 0 [.int i18] σ (kI (fun i20 s19 => (i20 ≤ v3 → post (some (.int v3)) s19) ∧ (¬ i20 ≤ v3 → FR s19 a0 12 5 (fun r23 => AI g s19 r23 0 v2 (fun i24 => Do g M_X12_keyAt 0 0 [.int i24, .int v3] s19 (kI (fun i26 s25 => Rc s25 a0 12 ∧ Do g M_X12_isBound 0 0 [.ref a0, .int v1, .int i26] s25 (kI (fun i30 s29 => (i30 = 0 → post (some (.int v3)) s29) ∧ (¬ i30 = 0 → post (some (.int (v3 + 1))) s29))))))))))))) : J_X12_runColumns_39 g post σ a0 v1 v2 v3 := by
  show Fr g M_X12_runColumns (0, 0, 0, 0) [(0, .ref a0), (1, .int v1), (2, .int v2), (3, .int v3)] [] 39 σ post
  refine fr_iload_n (pc := 39) 3 rfl rfl dX12_runColumns_39 ?_
  refine fr_aload_n (pc := 40) 0 rfl rfl dX12_runColumns_40 ?_
  refine fr_getR (pc := 41) (T := TX12) (k := 5) kc_X12 (by decide) w_1009 dX12_runColumns_41 hW (fun r17 hW => ?_)
  refine fr_iload_n (pc := 44) 2 rfl rfl dX12_runColumns_44 ?_
  refine fr_iald (pc := 45) dX12_runColumns_45 hW (fun i18 hW => ?_)
  refine fr_callS_I (pc := 46) (As := [.int i18]) (st := [.int v3]) wd_X12_keySize w_1068 ok_X12_keySize (by decide) rfl (Nat.le_of_ble_eq_true rfl) dX12_runColumns_46 ⟨Nat.le_refl 0, Nat.le_refl 0⟩ hW (fun i20 s19 hW => ?_)
  refine fr_icmp_ge (pc := 49) (tgt := 76) (by decide) dX12_runColumns_49 hW (fun hW => ?_) (fun hW => ?_)
  · refine fr_iload_n (pc := 76) 3 rfl rfl dX12_runColumns_76 ?_
    exact fr_iret (pc := 77) dX12_runColumns_77 rfl ⟨Nat.le_refl 0, Nat.le_refl 0⟩ hW
  · refine fr_aload_n (pc := 52) 0 rfl rfl dX12_runColumns_52 ?_
    refine fr_iload_n (pc := 53) 1 rfl rfl dX12_runColumns_53 ?_
    refine fr_aload_n (pc := 54) 0 rfl rfl dX12_runColumns_54 ?_
    refine fr_getR (pc := 55) (T := TX12) (k := 5) kc_X12 (by decide) w_1009 dX12_runColumns_55 hW (fun r23 hW => ?_)
    refine fr_iload_n (pc := 58) 2 rfl rfl dX12_runColumns_58 ?_
    refine fr_iald (pc := 59) dX12_runColumns_59 hW (fun i24 hW => ?_)
    refine fr_iload_n (pc := 60) 3 rfl rfl dX12_runColumns_60 ?_
    refine fr_callS_I (pc := 61) (As := [.int i24, .int v3]) (st := [.int v1, .ref a0]) wd_X12_keyAt w_1069 ok_X12_keyAt (by decide) rfl (Nat.le_of_ble_eq_true rfl) dX12_runColumns_61 ⟨Nat.le_refl 0, Nat.le_refl 0⟩ hW (fun i26 s25 hW => ?_)
    obtain ⟨hrc, hW⟩ := hW
    refine fr_callV_I (pc := 64) (As := [.int v1, .int i26]) (st := []) wd_X12_isBound w_1255 ok_X12_isBound (by decide) rfl (Nat.le_of_ble_eq_true rfl) dX12_runColumns_64 ⟨Nat.le_refl 0, Nat.le_refl 0⟩ kc_X12 hrc hW (fun i30 s29 hW => ?_)
    refine fr_if_eq (pc := 67) (tgt := 76) (by decide) dX12_runColumns_67 hW (fun hW => ?_) (fun hW => ?_)
    · refine fr_iload_n (pc := 76) 3 rfl rfl dX12_runColumns_76 ?_
      exact fr_iret (pc := 77) dX12_runColumns_77 rfl ⟨Nat.le_refl 0, Nat.le_refl 0⟩ hW
    · refine fr_iload_n (pc := 70) 3 rfl rfl dX12_runColumns_70 ?_
      refine fr_iconst (pc := 71) 1 (by decide) dX12_runColumns_71 ?_
      refine fr_iadd (pc := 72) dX12_runColumns_72 ?_
      refine fr_goto (pc := 73) (tgt := 77) (by decide) dX12_runColumns_73 ?_
      exact fr_iret (pc := 77) dX12_runColumns_77 rfl ⟨Nat.le_refl 0, Nat.le_refl 0⟩ hW
def J_X12_isInRun_3 (g : GG) (post : Option Value → Hs → Prop) (σ : Hs) (a0 : Nat) (v1 : Int32) (v2 : Int32) (v3 : Int32) (v4 : Int32) (v5 : Int32) : Prop := Fr g M_X12_isInRun (0, 0, 0, 0) [(0, .ref a0), (1, .int v1), (2, .int v2), (3, .int v3), (4, .int v4), (5, .int v5)] [] 3 σ post
set_option maxHeartbeats 4000000 in
set_option maxRecDepth 100000 in
theorem q_X12_isInRun {g : GG} {σ : Hs} {post : Option Value → Hs → Prop} (r0 : Nat) (p0 : Int32) (p1 : Int32) (p2 : Int32) (p3 : Int32) (hW : J_X12_isInRun_3 g post σ r0 p0 p1 p2 p3 0 ) : Do g M_X12_isInRun 0 0 [.ref r0, .int p0, .int p1, .int p2, .int p3] σ post := by
  refine Do.of (by decide +kernel) (Nat.le_of_ble_eq_true rfl) ?_
  show Fr g M_X12_isInRun (0, 0, 0, 0) [(0, .ref r0), (1, .int p0), (2, .int p1), (3, .int p2), (4, .int p3)] [] 0 σ post
  refine fr_iconst (pc := 0) 0 (by decide) dX12_isInRun_0 ?_
  refine fr_istore (pc := 1) (lv' := [(5, .int 0), (0, .ref r0), (1, .int p0), (2, .int p1), (3, .int p2), (4, .int p3)]) (by decide) rfl dX12_isInRun_1 ?_
  exact fr_sub [1, 2, 3, 4, 5, 0] rfl hW
set_option maxHeartbeats 4000000 in
set_option maxRecDepth 100000 in
theorem q_X12_isInRun_3 {g : GG} {σ : Hs} {post : Option Value → Hs → Prop} (a0 : Nat) (v1 : Int32) (v2 : Int32) (v3 : Int32) (v4 : Int32) (v5 : Int32) (hW : (v4 ≤ v5 → post (some (.int 1)) σ) ∧ (¬ v4 ≤ v5 → FR σ a0 12 5 (fun r1 => AI g σ r1 0 v2 (fun i2 => Do g M_X12_keyAt 0 0 [.int i2, .int v5] σ (kI (fun i4 s3 => Rc s3 a0 12 ∧ Do g M_X12_isWithin 0 0 [.ref a0, .int v1, .int i4, .int v3] s3 (kI (fun i8 s7 => (¬ i8 = 0 → J_X12_isInRun_3 g post s7 a0 v1 v2 v3 v4 ((v5 + 1)) ) ∧ (i8 = 0 → post (some (.int 0)) s7))))))))) : J_X12_isInRun_3 g post σ a0 v1 v2 v3 v4 v5 := by
  show Fr g M_X12_isInRun (0, 0, 0, 0) [(0, .ref a0), (1, .int v1), (2, .int v2), (3, .int v3), (4, .int v4), (5, .int v5)] [] 3 σ post
  refine fr_iload (pc := 3) 5 rfl dX12_isInRun_3 ?_
  refine fr_iload (pc := 5) 4 rfl dX12_isInRun_5 ?_
  refine fr_icmp_ge (pc := 7) (tgt := 38) (by decide) dX12_isInRun_7 hW (fun hW => ?_) (fun hW => ?_)
  · refine fr_iconst (pc := 38) 1 (by decide) dX12_isInRun_38 ?_
    exact fr_zret (pc := 39) dX12_isInRun_39 rfl ⟨Nat.le_refl 0, Nat.le_refl 0⟩ ⟨rfl, hW⟩
  · refine fr_aload_n (pc := 10) 0 rfl rfl dX12_isInRun_10 ?_
    refine fr_iload_n (pc := 11) 1 rfl rfl dX12_isInRun_11 ?_
    refine fr_aload_n (pc := 12) 0 rfl rfl dX12_isInRun_12 ?_
    refine fr_getR (pc := 13) (T := TX12) (k := 5) kc_X12 (by decide) w_1009 dX12_isInRun_13 hW (fun r1 hW => ?_)
    refine fr_iload_n (pc := 16) 2 rfl rfl dX12_isInRun_16 ?_
    refine fr_iald (pc := 17) dX12_isInRun_17 hW (fun i2 hW => ?_)
    refine fr_iload (pc := 18) 5 rfl dX12_isInRun_18 ?_
    refine fr_callS_I (pc := 20) (As := [.int i2, .int v5]) (st := [.int v1, .ref a0]) wd_X12_keyAt w_1069 ok_X12_keyAt (by decide) rfl (Nat.le_of_ble_eq_true rfl) dX12_isInRun_20 ⟨Nat.le_refl 0, Nat.le_refl 0⟩ hW (fun i4 s3 hW => ?_)
    refine fr_iload_n (pc := 23) 3 rfl rfl dX12_isInRun_23 ?_
    obtain ⟨hrc, hW⟩ := hW
    refine fr_callV_I (pc := 24) (As := [.int v1, .int i4, .int v3]) (st := []) wd_X12_isWithin w_1214 ok_X12_isWithin (by decide) rfl (Nat.le_of_ble_eq_true rfl) dX12_isInRun_24 ⟨Nat.le_refl 0, Nat.le_refl 0⟩ kc_X12 hrc hW (fun i8 s7 hW => ?_)
    refine fr_if_ne (pc := 27) (tgt := 32) (by decide) dX12_isInRun_27 hW (fun hW => ?_) (fun hW => ?_)
    · refine fr_iinc (pc := 32) (lv' := [(5, .int (v5 + 1)), (0, .ref a0), (1, .int v1), (2, .int v2), (3, .int v3), (4, .int v4)]) (v5 + 1) 5 rfl (congrArg (fun z => v5 + z) (by decide)) (by decide) rfl dX12_isInRun_32 ?_
      refine fr_goto (pc := 35) (tgt := 3) (by decide) dX12_isInRun_35 ?_
      exact fr_sub [1, 2, 3, 4, 5, 0] rfl hW
    · refine fr_iconst (pc := 30) 0 (by decide) dX12_isInRun_30 ?_
      exact fr_zret (pc := 31) dX12_isInRun_31 rfl ⟨Nat.le_refl 0, Nat.le_refl 0⟩ ⟨rfl, hW⟩
def J_X12_wayDown_16 (g : GG) (post : Option Value → Hs → Prop) (σ : Hs) (a0 : Nat) (v1 : Int32) (v2 : Int32) (v3 : Int32) (v4 : Int32) (v5 : Int32) (v6 : Int32) : Prop := Fr g M_X12_wayDown (0, 0, 0, 0) [(0, .ref a0), (1, .int v1), (2, .int v2), (3, .int v3), (4, .int v4), (5, .int v5), (6, .int v6)] [] 16 σ post
def J_X12_wayDown_33 (g : GG) (post : Option Value → Hs → Prop) (σ : Hs) (a0 : Nat) (v1 : Int32) (v2 : Int32) (v3 : Int32) (v4 : Int32) (v5 : Int32) (v6 : Int32) (v7 : Int32) (v8 : Int32) : Prop := Fr g M_X12_wayDown (0, 0, 0, 0) [(0, .ref a0), (1, .int v1), (2, .int v2), (3, .int v3), (4, .int v4), (5, .int v5), (6, .int v6), (7, .int v7), (8, .int v8)] [] 33 σ post
def J_X12_wayDown_105 (g : GG) (post : Option Value → Hs → Prop) (σ : Hs) (a0 : Nat) (v1 : Int32) (v2 : Int32) (v3 : Int32) (v5 : Int32) (v6 : Int32) (t0 : Int32) (t1 : Int32) : Prop := Fr g M_X12_wayDown (0, 0, 0, 0) [(0, .ref a0), (1, .int v1), (2, .int v2), (3, .int v3), (5, .int v5), (6, .int v6)] [.int t0, .int t1] 105 σ post
set_option maxHeartbeats 4000000 in
set_option maxRecDepth 100000 in
theorem q_X12_wayDown {g : GG} {σ : Hs} {post : Option Value → Hs → Prop} (r0 : Nat) (p0 : Int32) (p1 : Int32) (hW : Rc σ r0 12 ∧ Do g M_X12_runColumns 0 0 [.ref r0, .int p0, .int p1] σ (kI (fun i2 s1 => J_X12_wayDown_16 g post s1 r0 p0 p1 i2 0 0 0 ))) : Do g M_X12_wayDown 0 0 [.ref r0, .int p0, .int p1] σ post := by
  refine Do.of (by decide +kernel) (Nat.le_of_ble_eq_true rfl) ?_
  show Fr g M_X12_wayDown (0, 0, 0, 0) [(0, .ref r0), (1, .int p0), (2, .int p1)] [] 0 σ post
  refine fr_aload_n (pc := 0) 0 rfl rfl dX12_wayDown_0 ?_
  refine fr_iload_n (pc := 1) 1 rfl rfl dX12_wayDown_1 ?_
  refine fr_iload_n (pc := 2) 2 rfl rfl dX12_wayDown_2 ?_
  obtain ⟨hrc, hW⟩ := hW
  refine fr_callV_I (pc := 3) (As := [.int p0, .int p1]) (st := []) wd_X12_runColumns w_1256 ok_X12_runColumns (by decide) rfl (Nat.le_of_ble_eq_true rfl) dX12_wayDown_3 ⟨Nat.le_refl 0, Nat.le_refl 0⟩ kc_X12 hrc hW (fun i2 s1 hW => ?_)
  refine fr_istore_n (pc := 6) (lv' := [(3, .int i2), (0, .ref r0), (1, .int p0), (2, .int p1)]) rfl (by decide) rfl dX12_wayDown_6 ?_
  refine fr_iconst (pc := 7) 0 (by decide) dX12_wayDown_7 ?_
  refine fr_istore (pc := 8) (lv' := [(4, .int 0), (3, .int i2), (0, .ref r0), (1, .int p0), (2, .int p1)]) (by decide) rfl dX12_wayDown_8 ?_
  refine fr_iconst (pc := 10) 0 (by decide) dX12_wayDown_10 ?_
  refine fr_istore (pc := 11) (lv' := [(5, .int 0), (4, .int 0), (3, .int i2), (0, .ref r0), (1, .int p0), (2, .int p1)]) (by decide) rfl dX12_wayDown_11 ?_
  refine fr_iconst (pc := 13) 0 (by decide) dX12_wayDown_13 ?_
  refine fr_istore (pc := 14) (lv' := [(6, .int 0), (5, .int 0), (4, .int 0), (3, .int i2), (0, .ref r0), (1, .int p0), (2, .int p1)]) (by decide) rfl dX12_wayDown_14 ?_
  exact fr_sub [4, 5, 6, 3, 2, 1, 0] rfl hW
set_option maxHeartbeats 4000000 in
set_option maxRecDepth 100000 in
theorem q_X12_wayDown_16 {g : GG} {σ : Hs} {post : Option Value → Hs → Prop} (a0 : Nat) (v1 : Int32) (v2 : Int32) (v3 : Int32) (v4 : Int32) (v5 : Int32) (v6 : Int32) (hW : FR σ a0 12 11 (fun r5 => AI g σ r5 0 v2 (fun i6 => (i6 ≤ v6 → Rc σ a0 12 ∧ Do g M_X12_heightOf 0 0 [.ref a0, .int v2] σ (kI (fun i8 s7 => (¬ v4 = 0 → post (some (.int (i8 + v4))) s7) ∧ (v4 = 0 → FR s7 a0 12 11 (fun r11 => AI g s7 r11 0 v2 (fun i12 => (i12 ≤ 0 → post (some (.int (i8 + v4))) s7) ∧ (¬ i12 ≤ 0 → post (some (.int (i8 + 1))) s7))))))) ∧ (¬ i6 ≤ v6 → J_X12_wayDown_33 g post σ a0 v1 v2 v3 v4 v5 v6 0 0 )))) : J_X12_wayDown_16 g post σ a0 v1 v2 v3 v4 v5 v6 := by
  show Fr g M_X12_wayDown (0, 0, 0, 0) [(0, .ref a0), (1, .int v1), (2, .int v2), (3, .int v3), (4, .int v4), (5, .int v5), (6, .int v6)] [] 16 σ post
  refine fr_iload (pc := 16) 6 rfl dX12_wayDown_16 ?_
  refine fr_aload_n (pc := 18) 0 rfl rfl dX12_wayDown_18 ?_
  refine fr_getR (pc := 19) (T := TX12) (k := 11) kc_X12 (by decide) w_1015 dX12_wayDown_19 hW (fun r5 hW => ?_)
  refine fr_iload_n (pc := 22) 2 rfl rfl dX12_wayDown_22 ?_
  refine fr_iald (pc := 23) dX12_wayDown_23 hW (fun i6 hW => ?_)
  refine fr_icmp_ge (pc := 24) (tgt := 131) (by decide) dX12_wayDown_24 hW (fun hW => ?_) (fun hW => ?_)
  · refine fr_aload_n (pc := 131) 0 rfl rfl dX12_wayDown_131 ?_
    refine fr_iload_n (pc := 132) 2 rfl rfl dX12_wayDown_132 ?_
    obtain ⟨hrc, hW⟩ := hW
    refine fr_callV_I (pc := 133) (As := [.int v2]) (st := []) wd_X12_heightOf w_1142 ok_X12_heightOf (by decide) rfl (Nat.le_of_ble_eq_true rfl) dX12_wayDown_133 ⟨Nat.le_refl 0, Nat.le_refl 0⟩ kc_X12 hrc hW (fun i8 s7 hW => ?_)
    refine fr_iload (pc := 136) 4 rfl dX12_wayDown_136 ?_
    refine fr_if_ne (pc := 138) (tgt := 154) (by decide) dX12_wayDown_138 hW (fun hW => ?_) (fun hW => ?_)
    · refine fr_iload (pc := 154) 4 rfl dX12_wayDown_154 ?_
      refine fr_iadd (pc := 156) dX12_wayDown_156 ?_
      exact fr_iret (pc := 157) dX12_wayDown_157 rfl ⟨Nat.le_refl 0, Nat.le_refl 0⟩ hW
    · refine fr_aload_n (pc := 141) 0 rfl rfl dX12_wayDown_141 ?_
      refine fr_getR (pc := 142) (T := TX12) (k := 11) kc_X12 (by decide) w_1015 dX12_wayDown_142 hW (fun r11 hW => ?_)
      refine fr_iload_n (pc := 145) 2 rfl rfl dX12_wayDown_145 ?_
      refine fr_iald (pc := 146) dX12_wayDown_146 hW (fun i12 hW => ?_)
      refine fr_if_le (pc := 147) (tgt := 154) (by decide) dX12_wayDown_147 hW (fun hW => ?_) (fun hW => ?_)
      · refine fr_iload (pc := 154) 4 rfl dX12_wayDown_154 ?_
        refine fr_iadd (pc := 156) dX12_wayDown_156 ?_
        exact fr_iret (pc := 157) dX12_wayDown_157 rfl ⟨Nat.le_refl 0, Nat.le_refl 0⟩ hW
      · refine fr_iconst (pc := 150) 1 (by decide) dX12_wayDown_150 ?_
        refine fr_goto (pc := 151) (tgt := 156) (by decide) dX12_wayDown_151 ?_
        refine fr_iadd (pc := 156) dX12_wayDown_156 ?_
        exact fr_iret (pc := 157) dX12_wayDown_157 rfl ⟨Nat.le_refl 0, Nat.le_refl 0⟩ hW
  · refine fr_iconst (pc := 27) 0 (by decide) dX12_wayDown_27 ?_
    refine fr_istore (pc := 28) (lv' := [(7, .int 0), (0, .ref a0), (1, .int v1), (2, .int v2), (3, .int v3), (4, .int v4), (5, .int v5), (6, .int v6)]) (by decide) rfl dX12_wayDown_28 ?_
    refine fr_iconst (pc := 30) 0 (by decide) dX12_wayDown_30 ?_
    refine fr_istore (pc := 31) (lv' := [(8, .int 0), (7, .int 0), (0, .ref a0), (1, .int v1), (2, .int v2), (3, .int v3), (4, .int v4), (5, .int v5), (6, .int v6)]) (by decide) rfl dX12_wayDown_31 ?_
    exact fr_sub [2, 3, 4, 5, 6, 7, 8, 1, 0] rfl hW
set_option maxHeartbeats 4000000 in
set_option maxRecDepth 100000 in
theorem q_X12_wayDown_33 {g : GG} {σ : Hs} {post : Option Value → Hs → Prop} (a0 : Nat) (v1 : Int32) (v2 : Int32) (v3 : Int32) (v4 : Int32) (v5 : Int32) (v6 : Int32) (v7 : Int32) (v8 : Int32) (hW : FR σ a0 12 10 (fun r13 => AI g σ r13 0 ((64 * v2) + v6) (fun i14 => (i14 ≤ v8 → (v7 = 0 → J_X12_wayDown_105 g post σ a0 v1 v2 v3 v5 v6 0 v4) ∧ (¬ v7 = 0 → J_X12_wayDown_105 g post σ a0 v1 v2 v3 v5 v6 1 v4)) ∧ (¬ i14 ≤ v8 → (¬ v7 = 0 → J_X12_wayDown_33 g post σ a0 v1 v2 v3 v4 v5 v6 1 ((v8 + 1)) ) ∧ (v7 = 0 → FR σ a0 12 8 (fun r15 => AI g σ r15 0 (((64 * v2) + v5) + v8) (fun i16 => Rc σ a0 12 ∧ Do g M_X12_isInRun 0 0 [.ref a0, .int v1, .int v2, .int i16, .int v3] σ (kI (fun i18 s17 => (i18 = 0 → J_X12_wayDown_33 g post s17 a0 v1 v2 v3 v4 v5 v6 0 ((v8 + 1)) ) ∧ (¬ i18 = 0 → J_X12_wayDown_33 g post s17 a0 v1 v2 v3 v4 v5 v6 1 ((v8 + 1)) )))))))))) : J_X12_wayDown_33 g post σ a0 v1 v2 v3 v4 v5 v6 v7 v8 := by
  show Fr g M_X12_wayDown (0, 0, 0, 0) [(0, .ref a0), (1, .int v1), (2, .int v2), (3, .int v3), (4, .int v4), (5, .int v5), (6, .int v6), (7, .int v7), (8, .int v8)] [] 33 σ post
  refine fr_iload (pc := 33) 8 rfl dX12_wayDown_33 ?_
  refine fr_aload_n (pc := 35) 0 rfl rfl dX12_wayDown_35 ?_
  refine fr_getR (pc := 36) (T := TX12) (k := 10) kc_X12 (by decide) w_1014 dX12_wayDown_36 hW (fun r13 hW => ?_)
  refine fr_bipush (pc := 39) 64 (by decide) dX12_wayDown_39 ?_
  refine fr_iload_n (pc := 41) 2 rfl rfl dX12_wayDown_41 ?_
  refine fr_imul (pc := 42) dX12_wayDown_42 ?_
  refine fr_iload (pc := 43) 6 rfl dX12_wayDown_43 ?_
  refine fr_iadd (pc := 45) dX12_wayDown_45 ?_
  refine fr_iald (pc := 46) dX12_wayDown_46 hW (fun i14 hW => ?_)
  refine fr_icmp_ge (pc := 47) (tgt := 93) (by decide) dX12_wayDown_47 hW (fun hW => ?_) (fun hW => ?_)
  · refine fr_iload (pc := 93) 4 rfl dX12_wayDown_93 ?_
    refine fr_iload (pc := 95) 7 rfl dX12_wayDown_95 ?_
    refine fr_if_eq (pc := 97) (tgt := 104) (by decide) dX12_wayDown_97 hW (fun hW => ?_) (fun hW => ?_)
    · refine fr_iconst (pc := 104) 0 (by decide) dX12_wayDown_104 ?_
      exact fr_sub [0, 1, 2, 3, 5, 6] rfl hW
    · refine fr_iconst (pc := 100) 1 (by decide) dX12_wayDown_100 ?_
      refine fr_goto (pc := 101) (tgt := 105) (by decide) dX12_wayDown_101 ?_
      exact fr_sub [0, 1, 2, 3, 5, 6] rfl hW
  · refine fr_iload (pc := 50) 7 rfl dX12_wayDown_50 ?_
    refine fr_if_ne (pc := 52) (tgt := 80) (by decide) dX12_wayDown_52 hW (fun hW => ?_) (fun hW => ?_)
    · refine fr_iconst (pc := 80) 1 (by decide) dX12_wayDown_80 ?_
      refine fr_goto (pc := 81) (tgt := 85) (by decide) dX12_wayDown_81 ?_
      refine fr_istore (pc := 85) (lv' := [(7, .int 1), (0, .ref a0), (1, .int v1), (2, .int v2), (3, .int v3), (4, .int v4), (5, .int v5), (6, .int v6), (8, .int v8)]) (by decide) rfl dX12_wayDown_85 ?_
      refine fr_iinc (pc := 87) (lv' := [(8, .int (v8 + 1)), (7, .int 1), (0, .ref a0), (1, .int v1), (2, .int v2), (3, .int v3), (4, .int v4), (5, .int v5), (6, .int v6)]) (v8 + 1) 8 rfl (congrArg (fun z => v8 + z) (by decide)) (by decide) rfl dX12_wayDown_87 ?_
      refine fr_goto (pc := 90) (tgt := 33) (by decide) dX12_wayDown_90 ?_
      exact fr_sub [2, 3, 4, 5, 6, 7, 8, 1, 0] rfl hW
    · refine fr_aload_n (pc := 55) 0 rfl rfl dX12_wayDown_55 ?_
      refine fr_iload_n (pc := 56) 1 rfl rfl dX12_wayDown_56 ?_
      refine fr_iload_n (pc := 57) 2 rfl rfl dX12_wayDown_57 ?_
      refine fr_aload_n (pc := 58) 0 rfl rfl dX12_wayDown_58 ?_
      refine fr_getR (pc := 59) (T := TX12) (k := 8) kc_X12 (by decide) w_1012 dX12_wayDown_59 hW (fun r15 hW => ?_)
      refine fr_bipush (pc := 62) 64 (by decide) dX12_wayDown_62 ?_
      refine fr_iload_n (pc := 64) 2 rfl rfl dX12_wayDown_64 ?_
      refine fr_imul (pc := 65) dX12_wayDown_65 ?_
      refine fr_iload (pc := 66) 5 rfl dX12_wayDown_66 ?_
      refine fr_iadd (pc := 68) dX12_wayDown_68 ?_
      refine fr_iload (pc := 69) 8 rfl dX12_wayDown_69 ?_
      refine fr_iadd (pc := 71) dX12_wayDown_71 ?_
      refine fr_iald (pc := 72) dX12_wayDown_72 hW (fun i16 hW => ?_)
      refine fr_iload_n (pc := 73) 3 rfl rfl dX12_wayDown_73 ?_
      obtain ⟨hrc, hW⟩ := hW
      refine fr_callV_I (pc := 74) (As := [.int v1, .int v2, .int i16, .int v3]) (st := []) wd_X12_isInRun w_1257 ok_X12_isInRun (by decide) rfl (Nat.le_of_ble_eq_true rfl) dX12_wayDown_74 ⟨Nat.le_refl 0, Nat.le_refl 0⟩ kc_X12 hrc hW (fun i18 s17 hW => ?_)
      refine fr_if_eq (pc := 77) (tgt := 84) (by decide) dX12_wayDown_77 hW (fun hW => ?_) (fun hW => ?_)
      · refine fr_iconst (pc := 84) 0 (by decide) dX12_wayDown_84 ?_
        refine fr_istore (pc := 85) (lv' := [(7, .int 0), (0, .ref a0), (1, .int v1), (2, .int v2), (3, .int v3), (4, .int v4), (5, .int v5), (6, .int v6), (8, .int v8)]) (by decide) rfl dX12_wayDown_85 ?_
        refine fr_iinc (pc := 87) (lv' := [(8, .int (v8 + 1)), (7, .int 0), (0, .ref a0), (1, .int v1), (2, .int v2), (3, .int v3), (4, .int v4), (5, .int v5), (6, .int v6)]) (v8 + 1) 8 rfl (congrArg (fun z => v8 + z) (by decide)) (by decide) rfl dX12_wayDown_87 ?_
        refine fr_goto (pc := 90) (tgt := 33) (by decide) dX12_wayDown_90 ?_
        exact fr_sub [2, 3, 4, 5, 6, 7, 8, 1, 0] rfl hW
      · refine fr_iconst (pc := 80) 1 (by decide) dX12_wayDown_80 ?_
        refine fr_goto (pc := 81) (tgt := 85) (by decide) dX12_wayDown_81 ?_
        refine fr_istore (pc := 85) (lv' := [(7, .int 1), (0, .ref a0), (1, .int v1), (2, .int v2), (3, .int v3), (4, .int v4), (5, .int v5), (6, .int v6), (8, .int v8)]) (by decide) rfl dX12_wayDown_85 ?_
        refine fr_iinc (pc := 87) (lv' := [(8, .int (v8 + 1)), (7, .int 1), (0, .ref a0), (1, .int v1), (2, .int v2), (3, .int v3), (4, .int v4), (5, .int v5), (6, .int v6)]) (v8 + 1) 8 rfl (congrArg (fun z => v8 + z) (by decide)) (by decide) rfl dX12_wayDown_87 ?_
        refine fr_goto (pc := 90) (tgt := 33) (by decide) dX12_wayDown_90 ?_
        exact fr_sub [2, 3, 4, 5, 6, 7, 8, 1, 0] rfl hW
set_option maxHeartbeats 4000000 in
set_option maxRecDepth 100000 in
theorem q_X12_wayDown_105 {g : GG} {σ : Hs} {post : Option Value → Hs → Prop} (a0 : Nat) (v1 : Int32) (v2 : Int32) (v3 : Int32) (v5 : Int32) (v6 : Int32) (t0 : Int32) (t1 : Int32) (hW : FR σ a0 12 10 (fun r21 => AI g σ r21 0 ((64 * v2) + v6) (fun i22 => J_X12_wayDown_16 g post σ a0 v1 v2 v3 ((t1 + t0)) ((v5 + i22)) ((v6 + 1)) ))) : J_X12_wayDown_105 g post σ a0 v1 v2 v3 v5 v6 t0 t1 := by
  show Fr g M_X12_wayDown (0, 0, 0, 0) [(0, .ref a0), (1, .int v1), (2, .int v2), (3, .int v3), (5, .int v5), (6, .int v6)] [.int t0, .int t1] 105 σ post
  refine fr_iadd (pc := 105) dX12_wayDown_105 ?_
  refine fr_istore (pc := 106) (lv' := [(4, .int (t1 + t0)), (0, .ref a0), (1, .int v1), (2, .int v2), (3, .int v3), (5, .int v5), (6, .int v6)]) (by decide) rfl dX12_wayDown_106 ?_
  refine fr_iload (pc := 108) 5 rfl dX12_wayDown_108 ?_
  refine fr_aload_n (pc := 110) 1 rfl rfl dX12_wayDown_110 ?_
  refine fr_getR (pc := 111) (T := TX12) (k := 10) kc_X12 (by decide) w_1014 dX12_wayDown_111 hW (fun r21 hW => ?_)
  refine fr_bipush (pc := 114) 64 (by decide) dX12_wayDown_114 ?_
  refine fr_iload_n (pc := 116) 3 rfl rfl dX12_wayDown_116 ?_
  refine fr_imul (pc := 117) dX12_wayDown_117 ?_
  refine fr_iload (pc := 118) 6 rfl dX12_wayDown_118 ?_
  refine fr_iadd (pc := 120) dX12_wayDown_120 ?_
  refine fr_iald (pc := 121) dX12_wayDown_121 hW (fun i22 hW => ?_)
  refine fr_iadd (pc := 122) dX12_wayDown_122 ?_
  refine fr_istore (pc := 123) (lv' := [(5, .int (v5 + i22)), (4, .int (t1 + t0)), (0, .ref a0), (1, .int v1), (2, .int v2), (3, .int v3), (6, .int v6)]) (by decide) rfl dX12_wayDown_123 ?_
  refine fr_iinc (pc := 125) (lv' := [(6, .int (v6 + 1)), (5, .int (v5 + i22)), (4, .int (t1 + t0)), (0, .ref a0), (1, .int v1), (2, .int v2), (3, .int v3)]) (v6 + 1) 6 rfl (congrArg (fun z => v6 + z) (by decide)) (by decide) rfl dX12_wayDown_125 ?_
  refine fr_goto (pc := 128) (tgt := 16) (by decide) dX12_wayDown_128 ?_
  exact fr_sub [3, 4, 5, 6, 2, 1, 0] rfl hW
def J_X12_isInKey_2 (g : GG) (post : Option Value → Hs → Prop) (σ : Hs) (v0 : Int32) (v1 : Int32) (v2 : Int32) : Prop := Fr g M_X12_isInKey (0, 0, 0, 0) [(0, .int v0), (1, .int v1), (2, .int v2)] [] 2 σ post
set_option maxHeartbeats 4000000 in
set_option maxRecDepth 100000 in
theorem q_X12_isInKey {g : GG} {σ : Hs} {post : Option Value → Hs → Prop} (p0 : Int32) (p1 : Int32) (hW : J_X12_isInKey_2 g post σ p0 p1 0 ) : Do g M_X12_isInKey 0 0 [.int p0, .int p1] σ post := by
  refine Do.of (by decide +kernel) (Nat.le_of_ble_eq_true rfl) ?_
  show Fr g M_X12_isInKey (0, 0, 0, 0) [(0, .int p0), (1, .int p1)] [] 0 σ post
  refine fr_iconst (pc := 0) 0 (by decide) dX12_isInKey_0 ?_
  refine fr_istore_n (pc := 1) (lv' := [(2, .int 0), (0, .int p0), (1, .int p1)]) rfl (by decide) rfl dX12_isInKey_1 ?_
  exact fr_sub [1, 2, 0] rfl hW
set_option maxHeartbeats 4000000 in
set_option maxRecDepth 100000 in
theorem q_X12_isInKey_2 {g : GG} {σ : Hs} {post : Option Value → Hs → Prop} (v0 : Int32) (v1 : Int32) (v2 : Int32) (hW : Do g M_X12_keySize 0 0 [.int v0] σ (kI (fun i2 s1 => (i2 ≤ v2 → post (some (.int 0)) s1) ∧ (¬ i2 ≤ v2 → Do g M_X12_keyAt 0 0 [.int v0, .int v2] s1 (kI (fun i6 s5 => (¬ i6 = v1 → J_X12_isInKey_2 g post s5 v0 v1 ((v2 + 1)) ) ∧ (i6 = v1 → post (some (.int 1)) s5))))))) : J_X12_isInKey_2 g post σ v0 v1 v2 := by
  show Fr g M_X12_isInKey (0, 0, 0, 0) [(0, .int v0), (1, .int v1), (2, .int v2)] [] 2 σ post
  refine fr_iload_n (pc := 2) 2 rfl rfl dX12_isInKey_2 ?_
  refine fr_iload_n (pc := 3) 0 rfl rfl dX12_isInKey_3 ?_
  refine fr_callS_I (pc := 4) (As := [.int v0]) (st := [.int v2]) wd_X12_keySize w_1068 ok_X12_keySize (by decide) rfl (Nat.le_of_ble_eq_true rfl) dX12_isInKey_4 ⟨Nat.le_refl 0, Nat.le_refl 0⟩ hW (fun i2 s1 hW => ?_)
  refine fr_icmp_ge (pc := 7) (tgt := 27) (by decide) dX12_isInKey_7 hW (fun hW => ?_) (fun hW => ?_)
  · refine fr_iconst (pc := 27) 0 (by decide) dX12_isInKey_27 ?_
    exact fr_zret (pc := 28) dX12_isInKey_28 rfl ⟨Nat.le_refl 0, Nat.le_refl 0⟩ ⟨rfl, hW⟩
  · refine fr_iload_n (pc := 10) 0 rfl rfl dX12_isInKey_10 ?_
    refine fr_iload_n (pc := 11) 2 rfl rfl dX12_isInKey_11 ?_
    refine fr_callS_I (pc := 12) (As := [.int v0, .int v2]) (st := []) wd_X12_keyAt w_1069 ok_X12_keyAt (by decide) rfl (Nat.le_of_ble_eq_true rfl) dX12_isInKey_12 ⟨Nat.le_refl 0, Nat.le_refl 0⟩ hW (fun i6 s5 hW => ?_)
    refine fr_iload_n (pc := 15) 1 rfl rfl dX12_isInKey_15 ?_
    refine fr_icmp_ne (pc := 16) (tgt := 21) (by decide) dX12_isInKey_16 hW (fun hW => ?_) (fun hW => ?_)
    · refine fr_iinc (pc := 21) (lv' := [(2, .int (v2 + 1)), (0, .int v0), (1, .int v1)]) (v2 + 1) 2 rfl (congrArg (fun z => v2 + z) (by decide)) (by decide) rfl dX12_isInKey_21 ?_
      refine fr_goto (pc := 24) (tgt := 2) (by decide) dX12_isInKey_24 ?_
      exact fr_sub [1, 2, 0] rfl hW
    · refine fr_iconst (pc := 19) 1 (by decide) dX12_isInKey_19 ?_
      exact fr_zret (pc := 20) dX12_isInKey_20 rfl ⟨Nat.le_refl 0, Nat.le_refl 0⟩ ⟨rfl, hW⟩
def J_X12_isCovered_2 (g : GG) (post : Option Value → Hs → Prop) (σ : Hs) (a0 : Nat) (v1 : Int32) (v2 : Int32) (v3 : Int32) : Prop := Fr g M_X12_isCovered (0, 0, 0, 0) [(0, .ref a0), (1, .int v1), (2, .int v2), (3, .int v3)] [] 2 σ post
def J_X12_isCovered_45 (g : GG) (post : Option Value → Hs → Prop) (σ : Hs) (a0 : Nat) (v1 : Int32) (v2 : Int32) (v3 : Int32) (t0 : Int32) : Prop := Fr g M_X12_isCovered (0, 0, 0, 0) [(0, .ref a0), (1, .int v1), (2, .int v2), (3, .int v3)] [.int t0] 45 σ post
set_option maxHeartbeats 4000000 in
set_option maxRecDepth 100000 in
theorem q_X12_isCovered {g : GG} {σ : Hs} {post : Option Value → Hs → Prop} (r0 : Nat) (p0 : Int32) (p1 : Int32) (hW : J_X12_isCovered_2 g post σ r0 p0 p1 0 ) : Do g M_X12_isCovered 0 0 [.ref r0, .int p0, .int p1] σ post := by
  refine Do.of (by decide +kernel) (Nat.le_of_ble_eq_true rfl) ?_
  show Fr g M_X12_isCovered (0, 0, 0, 0) [(0, .ref r0), (1, .int p0), (2, .int p1)] [] 0 σ post
  refine fr_iconst (pc := 0) 0 (by decide) dX12_isCovered_0 ?_
  refine fr_istore_n (pc := 1) (lv' := [(3, .int 0), (0, .ref r0), (1, .int p0), (2, .int p1)]) rfl (by decide) rfl dX12_isCovered_1 ?_
  exact fr_sub [1, 2, 3, 0] rfl hW
set_option maxHeartbeats 4000000 in
set_option maxRecDepth 100000 in
theorem q_X12_isCovered_2 {g : GG} {σ : Hs} {post : Option Value → Hs → Prop} (a0 : Nat) (v1 : Int32) (v2 : Int32) (v3 : Int32) (hW : (4 ≤ v3 → post (some (.int 1)) σ) ∧ (¬ 4 ≤ v3 → Rc σ a0 12 ∧ Do g M_X12_isBound 0 0 [.ref a0, .int v1, .int v3] σ (kI (fun i2 s1 => (¬ i2 = 0 → J_X12_isCovered_45 g post s1 a0 v1 v2 v3 1) ∧ (i2 = 0 → FR s1 a0 12 16 (fun r5 => AI g s1 r5 0 v1 (fun i6 => (((i6 >>> (v3 &&& 31)) &&& 1) = 1 → J_X12_isCovered_45 g post s1 a0 v1 v2 v3 1) ∧ (¬ ((i6 >>> (v3 &&& 31)) &&& 1) = 1 → FR s1 a0 12 17 (fun r7 => AI g s1 r7 0 v1 (fun i8 => (¬ i8 = v3 → J_X12_isCovered_45 g post s1 a0 v1 v2 v3 0) ∧ (i8 = v3 → J_X12_isCovered_45 g post s1 a0 v1 v2 v3 1))))))))))) : J_X12_isCovered_2 g post σ a0 v1 v2 v3 := by
  show Fr g M_X12_isCovered (0, 0, 0, 0) [(0, .ref a0), (1, .int v1), (2, .int v2), (3, .int v3)] [] 2 σ post
  refine fr_iload_n (pc := 2) 3 rfl rfl dX12_isCovered_2 ?_
  refine fr_iconst (pc := 3) 4 (by decide) dX12_isCovered_3 ?_
  refine fr_icmp_ge (pc := 4) (tgt := 73) (by decide) dX12_isCovered_4 hW (fun hW => ?_) (fun hW => ?_)
  · refine fr_iconst (pc := 73) 1 (by decide) dX12_isCovered_73 ?_
    exact fr_zret (pc := 74) dX12_isCovered_74 rfl ⟨Nat.le_refl 0, Nat.le_refl 0⟩ ⟨rfl, hW⟩
  · refine fr_aload_n (pc := 7) 0 rfl rfl dX12_isCovered_7 ?_
    refine fr_iload_n (pc := 8) 1 rfl rfl dX12_isCovered_8 ?_
    refine fr_iload_n (pc := 9) 3 rfl rfl dX12_isCovered_9 ?_
    obtain ⟨hrc, hW⟩ := hW
    refine fr_callV_I (pc := 10) (As := [.int v1, .int v3]) (st := []) wd_X12_isBound w_1255 ok_X12_isBound (by decide) rfl (Nat.le_of_ble_eq_true rfl) dX12_isCovered_10 ⟨Nat.le_refl 0, Nat.le_refl 0⟩ kc_X12 hrc hW (fun i2 s1 hW => ?_)
    refine fr_if_ne (pc := 13) (tgt := 40) (by decide) dX12_isCovered_13 hW (fun hW => ?_) (fun hW => ?_)
    · refine fr_iconst (pc := 40) 1 (by decide) dX12_isCovered_40 ?_
      refine fr_goto (pc := 41) (tgt := 45) (by decide) dX12_isCovered_41 ?_
      exact fr_sub [0, 1, 2, 3] rfl hW
    · refine fr_aload_n (pc := 16) 0 rfl rfl dX12_isCovered_16 ?_
      refine fr_getR (pc := 17) (T := TX12) (k := 16) kc_X12 (by decide) w_1019 dX12_isCovered_17 hW (fun r5 hW => ?_)
      refine fr_iload_n (pc := 20) 1 rfl rfl dX12_isCovered_20 ?_
      refine fr_iald (pc := 21) dX12_isCovered_21 hW (fun i6 hW => ?_)
      refine fr_iload_n (pc := 22) 3 rfl rfl dX12_isCovered_22 ?_
      refine fr_ishr (pc := 23) dX12_isCovered_23 ?_
      refine fr_iconst (pc := 24) 1 (by decide) dX12_isCovered_24 ?_
      refine fr_iand (pc := 25) dX12_isCovered_25 ?_
      refine fr_iconst (pc := 26) 1 (by decide) dX12_isCovered_26 ?_
      refine fr_icmp_eq (pc := 27) (tgt := 40) (by decide) dX12_isCovered_27 hW (fun hW => ?_) (fun hW => ?_)
      · refine fr_iconst (pc := 40) 1 (by decide) dX12_isCovered_40 ?_
        refine fr_goto (pc := 41) (tgt := 45) (by decide) dX12_isCovered_41 ?_
        exact fr_sub [0, 1, 2, 3] rfl hW
      · refine fr_aload_n (pc := 30) 0 rfl rfl dX12_isCovered_30 ?_
        refine fr_getR (pc := 31) (T := TX12) (k := 17) kc_X12 (by decide) w_1020 dX12_isCovered_31 hW (fun r7 hW => ?_)
        refine fr_iload_n (pc := 34) 1 rfl rfl dX12_isCovered_34 ?_
        refine fr_iald (pc := 35) dX12_isCovered_35 hW (fun i8 hW => ?_)
        refine fr_iload_n (pc := 36) 3 rfl rfl dX12_isCovered_36 ?_
        refine fr_icmp_ne (pc := 37) (tgt := 44) (by decide) dX12_isCovered_37 hW (fun hW => ?_) (fun hW => ?_)
        · refine fr_iconst (pc := 44) 0 (by decide) dX12_isCovered_44 ?_
          exact fr_sub [0, 1, 2, 3] rfl hW
        · refine fr_iconst (pc := 40) 1 (by decide) dX12_isCovered_40 ?_
          refine fr_goto (pc := 41) (tgt := 45) (by decide) dX12_isCovered_41 ?_
          exact fr_sub [0, 1, 2, 3] rfl hW
set_option maxHeartbeats 4000000 in
set_option maxRecDepth 100000 in
theorem q_X12_isCovered_45 {g : GG} {σ : Hs} {post : Option Value → Hs → Prop} (a0 : Nat) (v1 : Int32) (v2 : Int32) (v3 : Int32) (t0 : Int32) (hW : (t0 = 0 → J_X12_isCovered_2 g post σ a0 v1 v2 ((v3 + 1)) ) ∧ (¬ t0 = 0 → FR σ a0 12 5 (fun r9 => AI g σ r9 0 v2 (fun i10 => Do g M_X12_isInKey 0 0 [.int i10, .int v3] σ (kI (fun i12 s11 => (¬ i12 = 0 → J_X12_isCovered_2 g post s11 a0 v1 v2 ((v3 + 1)) ) ∧ (i12 = 0 → post (some (.int 0)) s11))))))) : J_X12_isCovered_45 g post σ a0 v1 v2 v3 t0 := by
  show Fr g M_X12_isCovered (0, 0, 0, 0) [(0, .ref a0), (1, .int v1), (2, .int v2), (3, .int v3)] [.int t0] 45 σ post
  refine fr_istore (pc := 45) (lv' := [(4, .int t0), (0, .ref a0), (1, .int v1), (2, .int v2), (3, .int v3)]) (by decide) rfl dX12_isCovered_45 ?_
  refine fr_iload (pc := 47) 0 rfl dX12_isCovered_47 ?_
  refine fr_if_eq (pc := 49) (tgt := 67) (by decide) dX12_isCovered_49 hW (fun hW => ?_) (fun hW => ?_)
  · refine fr_iinc (pc := 67) (lv' := [(3, .int (v3 + 1)), (4, .int t0), (0, .ref a0), (1, .int v1), (2, .int v2)]) (v3 + 1) 4 rfl (congrArg (fun z => v3 + z) (by decide)) (by decide) rfl dX12_isCovered_67 ?_
    refine fr_goto (pc := 70) (tgt := 2) (by decide) dX12_isCovered_70 ?_
    exact fr_sub [2, 3, 4, 0] rfl hW
  · refine fr_aload_n (pc := 52) 1 rfl rfl dX12_isCovered_52 ?_
    refine fr_getR (pc := 53) (T := TX12) (k := 5) kc_X12 (by decide) w_1009 dX12_isCovered_53 hW (fun r9 hW => ?_)
    refine fr_iload_n (pc := 56) 3 rfl rfl dX12_isCovered_56 ?_
    refine fr_iald (pc := 57) dX12_isCovered_57 hW (fun i10 hW => ?_)
    refine fr_iload_n (pc := 58) 4 rfl rfl dX12_isCovered_58 ?_
    refine fr_callS_I (pc := 59) (As := [.int i10, .int v3]) (st := []) wd_X12_isInKey w_1258 ok_X12_isInKey (by decide) rfl (Nat.le_of_ble_eq_true rfl) dX12_isCovered_59 ⟨Nat.le_refl 0, Nat.le_refl 0⟩ hW (fun i12 s11 hW => ?_)
    refine fr_if_ne (pc := 62) (tgt := 67) (by decide) dX12_isCovered_62 hW (fun hW => ?_) (fun hW => ?_)
    · refine fr_iinc (pc := 67) (lv' := [(3, .int (v3 + 1)), (4, .int t0), (0, .ref a0), (1, .int v1), (2, .int v2)]) (v3 + 1) 4 rfl (congrArg (fun z => v3 + z) (by decide)) (by decide) rfl dX12_isCovered_67 ?_
      refine fr_goto (pc := 70) (tgt := 2) (by decide) dX12_isCovered_70 ?_
      exact fr_sub [2, 3, 4, 0] rfl hW
    · refine fr_iconst (pc := 65) 0 (by decide) dX12_isCovered_65 ?_
      exact fr_zret (pc := 66) dX12_isCovered_66 rfl ⟨Nat.le_refl 0, Nat.le_refl 0⟩ ⟨rfl, hW⟩
set_option maxHeartbeats 4000000 in
set_option maxRecDepth 100000 in
theorem q_X12_leaves {g : GG} {σ : Hs} {post : Option Value → Hs → Prop} (r0 : Nat) (p0 : Int32) (p1 : Int32) (p2 : Int32) (hW : FR σ r0 12 5 (fun r1 => AI g σ r1 0 p1 (fun i2 => Do g M_X12_keySize 0 0 [.int i2] σ (kI (fun i4 s3 => Rc s3 r0 12 ∧ Do g M_X12_isInRun 0 0 [.ref r0, .int p0, .int p1, .int p2, .int i4] s3 (kI (fun i8 s7 => (narrow .boolean (.int i8) = .int i8 ∧ post (some (.int i8)) s7)))))))) : Do g M_X12_leaves 0 0 [.ref r0, .int p0, .int p1, .int p2] σ post := by
  refine Do.of (by decide +kernel) (Nat.le_of_ble_eq_true rfl) ?_
  show Fr g M_X12_leaves (0, 0, 0, 0) [(0, .ref r0), (1, .int p0), (2, .int p1), (3, .int p2)] [] 0 σ post
  refine fr_aload_n (pc := 0) 0 rfl rfl dX12_leaves_0 ?_
  refine fr_iload_n (pc := 1) 1 rfl rfl dX12_leaves_1 ?_
  refine fr_iload_n (pc := 2) 2 rfl rfl dX12_leaves_2 ?_
  refine fr_iload_n (pc := 3) 3 rfl rfl dX12_leaves_3 ?_
  refine fr_aload_n (pc := 4) 0 rfl rfl dX12_leaves_4 ?_
  refine fr_getR (pc := 5) (T := TX12) (k := 5) kc_X12 (by decide) w_1009 dX12_leaves_5 hW (fun r1 hW => ?_)
  refine fr_iload_n (pc := 8) 2 rfl rfl dX12_leaves_8 ?_
  refine fr_iald (pc := 9) dX12_leaves_9 hW (fun i2 hW => ?_)
  refine fr_callS_I (pc := 10) (As := [.int i2]) (st := [.int p2, .int p1, .int p0, .ref r0]) wd_X12_keySize w_1068 ok_X12_keySize (by decide) rfl (Nat.le_of_ble_eq_true rfl) dX12_leaves_10 ⟨Nat.le_refl 0, Nat.le_refl 0⟩ hW (fun i4 s3 hW => ?_)
  obtain ⟨hrc, hW⟩ := hW
  refine fr_callV_I (pc := 13) (As := [.int p0, .int p1, .int p2, .int i4]) (st := []) wd_X12_isInRun w_1257 ok_X12_isInRun (by decide) rfl (Nat.le_of_ble_eq_true rfl) dX12_leaves_13 ⟨Nat.le_refl 0, Nat.le_refl 0⟩ kc_X12 hrc hW (fun i8 s7 hW => ?_)
  exact fr_zret (pc := 16) dX12_leaves_16 rfl ⟨Nat.le_refl 0, Nat.le_refl 0⟩ hW
def J_X12_pagesLeft_9 (g : GG) (post : Option Value → Hs → Prop) (σ : Hs) (a0 : Nat) (v1 : Int32) (v2 : Int32) (v3 : Int32) (v4 : Int32) (v5 : Int32) (v6 : Int32) : Prop := Fr g M_X12_pagesLeft (0, 0, 0, 0) [(0, .ref a0), (1, .int v1), (2, .int v2), (3, .int v3), (4, .int v4), (5, .int v5), (6, .int v6)] [] 9 σ post
set_option maxHeartbeats 4000000 in
set_option maxRecDepth 100000 in
theorem q_X12_pagesLeft {g : GG} {σ : Hs} {post : Option Value → Hs → Prop} (r0 : Nat) (p0 : Int32) (p1 : Int32) (p2 : Int32) (hW : J_X12_pagesLeft_9 g post σ r0 p0 p1 p2 0 (-1) 0 ) : Do g M_X12_pagesLeft 0 0 [.ref r0, .int p0, .int p1, .int p2] σ post := by
  refine Do.of (by decide +kernel) (Nat.le_of_ble_eq_true rfl) ?_
  show Fr g M_X12_pagesLeft (0, 0, 0, 0) [(0, .ref r0), (1, .int p0), (2, .int p1), (3, .int p2)] [] 0 σ post
  refine fr_iconst (pc := 0) 0 (by decide) dX12_pagesLeft_0 ?_
  refine fr_istore (pc := 1) (lv' := [(4, .int 0), (0, .ref r0), (1, .int p0), (2, .int p1), (3, .int p2)]) (by decide) rfl dX12_pagesLeft_1 ?_
  refine fr_iconst (pc := 3) (-1) (by decide) dX12_pagesLeft_3 ?_
  refine fr_istore (pc := 4) (lv' := [(5, .int (-1)), (4, .int 0), (0, .ref r0), (1, .int p0), (2, .int p1), (3, .int p2)]) (by decide) rfl dX12_pagesLeft_4 ?_
  refine fr_iconst (pc := 6) 0 (by decide) dX12_pagesLeft_6 ?_
  refine fr_istore (pc := 7) (lv' := [(6, .int 0), (5, .int (-1)), (4, .int 0), (0, .ref r0), (1, .int p0), (2, .int p1), (3, .int p2)]) (by decide) rfl dX12_pagesLeft_7 ?_
  exact fr_sub [3, 4, 5, 6, 2, 1, 0] rfl hW
set_option maxHeartbeats 4000000 in
set_option maxRecDepth 100000 in
theorem q_X12_pagesLeft_9 {g : GG} {σ : Hs} {post : Option Value → Hs → Prop} (a0 : Nat) (v1 : Int32) (v2 : Int32) (v3 : Int32) (v4 : Int32) (v5 : Int32) (v6 : Int32) (hW : (64 ≤ v6 → post (some (.int v4)) σ) ∧ (¬ 64 ≤ v6 → FR σ a0 12 0 (fun r1 => AI g σ r1 1 v6 (fun i2 => (i2 = 0 → J_X12_pagesLeft_9 g post σ a0 v1 v2 v3 v4 v5 ((v6 + 1)) ) ∧ (¬ i2 = 0 → Rc σ a0 12 ∧ Do g M_X12_leaves 0 0 [.ref a0, .int v1, .int v2, .int v6] σ (kI (fun i4 s3 => (i4 = 0 → J_X12_pagesLeft_9 g post s3 a0 v1 v2 v3 v4 v5 ((v6 + 1)) ) ∧ (¬ i4 = 0 → Rc s3 a0 12 ∧ Do g M_X12_leaves 0 0 [.ref a0, .int v1, .int v3, .int v6] s3 (kI (fun i8 s7 => (i8 = 0 → J_X12_pagesLeft_9 g post s7 a0 v1 v2 v3 v4 v5 ((v6 + 1)) ) ∧ (¬ i8 = 0 → FI s7 a0 12 3 (fun i11 => ¬ i11 = 0 ∧ ((v6 / i11) = v5 → J_X12_pagesLeft_9 g post s7 a0 v1 v2 v3 v4 v5 ((v6 + 1)) ) ∧ (¬ (v6 / i11) = v5 → FI s7 a0 12 3 (fun i12 => ¬ i12 = 0 ∧ J_X12_pagesLeft_9 g post s7 a0 v1 v2 v3 ((v4 + 1)) ((v6 / i12)) ((v6 + 1)) )))))))))))))) : J_X12_pagesLeft_9 g post σ a0 v1 v2 v3 v4 v5 v6 := by
  show Fr g M_X12_pagesLeft (0, 0, 0, 0) [(0, .ref a0), (1, .int v1), (2, .int v2), (3, .int v3), (4, .int v4), (5, .int v5), (6, .int v6)] [] 9 σ post
  refine fr_iload (pc := 9) 6 rfl dX12_pagesLeft_9 ?_
  refine fr_bipush (pc := 11) 64 (by decide) dX12_pagesLeft_11 ?_
  refine fr_icmp_ge (pc := 13) (tgt := 78) (by decide) dX12_pagesLeft_13 hW (fun hW => ?_) (fun hW => ?_)
  · refine fr_iload (pc := 78) 4 rfl dX12_pagesLeft_78 ?_
    exact fr_iret (pc := 80) dX12_pagesLeft_80 rfl ⟨Nat.le_refl 0, Nat.le_refl 0⟩ hW
  · refine fr_aload_n (pc := 16) 0 rfl rfl dX12_pagesLeft_16 ?_
    refine fr_getR (pc := 17) (T := TX12) (k := 0) kc_X12 (by decide) w_1006 dX12_pagesLeft_17 hW (fun r1 hW => ?_)
    refine fr_iload (pc := 20) 6 rfl dX12_pagesLeft_20 ?_
    refine fr_zald (pc := 22) dX12_pagesLeft_22 hW (fun i2 hW => ?_)
    refine fr_if_eq (pc := 23) (tgt := 72) (by decide) dX12_pagesLeft_23 hW (fun hW => ?_) (fun hW => ?_)
    · refine fr_iinc (pc := 72) (lv' := [(6, .int (v6 + 1)), (0, .ref a0), (1, .int v1), (2, .int v2), (3, .int v3), (4, .int v4), (5, .int v5)]) (v6 + 1) 6 rfl (congrArg (fun z => v6 + z) (by decide)) (by decide) rfl dX12_pagesLeft_72 ?_
      refine fr_goto (pc := 75) (tgt := 9) (by decide) dX12_pagesLeft_75 ?_
      exact fr_sub [1, 2, 3, 4, 5, 6, 0] rfl hW
    · refine fr_aload_n (pc := 26) 0 rfl rfl dX12_pagesLeft_26 ?_
      refine fr_iload_n (pc := 27) 1 rfl rfl dX12_pagesLeft_27 ?_
      refine fr_iload_n (pc := 28) 2 rfl rfl dX12_pagesLeft_28 ?_
      refine fr_iload (pc := 29) 6 rfl dX12_pagesLeft_29 ?_
      obtain ⟨hrc, hW⟩ := hW
      refine fr_callV_I (pc := 31) (As := [.int v1, .int v2, .int v6]) (st := []) wd_X12_leaves w_1259 ok_X12_leaves (by decide) rfl (Nat.le_of_ble_eq_true rfl) dX12_pagesLeft_31 ⟨Nat.le_refl 0, Nat.le_refl 0⟩ kc_X12 hrc hW (fun i4 s3 hW => ?_)
      refine fr_if_eq (pc := 34) (tgt := 72) (by decide) dX12_pagesLeft_34 hW (fun hW => ?_) (fun hW => ?_)
      · refine fr_iinc (pc := 72) (lv' := [(6, .int (v6 + 1)), (0, .ref a0), (1, .int v1), (2, .int v2), (3, .int v3), (4, .int v4), (5, .int v5)]) (v6 + 1) 6 rfl (congrArg (fun z => v6 + z) (by decide)) (by decide) rfl dX12_pagesLeft_72 ?_
        refine fr_goto (pc := 75) (tgt := 9) (by decide) dX12_pagesLeft_75 ?_
        exact fr_sub [1, 2, 3, 4, 5, 6, 0] rfl hW
      · refine fr_aload_n (pc := 37) 0 rfl rfl dX12_pagesLeft_37 ?_
        refine fr_iload_n (pc := 38) 1 rfl rfl dX12_pagesLeft_38 ?_
        refine fr_iload_n (pc := 39) 3 rfl rfl dX12_pagesLeft_39 ?_
        refine fr_iload (pc := 40) 6 rfl dX12_pagesLeft_40 ?_
        obtain ⟨hrc, hW⟩ := hW
        refine fr_callV_I (pc := 42) (As := [.int v1, .int v3, .int v6]) (st := []) wd_X12_leaves w_1259 ok_X12_leaves (by decide) rfl (Nat.le_of_ble_eq_true rfl) dX12_pagesLeft_42 ⟨Nat.le_refl 0, Nat.le_refl 0⟩ kc_X12 hrc hW (fun i8 s7 hW => ?_)
        refine fr_if_eq (pc := 45) (tgt := 72) (by decide) dX12_pagesLeft_45 hW (fun hW => ?_) (fun hW => ?_)
        · refine fr_iinc (pc := 72) (lv' := [(6, .int (v6 + 1)), (0, .ref a0), (1, .int v1), (2, .int v2), (3, .int v3), (4, .int v4), (5, .int v5)]) (v6 + 1) 6 rfl (congrArg (fun z => v6 + z) (by decide)) (by decide) rfl dX12_pagesLeft_72 ?_
          refine fr_goto (pc := 75) (tgt := 9) (by decide) dX12_pagesLeft_75 ?_
          exact fr_sub [1, 2, 3, 4, 5, 6, 0] rfl hW
        · refine fr_iload (pc := 48) 6 rfl dX12_pagesLeft_48 ?_
          refine fr_aload_n (pc := 50) 0 rfl rfl dX12_pagesLeft_50 ?_
          refine fr_getI (pc := 51) (T := TX12) (k := 3) kc_X12 (by decide) w_1008 dX12_pagesLeft_51 hW (fun i11 hW => ?_)
          obtain ⟨hne, hW⟩ := hW
          refine fr_idiv (pc := 54) hne dX12_pagesLeft_54 ?_
          refine fr_iload (pc := 55) 5 rfl dX12_pagesLeft_55 ?_
          refine fr_icmp_eq (pc := 57) (tgt := 72) (by decide) dX12_pagesLeft_57 hW (fun hW => ?_) (fun hW => ?_)
          · refine fr_iinc (pc := 72) (lv' := [(6, .int (v6 + 1)), (0, .ref a0), (1, .int v1), (2, .int v2), (3, .int v3), (4, .int v4), (5, .int v5)]) (v6 + 1) 6 rfl (congrArg (fun z => v6 + z) (by decide)) (by decide) rfl dX12_pagesLeft_72 ?_
            refine fr_goto (pc := 75) (tgt := 9) (by decide) dX12_pagesLeft_75 ?_
            exact fr_sub [1, 2, 3, 4, 5, 6, 0] rfl hW
          · refine fr_iload (pc := 60) 6 rfl dX12_pagesLeft_60 ?_
            refine fr_aload_n (pc := 62) 0 rfl rfl dX12_pagesLeft_62 ?_
            refine fr_getI (pc := 63) (T := TX12) (k := 3) kc_X12 (by decide) w_1008 dX12_pagesLeft_63 hW (fun i12 hW => ?_)
            obtain ⟨hne, hW⟩ := hW
            refine fr_idiv (pc := 66) hne dX12_pagesLeft_66 ?_
            refine fr_istore (pc := 67) (lv' := [(5, .int (v6 / i12)), (0, .ref a0), (1, .int v1), (2, .int v2), (3, .int v3), (4, .int v4), (6, .int v6)]) (by decide) rfl dX12_pagesLeft_67 ?_
            refine fr_iinc (pc := 69) (lv' := [(4, .int (v4 + 1)), (5, .int (v6 / i12)), (0, .ref a0), (1, .int v1), (2, .int v2), (3, .int v3), (6, .int v6)]) (v4 + 1) 5 rfl (congrArg (fun z => v4 + z) (by decide)) (by decide) rfl dX12_pagesLeft_69 ?_
            refine fr_iinc (pc := 72) (lv' := [(6, .int (v6 + 1)), (4, .int (v4 + 1)), (5, .int (v6 / i12)), (0, .ref a0), (1, .int v1), (2, .int v2), (3, .int v3)]) (v6 + 1) 6 rfl (congrArg (fun z => v6 + z) (by decide)) (by decide) rfl dX12_pagesLeft_72 ?_
            refine fr_goto (pc := 75) (tgt := 9) (by decide) dX12_pagesLeft_75 ?_
            exact fr_sub [3, 4, 5, 6, 1, 2, 0] rfl hW
