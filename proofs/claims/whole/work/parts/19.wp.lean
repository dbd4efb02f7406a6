def J_X12_workOf_4 (g : GG) (post : Option Value → Hs → Prop) (σ : Hs) (a0 : Nat) (v1 : Int32) (v2 : Int32) (v3 : Int32) : Prop := Fr g M_X12_workOf (0, 0, 0, 0) [(0, .ref a0), (1, .int v1), (2, .int v2), (3, .int v3)] [] 4 σ post
def J_X12_workOf_40 (g : GG) (post : Option Value → Hs → Prop) (σ : Hs) (a0 : Nat) (v1 : Int32) (v2 : Int32) (v3 : Int32) : Prop := Fr g M_X12_workOf (0, 0, 0, 0) [(0, .ref a0), (1, .int v1), (2, .int v2), (3, .int v3)] [] 40 σ post
set_option maxHeartbeats 4000000 in
set_option maxRecDepth 100000 in
theorem q_X12_workOf {g : GG} {σ : Hs} {post : Option Value → Hs → Prop} (r0 : Nat) (p0 : Int32) (hW : J_X12_workOf_4 g post σ r0 p0 0 0 ) : Do g M_X12_workOf 0 0 [.ref r0, .int p0] σ post := by
  refine Do.of (by decide +kernel) (Nat.le_of_ble_eq_true rfl) ?_
  show Fr g M_X12_workOf (0, 0, 0, 0) [(0, .ref r0), (1, .int p0)] [] 0 σ post
  refine fr_iconst (pc := 0) 0 (by decide) dX12_workOf_0 ?_
  refine fr_istore_n (pc := 1) (lv' := [(2, .int 0), (0, .ref r0), (1, .int p0)]) rfl (by decide) rfl dX12_workOf_1 ?_
  refine fr_iconst (pc := 2) 0 (by decide) dX12_workOf_2 ?_
  refine fr_istore_n (pc := 3) (lv' := [(3, .int 0), (2, .int 0), (0, .ref r0), (1, .int p0)]) rfl (by decide) rfl dX12_workOf_3 ?_
  exact fr_sub [2, 3, 1, 0] rfl hW
set_option maxHeartbeats 4000000 in
set_option maxRecDepth 100000 in
theorem q_X12_workOf_4 {g : GG} {σ : Hs} {post : Option Value → Hs → Prop} (a0 : Nat) (v1 : Int32) (v2 : Int32) (v3 : Int32) (hW : FI σ a0 12 14 (fun i1 => (i1 ≤ v3 → J_X12_workOf_40 g post σ a0 v1 v2 0 ) ∧ (¬ i1 ≤ v3 → Rc σ a0 12 ∧ Do g M_X12_seekBest 0 0 [.ref a0, .int v3, .int v1] σ (kV (fun s2 => FR s2 a0 12 18 (fun r3 => AI g s2 r3 0 v3 (fun i4 => FI s2 a0 12 35 (fun i5 => J_X12_workOf_4 g post s2 a0 v1 ((v2 + (i4 * i5))) ((v3 + 1)) )))))))) : J_X12_workOf_4 g post σ a0 v1 v2 v3 := by
  show Fr g M_X12_workOf (0, 0, 0, 0) [(0, .ref a0), (1, .int v1), (2, .int v2), (3, .int v3)] [] 4 σ post
  refine fr_iload_n (pc := 4) 3 rfl rfl dX12_workOf_4 ?_
  refine fr_aload_n (pc := 5) 0 rfl rfl dX12_workOf_5 ?_
  refine fr_getI (pc := 6) (T := TX12) (k := 14) kc_X12 (by decide) w_1198 dX12_workOf_6 hW (fun i1 hW => ?_)
  refine fr_icmp_ge (pc := 9) (tgt := 38) (by decide) dX12_workOf_9 hW (fun hW => ?_) (fun hW => ?_)
  · refine fr_iconst (pc := 38) 0 (by decide) dX12_workOf_38 ?_
    refine fr_istore_n (pc := 39) (lv' := [(3, .int 0), (0, .ref a0), (1, .int v1), (2, .int v2)]) rfl (by decide) rfl dX12_workOf_39 ?_
    exact fr_sub [1, 2, 3, 0] rfl hW
  · refine fr_aload_n (pc := 12) 0 rfl rfl dX12_workOf_12 ?_
    refine fr_iload_n (pc := 13) 3 rfl rfl dX12_workOf_13 ?_
    refine fr_iload_n (pc := 14) 1 rfl rfl dX12_workOf_14 ?_
    obtain ⟨hrc, hW⟩ := hW
    refine fr_callV_V (pc := 15) (As := [.int v3, .int v1]) (st := []) wd_X12_seekBest w_1277 ok_X12_seekBest (by decide) rfl (Nat.le_of_ble_eq_true rfl) dX12_workOf_15 ⟨Nat.le_refl 0, Nat.le_refl 0⟩ kc_X12 hrc hW (fun s2 hW => ?_)
    refine fr_iload_n (pc := 18) 2 rfl rfl dX12_workOf_18 ?_
    refine fr_aload_n (pc := 19) 0 rfl rfl dX12_workOf_19 ?_
    refine fr_getR (pc := 20) (T := TX12) (k := 18) kc_X12 (by decide) w_1021 dX12_workOf_20 hW (fun r3 hW => ?_)
    refine fr_iload_n (pc := 23) 3 rfl rfl dX12_workOf_23 ?_
    refine fr_iald (pc := 24) dX12_workOf_24 hW (fun i4 hW => ?_)
    refine fr_aload_n (pc := 25) 0 rfl rfl dX12_workOf_25 ?_
    refine fr_getI (pc := 26) (T := TX12) (k := 35) kc_X12 (by decide) w_1273 dX12_workOf_26 hW (fun i5 hW => ?_)
    refine fr_imul (pc := 29) dX12_workOf_29 ?_
    refine fr_iadd (pc := 30) dX12_workOf_30 ?_
    refine fr_istore_n (pc := 31) (lv' := [(2, .int (v2 + (i4 * i5))), (0, .ref a0), (1, .int v1), (3, .int v3)]) rfl (by decide) rfl dX12_workOf_31 ?_
    refine fr_iinc (pc := 32) (lv' := [(3, .int (v3 + 1)), (2, .int (v2 + (i4 * i5))), (0, .ref a0), (1, .int v1)]) (v3 + 1) 3 rfl (congrArg (fun z => v3 + z) (by decide)) (by decide) rfl dX12_workOf_32 ?_
    refine fr_goto (pc := 35) (tgt := 4) (by decide) dX12_workOf_35 ?_
    exact fr_sub [2, 3, 1, 0] rfl hW
set_option maxHeartbeats 4000000 in
set_option maxRecDepth 100000 in
theorem q_X12_workOf_40 {g : GG} {σ : Hs} {post : Option Value → Hs → Prop} (a0 : Nat) (v1 : Int32) (v2 : Int32) (v3 : Int32) (hW : FI σ a0 12 4 (fun i6 => (i6 ≤ v3 → post (some (.int v2)) σ) ∧ (¬ i6 ≤ v3 → (¬ ((v1 >>> (v3 &&& 31)) &&& 1) = 1 → J_X12_workOf_40 g post σ a0 v1 ((v2 + 0)) ((v3 + 1)) ) ∧ (((v1 >>> (v3 &&& 31)) &&& 1) = 1 → FR σ a0 12 6 (fun r7 => AI g σ r7 1 v3 (fun i8 => (¬ i8 = 0 → J_X12_workOf_40 g post σ a0 v1 ((v2 + 0)) ((v3 + 1)) ) ∧ (i8 = 0 → FI σ a0 12 19 (fun i9 => Rc σ a0 12 ∧ Do g M_X12_heightOf 0 0 [.ref a0, .int v3] σ (kI (fun i11 s10 => J_X12_workOf_40 g post s10 a0 v1 ((v2 + (i9 * (i11 + 2)))) ((v3 + 1)) )))))))))) : J_X12_workOf_40 g post σ a0 v1 v2 v3 := by
  show Fr g M_X12_workOf (0, 0, 0, 0) [(0, .ref a0), (1, .int v1), (2, .int v2), (3, .int v3)] [] 40 σ post
  refine fr_iload_n (pc := 40) 3 rfl rfl dX12_workOf_40 ?_
  refine fr_aload_n (pc := 41) 0 rfl rfl dX12_workOf_41 ?_
  refine fr_getI (pc := 42) (T := TX12) (k := 4) kc_X12 (by decide) w_1073 dX12_workOf_42 hW (fun i6 hW => ?_)
  refine fr_icmp_ge (pc := 45) (tgt := 91) (by decide) dX12_workOf_45 hW (fun hW => ?_) (fun hW => ?_)
  · refine fr_iload_n (pc := 91) 2 rfl rfl dX12_workOf_91 ?_
    exact fr_iret (pc := 92) dX12_workOf_92 rfl ⟨Nat.le_refl 0, Nat.le_refl 0⟩ hW
  · refine fr_iload_n (pc := 48) 2 rfl rfl dX12_workOf_48 ?_
    refine fr_iload_n (pc := 49) 1 rfl rfl dX12_workOf_49 ?_
    refine fr_iload_n (pc := 50) 3 rfl rfl dX12_workOf_50 ?_
    refine fr_ishr (pc := 51) dX12_workOf_51 ?_
    refine fr_iconst (pc := 52) 1 (by decide) dX12_workOf_52 ?_
    refine fr_iand (pc := 53) dX12_workOf_53 ?_
    refine fr_iconst (pc := 54) 1 (by decide) dX12_workOf_54 ?_
    refine fr_icmp_ne (pc := 55) (tgt := 82) (by decide) dX12_workOf_55 hW (fun hW => ?_) (fun hW => ?_)
    · refine fr_iconst (pc := 82) 0 (by decide) dX12_workOf_82 ?_
      refine fr_iadd (pc := 83) dX12_workOf_83 ?_
      refine fr_istore_n (pc := 84) (lv' := [(2, .int (v2 + 0)), (0, .ref a0), (1, .int v1), (3, .int v3)]) rfl (by decide) rfl dX12_workOf_84 ?_
      refine fr_iinc (pc := 85) (lv' := [(3, .int (v3 + 1)), (2, .int (v2 + 0)), (0, .ref a0), (1, .int v1)]) (v3 + 1) 3 rfl (congrArg (fun z => v3 + z) (by decide)) (by decide) rfl dX12_workOf_85 ?_
      refine fr_goto (pc := 88) (tgt := 40) (by decide) dX12_workOf_88 ?_
      exact fr_sub [2, 3, 1, 0] rfl hW
    · refine fr_aload_n (pc := 58) 0 rfl rfl dX12_workOf_58 ?_
      refine fr_getR (pc := 59) (T := TX12) (k := 6) kc_X12 (by decide) w_1010 dX12_workOf_59 hW (fun r7 hW => ?_)
      refine fr_iload_n (pc := 62) 3 rfl rfl dX12_workOf_62 ?_
      refine fr_zald (pc := 63) dX12_workOf_63 hW (fun i8 hW => ?_)
      refine fr_if_ne (pc := 64) (tgt := 82) (by decide) dX12_workOf_64 hW (fun hW => ?_) (fun hW => ?_)
      · refine fr_iconst (pc := 82) 0 (by decide) dX12_workOf_82 ?_
        refine fr_iadd (pc := 83) dX12_workOf_83 ?_
        refine fr_istore_n (pc := 84) (lv' := [(2, .int (v2 + 0)), (0, .ref a0), (1, .int v1), (3, .int v3)]) rfl (by decide) rfl dX12_workOf_84 ?_
        refine fr_iinc (pc := 85) (lv' := [(3, .int (v3 + 1)), (2, .int (v2 + 0)), (0, .ref a0), (1, .int v1)]) (v3 + 1) 3 rfl (congrArg (fun z => v3 + z) (by decide)) (by decide) rfl dX12_workOf_85 ?_
        refine fr_goto (pc := 88) (tgt := 40) (by decide) dX12_workOf_88 ?_
        exact fr_sub [2, 3, 1, 0] rfl hW
      · refine fr_aload_n (pc := 67) 0 rfl rfl dX12_workOf_67 ?_
        refine fr_getI (pc := 68) (T := TX12) (k := 19) kc_X12 (by decide) w_1287 dX12_workOf_68 hW (fun i9 hW => ?_)
        refine fr_aload_n (pc := 71) 0 rfl rfl dX12_workOf_71 ?_
        refine fr_iload_n (pc := 72) 3 rfl rfl dX12_workOf_72 ?_
        obtain ⟨hrc, hW⟩ := hW
        refine fr_callV_I (pc := 73) (As := [.int v3]) (st := [.int i9, .int v2]) wd_X12_heightOf w_1142 ok_X12_heightOf (by decide) rfl (Nat.le_of_ble_eq_true rfl) dX12_workOf_73 ⟨Nat.le_refl 0, Nat.le_refl 0⟩ kc_X12 hrc hW (fun i11 s10 hW => ?_)
        refine fr_iconst (pc := 76) 2 (by decide) dX12_workOf_76 ?_
        refine fr_iadd (pc := 77) dX12_workOf_77 ?_
        refine fr_imul (pc := 78) dX12_workOf_78 ?_
        refine fr_goto (pc := 79) (tgt := 83) (by decide) dX12_workOf_79 ?_
        refine fr_iadd (pc := 83) dX12_workOf_83 ?_
        refine fr_istore_n (pc := 84) (lv' := [(2, .int (v2 + (i9 * (i11 + 2)))), (0, .ref a0), (1, .int v1), (3, .int v3)]) rfl (by decide) rfl dX12_workOf_84 ?_
        refine fr_iinc (pc := 85) (lv' := [(3, .int (v3 + 1)), (2, .int (v2 + (i9 * (i11 + 2)))), (0, .ref a0), (1, .int v1)]) (v3 + 1) 3 rfl (congrArg (fun z => v3 + z) (by decide)) (by decide) rfl dX12_workOf_85 ?_
        refine fr_goto (pc := 88) (tgt := 40) (by decide) dX12_workOf_88 ?_
        exact fr_sub [2, 3, 1, 0] rfl hW
set_option maxHeartbeats 4000000 in
set_option maxRecDepth 100000 in
theorem q_X12_work {g : GG} {σ : Hs} {post : Option Value → Hs → Prop} (r0 : Nat) (p0 : Int32) (hW : Do g M_X12_in 0 0 [.int p0, .int 0, .int 255] σ (kI (fun i2 s1 => (¬ i2 = 0 → Rc s1 r0 12 ∧ Do g M_X12_lookAtAll 0 0 [.ref r0] s1 (kV (fun s5 => Rc s5 r0 12 ∧ Do g M_X12_workOf 0 0 [.ref r0, .int p0] s5 (kI (fun i7 s6 => post (some (.int i7)) s6))))) ∧ (i2 = 0 → post (some (.int (-102))) s1)))) : Do g M_X12_work 0 0 [.ref r0, .int p0] σ post := by
  refine Do.of (by decide +kernel) (Nat.le_of_ble_eq_true rfl) ?_
  show Fr g M_X12_work (0, 0, 0, 0) [(0, .ref r0), (1, .int p0)] [] 0 σ post
  refine fr_iload_n (pc := 0) 1 rfl rfl dX12_work_0 ?_
  refine fr_iconst (pc := 1) 0 (by decide) dX12_work_1 ?_
  refine fr_sipush (pc := 2) 255 (by decide) dX12_work_2 ?_
  refine fr_callS_I (pc := 5) (As := [.int p0, .int 0, .int 255]) (st := []) wd_X12_in w_1067 ok_X12_in (by decide) rfl (Nat.le_of_ble_eq_true rfl) dX12_work_5 ⟨Nat.le_refl 0, Nat.le_refl 0⟩ hW (fun i2 s1 hW => ?_)
  refine fr_if_ne (pc := 8) (tgt := 14) (by decide) dX12_work_8 hW (fun hW => ?_) (fun hW => ?_)
  · refine fr_aload_n (pc := 14) 0 rfl rfl dX12_work_14 ?_
    obtain ⟨hrc, hW⟩ := hW
    refine fr_callV_V (pc := 15) (As := []) (st := []) wd_X12_lookAtAll w_1288 ok_X12_lookAtAll (by decide) rfl (Nat.le_of_ble_eq_true rfl) dX12_work_15 ⟨Nat.le_refl 0, Nat.le_refl 0⟩ kc_X12 hrc hW (fun s5 hW => ?_)
    refine fr_aload_n (pc := 18) 0 rfl rfl dX12_work_18 ?_
    refine fr_iload_n (pc := 19) 1 rfl rfl dX12_work_19 ?_
    obtain ⟨hrc, hW⟩ := hW
    refine fr_callV_I (pc := 20) (As := [.int p0]) (st := []) wd_X12_workOf w_1289 ok_X12_workOf (by decide) rfl (Nat.le_of_ble_eq_true rfl) dX12_work_20 ⟨Nat.le_refl 0, Nat.le_refl 0⟩ kc_X12 hrc hW (fun i7 s6 hW => ?_)
    exact fr_iret (pc := 23) dX12_work_23 rfl ⟨Nat.le_refl 0, Nat.le_refl 0⟩ hW
  · refine fr_bipush (pc := 11) (-102) (by decide) dX12_work_11 ?_
    exact fr_iret (pc := 13) dX12_work_13 rfl ⟨Nat.le_refl 0, Nat.le_refl 0⟩ hW
set_option maxHeartbeats 4000000 in
set_option maxRecDepth 100000 in
theorem q_X10_upkeepNow {g : GG} {σ : Hs} {post : Option Value → Hs → Prop} (r0 : Nat) (hW : FI σ r0 10 8 (fun i1 => post (some (.int i1)) σ)) : Do g M_X10_upkeepNow 0 0 [.ref r0] σ post := by
  refine Do.of (by decide +kernel) (Nat.le_of_ble_eq_true rfl) ?_
  show Fr g M_X10_upkeepNow (0, 0, 0, 0) [(0, .ref r0)] [] 0 σ post
  refine fr_aload_n (pc := 0) 0 rfl rfl dX10_upkeepNow_0 ?_
  refine fr_getI (pc := 1) (T := TX10) (k := 8) kc_X10 (by decide) w_1279 dX10_upkeepNow_1 hW (fun i1 hW => ?_)
  exact fr_iret (pc := 4) dX10_upkeepNow_4 rfl ⟨Nat.le_refl 0, Nat.le_refl 0⟩ hW
set_option maxHeartbeats 4000000 in
set_option maxRecDepth 100000 in
theorem q_X10_setUpkeep {g : GG} {σ : Hs} {post : Option Value → Hs → Prop} (r0 : Nat) (p0 : Int32) (hW : PF σ r0 10 8 (.int p0) (fun s1 => post none s1)) : Do g M_X10_setUpkeep 0 0 [.ref r0, .int p0] σ post := by
  refine Do.of (by decide +kernel) (Nat.le_of_ble_eq_true rfl) ?_
  show Fr g M_X10_setUpkeep (0, 0, 0, 0) [(0, .ref r0), (1, .int p0)] [] 0 σ post
  refine fr_aload_n (pc := 0) 0 rfl rfl dX10_setUpkeep_0 ?_
  refine fr_iload_n (pc := 1) 1 rfl rfl dX10_setUpkeep_1 ?_
  refine fr_put (pc := 2) (T := TX10) (k := 8) kc_X10 (by decide) w_1279 rfl rfl rfl dX10_setUpkeep_2 hW (fun s1 hW => ?_)
  exact fr_ret (pc := 5) dX10_setUpkeep_5 rfl ⟨Nat.le_refl 0, Nat.le_refl 0⟩ hW
set_option maxHeartbeats 4000000 in
set_option maxRecDepth 100000 in
theorem q_X11_upkeep {g : GG} {σ : Hs} {post : Option Value → Hs → Prop} (r0 : Nat) (p0 : Int32) (hW : Do g M_X11_isNumber 0 0 [.int p0] σ (kI (fun i2 s1 => (¬ i2 = 0 → FR s1 r0 11 3 (fun r5 => Rc s1 r5 10 ∧ Do g M_X10_upkeepNow 0 0 [.ref r5] s1 (kI (fun i7 s6 => FR s6 r0 11 3 (fun r10 => Rc s6 r10 10 ∧ Do g M_X10_setUpkeep 0 0 [.ref r10, .int p0] s6 (kV (fun s11 => post (some (.int i7)) s11))))))) ∧ (i2 = 0 → post (some (.int (-102))) s1)))) : Do g M_X11_upkeep 0 0 [.ref r0, .int p0] σ post := by
  refine Do.of (by decide +kernel) (Nat.le_of_ble_eq_true rfl) ?_
  show Fr g M_X11_upkeep (0, 0, 0, 0) [(0, .ref r0), (1, .int p0)] [] 0 σ post
  refine fr_iload_n (pc := 0) 1 rfl rfl dX11_upkeep_0 ?_
  refine fr_callS_I (pc := 1) (As := [.int p0]) (st := []) wd_X11_isNumber w_1063 ok_X11_isNumber (by decide) rfl (Nat.le_of_ble_eq_true rfl) dX11_upkeep_1 ⟨Nat.le_refl 0, Nat.le_refl 0⟩ hW (fun i2 s1 hW => ?_)
  refine fr_if_ne (pc := 4) (tgt := 10) (by decide) dX11_upkeep_4 hW (fun hW => ?_) (fun hW => ?_)
  · refine fr_aload_n (pc := 10) 0 rfl rfl dX11_upkeep_10 ?_
    refine fr_getR (pc := 11) (T := TX11) (k := 3) kc_X11 (by decide) w_995 dX11_upkeep_11 hW (fun r5 hW => ?_)
    obtain ⟨hrc, hW⟩ := hW
    refine fr_callV_I (pc := 14) (As := []) (st := []) wd_X10_upkeepNow w_1290 ok_X10_upkeepNow (by decide) rfl (Nat.le_of_ble_eq_true rfl) dX11_upkeep_14 ⟨Nat.le_refl 0, Nat.le_refl 0⟩ kc_X10 hrc hW (fun i7 s6 hW => ?_)
    refine fr_istore_n (pc := 17) (lv' := [(2, .int i7), (0, .ref r0), (1, .int p0)]) rfl (by decide) rfl dX11_upkeep_17 ?_
    refine fr_aload_n (pc := 18) 1 rfl rfl dX11_upkeep_18 ?_
    refine fr_getR (pc := 19) (T := TX11) (k := 3) kc_X11 (by decide) w_995 dX11_upkeep_19 hW (fun r10 hW => ?_)
    refine fr_iload_n (pc := 22) 2 rfl rfl dX11_upkeep_22 ?_
    obtain ⟨hrc, hW⟩ := hW
    refine fr_callV_V (pc := 23) (As := [.int p0]) (st := []) wd_X10_setUpkeep w_1291 ok_X10_setUpkeep (by decide) rfl (Nat.le_of_ble_eq_true rfl) dX11_upkeep_23 ⟨Nat.le_refl 0, Nat.le_refl 0⟩ kc_X10 hrc hW (fun s11 hW => ?_)
    refine fr_iload_n (pc := 26) 0 rfl rfl dX11_upkeep_26 ?_
    exact fr_iret (pc := 27) dX11_upkeep_27 rfl ⟨Nat.le_refl 0, Nat.le_refl 0⟩ hW
  · refine fr_bipush (pc := 7) (-102) (by decide) dX11_upkeep_7 ?_
    exact fr_iret (pc := 9) dX11_upkeep_9 rfl ⟨Nat.le_refl 0, Nat.le_refl 0⟩ hW
set_option maxHeartbeats 4000000 in
set_option maxRecDepth 100000 in
theorem q_X12_upkeep {g : GG} {σ : Hs} {post : Option Value → Hs → Prop} (r0 : Nat) (p0 : Int32) (hW : Do g M_X12_isNumber 0 0 [.int p0] σ (kI (fun i2 s1 => (¬ i2 = 0 → FI s1 r0 12 19 (fun i5 => PF s1 r0 12 19 (.int p0) (fun s6 => post (some (.int i5)) s6))) ∧ (i2 = 0 → post (some (.int (-102))) s1)))) : Do g M_X12_upkeep 0 0 [.ref r0, .int p0] σ post := by
  refine Do.of (by decide +kernel) (Nat.le_of_ble_eq_true rfl) ?_
  show Fr g M_X12_upkeep (0, 0, 0, 0) [(0, .ref r0), (1, .int p0)] [] 0 σ post
  refine fr_iload_n (pc := 0) 1 rfl rfl dX12_upkeep_0 ?_
  refine fr_callS_I (pc := 1) (As := [.int p0]) (st := []) wd_X12_isNumber w_1077 ok_X12_isNumber (by decide) rfl (Nat.le_of_ble_eq_true rfl) dX12_upkeep_1 ⟨Nat.le_refl 0, Nat.le_refl 0⟩ hW (fun i2 s1 hW => ?_)
  refine fr_if_ne (pc := 4) (tgt := 10) (by decide) dX12_upkeep_4 hW (fun hW => ?_) (fun hW => ?_)
  · refine fr_aload_n (pc := 10) 0 rfl rfl dX12_upkeep_10 ?_
    refine fr_getI (pc := 11) (T := TX12) (k := 19) kc_X12 (by decide) w_1287 dX12_upkeep_11 hW (fun i5 hW => ?_)
    refine fr_istore_n (pc := 14) (lv' := [(2, .int i5), (0, .ref r0), (1, .int p0)]) rfl (by decide) rfl dX12_upkeep_14 ?_
    refine fr_aload_n (pc := 15) 1 rfl rfl dX12_upkeep_15 ?_
    refine fr_iload_n (pc := 16) 2 rfl rfl dX12_upkeep_16 ?_
    refine fr_put (pc := 17) (T := TX12) (k := 19) kc_X12 (by decide) w_1287 rfl rfl rfl dX12_upkeep_17 hW (fun s6 hW => ?_)
    refine fr_iload_n (pc := 20) 0 rfl rfl dX12_upkeep_20 ?_
    exact fr_iret (pc := 21) dX12_upkeep_21 rfl ⟨Nat.le_refl 0, Nat.le_refl 0⟩ hW
  · refine fr_bipush (pc := 7) (-102) (by decide) dX12_upkeep_7 ?_
    exact fr_iret (pc := 9) dX12_upkeep_9 rfl ⟨Nat.le_refl 0, Nat.le_refl 0⟩ hW
set_option maxHeartbeats 4000000 in
set_option maxRecDepth 100000 in
theorem q_X11_isSpace {g : GG} {σ : Hs} {post : Option Value → Hs → Prop} (p0 : Int32) (hW : (p0 < 0 → post (some (.int 0)) σ) ∧ (¬ p0 < 0 → (9999 < p0 → post (some (.int 0)) σ) ∧ (¬ 9999 < p0 → post (some (.int 1)) σ))) : Do g M_X11_isSpace 0 0 [.int p0] σ post := by
  refine Do.of (by decide +kernel) (Nat.le_of_ble_eq_true rfl) ?_
  show Fr g M_X11_isSpace (0, 0, 0, 0) [(0, .int p0)] [] 0 σ post
  refine fr_iload_n (pc := 0) 0 rfl rfl dX11_isSpace_0 ?_
  refine fr_if_lt (pc := 1) (tgt := 15) (by decide) dX11_isSpace_1 hW (fun hW => ?_) (fun hW => ?_)
  · refine fr_iconst (pc := 15) 0 (by decide) dX11_isSpace_15 ?_
    exact fr_zret (pc := 16) dX11_isSpace_16 rfl ⟨Nat.le_refl 0, Nat.le_refl 0⟩ ⟨rfl, hW⟩
  · refine fr_iload_n (pc := 4) 0 rfl rfl dX11_isSpace_4 ?_
    refine fr_sipush (pc := 5) 9999 (by decide) dX11_isSpace_5 ?_
    refine fr_icmp_gt (pc := 8) (tgt := 15) (by decide) dX11_isSpace_8 hW (fun hW => ?_) (fun hW => ?_)
    · refine fr_iconst (pc := 15) 0 (by decide) dX11_isSpace_15 ?_
      exact fr_zret (pc := 16) dX11_isSpace_16 rfl ⟨Nat.le_refl 0, Nat.le_refl 0⟩ ⟨rfl, hW⟩
    · refine fr_iconst (pc := 11) 1 (by decide) dX11_isSpace_11 ?_
      refine fr_goto (pc := 12) (tgt := 16) (by decide) dX11_isSpace_12 ?_
      exact fr_zret (pc := 16) dX11_isSpace_16 rfl ⟨Nat.le_refl 0, Nat.le_refl 0⟩ ⟨rfl, hW⟩
def J_X9_fewestOfAll_2 (g : GG) (post : Option Value → Hs → Prop) (σ : Hs) (a0 : Nat) (a1 : Nat) (v2 : Int32) : Prop := Fr g M_X9_fewestOfAll (0, 0, 0, 0) [(0, .ref a0), (1, .ref a1), (2, .int v2)] [] 2 σ post
def J_X9_fewestOfAll_30 (g : GG) (post : Option Value → Hs → Prop) (σ : Hs) (a0 : Nat) (a1 : Nat) (v2 : Int32) : Prop := Fr g M_X9_fewestOfAll (0, 0, 0, 0) [(0, .ref a0), (1, .ref a1), (2, .int v2)] [] 30 σ post
def J_X9_fewestOfAll_77 (g : GG) (post : Option Value → Hs → Prop) (σ : Hs) (a1 : Nat) (v2 : Int32) : Prop := Fr g M_X9_fewestOfAll (0, 0, 0, 0) [(1, .ref a1), (2, .int v2)] [] 77 σ post
def J_X9_fewestOfAll_85 (g : GG) (post : Option Value → Hs → Prop) (σ : Hs) (a1 : Nat) (v2 : Int32) (v3 : Int32) : Prop := Fr g M_X9_fewestOfAll (0, 0, 0, 0) [(1, .ref a1), (2, .int v2), (3, .int v3)] [] 85 σ post
set_option maxHeartbeats 4000000 in
set_option maxRecDepth 100000 in
theorem q_X9_fewestOfAll {g : GG} {σ : Hs} {post : Option Value → Hs → Prop} (r0 : Nat) (p0 : Nat) (hW : J_X9_fewestOfAll_2 g post σ r0 p0 0 ) : Do g M_X9_fewestOfAll 0 0 [.ref r0, .ref p0] σ post := by
  refine Do.of (by decide +kernel) (Nat.le_of_ble_eq_true rfl) ?_
  show Fr g M_X9_fewestOfAll (0, 0, 0, 0) [(0, .ref r0), (1, .ref p0)] [] 0 σ post
  refine fr_iconst (pc := 0) 0 (by decide) dX9_fewestOfAll_0 ?_
  refine fr_istore_n (pc := 1) (lv' := [(2, .int 0), (0, .ref r0), (1, .ref p0)]) rfl (by decide) rfl dX9_fewestOfAll_1 ?_
  exact fr_sub [1, 2, 0] rfl hW
set_option maxHeartbeats 4000000 in
set_option maxRecDepth 100000 in
theorem q_X9_fewestOfAll_2 {g : GG} {σ : Hs} {post : Option Value → Hs → Prop} (a0 : Nat) (a1 : Nat) (v2 : Int32) (hW : (256 ≤ v2 → J_X9_fewestOfAll_30 g post σ a0 a1 1 ) ∧ (¬ 256 ≤ v2 → FR σ a0 9 4 (fun r1 => Rc σ r1 1 ∧ Do g M_X1_at 0 0 [.ref r1, .int 0] σ (kI (fun i3 s2 => Rc s2 a1 1 ∧ Do g M_X1_put 0 0 [.ref a1, .int v2, .int i3] s2 (kV (fun s6 => J_X9_fewestOfAll_2 g post s6 a0 a1 ((v2 + 1)) ))))))) : J_X9_fewestOfAll_2 g post σ a0 a1 v2 := by
  show Fr g M_X9_fewestOfAll (0, 0, 0, 0) [(0, .ref a0), (1, .ref a1), (2, .int v2)] [] 2 σ post
  refine fr_iload_n (pc := 2) 2 rfl rfl dX9_fewestOfAll_2 ?_
  refine fr_sipush (pc := 3) 256 (by decide) dX9_fewestOfAll_3 ?_
  refine fr_icmp_ge (pc := 6) (tgt := 28) (by decide) dX9_fewestOfAll_6 hW (fun hW => ?_) (fun hW => ?_)
  · refine fr_iconst (pc := 28) 1 (by decide) dX9_fewestOfAll_28 ?_
    refine fr_istore_n (pc := 29) (lv' := [(2, .int 1), (0, .ref a0), (1, .ref a1)]) rfl (by decide) rfl dX9_fewestOfAll_29 ?_
    exact fr_sub [1, 2, 0] rfl hW
  · refine fr_aload_n (pc := 9) 1 rfl rfl dX9_fewestOfAll_9 ?_
    refine fr_iload_n (pc := 10) 2 rfl rfl dX9_fewestOfAll_10 ?_
    refine fr_aload_n (pc := 11) 0 rfl rfl dX9_fewestOfAll_11 ?_
    refine fr_getR (pc := 12) (T := TX9) (k := 4) kc_X9 (by decide) w_946 dX9_fewestOfAll_12 hW (fun r1 hW => ?_)
    refine fr_iconst (pc := 15) 0 (by decide) dX9_fewestOfAll_15 ?_
    obtain ⟨hrc, hW⟩ := hW
    refine fr_callV_I (pc := 16) (As := [.int 0]) (st := [.int v2, .ref a1]) wd_X1_at w_1241 ok_X1_at (by decide) rfl (Nat.le_of_ble_eq_true rfl) dX9_fewestOfAll_16 ⟨Nat.le_refl 0, Nat.le_refl 0⟩ kc_X1 hrc hW (fun i3 s2 hW => ?_)
    obtain ⟨hrc, hW⟩ := hW
    refine fr_callV_V (pc := 19) (As := [.int v2, .int i3]) (st := []) wd_X1_put w_1225 ok_X1_put (by decide) rfl (Nat.le_of_ble_eq_true rfl) dX9_fewestOfAll_19 ⟨Nat.le_refl 0, Nat.le_refl 0⟩ kc_X1 hrc hW (fun s6 hW => ?_)
    refine fr_iinc (pc := 22) (lv' := [(2, .int (v2 + 1)), (0, .ref a0), (1, .ref a1)]) (v2 + 1) 2 rfl (congrArg (fun z => v2 + z) (by decide)) (by decide) rfl dX9_fewestOfAll_22 ?_
    refine fr_goto (pc := 25) (tgt := 2) (by decide) dX9_fewestOfAll_25 ?_
    exact fr_sub [1, 2, 0] rfl hW
set_option maxHeartbeats 4000000 in
set_option maxRecDepth 100000 in
theorem q_X9_fewestOfAll_30 {g : GG} {σ : Hs} {post : Option Value → Hs → Prop} (a0 : Nat) (a1 : Nat) (v2 : Int32) (hW : FI σ a0 9 7 (fun i7 => (i7 ≤ v2 → J_X9_fewestOfAll_77 g post σ a1 0 ) ∧ (¬ i7 ≤ v2 → FR σ a0 9 3 (fun r8 => Rc σ r8 1 ∧ Do g M_X1_at 0 0 [.ref r8, .int v2] σ (kI (fun i10 s9 => FR s9 a0 9 4 (fun r13 => Rc s9 r13 1 ∧ Do g M_X1_at 0 0 [.ref r13, .int 0] s9 (kI (fun i15 s14 => FR s14 a0 9 4 (fun r18 => Rc s14 r18 1 ∧ Do g M_X1_at 0 0 [.ref r18, .int v2] s14 (kI (fun i20 s19 => Rc s19 a1 1 ∧ Do g M_X1_put 0 0 [.ref a1, .int i10, .int (if i20 < i15 then i20 else i15)] s19 (kV (fun s23 => J_X9_fewestOfAll_30 g post s23 a0 a1 ((v2 + 1)) )))))))))))))) : J_X9_fewestOfAll_30 g post σ a0 a1 v2 := by
  show Fr g M_X9_fewestOfAll (0, 0, 0, 0) [(0, .ref a0), (1, .ref a1), (2, .int v2)] [] 30 σ post
  refine fr_iload_n (pc := 30) 2 rfl rfl dX9_fewestOfAll_30 ?_
  refine fr_aload_n (pc := 31) 0 rfl rfl dX9_fewestOfAll_31 ?_
  refine fr_getI (pc := 32) (T := TX9) (k := 7) kc_X9 (by decide) w_1224 dX9_fewestOfAll_32 hW (fun i7 hW => ?_)
  refine fr_icmp_ge (pc := 35) (tgt := 75) (by decide) dX9_fewestOfAll_35 hW (fun hW => ?_) (fun hW => ?_)
  · refine fr_iconst (pc := 75) 0 (by decide) dX9_fewestOfAll_75 ?_
    refine fr_istore_n (pc := 76) (lv' := [(2, .int 0), (0, .ref a0), (1, .ref a1)]) rfl (by decide) rfl dX9_fewestOfAll_76 ?_
    exact fr_sub [2, 0] rfl hW
  · refine fr_aload_n (pc := 38) 1 rfl rfl dX9_fewestOfAll_38 ?_
    refine fr_aload_n (pc := 39) 0 rfl rfl dX9_fewestOfAll_39 ?_
    refine fr_getR (pc := 40) (T := TX9) (k := 3) kc_X9 (by decide) w_945 dX9_fewestOfAll_40 hW (fun r8 hW => ?_)
    refine fr_iload_n (pc := 43) 2 rfl rfl dX9_fewestOfAll_43 ?_
    obtain ⟨hrc, hW⟩ := hW
    refine fr_callV_I (pc := 44) (As := [.int v2]) (st := [.ref a1]) wd_X1_at w_1241 ok_X1_at (by decide) rfl (Nat.le_of_ble_eq_true rfl) dX9_fewestOfAll_44 ⟨Nat.le_refl 0, Nat.le_refl 0⟩ kc_X1 hrc hW (fun i10 s9 hW => ?_)
    refine fr_aload_n (pc := 47) 0 rfl rfl dX9_fewestOfAll_47 ?_
    refine fr_getR (pc := 48) (T := TX9) (k := 4) kc_X9 (by decide) w_946 dX9_fewestOfAll_48 hW (fun r13 hW => ?_)
    refine fr_iconst (pc := 51) 0 (by decide) dX9_fewestOfAll_51 ?_
    obtain ⟨hrc, hW⟩ := hW
    refine fr_callV_I (pc := 52) (As := [.int 0]) (st := [.int i10, .ref a1]) wd_X1_at w_1241 ok_X1_at (by decide) rfl (Nat.le_of_ble_eq_true rfl) dX9_fewestOfAll_52 ⟨Nat.le_refl 0, Nat.le_refl 0⟩ kc_X1 hrc hW (fun i15 s14 hW => ?_)
    refine fr_aload_n (pc := 55) 0 rfl rfl dX9_fewestOfAll_55 ?_
    refine fr_getR (pc := 56) (T := TX9) (k := 4) kc_X9 (by decide) w_946 dX9_fewestOfAll_56 hW (fun r18 hW => ?_)
    refine fr_iload_n (pc := 59) 2 rfl rfl dX9_fewestOfAll_59 ?_
    obtain ⟨hrc, hW⟩ := hW
    refine fr_callV_I (pc := 60) (As := [.int v2]) (st := [.int i15, .int i10, .ref a1]) wd_X1_at w_1241 ok_X1_at (by decide) rfl (Nat.le_of_ble_eq_true rfl) dX9_fewestOfAll_60 ⟨Nat.le_refl 0, Nat.le_refl 0⟩ kc_X1 hrc hW (fun i20 s19 hW => ?_)
    refine fr_mmin (pc := 63) ⟨w_1292, w_1117, w_1118, w_1119⟩ (by decide) (Nat.le_of_ble_eq_true rfl) dX9_fewestOfAll_63 ⟨Nat.le_refl 0, Nat.le_refl 0⟩ ?_
    obtain ⟨hrc, hW⟩ := hW
    refine fr_callV_V (pc := 66) (As := [.int i10, .int (if i20 < i15 then i20 else i15)]) (st := []) wd_X1_put w_1225 ok_X1_put (by decide) rfl (Nat.le_of_ble_eq_true rfl) dX9_fewestOfAll_66 ⟨Nat.le_refl 0, Nat.le_refl 0⟩ kc_X1 hrc hW (fun s23 hW => ?_)
    refine fr_iinc (pc := 69) (lv' := [(2, .int (v2 + 1)), (0, .ref a0), (1, .ref a1)]) (v2 + 1) 2 rfl (congrArg (fun z => v2 + z) (by decide)) (by decide) rfl dX9_fewestOfAll_69 ?_
    refine fr_goto (pc := 72) (tgt := 30) (by decide) dX9_fewestOfAll_72 ?_
    exact fr_sub [1, 2, 0] rfl hW
set_option maxHeartbeats 4000000 in
set_option maxRecDepth 100000 in
theorem q_X9_fewestOfAll_77 {g : GG} {σ : Hs} {post : Option Value → Hs → Prop} (a1 : Nat) (v2 : Int32) (hW : (8 ≤ v2 → post none σ) ∧ (¬ 8 ≤ v2 → J_X9_fewestOfAll_85 g post σ a1 v2 0 )) : J_X9_fewestOfAll_77 g post σ a1 v2 := by
  show Fr g M_X9_fewestOfAll (0, 0, 0, 0) [(1, .ref a1), (2, .int v2)] [] 77 σ post
  refine fr_iload_n (pc := 77) 1 rfl rfl dX9_fewestOfAll_77 ?_
  refine fr_bipush (pc := 78) 8 (by decide) dX9_fewestOfAll_78 ?_
  refine fr_icmp_ge (pc := 80) (tgt := 126) (by decide) dX9_fewestOfAll_80 hW (fun hW => ?_) (fun hW => ?_)
  · exact fr_ret (pc := 126) dX9_fewestOfAll_126 rfl ⟨Nat.le_refl 0, Nat.le_refl 0⟩ hW
  · refine fr_iconst (pc := 83) 0 (by decide) dX9_fewestOfAll_83 ?_
    refine fr_istore_n (pc := 84) (lv' := [(3, .int 0), (1, .ref a1), (2, .int v2)]) rfl (by decide) rfl dX9_fewestOfAll_84 ?_
    exact fr_sub [1, 2, 0] rfl hW
set_option maxHeartbeats 4000000 in
set_option maxRecDepth 100000 in
theorem q_X9_fewestOfAll_85 {g : GG} {σ : Hs} {post : Option Value → Hs → Prop} (a1 : Nat) (v2 : Int32) (v3 : Int32) (hW : (256 ≤ v3 → J_X9_fewestOfAll_77 g post σ a1 ((v2 + 1)) ) ∧ (¬ 256 ≤ v3 → Rc σ a1 1 ∧ Do g M_X1_at 0 0 [.ref a1, .int v3] σ (kI (fun i25 s24 => Do g M_X11_without 0 0 [.int v3, .int v2] s24 (kI (fun i29 s28 => Rc s28 a1 1 ∧ Do g M_X1_at 0 0 [.ref a1, .int i29] s28 (kI (fun i33 s32 => Rc s32 a1 1 ∧ Do g M_X1_put 0 0 [.ref a1, .int v3, .int (if i33 < i25 then i33 else i25)] s32 (kV (fun s36 => J_X9_fewestOfAll_85 g post s36 a1 v2 ((v3 + 1)) )))))))))) : J_X9_fewestOfAll_85 g post σ a1 v2 v3 := by
  show Fr g M_X9_fewestOfAll (0, 0, 0, 0) [(1, .ref a1), (2, .int v2), (3, .int v3)] [] 85 σ post
  refine fr_iload_n (pc := 85) 2 rfl rfl dX9_fewestOfAll_85 ?_
  refine fr_sipush (pc := 86) 256 (by decide) dX9_fewestOfAll_86 ?_
  refine fr_icmp_ge (pc := 89) (tgt := 120) (by decide) dX9_fewestOfAll_89 hW (fun hW => ?_) (fun hW => ?_)
  · refine fr_iinc (pc := 120) (lv' := [(2, .int (v2 + 1)), (1, .ref a1), (3, .int v3)]) (v2 + 1) 1 rfl (congrArg (fun z => v2 + z) (by decide)) (by decide) rfl dX9_fewestOfAll_120 ?_
    refine fr_goto (pc := 123) (tgt := 77) (by decide) dX9_fewestOfAll_123 ?_
    exact fr_sub [1, 0] rfl hW
  · refine fr_aload_n (pc := 92) 0 rfl rfl dX9_fewestOfAll_92 ?_
    refine fr_iload_n (pc := 93) 2 rfl rfl dX9_fewestOfAll_93 ?_
    refine fr_aload_n (pc := 94) 0 rfl rfl dX9_fewestOfAll_94 ?_
    refine fr_iload_n (pc := 95) 2 rfl rfl dX9_fewestOfAll_95 ?_
    obtain ⟨hrc, hW⟩ := hW
    refine fr_callV_I (pc := 96) (As := [.int v3]) (st := [.int v3, .ref a1]) wd_X1_at w_1241 ok_X1_at (by decide) rfl (Nat.le_of_ble_eq_true rfl) dX9_fewestOfAll_96 ⟨Nat.le_refl 0, Nat.le_refl 0⟩ kc_X1 hrc hW (fun i25 s24 hW => ?_)
    refine fr_aload_n (pc := 99) 0 rfl rfl dX9_fewestOfAll_99 ?_
    refine fr_iload_n (pc := 100) 2 rfl rfl dX9_fewestOfAll_100 ?_
    refine fr_iload_n (pc := 101) 1 rfl rfl dX9_fewestOfAll_101 ?_
    refine fr_callSN_I (pc := 102) (As := [.int v3, .int v2]) (st := [.ref a1, .int i25, .int v3, .ref a1]) wd_X11_without ⟨RX11, by decide +kernel⟩ ok_X11_without (by decide) rfl (Nat.le_of_ble_eq_true rfl) dX9_fewestOfAll_102 ⟨Nat.le_refl 0, Nat.le_refl 0⟩ hW (fun i29 s28 hW => ?_)
    obtain ⟨hrc, hW⟩ := hW
    refine fr_callV_I (pc := 105) (As := [.int i29]) (st := [.int i25, .int v3, .ref a1]) wd_X1_at w_1241 ok_X1_at (by decide) rfl (Nat.le_of_ble_eq_true rfl) dX9_fewestOfAll_105 ⟨Nat.le_refl 0, Nat.le_refl 0⟩ kc_X1 hrc hW (fun i33 s32 hW => ?_)
    refine fr_mmin (pc := 108) ⟨w_1292, w_1117, w_1118, w_1119⟩ (by decide) (Nat.le_of_ble_eq_true rfl) dX9_fewestOfAll_108 ⟨Nat.le_refl 0, Nat.le_refl 0⟩ ?_
    obtain ⟨hrc, hW⟩ := hW
    refine fr_callV_V (pc := 111) (As := [.int v3, .int (if i33 < i25 then i33 else i25)]) (st := []) wd_X1_put w_1225 ok_X1_put (by decide) rfl (Nat.le_of_ble_eq_true rfl) dX9_fewestOfAll_111 ⟨Nat.le_refl 0, Nat.le_refl 0⟩ kc_X1 hrc hW (fun s36 hW => ?_)
    refine fr_iinc (pc := 114) (lv' := [(3, .int (v3 + 1)), (1, .ref a1), (2, .int v2)]) (v3 + 1) 2 rfl (congrArg (fun z => v3 + z) (by decide)) (by decide) rfl dX9_fewestOfAll_114 ?_
    refine fr_goto (pc := 117) (tgt := 85) (by decide) dX9_fewestOfAll_117 ?_
    exact fr_sub [1, 2, 0] rfl hW
def J_X10_workOutAll_2 (g : GG) (post : Option Value → Hs → Prop) (σ : Hs) (a0 : Nat) (v1 : Int32) : Prop := Fr g M_X10_workOutAll (0, 0, 0, 0) [(0, .ref a0), (1, .int v1)] [] 2 σ post
def J_X10_workOutAll_38 (g : GG) (post : Option Value → Hs → Prop) (σ : Hs) (a0 : Nat) (v1 : Int32) : Prop := Fr g M_X10_workOutAll (0, 0, 0, 0) [(0, .ref a0), (1, .int v1)] [] 38 σ post
def J_X10_workOutAll_80 (g : GG) (post : Option Value → Hs → Prop) (σ : Hs) (a0 : Nat) (v1 : Int32) (a2 : Nat) (v3 : Int32) : Prop := Fr g M_X10_workOutAll (0, 0, 0, 0) [(0, .ref a0), (1, .int v1), (2, .ref a2), (3, .int v3)] [] 80 σ post
set_option maxHeartbeats 4000000 in
set_option maxRecDepth 100000 in
theorem q_X10_workOutAll {g : GG} {σ : Hs} {post : Option Value → Hs → Prop} (r0 : Nat) (hW : J_X10_workOutAll_2 g post σ r0 0 ) : Do g M_X10_workOutAll 0 0 [.ref r0] σ post := by
  refine Do.of (by decide +kernel) (Nat.le_of_ble_eq_true rfl) ?_
  show Fr g M_X10_workOutAll (0, 0, 0, 0) [(0, .ref r0)] [] 0 σ post
  refine fr_iconst (pc := 0) 0 (by decide) dX10_workOutAll_0 ?_
  refine fr_istore_n (pc := 1) (lv' := [(1, .int 0), (0, .ref r0)]) rfl (by decide) rfl dX10_workOutAll_1 ?_
  exact fr_sub [1, 0] rfl hW
set_option maxHeartbeats 4000000 in
set_option maxRecDepth 100000 in
theorem q_X10_workOutAll_2 {g : GG} {σ : Hs} {post : Option Value → Hs → Prop} (a0 : Nat) (v1 : Int32) (hW : (256 ≤ v1 → J_X10_workOutAll_38 g post σ a0 0 ) ∧ (¬ 256 ≤ v1 → FR σ a0 10 3 (fun r1 => FI σ a0 10 8 (fun i2 => FR σ a0 10 0 (fun r3 => Rc σ r3 3 ∧ Do g M_X3_burdenOf 0 0 [.ref r3, .int v1] σ (kI (fun i5 s4 => Rc s4 r1 1 ∧ Do g M_X1_put 0 0 [.ref r1, .int v1, .int (i2 * i5)] s4 (kV (fun s8 => J_X10_workOutAll_2 g post s8 a0 ((v1 + 1)) ))))))))) : J_X10_workOutAll_2 g post σ a0 v1 := by
  show Fr g M_X10_workOutAll (0, 0, 0, 0) [(0, .ref a0), (1, .int v1)] [] 2 σ post
  refine fr_iload_n (pc := 2) 1 rfl rfl dX10_workOutAll_2 ?_
  refine fr_sipush (pc := 3) 256 (by decide) dX10_workOutAll_3 ?_
  refine fr_icmp_ge (pc := 6) (tgt := 36) (by decide) dX10_workOutAll_6 hW (fun hW => ?_) (fun hW => ?_)
  · refine fr_iconst (pc := 36) 0 (by decide) dX10_workOutAll_36 ?_
    refine fr_istore_n (pc := 37) (lv' := [(1, .int 0), (0, .ref a0)]) rfl (by decide) rfl dX10_workOutAll_37 ?_
    exact fr_sub [1, 0] rfl hW
  · refine fr_aload_n (pc := 9) 0 rfl rfl dX10_workOutAll_9 ?_
    refine fr_getR (pc := 10) (T := TX10) (k := 3) kc_X10 (by decide) w_957 dX10_workOutAll_10 hW (fun r1 hW => ?_)
    refine fr_iload_n (pc := 13) 1 rfl rfl dX10_workOutAll_13 ?_
    refine fr_aload_n (pc := 14) 0 rfl rfl dX10_workOutAll_14 ?_
    refine fr_getI (pc := 15) (T := TX10) (k := 8) kc_X10 (by decide) w_1279 dX10_workOutAll_15 hW (fun i2 hW => ?_)
    refine fr_aload_n (pc := 18) 0 rfl rfl dX10_workOutAll_18 ?_
    refine fr_getR (pc := 19) (T := TX10) (k := 0) kc_X10 (by decide) w_960 dX10_workOutAll_19 hW (fun r3 hW => ?_)
    refine fr_iload_n (pc := 22) 1 rfl rfl dX10_workOutAll_22 ?_
    obtain ⟨hrc, hW⟩ := hW
    refine fr_callV_I (pc := 23) (As := [.int v1]) (st := [.int i2, .int v1, .ref r1]) wd_X3_burdenOf w_1280 ok_X3_burdenOf (by decide) rfl (Nat.le_of_ble_eq_true rfl) dX10_workOutAll_23 ⟨Nat.le_refl 0, Nat.le_refl 0⟩ kc_X3 hrc hW (fun i5 s4 hW => ?_)
    refine fr_imul (pc := 26) dX10_workOutAll_26 ?_
    obtain ⟨hrc, hW⟩ := hW
    refine fr_callV_V (pc := 27) (As := [.int v1, .int (i2 * i5)]) (st := []) wd_X1_put w_1293 ok_X1_put (by decide) rfl (Nat.le_of_ble_eq_true rfl) dX10_workOutAll_27 ⟨Nat.le_refl 0, Nat.le_refl 0⟩ kc_X1 hrc hW (fun s8 hW => ?_)
    refine fr_iinc (pc := 30) (lv' := [(1, .int (v1 + 1)), (0, .ref a0)]) (v1 + 1) 1 rfl (congrArg (fun z => v1 + z) (by decide)) (by decide) rfl dX10_workOutAll_30 ?_
    refine fr_goto (pc := 33) (tgt := 2) (by decide) dX10_workOutAll_33 ?_
    exact fr_sub [1, 0] rfl hW
set_option maxHeartbeats 4000000 in
set_option maxRecDepth 100000 in
theorem q_X10_workOutAll_38 {g : GG} {σ : Hs} {post : Option Value → Hs → Prop} (a0 : Nat) (v1 : Int32) (hW : FI σ a0 10 6 (fun i9 => (i9 ≤ v1 → post none σ) ∧ (¬ i9 ≤ v1 → Rc σ a0 10 ∧ Do g M_X10_question 0 0 [.ref a0, .int v1] σ (kA (fun s10 => J_X10_workOutAll_38 g post s10 a0 ((v1 + 1)) ) (fun r13 s10 => FR s10 a0 10 1 (fun r14 => Rc s10 r14 9 ∧ Do g M_X9_list 0 0 [.ref r14, .ref r13] s10 (kV (fun s15 => FR s15 a0 10 1 (fun r16 => FR s15 a0 10 4 (fun r17 => Rc s15 r16 9 ∧ Do g M_X9_fewestOfAll 0 0 [.ref r16, .ref r17] s15 (kV (fun s18 => J_X10_workOutAll_80 g post s18 a0 v1 r13 0 )))))))))))) : J_X10_workOutAll_38 g post σ a0 v1 := by
  show Fr g M_X10_workOutAll (0, 0, 0, 0) [(0, .ref a0), (1, .int v1)] [] 38 σ post
  refine fr_iload_n (pc := 38) 1 rfl rfl dX10_workOutAll_38 ?_
  refine fr_aload_n (pc := 39) 0 rfl rfl dX10_workOutAll_39 ?_
  refine fr_getI (pc := 40) (T := TX10) (k := 6) kc_X10 (by decide) w_1193 dX10_workOutAll_40 hW (fun i9 hW => ?_)
  refine fr_icmp_ge (pc := 43) (tgt := 120) (by decide) dX10_workOutAll_43 hW (fun hW => ?_) (fun hW => ?_)
  · exact fr_ret (pc := 120) dX10_workOutAll_120 rfl ⟨Nat.le_refl 0, Nat.le_refl 0⟩ hW
  · refine fr_aload_n (pc := 46) 0 rfl rfl dX10_workOutAll_46 ?_
    refine fr_iload_n (pc := 47) 1 rfl rfl dX10_workOutAll_47 ?_
    obtain ⟨hrc, hW⟩ := hW
    refine fr_callV_A (pc := 48) (As := [.int v1]) (st := []) wd_X10_question w_1281 ok_X10_question (by decide) rfl (Nat.le_of_ble_eq_true rfl) dX10_workOutAll_48 ⟨Nat.le_refl 0, Nat.le_refl 0⟩ kc_X10 hrc hW (fun s10 hW => ?_) (fun r13 s10 hW => ?_)
    · refine fr_astore_nN (pc := 51) (lv' := [(2, .null), (0, .ref a0), (1, .int v1)]) rfl (by decide) rfl dX10_workOutAll_51 ?_
      refine fr_aload_nN (pc := 52) 0 rfl rfl dX10_workOutAll_52 ?_
      refine fr_ifnonnullN (pc := 53) dX10_workOutAll_53 ?_
      refine fr_goto (pc := 56) (tgt := 114) (by decide) dX10_workOutAll_56 ?_
      refine fr_iinc (pc := 114) (lv' := [(1, .int (v1 + 1)), (2, .null), (0, .ref a0)]) (v1 + 1) 2 rfl (congrArg (fun z => v1 + z) (by decide)) (by decide) rfl dX10_workOutAll_114 ?_
      refine fr_goto (pc := 117) (tgt := 38) (by decide) dX10_workOutAll_117 ?_
      exact fr_sub [2, 0] rfl hW
    · refine fr_astore_n (pc := 51) (lv' := [(2, .ref r13), (0, .ref a0), (1, .int v1)]) rfl (by decide) rfl dX10_workOutAll_51 ?_
      refine fr_aload_n (pc := 52) 0 rfl rfl dX10_workOutAll_52 ?_
      refine fr_ifnonnull (pc := 53) (tgt := 59) (by decide) dX10_workOutAll_53 ?_
      refine fr_aload_n (pc := 59) 1 rfl rfl dX10_workOutAll_59 ?_
      refine fr_getR (pc := 60) (T := TX10) (k := 1) kc_X10 (by decide) w_961 dX10_workOutAll_60 hW (fun r14 hW => ?_)
      refine fr_aload_n (pc := 63) 0 rfl rfl dX10_workOutAll_63 ?_
      obtain ⟨hrc, hW⟩ := hW
      refine fr_callV_V (pc := 64) (As := [.ref r13]) (st := []) wd_X9_list w_1282 ok_X9_list (by decide) rfl (Nat.le_of_ble_eq_true rfl) dX10_workOutAll_64 ⟨Nat.le_refl 0, Nat.le_refl 0⟩ kc_X9 hrc hW (fun s15 hW => ?_)
      refine fr_aload_n (pc := 67) 1 rfl rfl dX10_workOutAll_67 ?_
      refine fr_getR (pc := 68) (T := TX10) (k := 1) kc_X10 (by decide) w_961 dX10_workOutAll_68 hW (fun r16 hW => ?_)
      refine fr_aload_n (pc := 71) 1 rfl rfl dX10_workOutAll_71 ?_
      refine fr_getR (pc := 72) (T := TX10) (k := 4) kc_X10 (by decide) w_958 dX10_workOutAll_72 hW (fun r17 hW => ?_)
      obtain ⟨hrc, hW⟩ := hW
      refine fr_callV_V (pc := 75) (As := [.ref r17]) (st := []) wd_X9_fewestOfAll w_1294 ok_X9_fewestOfAll (by decide) rfl (Nat.le_of_ble_eq_true rfl) dX10_workOutAll_75 ⟨Nat.le_refl 0, Nat.le_refl 0⟩ kc_X9 hrc hW (fun s18 hW => ?_)
      refine fr_iconst (pc := 78) 0 (by decide) dX10_workOutAll_78 ?_
      refine fr_istore_n (pc := 79) (lv' := [(3, .int 0), (2, .ref r13), (0, .ref a0), (1, .int v1)]) rfl (by decide) rfl dX10_workOutAll_79 ?_
      exact fr_sub [2, 3, 1, 0] rfl hW
set_option maxHeartbeats 4000000 in
set_option maxRecDepth 100000 in
theorem q_X10_workOutAll_80 {g : GG} {σ : Hs} {post : Option Value → Hs → Prop} (a0 : Nat) (v1 : Int32) (a2 : Nat) (v3 : Int32) (hW : (256 ≤ v3 → J_X10_workOutAll_38 g post σ a0 ((v1 + 1)) ) ∧ (¬ 256 ≤ v3 → FR σ a0 10 3 (fun r19 => Rc σ a2 6 ∧ Do g M_X6_heft 0 0 [.ref a2] σ (kI (fun i21 s20 => FR s20 a0 10 4 (fun r24 => Rc s20 r24 1 ∧ Do g M_X1_at 0 0 [.ref r24, .int v3] s20 (kI (fun i26 s25 => Rc s25 r19 1 ∧ Do g M_X1_raise 0 0 [.ref r19, .int v3, .int (i21 * i26)] s25 (kV (fun s29 => J_X10_workOutAll_80 g post s29 a0 v1 a2 ((v3 + 1)) )))))))))) : J_X10_workOutAll_80 g post σ a0 v1 a2 v3 := by
  show Fr g M_X10_workOutAll (0, 0, 0, 0) [(0, .ref a0), (1, .int v1), (2, .ref a2), (3, .int v3)] [] 80 σ post
  refine fr_iload_n (pc := 80) 3 rfl rfl dX10_workOutAll_80 ?_
  refine fr_sipush (pc := 81) 256 (by decide) dX10_workOutAll_81 ?_
  refine fr_icmp_ge (pc := 84) (tgt := 114) (by decide) dX10_workOutAll_84 hW (fun hW => ?_) (fun hW => ?_)
  · refine fr_iinc (pc := 114) (lv' := [(1, .int (v1 + 1)), (0, .ref a0), (2, .ref a2), (3, .int v3)]) (v1 + 1) 1 rfl (congrArg (fun z => v1 + z) (by decide)) (by decide) rfl dX10_workOutAll_114 ?_
    refine fr_goto (pc := 117) (tgt := 38) (by decide) dX10_workOutAll_117 ?_
    exact fr_sub [1, 0] rfl hW
  · refine fr_aload_n (pc := 87) 0 rfl rfl dX10_workOutAll_87 ?_
    refine fr_getR (pc := 88) (T := TX10) (k := 3) kc_X10 (by decide) w_957 dX10_workOutAll_88 hW (fun r19 hW => ?_)
    refine fr_iload_n (pc := 91) 3 rfl rfl dX10_workOutAll_91 ?_
    refine fr_aload_n (pc := 92) 2 rfl rfl dX10_workOutAll_92 ?_
    obtain ⟨hrc, hW⟩ := hW
    refine fr_callV_I (pc := 93) (As := []) (st := [.int v3, .ref r19]) wd_X6_heft w_1283 ok_X6_heft (by decide) rfl (Nat.le_of_ble_eq_true rfl) dX10_workOutAll_93 ⟨Nat.le_refl 0, Nat.le_refl 0⟩ kc_X6 hrc hW (fun i21 s20 hW => ?_)
    refine fr_aload_n (pc := 96) 0 rfl rfl dX10_workOutAll_96 ?_
    refine fr_getR (pc := 97) (T := TX10) (k := 4) kc_X10 (by decide) w_958 dX10_workOutAll_97 hW (fun r24 hW => ?_)
    refine fr_iload_n (pc := 100) 3 rfl rfl dX10_workOutAll_100 ?_
    obtain ⟨hrc, hW⟩ := hW
    refine fr_callV_I (pc := 101) (As := [.int v3]) (st := [.int i21, .int v3, .ref r19]) wd_X1_at w_1295 ok_X1_at (by decide) rfl (Nat.le_of_ble_eq_true rfl) dX10_workOutAll_101 ⟨Nat.le_refl 0, Nat.le_refl 0⟩ kc_X1 hrc hW (fun i26 s25 hW => ?_)
    refine fr_imul (pc := 104) dX10_workOutAll_104 ?_
    obtain ⟨hrc, hW⟩ := hW
    refine fr_callV_V (pc := 105) (As := [.int v3, .int (i21 * i26)]) (st := []) wd_X1_raise w_1296 ok_X1_raise (by decide) rfl (Nat.le_of_ble_eq_true rfl) dX10_workOutAll_105 ⟨Nat.le_refl 0, Nat.le_refl 0⟩ kc_X1 hrc hW (fun s29 hW => ?_)
    refine fr_iinc (pc := 108) (lv' := [(3, .int (v3 + 1)), (0, .ref a0), (1, .int v1), (2, .ref a2)]) (v3 + 1) 3 rfl (congrArg (fun z => v3 + z) (by decide)) (by decide) rfl dX10_workOutAll_108 ?_
    refine fr_goto (pc := 111) (tgt := 80) (by decide) dX10_workOutAll_111 ?_
    exact fr_sub [1, 2, 3, 0] rfl hW
def J_X3_keptSet_4 (g : GG) (post : Option Value → Hs → Prop) (σ : Hs) (a0 : Nat) (v1 : Int32) (v2 : Int32) : Prop := Fr g M_X3_keptSet (0, 0, 0, 0) [(0, .ref a0), (1, .int v1), (2, .int v2)] [] 4 σ post
set_option maxHeartbeats 4000000 in
set_option maxRecDepth 100000 in
theorem q_X3_keptSet {g : GG} {σ : Hs} {post : Option Value → Hs → Prop} (r0 : Nat) (hW : J_X3_keptSet_4 g post σ r0 0 0 ) : Do g M_X3_keptSet 0 0 [.ref r0] σ post := by
  refine Do.of (by decide +kernel) (Nat.le_of_ble_eq_true rfl) ?_
  show Fr g M_X3_keptSet (0, 0, 0, 0) [(0, .ref r0)] [] 0 σ post
  refine fr_iconst (pc := 0) 0 (by decide) dX3_keptSet_0 ?_
  refine fr_istore_n (pc := 1) (lv' := [(1, .int 0), (0, .ref r0)]) rfl (by decide) rfl dX3_keptSet_1 ?_
  refine fr_iconst (pc := 2) 0 (by decide) dX3_keptSet_2 ?_
  refine fr_istore_n (pc := 3) (lv' := [(2, .int 0), (1, .int 0), (0, .ref r0)]) rfl (by decide) rfl dX3_keptSet_3 ?_
  exact fr_sub [2, 1, 0] rfl hW
set_option maxHeartbeats 4000000 in
set_option maxRecDepth 100000 in
theorem q_X3_keptSet_4 {g : GG} {σ : Hs} {post : Option Value → Hs → Prop} (a0 : Nat) (v1 : Int32) (v2 : Int32) (hW : FI σ a0 3 2 (fun i1 => (i1 ≤ v2 → post (some (.int v1)) σ) ∧ (¬ i1 ≤ v2 → Rc σ a0 3 ∧ Do g M_X3_kept 0 0 [.ref a0, .int v2] σ (kA (fun s2 => J_X3_keptSet_4 g post s2 a0 v1 ((v2 + 1)) ) (fun r5 s2 => Do g M_X11_with 0 0 [.int v1, .int v2] s2 (kI (fun i7 s6 => J_X3_keptSet_4 g post s6 a0 i7 ((v2 + 1)) ))))))) : J_X3_keptSet_4 g post σ a0 v1 v2 := by
  show Fr g M_X3_keptSet (0, 0, 0, 0) [(0, .ref a0), (1, .int v1), (2, .int v2)] [] 4 σ post
  refine fr_iload_n (pc := 4) 2 rfl rfl dX3_keptSet_4 ?_
  refine fr_aload_n (pc := 5) 0 rfl rfl dX3_keptSet_5 ?_
  refine fr_getI (pc := 6) (T := TX3) (k := 2) kc_X3 (by decide) w_1058 dX3_keptSet_6 hW (fun i1 hW => ?_)
  refine fr_icmp_ge (pc := 9) (tgt := 32) (by decide) dX3_keptSet_9 hW (fun hW => ?_) (fun hW => ?_)
  · refine fr_iload_n (pc := 32) 1 rfl rfl dX3_keptSet_32 ?_
    exact fr_iret (pc := 33) dX3_keptSet_33 rfl ⟨Nat.le_refl 0, Nat.le_refl 0⟩ hW
  · refine fr_aload_n (pc := 12) 0 rfl rfl dX3_keptSet_12 ?_
    refine fr_iload_n (pc := 13) 2 rfl rfl dX3_keptSet_13 ?_
    obtain ⟨hrc, hW⟩ := hW
    refine fr_callV_A (pc := 14) (As := [.int v2]) (st := []) wd_X3_kept w_1059 ok_X3_kept (by decide) rfl (Nat.le_of_ble_eq_true rfl) dX3_keptSet_14 ⟨Nat.le_refl 0, Nat.le_refl 0⟩ kc_X3 hrc hW (fun s2 hW => ?_) (fun r5 s2 hW => ?_)
    · refine fr_ifnullN (pc := 17) (tgt := 26) (by decide) dX3_keptSet_17 ?_
      refine fr_iinc (pc := 26) (lv' := [(2, .int (v2 + 1)), (0, .ref a0), (1, .int v1)]) (v2 + 1) 2 rfl (congrArg (fun z => v2 + z) (by decide)) (by decide) rfl dX3_keptSet_26 ?_
      refine fr_goto (pc := 29) (tgt := 4) (by decide) dX3_keptSet_29 ?_
      exact fr_sub [1, 2, 0] rfl hW
    · refine fr_ifnull (pc := 17) dX3_keptSet_17 ?_
      refine fr_iload_n (pc := 20) 1 rfl rfl dX3_keptSet_20 ?_
      refine fr_iload_n (pc := 21) 2 rfl rfl dX3_keptSet_21 ?_
      refine fr_callSN_I (pc := 22) (As := [.int v1, .int v2]) (st := []) wd_X11_with ⟨RX11, by decide +kernel⟩ ok_X11_with (by decide) rfl (Nat.le_of_ble_eq_true rfl) dX3_keptSet_22 ⟨Nat.le_refl 0, Nat.le_refl 0⟩ hW (fun i7 s6 hW => ?_)
      refine fr_istore_n (pc := 25) (lv' := [(1, .int i7), (0, .ref a0), (2, .int v2)]) rfl (by decide) rfl dX3_keptSet_25 ?_
      refine fr_iinc (pc := 26) (lv' := [(2, .int (v2 + 1)), (1, .int i7), (0, .ref a0)]) (v2 + 1) 2 rfl (congrArg (fun z => v2 + z) (by decide)) (by decide) rfl dX3_keptSet_26 ?_
      refine fr_goto (pc := 29) (tgt := 4) (by decide) dX3_keptSet_29 ?_
      exact fr_sub [2, 1, 0] rfl hW
def J_X3_sizesOf_4 (g : GG) (post : Option Value → Hs → Prop) (σ : Hs) (a0 : Nat) (v1 : Int32) (v2 : Int32) (v3 : Int32) : Prop := Fr g M_X3_sizesOf (0, 0, 0, 0) [(0, .ref a0), (1, .int v1), (2, .int v2), (3, .int v3)] [] 4 σ post
set_option maxHeartbeats 4000000 in
set_option maxRecDepth 100000 in
theorem q_X3_sizesOf {g : GG} {σ : Hs} {post : Option Value → Hs → Prop} (r0 : Nat) (p0 : Int32) (hW : J_X3_sizesOf_4 g post σ r0 p0 0 0 ) : Do g M_X3_sizesOf 0 0 [.ref r0, .int p0] σ post := by
  refine Do.of (by decide +kernel) (Nat.le_of_ble_eq_true rfl) ?_
  show Fr g M_X3_sizesOf (0, 0, 0, 0) [(0, .ref r0), (1, .int p0)] [] 0 σ post
  refine fr_iconst (pc := 0) 0 (by decide) dX3_sizesOf_0 ?_
  refine fr_istore_n (pc := 1) (lv' := [(2, .int 0), (0, .ref r0), (1, .int p0)]) rfl (by decide) rfl dX3_sizesOf_1 ?_
  refine fr_iconst (pc := 2) 0 (by decide) dX3_sizesOf_2 ?_
  refine fr_istore_n (pc := 3) (lv' := [(3, .int 0), (2, .int 0), (0, .ref r0), (1, .int p0)]) rfl (by decide) rfl dX3_sizesOf_3 ?_
  exact fr_sub [2, 3, 1, 0] rfl hW
set_option maxHeartbeats 4000000 in
set_option maxRecDepth 100000 in
theorem q_X3_sizesOf_4 {g : GG} {σ : Hs} {post : Option Value → Hs → Prop} (a0 : Nat) (v1 : Int32) (v2 : Int32) (v3 : Int32) (hW : FI σ a0 3 2 (fun i1 => (i1 ≤ v3 → post (some (.int v2)) σ) ∧ (¬ i1 ≤ v3 → Do g M_X11_has 0 0 [.int v1, .int v3] σ (kI (fun i3 s2 => (i3 = 0 → J_X3_sizesOf_4 g post s2 a0 v1 v2 ((v3 + 1)) ) ∧ (¬ i3 = 0 → Rc s2 a0 3 ∧ Do g M_X3_kept 0 0 [.ref a0, .int v3] s2 (kA (fun s6 => J_X3_sizesOf_4 g post s6 a0 v1 v2 ((v3 + 1)) ) (fun r9 s6 => Rc s6 r9 2 ∧ Do g M_X2_size 0 0 [.ref r9] s6 (kI (fun i11 s10 => J_X3_sizesOf_4 g post s10 a0 v1 ((v2 + i11)) ((v3 + 1)) )))))))))) : J_X3_sizesOf_4 g post σ a0 v1 v2 v3 := by
  show Fr g M_X3_sizesOf (0, 0, 0, 0) [(0, .ref a0), (1, .int v1), (2, .int v2), (3, .int v3)] [] 4 σ post
  refine fr_iload_n (pc := 4) 3 rfl rfl dX3_sizesOf_4 ?_
  refine fr_aload_n (pc := 5) 0 rfl rfl dX3_sizesOf_5 ?_
  refine fr_getI (pc := 6) (T := TX3) (k := 2) kc_X3 (by decide) w_1058 dX3_sizesOf_6 hW (fun i1 hW => ?_)
  refine fr_icmp_ge (pc := 9) (tgt := 50) (by decide) dX3_sizesOf_9 hW (fun hW => ?_) (fun hW => ?_)
  · refine fr_iload_n (pc := 50) 2 rfl rfl dX3_sizesOf_50 ?_
    exact fr_iret (pc := 51) dX3_sizesOf_51 rfl ⟨Nat.le_refl 0, Nat.le_refl 0⟩ hW
  · refine fr_iload_n (pc := 12) 1 rfl rfl dX3_sizesOf_12 ?_
    refine fr_iload_n (pc := 13) 3 rfl rfl dX3_sizesOf_13 ?_
    refine fr_callSN_I (pc := 14) (As := [.int v1, .int v3]) (st := []) wd_X11_has ⟨RX11, by decide +kernel⟩ ok_X11_has (by decide) rfl (Nat.le_of_ble_eq_true rfl) dX3_sizesOf_14 ⟨Nat.le_refl 0, Nat.le_refl 0⟩ hW (fun i3 s2 hW => ?_)
    refine fr_if_eq (pc := 17) (tgt := 28) (by decide) dX3_sizesOf_17 hW (fun hW => ?_) (fun hW => ?_)
    · refine fr_null (pc := 28) dX3_sizesOf_28 ?_
      refine fr_astoreN (pc := 29) (lv' := [(4, .null), (0, .ref a0), (1, .int v1), (2, .int v2), (3, .int v3)]) (by decide) rfl dX3_sizesOf_29 ?_
      refine fr_aloadN (pc := 31) 0 rfl dX3_sizesOf_31 ?_
      refine fr_ifnullN (pc := 33) (tgt := 44) (by decide) dX3_sizesOf_33 ?_
      refine fr_iinc (pc := 44) (lv' := [(3, .int (v3 + 1)), (4, .null), (0, .ref a0), (1, .int v1), (2, .int v2)]) (v3 + 1) 4 rfl (congrArg (fun z => v3 + z) (by decide)) (by decide) rfl dX3_sizesOf_44 ?_
      refine fr_goto (pc := 47) (tgt := 4) (by decide) dX3_sizesOf_47 ?_
      exact fr_sub [2, 3, 4, 0] rfl hW
    · refine fr_aload_n (pc := 20) 0 rfl rfl dX3_sizesOf_20 ?_
      refine fr_iload_n (pc := 21) 3 rfl rfl dX3_sizesOf_21 ?_
      obtain ⟨hrc, hW⟩ := hW
      refine fr_callV_A (pc := 22) (As := [.int v3]) (st := []) wd_X3_kept w_1059 ok_X3_kept (by decide) rfl (Nat.le_of_ble_eq_true rfl) dX3_sizesOf_22 ⟨Nat.le_refl 0, Nat.le_refl 0⟩ kc_X3 hrc hW (fun s6 hW => ?_) (fun r9 s6 hW => ?_)
      · refine fr_goto (pc := 25) (tgt := 29) (by decide) dX3_sizesOf_25 ?_
        refine fr_astoreN (pc := 29) (lv' := [(4, .null), (0, .ref a0), (1, .int v1), (2, .int v2), (3, .int v3)]) (by decide) rfl dX3_sizesOf_29 ?_
        refine fr_aloadN (pc := 31) 0 rfl dX3_sizesOf_31 ?_
        refine fr_ifnullN (pc := 33) (tgt := 44) (by decide) dX3_sizesOf_33 ?_
        refine fr_iinc (pc := 44) (lv' := [(3, .int (v3 + 1)), (4, .null), (0, .ref a0), (1, .int v1), (2, .int v2)]) (v3 + 1) 4 rfl (congrArg (fun z => v3 + z) (by decide)) (by decide) rfl dX3_sizesOf_44 ?_
        refine fr_goto (pc := 47) (tgt := 4) (by decide) dX3_sizesOf_47 ?_
        exact fr_sub [2, 3, 4, 0] rfl hW
      · refine fr_goto (pc := 25) (tgt := 29) (by decide) dX3_sizesOf_25 ?_
        refine fr_astore (pc := 29) (lv' := [(4, .ref r9), (0, .ref a0), (1, .int v1), (2, .int v2), (3, .int v3)]) (by decide) rfl dX3_sizesOf_29 ?_
        refine fr_aload (pc := 31) 0 rfl dX3_sizesOf_31 ?_
        refine fr_ifnull (pc := 33) dX3_sizesOf_33 ?_
        refine fr_iload_n (pc := 36) 3 rfl rfl dX3_sizesOf_36 ?_
        refine fr_aload (pc := 37) 0 rfl dX3_sizesOf_37 ?_
        obtain ⟨hrc, hW⟩ := hW
        refine fr_callV_I (pc := 39) (As := []) (st := [.int v2]) wd_X2_size w_1297 ok_X2_size (by decide) rfl (Nat.le_of_ble_eq_true rfl) dX3_sizesOf_39 ⟨Nat.le_refl 0, Nat.le_refl 0⟩ kc_X2 hrc hW (fun i11 s10 hW => ?_)
        refine fr_iadd (pc := 42) dX3_sizesOf_42 ?_
        refine fr_istore_n (pc := 43) (lv' := [(2, .int (v2 + i11)), (4, .ref r9), (0, .ref a0), (1, .int v1), (3, .int v3)]) rfl (by decide) rfl dX3_sizesOf_43 ?_
        refine fr_iinc (pc := 44) (lv' := [(3, .int (v3 + 1)), (2, .int (v2 + i11)), (4, .ref r9), (0, .ref a0), (1, .int v1)]) (v3 + 1) 4 rfl (congrArg (fun z => v3 + z) (by decide)) (by decide) rfl dX3_sizesOf_44 ?_
        refine fr_goto (pc := 47) (tgt := 4) (by decide) dX3_sizesOf_47 ?_
        exact fr_sub [3, 4, 1, 0] rfl hW
set_option maxHeartbeats 4000000 in
set_option maxRecDepth 100000 in
theorem q_X10_isBetter {g : GG} {σ : Hs} {post : Option Value → Hs → Prop} (r0 : Nat) (p0 : Int32) (p1 : Int32) (hW : FR σ r0 10 3 (fun r1 => Rc σ r1 1 ∧ Do g M_X1_at 0 0 [.ref r1, .int p0] σ (kI (fun i3 s2 => FR s2 r0 10 3 (fun r6 => Rc s2 r6 1 ∧ Do g M_X1_at 0 0 [.ref r6, .int p1] s2 (kI (fun i8 s7 => (i3 = i8 → FR s7 r0 10 0 (fun r11 => Rc s7 r11 3 ∧ Do g M_X3_sizesOf 0 0 [.ref r11, .int p0] s7 (kI (fun i13 s12 => FR s12 r0 10 0 (fun r16 => Rc s12 r16 3 ∧ Do g M_X3_sizesOf 0 0 [.ref r16, .int p1] s12 (kI (fun i18 s17 => (i18 ≤ i13 → post (some (.int 0)) s17) ∧ (¬ i18 ≤ i13 → post (some (.int 1)) s17)))))))) ∧ (¬ i3 = i8 → FR s7 r0 10 3 (fun r21 => Rc s7 r21 1 ∧ Do g M_X1_at 0 0 [.ref r21, .int p0] s7 (kI (fun i23 s22 => FR s22 r0 10 3 (fun r26 => Rc s22 r26 1 ∧ Do g M_X1_at 0 0 [.ref r26, .int p1] s22 (kI (fun i28 s27 => (i28 ≤ i23 → post (some (.int 0)) s27) ∧ (¬ i28 ≤ i23 → post (some (.int 1)) s27))))))))))))))) : Do g M_X10_isBetter 0 0 [.ref r0, .int p0, .int p1] σ post := by
  refine Do.of (by decide +kernel) (Nat.le_of_ble_eq_true rfl) ?_
  show Fr g M_X10_isBetter (0, 0, 0, 0) [(0, .ref r0), (1, .int p0), (2, .int p1)] [] 0 σ post
  refine fr_aload_n (pc := 0) 0 rfl rfl dX10_isBetter_0 ?_
  refine fr_getR (pc := 1) (T := TX10) (k := 3) kc_X10 (by decide) w_957 dX10_isBetter_1 hW (fun r1 hW => ?_)
  refine fr_iload_n (pc := 4) 1 rfl rfl dX10_isBetter_4 ?_
  obtain ⟨hrc, hW⟩ := hW
  refine fr_callV_I (pc := 5) (As := [.int p0]) (st := []) wd_X1_at w_1295 ok_X1_at (by decide) rfl (Nat.le_of_ble_eq_true rfl) dX10_isBetter_5 ⟨Nat.le_refl 0, Nat.le_refl 0⟩ kc_X1 hrc hW (fun i3 s2 hW => ?_)
  refine fr_aload_n (pc := 8) 0 rfl rfl dX10_isBetter_8 ?_
  refine fr_getR (pc := 9) (T := TX10) (k := 3) kc_X10 (by decide) w_957 dX10_isBetter_9 hW (fun r6 hW => ?_)
  refine fr_iload_n (pc := 12) 2 rfl rfl dX10_isBetter_12 ?_
  obtain ⟨hrc, hW⟩ := hW
  refine fr_callV_I (pc := 13) (As := [.int p1]) (st := [.int i3]) wd_X1_at w_1295 ok_X1_at (by decide) rfl (Nat.le_of_ble_eq_true rfl) dX10_isBetter_13 ⟨Nat.le_refl 0, Nat.le_refl 0⟩ kc_X1 hrc hW (fun i8 s7 hW => ?_)
  refine fr_icmp_eq (pc := 16) (tgt := 44) (by decide) dX10_isBetter_16 hW (fun hW => ?_) (fun hW => ?_)
  · refine fr_aload_n (pc := 44) 0 rfl rfl dX10_isBetter_44 ?_
    refine fr_getR (pc := 45) (T := TX10) (k := 0) kc_X10 (by decide) w_960 dX10_isBetter_45 hW (fun r11 hW => ?_)
    refine fr_iload_n (pc := 48) 1 rfl rfl dX10_isBetter_48 ?_
    obtain ⟨hrc, hW⟩ := hW
    refine fr_callV_I (pc := 49) (As := [.int p0]) (st := []) wd_X3_sizesOf w_1298 ok_X3_sizesOf (by decide) rfl (Nat.le_of_ble_eq_true rfl) dX10_isBetter_49 ⟨Nat.le_refl 0, Nat.le_refl 0⟩ kc_X3 hrc hW (fun i13 s12 hW => ?_)
    refine fr_aload_n (pc := 52) 0 rfl rfl dX10_isBetter_52 ?_
    refine fr_getR (pc := 53) (T := TX10) (k := 0) kc_X10 (by decide) w_960 dX10_isBetter_53 hW (fun r16 hW => ?_)
    refine fr_iload_n (pc := 56) 2 rfl rfl dX10_isBetter_56 ?_
    obtain ⟨hrc, hW⟩ := hW
    refine fr_callV_I (pc := 57) (As := [.int p1]) (st := [.int i13]) wd_X3_sizesOf w_1298 ok_X3_sizesOf (by decide) rfl (Nat.le_of_ble_eq_true rfl) dX10_isBetter_57 ⟨Nat.le_refl 0, Nat.le_refl 0⟩ kc_X3 hrc hW (fun i18 s17 hW => ?_)
    refine fr_icmp_ge (pc := 60) (tgt := 67) (by decide) dX10_isBetter_60 hW (fun hW => ?_) (fun hW => ?_)
    · refine fr_iconst (pc := 67) 0 (by decide) dX10_isBetter_67 ?_
      exact fr_zret (pc := 68) dX10_isBetter_68 rfl ⟨Nat.le_refl 0, Nat.le_refl 0⟩ ⟨rfl, hW⟩
    · refine fr_iconst (pc := 63) 1 (by decide) dX10_isBetter_63 ?_
      refine fr_goto (pc := 64) (tgt := 68) (by decide) dX10_isBetter_64 ?_
      exact fr_zret (pc := 68) dX10_isBetter_68 rfl ⟨Nat.le_refl 0, Nat.le_refl 0⟩ ⟨rfl, hW⟩
  · refine fr_aload_n (pc := 19) 0 rfl rfl dX10_isBetter_19 ?_
    refine fr_getR (pc := 20) (T := TX10) (k := 3) kc_X10 (by decide) w_957 dX10_isBetter_20 hW (fun r21 hW => ?_)
    refine fr_iload_n (pc := 23) 1 rfl rfl dX10_isBetter_23 ?_
    obtain ⟨hrc, hW⟩ := hW
    refine fr_callV_I (pc := 24) (As := [.int p0]) (st := []) wd_X1_at w_1295 ok_X1_at (by decide) rfl (Nat.le_of_ble_eq_true rfl) dX10_isBetter_24 ⟨Nat.le_refl 0, Nat.le_refl 0⟩ kc_X1 hrc hW (fun i23 s22 hW => ?_)
    refine fr_aload_n (pc := 27) 0 rfl rfl dX10_isBetter_27 ?_
    refine fr_getR (pc := 28) (T := TX10) (k := 3) kc_X10 (by decide) w_957 dX10_isBetter_28 hW (fun r26 hW => ?_)
    refine fr_iload_n (pc := 31) 2 rfl rfl dX10_isBetter_31 ?_
    obtain ⟨hrc, hW⟩ := hW
    refine fr_callV_I (pc := 32) (As := [.int p1]) (st := [.int i23]) wd_X1_at w_1295 ok_X1_at (by decide) rfl (Nat.le_of_ble_eq_true rfl) dX10_isBetter_32 ⟨Nat.le_refl 0, Nat.le_refl 0⟩ kc_X1 hrc hW (fun i28 s27 hW => ?_)
    refine fr_icmp_ge (pc := 35) (tgt := 42) (by decide) dX10_isBetter_35 hW (fun hW => ?_) (fun hW => ?_)
    · refine fr_iconst (pc := 42) 0 (by decide) dX10_isBetter_42 ?_
      exact fr_zret (pc := 43) dX10_isBetter_43 rfl ⟨Nat.le_refl 0, Nat.le_refl 0⟩ ⟨rfl, hW⟩
    · refine fr_iconst (pc := 38) 1 (by decide) dX10_isBetter_38 ?_
      refine fr_goto (pc := 39) (tgt := 43) (by decide) dX10_isBetter_39 ?_
      exact fr_zret (pc := 43) dX10_isBetter_43 rfl ⟨Nat.le_refl 0, Nat.le_refl 0⟩ ⟨rfl, hW⟩
def J_X10_bestSet_17 (g : GG) (post : Option Value → Hs → Prop) (σ : Hs) (a0 : Nat) (v1 : Int32) (v2 : Int32) (v3 : Int32) (v4 : Int32) : Prop := Fr g M_X10_bestSet (0, 0, 0, 0) [(0, .ref a0), (1, .int v1), (2, .int v2), (3, .int v3), (4, .int v4)] [] 17 σ post
set_option maxHeartbeats 4000000 in
set_option maxRecDepth 100000 in
theorem q_X10_bestSet {g : GG} {σ : Hs} {post : Option Value → Hs → Prop} (r0 : Nat) (p0 : Int32) (hW : Rc σ r0 10 ∧ Do g M_X10_workOutAll 0 0 [.ref r0] σ (kV (fun s1 => FR s1 r0 10 0 (fun r2 => Rc s1 r2 3 ∧ Do g M_X3_keptSet 0 0 [.ref r2] s1 (kI (fun i4 s3 => J_X10_bestSet_17 g post s3 r0 p0 i4 0 1 )))))) : Do g M_X10_bestSet 0 0 [.ref r0, .int p0] σ post := by
  refine Do.of (by decide +kernel) (Nat.le_of_ble_eq_true rfl) ?_
  show Fr g M_X10_bestSet (0, 0, 0, 0) [(0, .ref r0), (1, .int p0)] [] 0 σ post
  refine fr_aload_n (pc := 0) 0 rfl rfl dX10_bestSet_0 ?_
  obtain ⟨hrc, hW⟩ := hW
  refine fr_callV_V (pc := 1) (As := []) (st := []) wd_X10_workOutAll w_1299 ok_X10_workOutAll (by decide) rfl (Nat.le_of_ble_eq_true rfl) dX10_bestSet_1 ⟨Nat.le_refl 0, Nat.le_refl 0⟩ kc_X10 hrc hW (fun s1 hW => ?_)
  refine fr_aload_n (pc := 4) 0 rfl rfl dX10_bestSet_4 ?_
  refine fr_getR (pc := 5) (T := TX10) (k := 0) kc_X10 (by decide) w_960 dX10_bestSet_5 hW (fun r2 hW => ?_)
  obtain ⟨hrc, hW⟩ := hW
  refine fr_callV_I (pc := 8) (As := []) (st := []) wd_X3_keptSet w_1300 ok_X3_keptSet (by decide) rfl (Nat.le_of_ble_eq_true rfl) dX10_bestSet_8 ⟨Nat.le_refl 0, Nat.le_refl 0⟩ kc_X3 hrc hW (fun i4 s3 hW => ?_)
  refine fr_istore_n (pc := 11) (lv' := [(2, .int i4), (0, .ref r0), (1, .int p0)]) rfl (by decide) rfl dX10_bestSet_11 ?_
  refine fr_iconst (pc := 12) 0 (by decide) dX10_bestSet_12 ?_
  refine fr_istore_n (pc := 13) (lv' := [(3, .int 0), (2, .int i4), (0, .ref r0), (1, .int p0)]) rfl (by decide) rfl dX10_bestSet_13 ?_
  refine fr_iconst (pc := 14) 1 (by decide) dX10_bestSet_14 ?_
  refine fr_istore (pc := 15) (lv' := [(4, .int 1), (3, .int 0), (2, .int i4), (0, .ref r0), (1, .int p0)]) (by decide) rfl dX10_bestSet_15 ?_
  exact fr_sub [3, 4, 2, 1, 0] rfl hW
set_option maxHeartbeats 4000000 in
set_option maxRecDepth 100000 in
theorem q_X10_bestSet_17 {g : GG} {σ : Hs} {post : Option Value → Hs → Prop} (a0 : Nat) (v1 : Int32) (v2 : Int32) (v3 : Int32) (v4 : Int32) (hW : (256 ≤ v4 → post (some (.int v3)) σ) ∧ (¬ 256 ≤ v4 → (¬ (v4 &&& (v2 ^^^ (-1))) = 0 → J_X10_bestSet_17 g post σ a0 v1 v2 v3 ((v4 + 1)) ) ∧ ((v4 &&& (v2 ^^^ (-1))) = 0 → FR σ a0 10 0 (fun r7 => Rc σ r7 3 ∧ Do g M_X3_sizesOf 0 0 [.ref r7, .int v4] σ (kI (fun i9 s8 => (v1 < i9 → J_X10_bestSet_17 g post s8 a0 v1 v2 v3 ((v4 + 1)) ) ∧ (¬ v1 < i9 → Rc s8 a0 10 ∧ Do g M_X10_isBetter 0 0 [.ref a0, .int v4, .int v3] s8 (kI (fun i13 s12 => (i13 = 0 → J_X10_bestSet_17 g post s12 a0 v1 v2 v3 ((v4 + 1)) ) ∧ (¬ i13 = 0 → J_X10_bestSet_17 g post s12 a0 v1 v2 v4 ((v4 + 1)) )))))))))) : J_X10_bestSet_17 g post σ a0 v1 v2 v3 v4 := by
  show Fr g M_X10_bestSet (0, 0, 0, 0) [(0, .ref a0), (1, .int v1), (2, .int v2), (3, .int v3), (4, .int v4)] [] 17 σ post
  refine fr_iload (pc := 17) 4 rfl dX10_bestSet_17 ?_
  refine fr_sipush (pc := 19) 256 (by decide) dX10_bestSet_19 ?_
  refine fr_icmp_ge (pc := 22) (tgt := 66) (by decide) dX10_bestSet_22 hW (fun hW => ?_) (fun hW => ?_)
  · refine fr_iload_n (pc := 66) 3 rfl rfl dX10_bestSet_66 ?_
    exact fr_iret (pc := 67) dX10_bestSet_67 rfl ⟨Nat.le_refl 0, Nat.le_refl 0⟩ hW
  · refine fr_iload (pc := 25) 4 rfl dX10_bestSet_25 ?_
    refine fr_iload_n (pc := 27) 2 rfl rfl dX10_bestSet_27 ?_
    refine fr_iconst (pc := 28) (-1) (by decide) dX10_bestSet_28 ?_
    refine fr_ixor (pc := 29) dX10_bestSet_29 ?_
    refine fr_iand (pc := 30) dX10_bestSet_30 ?_
    refine fr_if_ne (pc := 31) (tgt := 60) (by decide) dX10_bestSet_31 hW (fun hW => ?_) (fun hW => ?_)
    · refine fr_iinc (pc := 60) (lv' := [(4, .int (v4 + 1)), (0, .ref a0), (1, .int v1), (2, .int v2), (3, .int v3)]) (v4 + 1) 4 rfl (congrArg (fun z => v4 + z) (by decide)) (by decide) rfl dX10_bestSet_60 ?_
      refine fr_goto (pc := 63) (tgt := 17) (by decide) dX10_bestSet_63 ?_
      exact fr_sub [1, 2, 3, 4, 0] rfl hW
    · refine fr_aload_n (pc := 34) 0 rfl rfl dX10_bestSet_34 ?_
      refine fr_getR (pc := 35) (T := TX10) (k := 0) kc_X10 (by decide) w_960 dX10_bestSet_35 hW (fun r7 hW => ?_)
      refine fr_iload (pc := 38) 4 rfl dX10_bestSet_38 ?_
      obtain ⟨hrc, hW⟩ := hW
      refine fr_callV_I (pc := 40) (As := [.int v4]) (st := []) wd_X3_sizesOf w_1298 ok_X3_sizesOf (by decide) rfl (Nat.le_of_ble_eq_true rfl) dX10_bestSet_40 ⟨Nat.le_refl 0, Nat.le_refl 0⟩ kc_X3 hrc hW (fun i9 s8 hW => ?_)
      refine fr_iload_n (pc := 43) 1 rfl rfl dX10_bestSet_43 ?_
      refine fr_icmp_gt (pc := 44) (tgt := 60) (by decide) dX10_bestSet_44 hW (fun hW => ?_) (fun hW => ?_)
      · refine fr_iinc (pc := 60) (lv' := [(4, .int (v4 + 1)), (0, .ref a0), (1, .int v1), (2, .int v2), (3, .int v3)]) (v4 + 1) 4 rfl (congrArg (fun z => v4 + z) (by decide)) (by decide) rfl dX10_bestSet_60 ?_
        refine fr_goto (pc := 63) (tgt := 17) (by decide) dX10_bestSet_63 ?_
        exact fr_sub [1, 2, 3, 4, 0] rfl hW
      · refine fr_aload_n (pc := 47) 0 rfl rfl dX10_bestSet_47 ?_
        refine fr_iload (pc := 48) 4 rfl dX10_bestSet_48 ?_
        refine fr_iload_n (pc := 50) 3 rfl rfl dX10_bestSet_50 ?_
        obtain ⟨hrc, hW⟩ := hW
        refine fr_callV_I (pc := 51) (As := [.int v4, .int v3]) (st := []) wd_X10_isBetter w_1301 ok_X10_isBetter (by decide) rfl (Nat.le_of_ble_eq_true rfl) dX10_bestSet_51 ⟨Nat.le_refl 0, Nat.le_refl 0⟩ kc_X10 hrc hW (fun i13 s12 hW => ?_)
        refine fr_if_eq (pc := 54) (tgt := 60) (by decide) dX10_bestSet_54 hW (fun hW => ?_) (fun hW => ?_)
        · refine fr_iinc (pc := 60) (lv' := [(4, .int (v4 + 1)), (0, .ref a0), (1, .int v1), (2, .int v2), (3, .int v3)]) (v4 + 1) 4 rfl (congrArg (fun z => v4 + z) (by decide)) (by decide) rfl dX10_bestSet_60 ?_
          refine fr_goto (pc := 63) (tgt := 17) (by decide) dX10_bestSet_63 ?_
          exact fr_sub [1, 2, 3, 4, 0] rfl hW
        · refine fr_iload (pc := 57) 4 rfl dX10_bestSet_57 ?_
          refine fr_istore_n (pc := 59) (lv' := [(3, .int v4), (0, .ref a0), (1, .int v1), (2, .int v2), (4, .int v4)]) rfl (by decide) rfl dX10_bestSet_59 ?_
          refine fr_iinc (pc := 60) (lv' := [(4, .int (v4 + 1)), (3, .int v4), (0, .ref a0), (1, .int v1), (2, .int v2)]) (v4 + 1) 4 rfl (congrArg (fun z => v4 + z) (by decide)) (by decide) rfl dX10_bestSet_60 ?_
          refine fr_goto (pc := 63) (tgt := 17) (by decide) dX10_bestSet_63 ?_
          exact fr_sub [2, 3, 4, 1, 0] rfl hW
set_option maxHeartbeats 4000000 in
set_option maxRecDepth 100000 in
theorem q_X10_workedOut {g : GG} {σ : Hs} {post : Option Value → Hs → Prop} (r0 : Nat) (p0 : Int32) (hW : FR σ r0 10 3 (fun r1 => Rc σ r1 1 ∧ Do g M_X1_at 0 0 [.ref r1, .int p0] σ (kI (fun i3 s2 => post (some (.int i3)) s2)))) : Do g M_X10_workedOut 0 0 [.ref r0, .int p0] σ post := by
  refine Do.of (by decide +kernel) (Nat.le_of_ble_eq_true rfl) ?_
  show Fr g M_X10_workedOut (0, 0, 0, 0) [(0, .ref r0), (1, .int p0)] [] 0 σ post
  refine fr_aload_n (pc := 0) 0 rfl rfl dX10_workedOut_0 ?_
  refine fr_getR (pc := 1) (T := TX10) (k := 3) kc_X10 (by decide) w_957 dX10_workedOut_1 hW (fun r1 hW => ?_)
  refine fr_iload_n (pc := 4) 1 rfl rfl dX10_workedOut_4 ?_
  obtain ⟨hrc, hW⟩ := hW
  refine fr_callV_I (pc := 5) (As := [.int p0]) (st := []) wd_X1_at w_1295 ok_X1_at (by decide) rfl (Nat.le_of_ble_eq_true rfl) dX10_workedOut_5 ⟨Nat.le_refl 0, Nat.le_refl 0⟩ kc_X1 hrc hW (fun i3 s2 hW => ?_)
  exact fr_iret (pc := 8) dX10_workedOut_8 rfl ⟨Nat.le_refl 0, Nat.le_refl 0⟩ hW
set_option maxHeartbeats 4000000 in
set_option maxRecDepth 100000 in
theorem q_X11_choose {g : GG} {σ : Hs} {post : Option Value → Hs → Prop} (r0 : Nat) (p0 : Int32) (p1 : Int32) (hW : Do g M_X11_isSpace 0 0 [.int p0] σ (kI (fun i2 s1 => (i2 = 0 → post (some (.int (-102))) s1) ∧ (¬ i2 = 0 → (p1 < 0 → post (some (.int (-102))) s1) ∧ (¬ p1 < 0 → (p1 ≤ 2 → FI s1 r0 11 7 (fun i5 => (i5 < 20 → FI s1 r0 11 7 (fun i6 => PF s1 r0 11 7 (.int (i6 + 1)) (fun s7 => FR s7 r0 11 3 (fun r8 => Rc s7 r8 10 ∧ Do g M_X10_bestSet 0 0 [.ref r8, .int p0] s7 (kI (fun i10 s9 => (¬ p1 = 0 → (¬ p1 = 1 → FR s9 r0 11 1 (fun r13 => Rc s9 r13 3 ∧ Do g M_X3_sizesOf 0 0 [.ref r13, .int i10] s9 (kI (fun i15 s14 => post (some (.int i15)) s14)))) ∧ (p1 = 1 → FR s9 r0 11 3 (fun r18 => Rc s9 r18 10 ∧ Do g M_X10_workedOut 0 0 [.ref r18, .int i10] s9 (kI (fun i20 s19 => post (some (.int i20)) s19))))) ∧ (p1 = 0 → post (some (.int i10)) s9))))))) ∧ (¬ i5 < 20 → post (some (.int (-103))) s1))) ∧ (¬ p1 ≤ 2 → post (some (.int (-102))) s1)))))) : Do g M_X11_choose 0 0 [.ref r0, .int p0, .int p1] σ post := by
  refine Do.of (by decide +kernel) (Nat.le_of_ble_eq_true rfl) ?_
  show Fr g M_X11_choose (0, 0, 0, 0) [(0, .ref r0), (1, .int p0), (2, .int p1)] [] 0 σ post
  refine fr_iload_n (pc := 0) 1 rfl rfl dX11_choose_0 ?_
  refine fr_callS_I (pc := 1) (As := [.int p0]) (st := []) wd_X11_isSpace w_1303 ok_X11_isSpace (by decide) rfl (Nat.le_of_ble_eq_true rfl) dX11_choose_1 ⟨Nat.le_refl 0, Nat.le_refl 0⟩ hW (fun i2 s1 hW => ?_)
  refine fr_if_eq (pc := 4) (tgt := 16) (by decide) dX11_choose_4 hW (fun hW => ?_) (fun hW => ?_)
  · refine fr_bipush (pc := 16) (-102) (by decide) dX11_choose_16 ?_
    exact fr_iret (pc := 18) dX11_choose_18 rfl ⟨Nat.le_refl 0, Nat.le_refl 0⟩ hW
  · refine fr_iload_n (pc := 7) 2 rfl rfl dX11_choose_7 ?_
    refine fr_if_lt (pc := 8) (tgt := 16) (by decide) dX11_choose_8 hW (fun hW => ?_) (fun hW => ?_)
    · refine fr_bipush (pc := 16) (-102) (by decide) dX11_choose_16 ?_
      exact fr_iret (pc := 18) dX11_choose_18 rfl ⟨Nat.le_refl 0, Nat.le_refl 0⟩ hW
    · refine fr_iload_n (pc := 11) 2 rfl rfl dX11_choose_11 ?_
      refine fr_iconst (pc := 12) 2 (by decide) dX11_choose_12 ?_
      refine fr_icmp_le (pc := 13) (tgt := 19) (by decide) dX11_choose_13 hW (fun hW => ?_) (fun hW => ?_)
      · refine fr_aload_n (pc := 19) 0 rfl rfl dX11_choose_19 ?_
        refine fr_getI (pc := 20) (T := TX11) (k := 7) kc_X11 (by decide) w_1302 dX11_choose_20 hW (fun i5 hW => ?_)
        refine fr_bipush (pc := 23) 20 (by decide) dX11_choose_23 ?_
        refine fr_icmp_lt (pc := 25) (tgt := 31) (by decide) dX11_choose_25 hW (fun hW => ?_) (fun hW => ?_)
        · refine fr_aload_n (pc := 31) 0 rfl rfl dX11_choose_31 ?_
          refine fr_dup (pc := 32) rfl dX11_choose_32 ?_
          refine fr_getI (pc := 33) (T := TX11) (k := 7) kc_X11 (by decide) w_1302 dX11_choose_33 hW (fun i6 hW => ?_)
          refine fr_iconst (pc := 36) 1 (by decide) dX11_choose_36 ?_
          refine fr_iadd (pc := 37) dX11_choose_37 ?_
          refine fr_put (pc := 38) (T := TX11) (k := 7) kc_X11 (by decide) w_1302 rfl rfl rfl dX11_choose_38 hW (fun s7 hW => ?_)
          refine fr_aload_n (pc := 41) 0 rfl rfl dX11_choose_41 ?_
          refine fr_getR (pc := 42) (T := TX11) (k := 3) kc_X11 (by decide) w_995 dX11_choose_42 hW (fun r8 hW => ?_)
          refine fr_iload_n (pc := 45) 1 rfl rfl dX11_choose_45 ?_
          obtain ⟨hrc, hW⟩ := hW
          refine fr_callV_I (pc := 46) (As := [.int p0]) (st := []) wd_X10_bestSet w_1304 ok_X10_bestSet (by decide) rfl (Nat.le_of_ble_eq_true rfl) dX11_choose_46 ⟨Nat.le_refl 0, Nat.le_refl 0⟩ kc_X10 hrc hW (fun i10 s9 hW => ?_)
          refine fr_istore_n (pc := 49) (lv' := [(3, .int i10), (0, .ref r0), (1, .int p0), (2, .int p1)]) rfl (by decide) rfl dX11_choose_49 ?_
          refine fr_iload_n (pc := 50) 3 rfl rfl dX11_choose_50 ?_
          refine fr_if_ne (pc := 51) (tgt := 56) (by decide) dX11_choose_51 hW (fun hW => ?_) (fun hW => ?_)
          · refine fr_iload_n (pc := 56) 3 rfl rfl dX11_choose_56 ?_
            refine fr_iconst (pc := 57) 1 (by decide) dX11_choose_57 ?_
            refine fr_icmp_ne (pc := 58) (tgt := 72) (by decide) dX11_choose_58 hW (fun hW => ?_) (fun hW => ?_)
            · refine fr_aload_n (pc := 72) 1 rfl rfl dX11_choose_72 ?_
              refine fr_getR (pc := 73) (T := TX11) (k := 1) kc_X11 (by decide) w_991 dX11_choose_73 hW (fun r13 hW => ?_)
              refine fr_iload_n (pc := 76) 0 rfl rfl dX11_choose_76 ?_
              obtain ⟨hrc, hW⟩ := hW
              refine fr_callV_I (pc := 77) (As := [.int i10]) (st := []) wd_X3_sizesOf w_1306 ok_X3_sizesOf (by decide) rfl (Nat.le_of_ble_eq_true rfl) dX11_choose_77 ⟨Nat.le_refl 0, Nat.le_refl 0⟩ kc_X3 hrc hW (fun i15 s14 hW => ?_)
              exact fr_iret (pc := 80) dX11_choose_80 rfl ⟨Nat.le_refl 0, Nat.le_refl 0⟩ hW
            · refine fr_aload_n (pc := 61) 1 rfl rfl dX11_choose_61 ?_
              refine fr_getR (pc := 62) (T := TX11) (k := 3) kc_X11 (by decide) w_995 dX11_choose_62 hW (fun r18 hW => ?_)
              refine fr_iload_n (pc := 65) 0 rfl rfl dX11_choose_65 ?_
              obtain ⟨hrc, hW⟩ := hW
              refine fr_callV_I (pc := 66) (As := [.int i10]) (st := []) wd_X10_workedOut w_1305 ok_X10_workedOut (by decide) rfl (Nat.le_of_ble_eq_true rfl) dX11_choose_66 ⟨Nat.le_refl 0, Nat.le_refl 0⟩ kc_X10 hrc hW (fun i20 s19 hW => ?_)
              refine fr_goto (pc := 69) (tgt := 80) (by decide) dX11_choose_69 ?_
              exact fr_iret (pc := 80) dX11_choose_80 rfl ⟨Nat.le_refl 0, Nat.le_refl 0⟩ hW
          · refine fr_iload_n (pc := 54) 0 rfl rfl dX11_choose_54 ?_
            exact fr_iret (pc := 55) dX11_choose_55 rfl ⟨Nat.le_refl 0, Nat.le_refl 0⟩ hW
        · refine fr_bipush (pc := 28) (-103) (by decide) dX11_choose_28 ?_
          exact fr_iret (pc := 30) dX11_choose_30 rfl ⟨Nat.le_refl 0, Nat.le_refl 0⟩ hW
      · refine fr_bipush (pc := 16) (-102) (by decide) dX11_choose_16 ?_
        exact fr_iret (pc := 18) dX11_choose_18 rfl ⟨Nat.le_refl 0, Nat.le_refl 0⟩ hW
def J_X12_isKept_17 (g : GG) (post : Option Value → Hs → Prop) (σ : Hs) (a0 : Nat) (v1 : Int32) (v2 : Int32) (v3 : Int32) : Prop := Fr g M_X12_isKept (0, 0, 0, 0) [(0, .ref a0), (1, .int v1), (2, .int v2), (3, .int v3)] [] 17 σ post
set_option maxHeartbeats 4000000 in
set_option maxRecDepth 100000 in
theorem q_X12_isKept {g : GG} {σ : Hs} {post : Option Value → Hs → Prop} (r0 : Nat) (p0 : Int32) (hW : FI σ r0 12 4 (fun i1 => (¬ (p0 >>> (i1 &&& 31)) = 0 → J_X12_isKept_17 g post σ r0 p0 0 0 ) ∧ ((p0 >>> (i1 &&& 31)) = 0 → J_X12_isKept_17 g post σ r0 p0 1 0 ))) : Do g M_X12_isKept 0 0 [.ref r0, .int p0] σ post := by
  refine Do.of (by decide +kernel) (Nat.le_of_ble_eq_true rfl) ?_
  show Fr g M_X12_isKept (0, 0, 0, 0) [(0, .ref r0), (1, .int p0)] [] 0 σ post
  refine fr_iload_n (pc := 0) 1 rfl rfl dX12_isKept_0 ?_
  refine fr_aload_n (pc := 1) 0 rfl rfl dX12_isKept_1 ?_
  refine fr_getI (pc := 2) (T := TX12) (k := 4) kc_X12 (by decide) w_1073 dX12_isKept_2 hW (fun i1 hW => ?_)
  refine fr_ishr (pc := 5) dX12_isKept_5 ?_
  refine fr_if_ne (pc := 6) (tgt := 13) (by decide) dX12_isKept_6 hW (fun hW => ?_) (fun hW => ?_)
  · refine fr_iconst (pc := 13) 0 (by decide) dX12_isKept_13 ?_
    refine fr_istore_n (pc := 14) (lv' := [(2, .int 0), (0, .ref r0), (1, .int p0)]) rfl (by decide) rfl dX12_isKept_14 ?_
    refine fr_iconst (pc := 15) 0 (by decide) dX12_isKept_15 ?_
    refine fr_istore_n (pc := 16) (lv' := [(3, .int 0), (2, .int 0), (0, .ref r0), (1, .int p0)]) rfl (by decide) rfl dX12_isKept_16 ?_
    exact fr_sub [2, 3, 1, 0] rfl hW
  · refine fr_iconst (pc := 9) 1 (by decide) dX12_isKept_9 ?_
    refine fr_goto (pc := 10) (tgt := 14) (by decide) dX12_isKept_10 ?_
    refine fr_istore_n (pc := 14) (lv' := [(2, .int 1), (0, .ref r0), (1, .int p0)]) rfl (by decide) rfl dX12_isKept_14 ?_
    refine fr_iconst (pc := 15) 0 (by decide) dX12_isKept_15 ?_
    refine fr_istore_n (pc := 16) (lv' := [(3, .int 0), (2, .int 1), (0, .ref r0), (1, .int p0)]) rfl (by decide) rfl dX12_isKept_16 ?_
    exact fr_sub [2, 3, 1, 0] rfl hW
set_option maxHeartbeats 4000000 in
set_option maxRecDepth 100000 in
theorem q_X12_isKept_17 {g : GG} {σ : Hs} {post : Option Value → Hs → Prop} (a0 : Nat) (v1 : Int32) (v2 : Int32) (v3 : Int32) (hW : FI σ a0 12 4 (fun i2 => (i2 ≤ v3 → (narrow .boolean (.int v2) = .int v2 ∧ post (some (.int v2)) σ)) ∧ (¬ i2 ≤ v3 → (v2 = 0 → J_X12_isKept_17 g post σ a0 v1 0 ((v3 + 1)) ) ∧ (¬ v2 = 0 → (((v1 >>> (v3 &&& 31)) &&& 1) = 0 → J_X12_isKept_17 g post σ a0 v1 1 ((v3 + 1)) ) ∧ (¬ ((v1 >>> (v3 &&& 31)) &&& 1) = 0 → FR σ a0 12 6 (fun r3 => AI g σ r3 1 v3 (fun i4 => (¬ i4 = 0 → J_X12_isKept_17 g post σ a0 v1 0 ((v3 + 1)) ) ∧ (i4 = 0 → J_X12_isKept_17 g post σ a0 v1 1 ((v3 + 1)) )))))))) : J_X12_isKept_17 g post σ a0 v1 v2 v3 := by
  show Fr g M_X12_isKept (0, 0, 0, 0) [(0, .ref a0), (1, .int v1), (2, .int v2), (3, .int v3)] [] 17 σ post
  refine fr_iload_n (pc := 17) 3 rfl rfl dX12_isKept_17 ?_
  refine fr_aload_n (pc := 18) 0 rfl rfl dX12_isKept_18 ?_
  refine fr_getI (pc := 19) (T := TX12) (k := 4) kc_X12 (by decide) w_1073 dX12_isKept_19 hW (fun i2 hW => ?_)
  refine fr_icmp_ge (pc := 22) (tgt := 58) (by decide) dX12_isKept_22 hW (fun hW => ?_) (fun hW => ?_)
  · refine fr_iload_n (pc := 58) 2 rfl rfl dX12_isKept_58 ?_
    exact fr_zret (pc := 59) dX12_isKept_59 rfl ⟨Nat.le_refl 0, Nat.le_refl 0⟩ hW
  · refine fr_iload_n (pc := 25) 2 rfl rfl dX12_isKept_25 ?_
    refine fr_if_eq (pc := 26) (tgt := 50) (by decide) dX12_isKept_26 hW (fun hW => ?_) (fun hW => ?_)
    · refine fr_iconst (pc := 50) 0 (by decide) dX12_isKept_50 ?_
      refine fr_istore_n (pc := 51) (lv' := [(2, .int 0), (0, .ref a0), (1, .int v1), (3, .int v3)]) rfl (by decide) rfl dX12_isKept_51 ?_
      refine fr_iinc (pc := 52) (lv' := [(3, .int (v3 + 1)), (2, .int 0), (0, .ref a0), (1, .int v1)]) (v3 + 1) 3 rfl (congrArg (fun z => v3 + z) (by decide)) (by decide) rfl dX12_isKept_52 ?_
      refine fr_goto (pc := 55) (tgt := 17) (by decide) dX12_isKept_55 ?_
      exact fr_sub [2, 3, 1, 0] rfl hW
    · refine fr_iload_n (pc := 29) 1 rfl rfl dX12_isKept_29 ?_
      refine fr_iload_n (pc := 30) 3 rfl rfl dX12_isKept_30 ?_
      refine fr_ishr (pc := 31) dX12_isKept_31 ?_
      refine fr_iconst (pc := 32) 1 (by decide) dX12_isKept_32 ?_
      refine fr_iand (pc := 33) dX12_isKept_33 ?_
      refine fr_if_eq (pc := 34) (tgt := 46) (by decide) dX12_isKept_34 hW (fun hW => ?_) (fun hW => ?_)
      · refine fr_iconst (pc := 46) 1 (by decide) dX12_isKept_46 ?_
        refine fr_goto (pc := 47) (tgt := 51) (by decide) dX12_isKept_47 ?_
        refine fr_istore_n (pc := 51) (lv' := [(2, .int 1), (0, .ref a0), (1, .int v1), (3, .int v3)]) rfl (by decide) rfl dX12_isKept_51 ?_
        refine fr_iinc (pc := 52) (lv' := [(3, .int (v3 + 1)), (2, .int 1), (0, .ref a0), (1, .int v1)]) (v3 + 1) 3 rfl (congrArg (fun z => v3 + z) (by decide)) (by decide) rfl dX12_isKept_52 ?_
        refine fr_goto (pc := 55) (tgt := 17) (by decide) dX12_isKept_55 ?_
        exact fr_sub [2, 3, 1, 0] rfl hW
      · refine fr_aload_n (pc := 37) 0 rfl rfl dX12_isKept_37 ?_
        refine fr_getR (pc := 38) (T := TX12) (k := 6) kc_X12 (by decide) w_1010 dX12_isKept_38 hW (fun r3 hW => ?_)
        refine fr_iload_n (pc := 41) 3 rfl rfl dX12_isKept_41 ?_
        refine fr_zald (pc := 42) dX12_isKept_42 hW (fun i4 hW => ?_)
        refine fr_if_ne (pc := 43) (tgt := 50) (by decide) dX12_isKept_43 hW (fun hW => ?_) (fun hW => ?_)
        · refine fr_iconst (pc := 50) 0 (by decide) dX12_isKept_50 ?_
          refine fr_istore_n (pc := 51) (lv' := [(2, .int 0), (0, .ref a0), (1, .int v1), (3, .int v3)]) rfl (by decide) rfl dX12_isKept_51 ?_
          refine fr_iinc (pc := 52) (lv' := [(3, .int (v3 + 1)), (2, .int 0), (0, .ref a0), (1, .int v1)]) (v3 + 1) 3 rfl (congrArg (fun z => v3 + z) (by decide)) (by decide) rfl dX12_isKept_52 ?_
          refine fr_goto (pc := 55) (tgt := 17) (by decide) dX12_isKept_55 ?_
          exact fr_sub [2, 3, 1, 0] rfl hW
        · refine fr_iconst (pc := 46) 1 (by decide) dX12_isKept_46 ?_
          refine fr_goto (pc := 47) (tgt := 51) (by decide) dX12_isKept_47 ?_
          refine fr_istore_n (pc := 51) (lv' := [(2, .int 1), (0, .ref a0), (1, .int v1), (3, .int v3)]) rfl (by decide) rfl dX12_isKept_51 ?_
          refine fr_iinc (pc := 52) (lv' := [(3, .int (v3 + 1)), (2, .int 1), (0, .ref a0), (1, .int v1)]) (v3 + 1) 3 rfl (congrArg (fun z => v3 + z) (by decide)) (by decide) rfl dX12_isKept_52 ?_
          refine fr_goto (pc := 55) (tgt := 17) (by decide) dX12_isKept_55 ?_
          exact fr_sub [2, 3, 1, 0] rfl hW
def J_X12_spaceOf_4 (g : GG) (post : Option Value → Hs → Prop) (σ : Hs) (a0 : Nat) (v1 : Int32) (v2 : Int32) (v3 : Int32) : Prop := Fr g M_X12_spaceOf (0, 0, 0, 0) [(0, .ref a0), (1, .int v1), (2, .int v2), (3, .int v3)] [] 4 σ post
set_option maxHeartbeats 4000000 in
set_option maxRecDepth 100000 in
theorem q_X12_spaceOf {g : GG} {σ : Hs} {post : Option Value → Hs → Prop} (r0 : Nat) (p0 : Int32) (hW : J_X12_spaceOf_4 g post σ r0 p0 0 0 ) : Do g M_X12_spaceOf 0 0 [.ref r0, .int p0] σ post := by
  refine Do.of (by decide +kernel) (Nat.le_of_ble_eq_true rfl) ?_
  show Fr g M_X12_spaceOf (0, 0, 0, 0) [(0, .ref r0), (1, .int p0)] [] 0 σ post
  refine fr_iconst (pc := 0) 0 (by decide) dX12_spaceOf_0 ?_
  refine fr_istore_n (pc := 1) (lv' := [(2, .int 0), (0, .ref r0), (1, .int p0)]) rfl (by decide) rfl dX12_spaceOf_1 ?_
  refine fr_iconst (pc := 2) 0 (by decide) dX12_spaceOf_2 ?_
  refine fr_istore_n (pc := 3) (lv' := [(3, .int 0), (2, .int 0), (0, .ref r0), (1, .int p0)]) rfl (by decide) rfl dX12_spaceOf_3 ?_
  exact fr_sub [2, 3, 1, 0] rfl hW
set_option maxHeartbeats 4000000 in
set_option maxRecDepth 100000 in
theorem q_X12_spaceOf_4 {g : GG} {σ : Hs} {post : Option Value → Hs → Prop} (a0 : Nat) (v1 : Int32) (v2 : Int32) (v3 : Int32) (hW : FI σ a0 12 4 (fun i1 => (i1 ≤ v3 → post (some (.int v2)) σ) ∧ (¬ i1 ≤ v3 → (¬ ((v1 >>> (v3 &&& 31)) &&& 1) = 1 → J_X12_spaceOf_4 g post σ a0 v1 ((v2 + 0)) ((v3 + 1)) ) ∧ (((v1 >>> (v3 &&& 31)) &&& 1) = 1 → Rc σ a0 12 ∧ Do g M_X12_sizeOf 0 0 [.ref a0, .int v3] σ (kI (fun i3 s2 => J_X12_spaceOf_4 g post s2 a0 v1 ((v2 + i3)) ((v3 + 1)) )))))) : J_X12_spaceOf_4 g post σ a0 v1 v2 v3 := by
  show Fr g M_X12_spaceOf (0, 0, 0, 0) [(0, .ref a0), (1, .int v1), (2, .int v2), (3, .int v3)] [] 4 σ post
  refine fr_iload_n (pc := 4) 3 rfl rfl dX12_spaceOf_4 ?_
  refine fr_aload_n (pc := 5) 0 rfl rfl dX12_spaceOf_5 ?_
  refine fr_getI (pc := 6) (T := TX12) (k := 4) kc_X12 (by decide) w_1073 dX12_spaceOf_6 hW (fun i1 hW => ?_)
  refine fr_icmp_ge (pc := 9) (tgt := 39) (by decide) dX12_spaceOf_9 hW (fun hW => ?_) (fun hW => ?_)
  · refine fr_iload_n (pc := 39) 2 rfl rfl dX12_spaceOf_39 ?_
    exact fr_iret (pc := 40) dX12_spaceOf_40 rfl ⟨Nat.le_refl 0, Nat.le_refl 0⟩ hW
  · refine fr_iload_n (pc := 12) 2 rfl rfl dX12_spaceOf_12 ?_
    refine fr_iload_n (pc := 13) 1 rfl rfl dX12_spaceOf_13 ?_
    refine fr_iload_n (pc := 14) 3 rfl rfl dX12_spaceOf_14 ?_
    refine fr_ishr (pc := 15) dX12_spaceOf_15 ?_
    refine fr_iconst (pc := 16) 1 (by decide) dX12_spaceOf_16 ?_
    refine fr_iand (pc := 17) dX12_spaceOf_17 ?_
    refine fr_iconst (pc := 18) 1 (by decide) dX12_spaceOf_18 ?_
    refine fr_icmp_ne (pc := 19) (tgt := 30) (by decide) dX12_spaceOf_19 hW (fun hW => ?_) (fun hW => ?_)
    · refine fr_iconst (pc := 30) 0 (by decide) dX12_spaceOf_30 ?_
      refine fr_iadd (pc := 31) dX12_spaceOf_31 ?_
      refine fr_istore_n (pc := 32) (lv' := [(2, .int (v2 + 0)), (0, .ref a0), (1, .int v1), (3, .int v3)]) rfl (by decide) rfl dX12_spaceOf_32 ?_
      refine fr_iinc (pc := 33) (lv' := [(3, .int (v3 + 1)), (2, .int (v2 + 0)), (0, .ref a0), (1, .int v1)]) (v3 + 1) 3 rfl (congrArg (fun z => v3 + z) (by decide)) (by decide) rfl dX12_spaceOf_33 ?_
      refine fr_goto (pc := 36) (tgt := 4) (by decide) dX12_spaceOf_36 ?_
      exact fr_sub [2, 3, 1, 0] rfl hW
    · refine fr_aload_n (pc := 22) 0 rfl rfl dX12_spaceOf_22 ?_
      refine fr_iload_n (pc := 23) 3 rfl rfl dX12_spaceOf_23 ?_
      obtain ⟨hrc, hW⟩ := hW
      refine fr_callV_I (pc := 24) (As := [.int v3]) (st := [.int v2]) wd_X12_sizeOf w_1136 ok_X12_sizeOf (by decide) rfl (Nat.le_of_ble_eq_true rfl) dX12_spaceOf_24 ⟨Nat.le_refl 0, Nat.le_refl 0⟩ kc_X12 hrc hW (fun i3 s2 hW => ?_)
      refine fr_goto (pc := 27) (tgt := 31) (by decide) dX12_spaceOf_27 ?_
      refine fr_iadd (pc := 31) dX12_spaceOf_31 ?_
      refine fr_istore_n (pc := 32) (lv' := [(2, .int (v2 + i3)), (0, .ref a0), (1, .int v1), (3, .int v3)]) rfl (by decide) rfl dX12_spaceOf_32 ?_
      refine fr_iinc (pc := 33) (lv' := [(3, .int (v3 + 1)), (2, .int (v2 + i3)), (0, .ref a0), (1, .int v1)]) (v3 + 1) 3 rfl (congrArg (fun z => v3 + z) (by decide)) (by decide) rfl dX12_spaceOf_33 ?_
      refine fr_goto (pc := 36) (tgt := 4) (by decide) dX12_spaceOf_36 ?_
      exact fr_sub [2, 3, 1, 0] rfl hW
def J_X12_choose_61 (g : GG) (post : Option Value → Hs → Prop) (σ : Hs) (a0 : Nat) (v1 : Int32) (v2 : Int32) (v3 : Int32) (v4 : Int32) (v5 : Int32) : Prop := Fr g M_X12_choose (0, 0, 0, 0) [(0, .ref a0), (1, .int v1), (2, .int v2), (3, .int v3), (4, .int v4), (5, .int v5)] [] 61 σ post
set_option maxHeartbeats 4000000 in
set_option maxRecDepth 100000 in
theorem q_X12_choose {g : GG} {σ : Hs} {post : Option Value → Hs → Prop} (r0 : Nat) (p0 : Int32) (p1 : Int32) (hW : Do g M_X12_in 0 0 [.int p0, .int 0, .int 9999] σ (kI (fun i2 s1 => (i2 = 0 → post (some (.int (-102))) s1) ∧ (¬ i2 = 0 → Do g M_X12_in 0 0 [.int p1, .int 0, .int 2] s1 (kI (fun i6 s5 => (¬ i6 = 0 → FI s5 r0 12 20 (fun i9 => (¬ i9 = 20 → FI s5 r0 12 20 (fun i10 => PF s5 r0 12 20 (.int (i10 + 1)) (fun s11 => Rc s11 r0 12 ∧ Do g M_X12_lookAtAll 0 0 [.ref r0] s11 (kV (fun s12 => Rc s12 r0 12 ∧ Do g M_X12_workOf 0 0 [.ref r0, .int 0] s12 (kI (fun i14 s13 => J_X12_choose_61 g post s13 r0 p0 p1 0 i14 1 ))))))) ∧ (i9 = 20 → post (some (.int (-103))) s5))) ∧ (i6 = 0 → post (some (.int (-102))) s5))))))) : Do g M_X12_choose 0 0 [.ref r0, .int p0, .int p1] σ post := by
  refine Do.of (by decide +kernel) (Nat.le_of_ble_eq_true rfl) ?_
  show Fr g M_X12_choose (0, 0, 0, 0) [(0, .ref r0), (1, .int p0), (2, .int p1)] [] 0 σ post
  refine fr_iload_n (pc := 0) 1 rfl rfl dX12_choose_0 ?_
  refine fr_iconst (pc := 1) 0 (by decide) dX12_choose_1 ?_
  refine fr_sipush (pc := 2) 9999 (by decide) dX12_choose_2 ?_
  refine fr_callS_I (pc := 5) (As := [.int p0, .int 0, .int 9999]) (st := []) wd_X12_in w_1067 ok_X12_in (by decide) rfl (Nat.le_of_ble_eq_true rfl) dX12_choose_5 ⟨Nat.le_refl 0, Nat.le_refl 0⟩ hW (fun i2 s1 hW => ?_)
  refine fr_if_eq (pc := 8) (tgt := 20) (by decide) dX12_choose_8 hW (fun hW => ?_) (fun hW => ?_)
  · refine fr_bipush (pc := 20) (-102) (by decide) dX12_choose_20 ?_
    exact fr_iret (pc := 22) dX12_choose_22 rfl ⟨Nat.le_refl 0, Nat.le_refl 0⟩ hW
  · refine fr_iload_n (pc := 11) 2 rfl rfl dX12_choose_11 ?_
    refine fr_iconst (pc := 12) 0 (by decide) dX12_choose_12 ?_
    refine fr_iconst (pc := 13) 2 (by decide) dX12_choose_13 ?_
    refine fr_callS_I (pc := 14) (As := [.int p1, .int 0, .int 2]) (st := []) wd_X12_in w_1067 ok_X12_in (by decide) rfl (Nat.le_of_ble_eq_true rfl) dX12_choose_14 ⟨Nat.le_refl 0, Nat.le_refl 0⟩ hW (fun i6 s5 hW => ?_)
    refine fr_if_ne (pc := 17) (tgt := 23) (by decide) dX12_choose_17 hW (fun hW => ?_) (fun hW => ?_)
    · refine fr_aload_n (pc := 23) 0 rfl rfl dX12_choose_23 ?_
      refine fr_getI (pc := 24) (T := TX12) (k := 20) kc_X12 (by decide) w_1307 dX12_choose_24 hW (fun i9 hW => ?_)
      refine fr_bipush (pc := 27) 20 (by decide) dX12_choose_27 ?_
      refine fr_icmp_ne (pc := 29) (tgt := 35) (by decide) dX12_choose_29 hW (fun hW => ?_) (fun hW => ?_)
      · refine fr_aload_n (pc := 35) 0 rfl rfl dX12_choose_35 ?_
        refine fr_dup (pc := 36) rfl dX12_choose_36 ?_
        refine fr_getI (pc := 37) (T := TX12) (k := 20) kc_X12 (by decide) w_1307 dX12_choose_37 hW (fun i10 hW => ?_)
        refine fr_iconst (pc := 40) 1 (by decide) dX12_choose_40 ?_
        refine fr_iadd (pc := 41) dX12_choose_41 ?_
        refine fr_put (pc := 42) (T := TX12) (k := 20) kc_X12 (by decide) w_1307 rfl rfl rfl dX12_choose_42 hW (fun s11 hW => ?_)
        refine fr_aload_n (pc := 45) 0 rfl rfl dX12_choose_45 ?_
        obtain ⟨hrc, hW⟩ := hW
        refine fr_callV_V (pc := 46) (As := []) (st := []) wd_X12_lookAtAll w_1288 ok_X12_lookAtAll (by decide) rfl (Nat.le_of_ble_eq_true rfl) dX12_choose_46 ⟨Nat.le_refl 0, Nat.le_refl 0⟩ kc_X12 hrc hW (fun s12 hW => ?_)
        refine fr_iconst (pc := 49) 0 (by decide) dX12_choose_49 ?_
        refine fr_istore_n (pc := 50) (lv' := [(3, .int 0), (0, .ref r0), (1, .int p0), (2, .int p1)]) rfl (by decide) rfl dX12_choose_50 ?_
        refine fr_aload_n (pc := 51) 1 rfl rfl dX12_choose_51 ?_
        refine fr_iconst (pc := 52) 0 (by decide) dX12_choose_52 ?_
        obtain ⟨hrc, hW⟩ := hW
        refine fr_callV_I (pc := 53) (As := [.int 0]) (st := []) wd_X12_workOf w_1289 ok_X12_workOf (by decide) rfl (Nat.le_of_ble_eq_true rfl) dX12_choose_53 ⟨Nat.le_refl 0, Nat.le_refl 0⟩ kc_X12 hrc hW (fun i14 s13 hW => ?_)
        refine fr_istore (pc := 56) (lv' := [(4, .int i14), (3, .int 0), (0, .ref r0), (1, .int p0), (2, .int p1)]) (by decide) rfl dX12_choose_56 ?_
        refine fr_iconst (pc := 58) 1 (by decide) dX12_choose_58 ?_
        refine fr_istore (pc := 59) (lv' := [(5, .int 1), (4, .int i14), (3, .int 0), (0, .ref r0), (1, .int p0), (2, .int p1)]) (by decide) rfl dX12_choose_59 ?_
        exact fr_sub [3, 4, 5, 2, 1, 0] rfl hW
      · refine fr_bipush (pc := 32) (-103) (by decide) dX12_choose_32 ?_
        exact fr_iret (pc := 34) dX12_choose_34 rfl ⟨Nat.le_refl 0, Nat.le_refl 0⟩ hW
    · refine fr_bipush (pc := 20) (-102) (by decide) dX12_choose_20 ?_
      exact fr_iret (pc := 22) dX12_choose_22 rfl ⟨Nat.le_refl 0, Nat.le_refl 0⟩ hW
set_option maxHeartbeats 4000000 in
set_option maxRecDepth 100000 in
theorem q_X12_choose_61 {g : GG} {σ : Hs} {post : Option Value → Hs → Prop} (a0 : Nat) (v1 : Int32) (v2 : Int32) (v3 : Int32) (v4 : Int32) (v5 : Int32) (hW : FI σ a0 12 4 (fun i17 => (((1 : Int32) <<< (i17 &&& 31)) ≤ v5 → (¬ v2 = 0 → (¬ v2 = 1 → Rc σ a0 12 ∧ Do g M_X12_spaceOf 0 0 [.ref a0, .int v3] σ (kI (fun i19 s18 => post (some (.int i19)) s18))) ∧ (v2 = 1 → post (some (.int v4)) σ)) ∧ (v2 = 0 → post (some (.int v3)) σ)) ∧ (¬ ((1 : Int32) <<< (i17 &&& 31)) ≤ v5 → Rc σ a0 12 ∧ Do g M_X12_isKept 0 0 [.ref a0, .int v5] σ (kI (fun i23 s22 => (i23 = 0 → J_X12_choose_61 g post s22 a0 v1 v2 v3 v4 ((v5 + 1)) ) ∧ (¬ i23 = 0 → Rc s22 a0 12 ∧ Do g M_X12_spaceOf 0 0 [.ref a0, .int v5] s22 (kI (fun i27 s26 => (v1 < i27 → J_X12_choose_61 g post s26 a0 v1 v2 v3 v4 ((v5 + 1)) ) ∧ (¬ v1 < i27 → Rc s26 a0 12 ∧ Do g M_X12_workOf 0 0 [.ref a0, .int v5] s26 (kI (fun i31 s30 => (i31 < v4 → J_X12_choose_61 g post s30 a0 v1 v2 v5 i31 ((v5 + 1)) ) ∧ (¬ i31 < v4 → (¬ i31 = v4 → J_X12_choose_61 g post s30 a0 v1 v2 v3 v4 ((v5 + 1)) ) ∧ (i31 = v4 → Rc s30 a0 12 ∧ Do g M_X12_spaceOf 0 0 [.ref a0, .int v5] s30 (kI (fun i35 s34 => Rc s34 a0 12 ∧ Do g M_X12_spaceOf 0 0 [.ref a0, .int v3] s34 (kI (fun i39 s38 => (i39 ≤ i35 → J_X12_choose_61 g post s38 a0 v1 v2 v3 v4 ((v5 + 1)) ) ∧ (¬ i39 ≤ i35 → J_X12_choose_61 g post s38 a0 v1 v2 v5 i31 ((v5 + 1)) )))))))))))))))))) : J_X12_choose_61 g post σ a0 v1 v2 v3 v4 v5 := by
  show Fr g M_X12_choose (0, 0, 0, 0) [(0, .ref a0), (1, .int v1), (2, .int v2), (3, .int v3), (4, .int v4), (5, .int v5)] [] 61 σ post
  refine fr_iload (pc := 61) 5 rfl dX12_choose_61 ?_
  refine fr_iconst (pc := 63) 1 (by decide) dX12_choose_63 ?_
  refine fr_aload_n (pc := 64) 0 rfl rfl dX12_choose_64 ?_
  refine fr_getI (pc := 65) (T := TX12) (k := 4) kc_X12 (by decide) w_1073 dX12_choose_65 hW (fun i17 hW => ?_)
  refine fr_ishl (pc := 68) dX12_choose_68 ?_
  refine fr_icmp_ge (pc := 69) (tgt := 140) (by decide) dX12_choose_69 hW (fun hW => ?_) (fun hW => ?_)
  · refine fr_iload_n (pc := 140) 2 rfl rfl dX12_choose_140 ?_
    refine fr_if_ne (pc := 141) (tgt := 148) (by decide) dX12_choose_141 hW (fun hW => ?_) (fun hW => ?_)
    · refine fr_iload_n (pc := 148) 2 rfl rfl dX12_choose_148 ?_
      refine fr_iconst (pc := 149) 1 (by decide) dX12_choose_149 ?_
      refine fr_icmp_ne (pc := 150) (tgt := 158) (by decide) dX12_choose_150 hW (fun hW => ?_) (fun hW => ?_)
      · refine fr_aload_n (pc := 158) 0 rfl rfl dX12_choose_158 ?_
        refine fr_iload_n (pc := 159) 3 rfl rfl dX12_choose_159 ?_
        obtain ⟨hrc, hW⟩ := hW
        refine fr_callV_I (pc := 160) (As := [.int v3]) (st := []) wd_X12_spaceOf w_1309 ok_X12_spaceOf (by decide) rfl (Nat.le_of_ble_eq_true rfl) dX12_choose_160 ⟨Nat.le_refl 0, Nat.le_refl 0⟩ kc_X12 hrc hW (fun i19 s18 hW => ?_)
        exact fr_iret (pc := 163) dX12_choose_163 rfl ⟨Nat.le_refl 0, Nat.le_refl 0⟩ hW
      · refine fr_iload (pc := 153) 4 rfl dX12_choose_153 ?_
        refine fr_goto (pc := 155) (tgt := 163) (by decide) dX12_choose_155 ?_
        exact fr_iret (pc := 163) dX12_choose_163 rfl ⟨Nat.le_refl 0, Nat.le_refl 0⟩ hW
    · refine fr_iload_n (pc := 144) 3 rfl rfl dX12_choose_144 ?_
      refine fr_goto (pc := 145) (tgt := 163) (by decide) dX12_choose_145 ?_
      exact fr_iret (pc := 163) dX12_choose_163 rfl ⟨Nat.le_refl 0, Nat.le_refl 0⟩ hW
  · refine fr_aload_n (pc := 72) 0 rfl rfl dX12_choose_72 ?_
    refine fr_iload (pc := 73) 5 rfl dX12_choose_73 ?_
    obtain ⟨hrc, hW⟩ := hW
    refine fr_callV_I (pc := 75) (As := [.int v5]) (st := []) wd_X12_isKept w_1308 ok_X12_isKept (by decide) rfl (Nat.le_of_ble_eq_true rfl) dX12_choose_75 ⟨Nat.le_refl 0, Nat.le_refl 0⟩ kc_X12 hrc hW (fun i23 s22 hW => ?_)
    refine fr_if_eq (pc := 78) (tgt := 134) (by decide) dX12_choose_78 hW (fun hW => ?_) (fun hW => ?_)
    · refine fr_iinc (pc := 134) (lv' := [(5, .int (v5 + 1)), (0, .ref a0), (1, .int v1), (2, .int v2), (3, .int v3), (4, .int v4)]) (v5 + 1) 5 rfl (congrArg (fun z => v5 + z) (by decide)) (by decide) rfl dX12_choose_134 ?_
      refine fr_goto (pc := 137) (tgt := 61) (by decide) dX12_choose_137 ?_
      exact fr_sub [1, 2, 3, 4, 5, 0] rfl hW
    · refine fr_aload_n (pc := 81) 0 rfl rfl dX12_choose_81 ?_
      refine fr_iload (pc := 82) 5 rfl dX12_choose_82 ?_
      obtain ⟨hrc, hW⟩ := hW
      refine fr_callV_I (pc := 84) (As := [.int v5]) (st := []) wd_X12_spaceOf w_1309 ok_X12_spaceOf (by decide) rfl (Nat.le_of_ble_eq_true rfl) dX12_choose_84 ⟨Nat.le_refl 0, Nat.le_refl 0⟩ kc_X12 hrc hW (fun i27 s26 hW => ?_)
      refine fr_iload_n (pc := 87) 1 rfl rfl dX12_choose_87 ?_
      refine fr_icmp_gt (pc := 88) (tgt := 134) (by decide) dX12_choose_88 hW (fun hW => ?_) (fun hW => ?_)
      · refine fr_iinc (pc := 134) (lv' := [(5, .int (v5 + 1)), (0, .ref a0), (1, .int v1), (2, .int v2), (3, .int v3), (4, .int v4)]) (v5 + 1) 5 rfl (congrArg (fun z => v5 + z) (by decide)) (by decide) rfl dX12_choose_134 ?_
        refine fr_goto (pc := 137) (tgt := 61) (by decide) dX12_choose_137 ?_
        exact fr_sub [1, 2, 3, 4, 5, 0] rfl hW
      · refine fr_aload_n (pc := 91) 0 rfl rfl dX12_choose_91 ?_
        refine fr_iload (pc := 92) 5 rfl dX12_choose_92 ?_
        obtain ⟨hrc, hW⟩ := hW
        refine fr_callV_I (pc := 94) (As := [.int v5]) (st := []) wd_X12_workOf w_1289 ok_X12_workOf (by decide) rfl (Nat.le_of_ble_eq_true rfl) dX12_choose_94 ⟨Nat.le_refl 0, Nat.le_refl 0⟩ kc_X12 hrc hW (fun i31 s30 hW => ?_)
        refine fr_istore (pc := 97) (lv' := [(6, .int i31), (0, .ref a0), (1, .int v1), (2, .int v2), (3, .int v3), (4, .int v4), (5, .int v5)]) (by decide) rfl dX12_choose_97 ?_
        refine fr_iload (pc := 99) 0 rfl dX12_choose_99 ?_
        refine fr_iload (pc := 101) 5 rfl dX12_choose_101 ?_
        refine fr_icmp_lt (pc := 103) (tgt := 127) (by decide) dX12_choose_103 hW (fun hW => ?_) (fun hW => ?_)
        · refine fr_iload (pc := 127) 6 rfl dX12_choose_127 ?_
          refine fr_istore_n (pc := 129) (lv' := [(3, .int v5), (6, .int i31), (0, .ref a0), (1, .int v1), (2, .int v2), (4, .int v4), (5, .int v5)]) rfl (by decide) rfl dX12_choose_129 ?_
          refine fr_iload (pc := 130) 1 rfl dX12_choose_130 ?_
          refine fr_istore (pc := 132) (lv' := [(4, .int i31), (3, .int v5), (6, .int i31), (0, .ref a0), (1, .int v1), (2, .int v2), (5, .int v5)]) (by decide) rfl dX12_choose_132 ?_
          refine fr_iinc (pc := 134) (lv' := [(5, .int (v5 + 1)), (4, .int i31), (3, .int v5), (6, .int i31), (0, .ref a0), (1, .int v1), (2, .int v2)]) (v5 + 1) 6 rfl (congrArg (fun z => v5 + z) (by decide)) (by decide) rfl dX12_choose_134 ?_
          refine fr_goto (pc := 137) (tgt := 61) (by decide) dX12_choose_137 ?_
          exact fr_sub [4, 5, 6, 2, 1, 0] rfl hW
        · refine fr_iload (pc := 106) 0 rfl dX12_choose_106 ?_
          refine fr_iload (pc := 108) 5 rfl dX12_choose_108 ?_
          refine fr_icmp_ne (pc := 110) (tgt := 134) (by decide) dX12_choose_110 hW (fun hW => ?_) (fun hW => ?_)
          · refine fr_iinc (pc := 134) (lv' := [(5, .int (v5 + 1)), (6, .int i31), (0, .ref a0), (1, .int v1), (2, .int v2), (3, .int v3), (4, .int v4)]) (v5 + 1) 6 rfl (congrArg (fun z => v5 + z) (by decide)) (by decide) rfl dX12_choose_134 ?_
            refine fr_goto (pc := 137) (tgt := 61) (by decide) dX12_choose_137 ?_
            exact fr_sub [2, 3, 4, 5, 6, 0] rfl hW
          · refine fr_aload_n (pc := 113) 1 rfl rfl dX12_choose_113 ?_
            refine fr_iload (pc := 114) 6 rfl dX12_choose_114 ?_
            obtain ⟨hrc, hW⟩ := hW
            refine fr_callV_I (pc := 116) (As := [.int v5]) (st := []) wd_X12_spaceOf w_1309 ok_X12_spaceOf (by decide) rfl (Nat.le_of_ble_eq_true rfl) dX12_choose_116 ⟨Nat.le_refl 0, Nat.le_refl 0⟩ kc_X12 hrc hW (fun i35 s34 hW => ?_)
            refine fr_aload_n (pc := 119) 1 rfl rfl dX12_choose_119 ?_
            refine fr_iload_n (pc := 120) 4 rfl rfl dX12_choose_120 ?_
            obtain ⟨hrc, hW⟩ := hW
            refine fr_callV_I (pc := 121) (As := [.int v3]) (st := [.int i35]) wd_X12_spaceOf w_1309 ok_X12_spaceOf (by decide) rfl (Nat.le_of_ble_eq_true rfl) dX12_choose_121 ⟨Nat.le_refl 0, Nat.le_refl 0⟩ kc_X12 hrc hW (fun i39 s38 hW => ?_)
            refine fr_icmp_ge (pc := 124) (tgt := 134) (by decide) dX12_choose_124 hW (fun hW => ?_) (fun hW => ?_)
            · refine fr_iinc (pc := 134) (lv' := [(5, .int (v5 + 1)), (6, .int i31), (0, .ref a0), (1, .int v1), (2, .int v2), (3, .int v3), (4, .int v4)]) (v5 + 1) 6 rfl (congrArg (fun z => v5 + z) (by decide)) (by decide) rfl dX12_choose_134 ?_
              refine fr_goto (pc := 137) (tgt := 61) (by decide) dX12_choose_137 ?_
              exact fr_sub [2, 3, 4, 5, 6, 0] rfl hW
            · refine fr_iload (pc := 127) 6 rfl dX12_choose_127 ?_
              refine fr_istore_n (pc := 129) (lv' := [(3, .int v5), (6, .int i31), (0, .ref a0), (1, .int v1), (2, .int v2), (4, .int v4), (5, .int v5)]) rfl (by decide) rfl dX12_choose_129 ?_
              refine fr_iload (pc := 130) 1 rfl dX12_choose_130 ?_
              refine fr_istore (pc := 132) (lv' := [(4, .int i31), (3, .int v5), (6, .int i31), (0, .ref a0), (1, .int v1), (2, .int v2), (5, .int v5)]) (by decide) rfl dX12_choose_132 ?_
              refine fr_iinc (pc := 134) (lv' := [(5, .int (v5 + 1)), (4, .int i31), (3, .int v5), (6, .int i31), (0, .ref a0), (1, .int v1), (2, .int v2)]) (v5 + 1) 6 rfl (congrArg (fun z => v5 + z) (by decide)) (by decide) rfl dX12_choose_134 ?_
              refine fr_goto (pc := 137) (tgt := 61) (by decide) dX12_choose_137 ?_
              exact fr_sub [4, 5, 6, 2, 1, 0] rfl hW
def J_X10_nextStep_15 (g : GG) (post : Option Value → Hs → Prop) (σ : Hs) (a0 : Nat) (v1 : Int32) (v2 : Int32) (v3 : Int32) (v4 : Int32) (v5 : Int32) : Prop := Fr g M_X10_nextStep (0, 0, 0, 0) [(0, .ref a0), (1, .int v1), (2, .int v2), (3, .int v3), (4, .int v4), (5, .int v5)] [] 15 σ post
def J_X10_nextStep_66 (g : GG) (post : Option Value → Hs → Prop) (σ : Hs) (a0 : Nat) (v1 : Int32) (v2 : Int32) (v3 : Int32) (v4 : Int32) (v5 : Int32) (v6 : Int32) (t0 : Int32) : Prop := Fr g M_X10_nextStep (0, 0, 0, 0) [(0, .ref a0), (1, .int v1), (2, .int v2), (3, .int v3), (4, .int v4), (5, .int v5), (6, .int v6)] [.int t0] 66 σ post
set_option maxHeartbeats 4000000 in
set_option maxRecDepth 100000 in
theorem q_X10_nextStep {g : GG} {σ : Hs} {post : Option Value → Hs → Prop} (r0 : Nat) (p0 : Int32) (p1 : Int32) (hW : FR σ r0 10 3 (fun r1 => Rc σ r1 1 ∧ Do g M_X1_at 0 0 [.ref r1, .int p0] σ (kI (fun i3 s2 => J_X10_nextStep_15 g post s2 r0 p0 p1 (-1) i3 0 )))) : Do g M_X10_nextStep 0 0 [.ref r0, .int p0, .int p1] σ post := by
  refine Do.of (by decide +kernel) (Nat.le_of_ble_eq_true rfl) ?_
  show Fr g M_X10_nextStep (0, 0, 0, 0) [(0, .ref r0), (1, .int p0), (2, .int p1)] [] 0 σ post
  refine fr_iconst (pc := 0) (-1) (by decide) dX10_nextStep_0 ?_
  refine fr_istore_n (pc := 1) (lv' := [(3, .int (-1)), (0, .ref r0), (1, .int p0), (2, .int p1)]) rfl (by decide) rfl dX10_nextStep_1 ?_
  refine fr_aload_n (pc := 2) 1 rfl rfl dX10_nextStep_2 ?_
  refine fr_getR (pc := 3) (T := TX10) (k := 3) kc_X10 (by decide) w_957 dX10_nextStep_3 hW (fun r1 hW => ?_)
  refine fr_iload_n (pc := 6) 2 rfl rfl dX10_nextStep_6 ?_
  obtain ⟨hrc, hW⟩ := hW
  refine fr_callV_I (pc := 7) (As := [.int p0]) (st := []) wd_X1_at w_1295 ok_X1_at (by decide) rfl (Nat.le_of_ble_eq_true rfl) dX10_nextStep_7 ⟨Nat.le_refl 0, Nat.le_refl 0⟩ kc_X1 hrc hW (fun i3 s2 hW => ?_)
  refine fr_istore (pc := 10) (lv' := [(4, .int i3), (3, .int (-1)), (0, .ref r0), (1, .int p0), (2, .int p1)]) (by decide) rfl dX10_nextStep_10 ?_
  refine fr_iconst (pc := 12) 0 (by decide) dX10_nextStep_12 ?_
  refine fr_istore (pc := 13) (lv' := [(5, .int 0), (4, .int i3), (3, .int (-1)), (0, .ref r0), (1, .int p0), (2, .int p1)]) (by decide) rfl dX10_nextStep_13 ?_
  exact fr_sub [3, 4, 5, 2, 1, 0] rfl hW
set_option maxHeartbeats 4000000 in
set_option maxRecDepth 100000 in
theorem q_X10_nextStep_15 {g : GG} {σ : Hs} {post : Option Value → Hs → Prop} (a0 : Nat) (v1 : Int32) (v2 : Int32) (v3 : Int32) (v4 : Int32) (v5 : Int32) (hW : (8 ≤ v5 → post (some (.int v3)) σ) ∧ (¬ 8 ≤ v5 → Do g M_X11_with 0 0 [.int v1, .int v5] σ (kI (fun i7 s6 => (i7 = v1 → J_X10_nextStep_66 g post s6 a0 v1 v2 v3 v4 v5 i7 0) ∧ (¬ i7 = v1 → FR s6 a0 10 0 (fun r10 => Rc s6 r10 3 ∧ Do g M_X3_kept 0 0 [.ref r10, .int v5] s6 (kA (fun s11 => J_X10_nextStep_66 g post s11 a0 v1 v2 v3 v4 v5 i7 0) (fun r14 s11 => FR s11 a0 10 0 (fun r15 => Rc s11 r15 3 ∧ Do g M_X3_sizesOf 0 0 [.ref r15, .int i7] s11 (kI (fun i17 s16 => (v2 < i17 → J_X10_nextStep_66 g post s16 a0 v1 v2 v3 v4 v5 i7 0) ∧ (¬ v2 < i17 → J_X10_nextStep_66 g post s16 a0 v1 v2 v3 v4 v5 i7 1)))))))))))) : J_X10_nextStep_15 g post σ a0 v1 v2 v3 v4 v5 := by
  show Fr g M_X10_nextStep (0, 0, 0, 0) [(0, .ref a0), (1, .int v1), (2, .int v2), (3, .int v3), (4, .int v4), (5, .int v5)] [] 15 σ post
  refine fr_iload (pc := 15) 5 rfl dX10_nextStep_15 ?_
  refine fr_bipush (pc := 17) 8 (by decide) dX10_nextStep_17 ?_
  refine fr_icmp_ge (pc := 19) (tgt := 107) (by decide) dX10_nextStep_19 hW (fun hW => ?_) (fun hW => ?_)
  · refine fr_iload_n (pc := 107) 3 rfl rfl dX10_nextStep_107 ?_
    exact fr_iret (pc := 108) dX10_nextStep_108 rfl ⟨Nat.le_refl 0, Nat.le_refl 0⟩ hW
  · refine fr_iload_n (pc := 22) 1 rfl rfl dX10_nextStep_22 ?_
    refine fr_iload (pc := 23) 5 rfl dX10_nextStep_23 ?_
    refine fr_callSN_I (pc := 25) (As := [.int v1, .int v5]) (st := []) wd_X11_with ⟨RX11, by decide +kernel⟩ ok_X11_with (by decide) rfl (Nat.le_of_ble_eq_true rfl) dX10_nextStep_25 ⟨Nat.le_refl 0, Nat.le_refl 0⟩ hW (fun i7 s6 hW => ?_)
    refine fr_istore (pc := 28) (lv' := [(6, .int i7), (0, .ref a0), (1, .int v1), (2, .int v2), (3, .int v3), (4, .int v4), (5, .int v5)]) (by decide) rfl dX10_nextStep_28 ?_
    refine fr_iload (pc := 30) 0 rfl dX10_nextStep_30 ?_
    refine fr_iload_n (pc := 32) 2 rfl rfl dX10_nextStep_32 ?_
    refine fr_icmp_eq (pc := 33) (tgt := 65) (by decide) dX10_nextStep_33 hW (fun hW => ?_) (fun hW => ?_)
    · refine fr_iconst (pc := 65) 0 (by decide) dX10_nextStep_65 ?_
      exact fr_sub [1, 2, 3, 4, 5, 6, 0] rfl hW
    · refine fr_aload_n (pc := 36) 1 rfl rfl dX10_nextStep_36 ?_
      refine fr_getR (pc := 37) (T := TX10) (k := 0) kc_X10 (by decide) w_960 dX10_nextStep_37 hW (fun r10 hW => ?_)
      refine fr_iload (pc := 40) 6 rfl dX10_nextStep_40 ?_
      obtain ⟨hrc, hW⟩ := hW
      refine fr_callV_A (pc := 42) (As := [.int v5]) (st := []) wd_X3_kept w_1310 ok_X3_kept (by decide) rfl (Nat.le_of_ble_eq_true rfl) dX10_nextStep_42 ⟨Nat.le_refl 0, Nat.le_refl 0⟩ kc_X3 hrc hW (fun s11 hW => ?_) (fun r14 s11 hW => ?_)
      · refine fr_ifnullN (pc := 45) (tgt := 65) (by decide) dX10_nextStep_45 ?_
        refine fr_iconst (pc := 65) 0 (by decide) dX10_nextStep_65 ?_
        exact fr_sub [1, 2, 3, 4, 5, 6, 0] rfl hW
      · refine fr_ifnull (pc := 45) dX10_nextStep_45 ?_
        refine fr_aload_n (pc := 48) 1 rfl rfl dX10_nextStep_48 ?_
        refine fr_getR (pc := 49) (T := TX10) (k := 0) kc_X10 (by decide) w_960 dX10_nextStep_49 hW (fun r15 hW => ?_)
        refine fr_iload (pc := 52) 0 rfl dX10_nextStep_52 ?_
        obtain ⟨hrc, hW⟩ := hW
        refine fr_callV_I (pc := 54) (As := [.int i7]) (st := []) wd_X3_sizesOf w_1298 ok_X3_sizesOf (by decide) rfl (Nat.le_of_ble_eq_true rfl) dX10_nextStep_54 ⟨Nat.le_refl 0, Nat.le_refl 0⟩ kc_X3 hrc hW (fun i17 s16 hW => ?_)
        refine fr_iload_n (pc := 57) 3 rfl rfl dX10_nextStep_57 ?_
        refine fr_icmp_gt (pc := 58) (tgt := 65) (by decide) dX10_nextStep_58 hW (fun hW => ?_) (fun hW => ?_)
        · refine fr_iconst (pc := 65) 0 (by decide) dX10_nextStep_65 ?_
          exact fr_sub [1, 2, 3, 4, 5, 6, 0] rfl hW
        · refine fr_iconst (pc := 61) 1 (by decide) dX10_nextStep_61 ?_
          refine fr_goto (pc := 62) (tgt := 66) (by decide) dX10_nextStep_62 ?_
          exact fr_sub [1, 2, 3, 4, 5, 6, 0] rfl hW
set_option maxHeartbeats 4000000 in
set_option maxRecDepth 100000 in
theorem q_X10_nextStep_66 {g : GG} {σ : Hs} {post : Option Value → Hs → Prop} (a0 : Nat) (v1 : Int32) (v2 : Int32) (v3 : Int32) (v4 : Int32) (v5 : Int32) (v6 : Int32) (t0 : Int32) (hW : (t0 = 0 → J_X10_nextStep_15 g post σ a0 v1 v2 v3 v4 ((v5 + 1)) ) ∧ (¬ t0 = 0 → FR σ a0 10 3 (fun r20 => Rc σ r20 1 ∧ Do g M_X1_at 0 0 [.ref r20, .int v6] σ (kI (fun i22 s21 => (v4 ≤ i22 → J_X10_nextStep_15 g post s21 a0 v1 v2 v3 v4 ((v5 + 1)) ) ∧ (¬ v4 ≤ i22 → FR s21 a0 10 3 (fun r25 => Rc s21 r25 1 ∧ Do g M_X1_at 0 0 [.ref r25, .int v6] s21 (kI (fun i27 s26 => J_X10_nextStep_15 g post s26 a0 v1 v2 v5 i27 ((v5 + 1)) ))))))))) : J_X10_nextStep_66 g post σ a0 v1 v2 v3 v4 v5 v6 t0 := by
  show Fr g M_X10_nextStep (0, 0, 0, 0) [(0, .ref a0), (1, .int v1), (2, .int v2), (3, .int v3), (4, .int v4), (5, .int v5), (6, .int v6)] [.int t0] 66 σ post
  refine fr_istore (pc := 66) (lv' := [(7, .int t0), (0, .ref a0), (1, .int v1), (2, .int v2), (3, .int v3), (4, .int v4), (5, .int v5), (6, .int v6)]) (by decide) rfl dX10_nextStep_66 ?_
  refine fr_iload (pc := 68) 0 rfl dX10_nextStep_68 ?_
  refine fr_if_eq (pc := 70) (tgt := 101) (by decide) dX10_nextStep_70 hW (fun hW => ?_) (fun hW => ?_)
  · refine fr_iinc (pc := 101) (lv' := [(5, .int (v5 + 1)), (7, .int t0), (0, .ref a0), (1, .int v1), (2, .int v2), (3, .int v3), (4, .int v4), (6, .int v6)]) (v5 + 1) 6 rfl (congrArg (fun z => v5 + z) (by decide)) (by decide) rfl dX10_nextStep_101 ?_
    refine fr_goto (pc := 104) (tgt := 15) (by decide) dX10_nextStep_104 ?_
    exact fr_sub [2, 3, 4, 5, 6, 0] rfl hW
  · refine fr_aload_n (pc := 73) 1 rfl rfl dX10_nextStep_73 ?_
    refine fr_getR (pc := 74) (T := TX10) (k := 3) kc_X10 (by decide) w_957 dX10_nextStep_74 hW (fun r20 hW => ?_)
    refine fr_iload (pc := 77) 7 rfl dX10_nextStep_77 ?_
    obtain ⟨hrc, hW⟩ := hW
    refine fr_callV_I (pc := 79) (As := [.int v6]) (st := []) wd_X1_at w_1295 ok_X1_at (by decide) rfl (Nat.le_of_ble_eq_true rfl) dX10_nextStep_79 ⟨Nat.le_refl 0, Nat.le_refl 0⟩ kc_X1 hrc hW (fun i22 s21 hW => ?_)
    refine fr_iload (pc := 82) 5 rfl dX10_nextStep_82 ?_
    refine fr_icmp_ge (pc := 84) (tgt := 101) (by decide) dX10_nextStep_84 hW (fun hW => ?_) (fun hW => ?_)
    · refine fr_iinc (pc := 101) (lv' := [(5, .int (v5 + 1)), (7, .int t0), (0, .ref a0), (1, .int v1), (2, .int v2), (3, .int v3), (4, .int v4), (6, .int v6)]) (v5 + 1) 6 rfl (congrArg (fun z => v5 + z) (by decide)) (by decide) rfl dX10_nextStep_101 ?_
      refine fr_goto (pc := 104) (tgt := 15) (by decide) dX10_nextStep_104 ?_
      exact fr_sub [2, 3, 4, 5, 6, 0] rfl hW
    · refine fr_aload_n (pc := 87) 1 rfl rfl dX10_nextStep_87 ?_
      refine fr_getR (pc := 88) (T := TX10) (k := 3) kc_X10 (by decide) w_957 dX10_nextStep_88 hW (fun r25 hW => ?_)
      refine fr_iload (pc := 91) 7 rfl dX10_nextStep_91 ?_
      obtain ⟨hrc, hW⟩ := hW
      refine fr_callV_I (pc := 93) (As := [.int v6]) (st := []) wd_X1_at w_1295 ok_X1_at (by decide) rfl (Nat.le_of_ble_eq_true rfl) dX10_nextStep_93 ⟨Nat.le_refl 0, Nat.le_refl 0⟩ kc_X1 hrc hW (fun i27 s26 hW => ?_)
      refine fr_istore (pc := 96) (lv' := [(4, .int i27), (7, .int t0), (0, .ref a0), (1, .int v1), (2, .int v2), (3, .int v3), (5, .int v5), (6, .int v6)]) (by decide) rfl dX10_nextStep_96 ?_
      refine fr_iload (pc := 98) 6 rfl dX10_nextStep_98 ?_
      refine fr_istore_n (pc := 100) (lv' := [(3, .int v5), (4, .int i27), (7, .int t0), (0, .ref a0), (1, .int v1), (2, .int v2), (5, .int v5), (6, .int v6)]) rfl (by decide) rfl dX10_nextStep_100 ?_
      refine fr_iinc (pc := 101) (lv' := [(5, .int (v5 + 1)), (3, .int v5), (4, .int i27), (7, .int t0), (0, .ref a0), (1, .int v1), (2, .int v2), (6, .int v6)]) (v5 + 1) 6 rfl (congrArg (fun z => v5 + z) (by decide)) (by decide) rfl dX10_nextStep_101 ?_
      refine fr_goto (pc := 104) (tgt := 15) (by decide) dX10_nextStep_104 ?_
      exact fr_sub [4, 5, 6, 1, 2, 0] rfl hW
