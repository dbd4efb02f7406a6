def J_X10_workOutAll_2 (g : GG) (post : Option Value → Hs → Prop) (σ : Hs) (a0 : Nat) (v1 : Int32) : Prop := Fr g M_X10_workOutAll (0, 0, 0, 0) [(0, .ref a0), (1, .int v1)] [] 2 σ post
def J_X10_workOutAll_38 (g : GG) (post : Option Value → Hs → Prop) (σ : Hs) (a0 : Nat) (v1 : Int32) : Prop := Fr g M_X10_workOutAll (0, 0, 0, 0) [(0, .ref a0), (1, .int v1)] [] 38 σ post
def J_X10_workOutAll_80 (g : GG) (post : Option Value → Hs → Prop) (σ : Hs) (a0 : Nat) (v1 : Int32) (a2 : Nat) (v3 : Int32) : Prop := Fr g M_X10_workOutAll (0, 0, 0, 0) [(0, .ref a0), (1, .int v1), (2, .ref a2), (3, .int v3)] [] 80 σ post
set_option maxHeartbeats 4000000 in
set_option maxRecDepth 100000 in
theorem q_X10_workOutAll {g : GG} {σ : Hs} {post : Option Value → Hs → Prop} (r0 : Nat) (hW : J_X10_workOutAll_2 g post σ r0 0 ) : Do g M_X10_workOutAll 0 0 [.ref r0] σ post := by
  refine Do.of (by decide +kernel) (Nat.le_of_ble_eq_true rfl) ?_
  show Fr g M_X10_workOutAll (0, 0, 0, 0) [(0, .ref r0)] [] 0 σ post
  refine fr_iconst (pc := 0) 0 (by decide) dX10_workOutAll_0 ?_
  refine fr_istore_n (pc := 1) (lv' := [(1, .int 0), (0, .ref r0)]) rfl (by decide) rfl dX10_workOutAll_1 ?_
  exact fr_sub [1, 0] rfl hW
set_option maxHeartbeats 4000000 in
set_option maxRecDepth 100000 in
theorem q_X10_workOutAll_2 {g : GG} {σ : Hs} {post : Option Value → Hs → Prop} (a0 : Nat) (v1 : Int32) (hW : (256 ≤ v1 → J_X10_workOutAll_38 g post σ a0 0 ) ∧ (¬ 256 ≤ v1 → FR σ a0 10 3 (fun r1 => FI σ a0 10 8 (fun i2 => FR σ a0 10 0 (fun r3 => Rc σ r3 3 ∧ Do g M_X3_burdenOf 0 0 [.ref r3, .int v1] σ (kI (fun i5 s4 => Rc s4 r1 1 ∧ Do g M_X1_put 0 0 [.ref r1, .int v1, .int (i2 * i5)] s4 (kV (fun s8 => J_X10_workOutAll_2 g post s8 a0 ((v1 + 1)) ))))))))) : J_X10_workOutAll_2 g post σ a0 v1 := by
  show Fr g M_X10_workOutAll (0, 0, 0, 0) [(0, .ref a0), (1, .int v1)] [] 2 σ post
  refine fr_iload_n (pc := 2) 1 rfl rfl dX10_workOutAll_2 ?_
  refine fr_sipush (pc := 3) 256 (by decide) dX10_workOutAll_3 ?_
  refine fr_icmp_ge (pc := 6) (tgt := 36) (by decide) dX10_workOutAll_6 hW (fun hW => ?_) (fun hW => ?_)
  · refine fr_iconst (pc := 36) 0 (by decide) dX10_workOutAll_36 ?_
    refine fr_istore_n (pc := 37) (lv' := [(1, .int 0), (0, .ref a0)]) rfl (by decide) rfl dX10_workOutAll_37 ?_
    exact fr_sub [1, 0] rfl hW
  · refine fr_aload_n (pc := 9) 0 rfl rfl dX10_workOutAll_9 ?_
    refine fr_getR (pc := 10) (T := TX10) (k := 3) kc_X10 (by decide) w_545 dX10_workOutAll_10 hW (fun r1 hW => ?_)
    refine fr_iload_n (pc := 13) 1 rfl rfl dX10_workOutAll_13 ?_
    refine fr_aload_n (pc := 14) 0 rfl rfl dX10_workOutAll_14 ?_
    refine fr_getI (pc := 15) (T := TX10) (k := 8) kc_X10 (by decide) w_800 dX10_workOutAll_15 hW (fun i2 hW => ?_)
    refine fr_aload_n (pc := 18) 0 rfl rfl dX10_workOutAll_18 ?_
    refine fr_getR (pc := 19) (T := TX10) (k := 0) kc_X10 (by decide) w_548 dX10_workOutAll_19 hW (fun r3 hW => ?_)
    refine fr_iload_n (pc := 22) 1 rfl rfl dX10_workOutAll_22 ?_
    obtain ⟨hrc, hW⟩ := hW
    refine fr_callV_I (pc := 23) (As := [.int v1]) (st := [.int i2, .int v1, .ref r1]) wd_X3_burdenOf w_807 ok_X3_burdenOf (by decide) rfl (Nat.le_of_ble_eq_true rfl) dX10_workOutAll_23 ⟨Nat.le_refl 0, Nat.le_refl 0⟩ kc_X3 hrc hW (fun i5 s4 hW => ?_)
    refine fr_imul (pc := 26) dX10_workOutAll_26 ?_
    obtain ⟨hrc, hW⟩ := hW
    refine fr_callV_V (pc := 27) (As := [.int v1, .int (i2 * i5)]) (st := []) wd_X1_put w_815 ok_X1_put (by decide) rfl (Nat.le_of_ble_eq_true rfl) dX10_workOutAll_27 ⟨Nat.le_refl 0, Nat.le_refl 0⟩ kc_X1 hrc hW (fun s8 hW => ?_)
    refine fr_iinc (pc := 30) (lv' := [(1, .int (v1 + 1)), (0, .ref a0)]) (v1 + 1) 1 rfl (congrArg (fun z => v1 + z) (by decide)) (by decide) rfl dX10_workOutAll_30 ?_
    refine fr_goto (pc := 33) (tgt := 2) (by decide) dX10_workOutAll_33 ?_
    exact fr_sub [1, 0] rfl hW
set_option maxHeartbeats 4000000 in
set_option maxRecDepth 100000 in
theorem q_X10_workOutAll_38 {g : GG} {σ : Hs} {post : Option Value → Hs → Prop} (a0 : Nat) (v1 : Int32) (hW : FI σ a0 10 6 (fun i9 => (i9 ≤ v1 → post none σ) ∧ (¬ i9 ≤ v1 → Rc σ a0 10 ∧ Do g M_X10_question 0 0 [.ref a0, .int v1] σ (kA (fun s10 => J_X10_workOutAll_38 g post s10 a0 ((v1 + 1)) ) (fun r13 s10 => FR s10 a0 10 1 (fun r14 => Rc s10 r14 9 ∧ Do g M_X9_list 0 0 [.ref r14, .ref r13] s10 (kV (fun s15 => FR s15 a0 10 1 (fun r16 => FR s15 a0 10 4 (fun r17 => Rc s15 r16 9 ∧ Do g M_X9_fewestOfAll 0 0 [.ref r16, .ref r17] s15 (kV (fun s18 => J_X10_workOutAll_80 g post s18 a0 v1 r13 0 )))))))))))) : J_X10_workOutAll_38 g post σ a0 v1 := by
  show Fr g M_X10_workOutAll (0, 0, 0, 0) [(0, .ref a0), (1, .int v1)] [] 38 σ post
  refine fr_iload_n (pc := 38) 1 rfl rfl dX10_workOutAll_38 ?_
  refine fr_aload_n (pc := 39) 0 rfl rfl dX10_workOutAll_39 ?_
  refine fr_getI (pc := 40) (T := TX10) (k := 6) kc_X10 (by decide) w_714 dX10_workOutAll_40 hW (fun i9 hW => ?_)
  refine fr_icmp_ge (pc := 43) (tgt := 120) (by decide) dX10_workOutAll_43 hW (fun hW => ?_) (fun hW => ?_)
  · exact fr_ret (pc := 120) dX10_workOutAll_120 rfl ⟨Nat.le_refl 0, Nat.le_refl 0⟩ hW
  · refine fr_aload_n (pc := 46) 0 rfl rfl dX10_workOutAll_46 ?_
    refine fr_iload_n (pc := 47) 1 rfl rfl dX10_workOutAll_47 ?_
    obtain ⟨hrc, hW⟩ := hW
    refine fr_callV_A (pc := 48) (As := [.int v1]) (st := []) wd_X10_question w_808 ok_X10_question (by decide) rfl (Nat.le_of_ble_eq_true rfl) dX10_workOutAll_48 ⟨Nat.le_refl 0, Nat.le_refl 0⟩ kc_X10 hrc hW (fun s10 hW => ?_) (fun r13 s10 hW => ?_)
    · refine fr_astore_nN (pc := 51) (lv' := [(2, .null), (0, .ref a0), (1, .int v1)]) rfl (by decide) rfl dX10_workOutAll_51 ?_
      refine fr_aload_nN (pc := 52) 0 rfl rfl dX10_workOutAll_52 ?_
      refine fr_ifnonnullN (pc := 53) dX10_workOutAll_53 ?_
      refine fr_goto (pc := 56) (tgt := 114) (by decide) dX10_workOutAll_56 ?_
      refine fr_iinc (pc := 114) (lv' := [(1, .int (v1 + 1)), (2, .null), (0, .ref a0)]) (v1 + 1) 2 rfl (congrArg (fun z => v1 + z) (by decide)) (by decide) rfl dX10_workOutAll_114 ?_
      refine fr_goto (pc := 117) (tgt := 38) (by decide) dX10_workOutAll_117 ?_
      exact fr_sub [2, 0] rfl hW
    · refine fr_astore_n (pc := 51) (lv' := [(2, .ref r13), (0, .ref a0), (1, .int v1)]) rfl (by decide) rfl dX10_workOutAll_51 ?_
      refine fr_aload_n (pc := 52) 0 rfl rfl dX10_workOutAll_52 ?_
      refine fr_ifnonnull (pc := 53) (tgt := 59) (by decide) dX10_workOutAll_53 ?_
      refine fr_aload_n (pc := 59) 1 rfl rfl dX10_workOutAll_59 ?_
      refine fr_getR (pc := 60) (T := TX10) (k := 1) kc_X10 (by decide) w_549 dX10_workOutAll_60 hW (fun r14 hW => ?_)
      refine fr_aload_n (pc := 63) 0 rfl rfl dX10_workOutAll_63 ?_
      obtain ⟨hrc, hW⟩ := hW
      refine fr_callV_V (pc := 64) (As := [.ref r13]) (st := []) wd_X9_list w_809 ok_X9_list (by decide) rfl (Nat.le_of_ble_eq_true rfl) dX10_workOutAll_64 ⟨Nat.le_refl 0, Nat.le_refl 0⟩ kc_X9 hrc hW (fun s15 hW => ?_)
      refine fr_aload_n (pc := 67) 1 rfl rfl dX10_workOutAll_67 ?_
      refine fr_getR (pc := 68) (T := TX10) (k := 1) kc_X10 (by decide) w_549 dX10_workOutAll_68 hW (fun r16 hW => ?_)
      refine fr_aload_n (pc := 71) 1 rfl rfl dX10_workOutAll_71 ?_
      refine fr_getR (pc := 72) (T := TX10) (k := 4) kc_X10 (by decide) w_546 dX10_workOutAll_72 hW (fun r17 hW => ?_)
      obtain ⟨hrc, hW⟩ := hW
      refine fr_callV_V (pc := 75) (As := [.ref r17]) (st := []) wd_X9_fewestOfAll w_816 ok_X9_fewestOfAll (by decide) rfl (Nat.le_of_ble_eq_true rfl) dX10_workOutAll_75 ⟨Nat.le_refl 0, Nat.le_refl 0⟩ kc_X9 hrc hW (fun s18 hW => ?_)
      refine fr_iconst (pc := 78) 0 (by decide) dX10_workOutAll_78 ?_
      refine fr_istore_n (pc := 79) (lv' := [(3, .int 0), (2, .ref r13), (0, .ref a0), (1, .int v1)]) rfl (by decide) rfl dX10_workOutAll_79 ?_
      exact fr_sub [2, 3, 1, 0] rfl hW
set_option maxHeartbeats 4000000 in
set_option maxRecDepth 100000 in
theorem q_X10_workOutAll_80 {g : GG} {σ : Hs} {post : Option Value → Hs → Prop} (a0 : Nat) (v1 : Int32) (a2 : Nat) (v3 : Int32) (hW : (256 ≤ v3 → J_X10_workOutAll_38 g post σ a0 ((v1 + 1)) ) ∧ (¬ 256 ≤ v3 → FR σ a0 10 3 (fun r19 => Rc σ a2 6 ∧ Do g M_X6_heft 0 0 [.ref a2] σ (kI (fun i21 s20 => FR s20 a0 10 4 (fun r24 => Rc s20 r24 1 ∧ Do g M_X1_at 0 0 [.ref r24, .int v3] s20 (kI (fun i26 s25 => Rc s25 r19 1 ∧ Do g M_X1_raise 0 0 [.ref r19, .int v3, .int (i21 * i26)] s25 (kV (fun s29 => J_X10_workOutAll_80 g post s29 a0 v1 a2 ((v3 + 1)) )))))))))) : J_X10_workOutAll_80 g post σ a0 v1 a2 v3 := by
  show Fr g M_X10_workOutAll (0, 0, 0, 0) [(0, .ref a0), (1, .int v1), (2, .ref a2), (3, .int v3)] [] 80 σ post
  refine fr_iload_n (pc := 80) 3 rfl rfl dX10_workOutAll_80 ?_
  refine fr_sipush (pc := 81) 256 (by decide) dX10_workOutAll_81 ?_
  refine fr_icmp_ge (pc := 84) (tgt := 114) (by decide) dX10_workOutAll_84 hW (fun hW => ?_) (fun hW => ?_)
  · refine fr_iinc (pc := 114) (lv' := [(1, .int (v1 + 1)), (0, .ref a0), (2, .ref a2), (3, .int v3)]) (v1 + 1) 1 rfl (congrArg (fun z => v1 + z) (by decide)) (by decide) rfl dX10_workOutAll_114 ?_
    refine fr_goto (pc := 117) (tgt := 38) (by decide) dX10_workOutAll_117 ?_
    exact fr_sub [1, 0] rfl hW
  · refine fr_aload_n (pc := 87) 0 rfl rfl dX10_workOutAll_87 ?_
    refine fr_getR (pc := 88) (T := TX10) (k := 3) kc_X10 (by decide) w_545 dX10_workOutAll_88 hW (fun r19 hW => ?_)
    refine fr_iload_n (pc := 91) 3 rfl rfl dX10_workOutAll_91 ?_
    refine fr_aload_n (pc := 92) 2 rfl rfl dX10_workOutAll_92 ?_
    obtain ⟨hrc, hW⟩ := hW
    refine fr_callV_I (pc := 93) (As := []) (st := [.int v3, .ref r19]) wd_X6_heft w_810 ok_X6_heft (by decide) rfl (Nat.le_of_ble_eq_true rfl) dX10_workOutAll_93 ⟨Nat.le_refl 0, Nat.le_refl 0⟩ kc_X6 hrc hW (fun i21 s20 hW => ?_)
    refine fr_aload_n (pc := 96) 0 rfl rfl dX10_workOutAll_96 ?_
    refine fr_getR (pc := 97) (T := TX10) (k := 4) kc_X10 (by decide) w_546 dX10_workOutAll_97 hW (fun r24 hW => ?_)
    refine fr_iload_n (pc := 100) 3 rfl rfl dX10_workOutAll_100 ?_
    obtain ⟨hrc, hW⟩ := hW
    refine fr_callV_I (pc := 101) (As := [.int v3]) (st := [.int i21, .int v3, .ref r19]) wd_X1_at w_817 ok_X1_at (by decide) rfl (Nat.le_of_ble_eq_true rfl) dX10_workOutAll_101 ⟨Nat.le_refl 0, Nat.le_refl 0⟩ kc_X1 hrc hW (fun i26 s25 hW => ?_)
    refine fr_imul (pc := 104) dX10_workOutAll_104 ?_
    obtain ⟨hrc, hW⟩ := hW
    refine fr_callV_V (pc := 105) (As := [.int v3, .int (i21 * i26)]) (st := []) wd_X1_raise w_818 ok_X1_raise (by decide) rfl (Nat.le_of_ble_eq_true rfl) dX10_workOutAll_105 ⟨Nat.le_refl 0, Nat.le_refl 0⟩ kc_X1 hrc hW (fun s29 hW => ?_)
    refine fr_iinc (pc := 108) (lv' := [(3, .int (v3 + 1)), (0, .ref a0), (1, .int v1), (2, .ref a2)]) (v3 + 1) 3 rfl (congrArg (fun z => v3 + z) (by decide)) (by decide) rfl dX10_workOutAll_108 ?_
    refine fr_goto (pc := 111) (tgt := 80) (by decide) dX10_workOutAll_111 ?_
    exact fr_sub [1, 2, 3, 0] rfl hW
def J_X3_sizesOf_4 (g : GG) (post : Option Value → Hs → Prop) (σ : Hs) (a0 : Nat) (v1 : Int32) (v2 : Int32) (v3 : Int32) : Prop := Fr g M_X3_sizesOf (0, 0, 0, 0) [(0, .ref a0), (1, .int v1), (2, .int v2), (3, .int v3)] [] 4 σ post
set_option maxHeartbeats 4000000 in
set_option maxRecDepth 100000 in
theorem q_X3_sizesOf {g : GG} {σ : Hs} {post : Option Value → Hs → Prop} (r0 : Nat) (p0 : Int32) (hW : J_X3_sizesOf_4 g post σ r0 p0 0 0 ) : Do g M_X3_sizesOf 0 0 [.ref r0, .int p0] σ post := by
  refine Do.of (by decide +kernel) (Nat.le_of_ble_eq_true rfl) ?_
  show Fr g M_X3_sizesOf (0, 0, 0, 0) [(0, .ref r0), (1, .int p0)] [] 0 σ post
  refine fr_iconst (pc := 0) 0 (by decide) dX3_sizesOf_0 ?_
  refine fr_istore_n (pc := 1) (lv' := [(2, .int 0), (0, .ref r0), (1, .int p0)]) rfl (by decide) rfl dX3_sizesOf_1 ?_
  refine fr_iconst (pc := 2) 0 (by decide) dX3_sizesOf_2 ?_
  refine fr_istore_n (pc := 3) (lv' := [(3, .int 0), (2, .int 0), (0, .ref r0), (1, .int p0)]) rfl (by decide) rfl dX3_sizesOf_3 ?_
  exact fr_sub [2, 3, 1, 0] rfl hW
set_option maxHeartbeats 4000000 in
set_option maxRecDepth 100000 in
theorem q_X3_sizesOf_4 {g : GG} {σ : Hs} {post : Option Value → Hs → Prop} (a0 : Nat) (v1 : Int32) (v2 : Int32) (v3 : Int32) (hW : FI σ a0 3 2 (fun i1 => (i1 ≤ v3 → post (some (.int v2)) σ) ∧ (¬ i1 ≤ v3 → Do g M_X11_has 0 0 [.int v1, .int v3] σ (kI (fun i3 s2 => (i3 = 0 → J_X3_sizesOf_4 g post s2 a0 v1 v2 ((v3 + 1)) ) ∧ (¬ i3 = 0 → Rc s2 a0 3 ∧ Do g M_X3_kept 0 0 [.ref a0, .int v3] s2 (kA (fun s6 => J_X3_sizesOf_4 g post s6 a0 v1 v2 ((v3 + 1)) ) (fun r9 s6 => Rc s6 r9 2 ∧ Do g M_X2_size 0 0 [.ref r9] s6 (kI (fun i11 s10 => J_X3_sizesOf_4 g post s10 a0 v1 ((v2 + i11)) ((v3 + 1)) )))))))))) : J_X3_sizesOf_4 g post σ a0 v1 v2 v3 := by
  show Fr g M_X3_sizesOf (0, 0, 0, 0) [(0, .ref a0), (1, .int v1), (2, .int v2), (3, .int v3)] [] 4 σ post
  refine fr_iload_n (pc := 4) 3 rfl rfl dX3_sizesOf_4 ?_
  refine fr_aload_n (pc := 5) 0 rfl rfl dX3_sizesOf_5 ?_
  refine fr_getI (pc := 6) (T := TX3) (k := 2) kc_X3 (by decide) w_623 dX3_sizesOf_6 hW (fun i1 hW => ?_)
  refine fr_icmp_ge (pc := 9) (tgt := 50) (by decide) dX3_sizesOf_9 hW (fun hW => ?_) (fun hW => ?_)
  · refine fr_iload_n (pc := 50) 2 rfl rfl dX3_sizesOf_50 ?_
    exact fr_iret (pc := 51) dX3_sizesOf_51 rfl ⟨Nat.le_refl 0, Nat.le_refl 0⟩ hW
  · refine fr_iload_n (pc := 12) 1 rfl rfl dX3_sizesOf_12 ?_
    refine fr_iload_n (pc := 13) 3 rfl rfl dX3_sizesOf_13 ?_
    refine fr_callSN_I (pc := 14) (As := [.int v1, .int v3]) (st := []) wd_X11_has ⟨RX11, by decide +kernel⟩ ok_X11_has (by decide) rfl (Nat.le_of_ble_eq_true rfl) dX3_sizesOf_14 ⟨Nat.le_refl 0, Nat.le_refl 0⟩ hW (fun i3 s2 hW => ?_)
    refine fr_if_eq (pc := 17) (tgt := 28) (by decide) dX3_sizesOf_17 hW (fun hW => ?_) (fun hW => ?_)
    · refine fr_null (pc := 28) dX3_sizesOf_28 ?_
      refine fr_astoreN (pc := 29) (lv' := [(4, .null), (0, .ref a0), (1, .int v1), (2, .int v2), (3, .int v3)]) (by decide) rfl dX3_sizesOf_29 ?_
      refine fr_aloadN (pc := 31) 0 rfl dX3_sizesOf_31 ?_
      refine fr_ifnullN (pc := 33) (tgt := 44) (by decide) dX3_sizesOf_33 ?_
      refine fr_iinc (pc := 44) (lv' := [(3, .int (v3 + 1)), (4, .null), (0, .ref a0), (1, .int v1), (2, .int v2)]) (v3 + 1) 4 rfl (congrArg (fun z => v3 + z) (by decide)) (by decide) rfl dX3_sizesOf_44 ?_
      refine fr_goto (pc := 47) (tgt := 4) (by decide) dX3_sizesOf_47 ?_
      exact fr_sub [2, 3, 4, 0] rfl hW
    · refine fr_aload_n (pc := 20) 0 rfl rfl dX3_sizesOf_20 ?_
      refine fr_iload_n (pc := 21) 3 rfl rfl dX3_sizesOf_21 ?_
      obtain ⟨hrc, hW⟩ := hW
      refine fr_callV_A (pc := 22) (As := [.int v3]) (st := []) wd_X3_kept w_624 ok_X3_kept (by decide) rfl (Nat.le_of_ble_eq_true rfl) dX3_sizesOf_22 ⟨Nat.le_refl 0, Nat.le_refl 0⟩ kc_X3 hrc hW (fun s6 hW => ?_) (fun r9 s6 hW => ?_)
      · refine fr_goto (pc := 25) (tgt := 29) (by decide) dX3_sizesOf_25 ?_
        refine fr_astoreN (pc := 29) (lv' := [(4, .null), (0, .ref a0), (1, .int v1), (2, .int v2), (3, .int v3)]) (by decide) rfl dX3_sizesOf_29 ?_
        refine fr_aloadN (pc := 31) 0 rfl dX3_sizesOf_31 ?_
        refine fr_ifnullN (pc := 33) (tgt := 44) (by decide) dX3_sizesOf_33 ?_
        refine fr_iinc (pc := 44) (lv' := [(3, .int (v3 + 1)), (4, .null), (0, .ref a0), (1, .int v1), (2, .int v2)]) (v3 + 1) 4 rfl (congrArg (fun z => v3 + z) (by decide)) (by decide) rfl dX3_sizesOf_44 ?_
        refine fr_goto (pc := 47) (tgt := 4) (by decide) dX3_sizesOf_47 ?_
        exact fr_sub [2, 3, 4, 0] rfl hW
      · refine fr_goto (pc := 25) (tgt := 29) (by decide) dX3_sizesOf_25 ?_
        refine fr_astore (pc := 29) (lv' := [(4, .ref r9), (0, .ref a0), (1, .int v1), (2, .int v2), (3, .int v3)]) (by decide) rfl dX3_sizesOf_29 ?_
        refine fr_aload (pc := 31) 0 rfl dX3_sizesOf_31 ?_
        refine fr_ifnull (pc := 33) dX3_sizesOf_33 ?_
        refine fr_iload_n (pc := 36) 3 rfl rfl dX3_sizesOf_36 ?_
        refine fr_aload (pc := 37) 0 rfl dX3_sizesOf_37 ?_
        obtain ⟨hrc, hW⟩ := hW
        refine fr_callV_I (pc := 39) (As := []) (st := [.int v2]) wd_X2_size w_819 ok_X2_size (by decide) rfl (Nat.le_of_ble_eq_true rfl) dX3_sizesOf_39 ⟨Nat.le_refl 0, Nat.le_refl 0⟩ kc_X2 hrc hW (fun i11 s10 hW => ?_)
        refine fr_iadd (pc := 42) dX3_sizesOf_42 ?_
        refine fr_istore_n (pc := 43) (lv' := [(2, .int (v2 + i11)), (4, .ref r9), (0, .ref a0), (1, .int v1), (3, .int v3)]) rfl (by decide) rfl dX3_sizesOf_43 ?_
        refine fr_iinc (pc := 44) (lv' := [(3, .int (v3 + 1)), (2, .int (v2 + i11)), (4, .ref r9), (0, .ref a0), (1, .int v1)]) (v3 + 1) 4 rfl (congrArg (fun z => v3 + z) (by decide)) (by decide) rfl dX3_sizesOf_44 ?_
        refine fr_goto (pc := 47) (tgt := 4) (by decide) dX3_sizesOf_47 ?_
        exact fr_sub [3, 4, 1, 0] rfl hW
set_option maxHeartbeats 4000000 in
set_option maxRecDepth 100000 in
theorem q_X10_isBetter {g : GG} {σ : Hs} {post : Option Value → Hs → Prop} (r0 : Nat) (p0 : Int32) (p1 : Int32) (hW : FR σ r0 10 3 (fun r1 => Rc σ r1 1 ∧ Do g M_X1_at 0 0 [.ref r1, .int p0] σ (kI (fun i3 s2 => FR s2 r0 10 3 (fun r6 => Rc s2 r6 1 ∧ Do g M_X1_at 0 0 [.ref r6, .int p1] s2 (kI (fun i8 s7 => (i3 = i8 → FR s7 r0 10 0 (fun r11 => Rc s7 r11 3 ∧ Do g M_X3_sizesOf 0 0 [.ref r11, .int p0] s7 (kI (fun i13 s12 => FR s12 r0 10 0 (fun r16 => Rc s12 r16 3 ∧ Do g M_X3_sizesOf 0 0 [.ref r16, .int p1] s12 (kI (fun i18 s17 => (i18 ≤ i13 → post (some (.int 0)) s17) ∧ (¬ i18 ≤ i13 → post (some (.int 1)) s17)))))))) ∧ (¬ i3 = i8 → FR s7 r0 10 3 (fun r21 => Rc s7 r21 1 ∧ Do g M_X1_at 0 0 [.ref r21, .int p0] s7 (kI (fun i23 s22 => FR s22 r0 10 3 (fun r26 => Rc s22 r26 1 ∧ Do g M_X1_at 0 0 [.ref r26, .int p1] s22 (kI (fun i28 s27 => (i28 ≤ i23 → post (some (.int 0)) s27) ∧ (¬ i28 ≤ i23 → post (some (.int 1)) s27))))))))))))))) : Do g M_X10_isBetter 0 0 [.ref r0, .int p0, .int p1] σ post := by
  refine Do.of (by decide +kernel) (Nat.le_of_ble_eq_true rfl) ?_
  show Fr g M_X10_isBetter (0, 0, 0, 0) [(0, .ref r0), (1, .int p0), (2, .int p1)] [] 0 σ post
  refine fr_aload_n (pc := 0) 0 rfl rfl dX10_isBetter_0 ?_
  refine fr_getR (pc := 1) (T := TX10) (k := 3) kc_X10 (by decide) w_545 dX10_isBetter_1 hW (fun r1 hW => ?_)
  refine fr_iload_n (pc := 4) 1 rfl rfl dX10_isBetter_4 ?_
  obtain ⟨hrc, hW⟩ := hW
  refine fr_callV_I (pc := 5) (As := [.int p0]) (st := []) wd_X1_at w_817 ok_X1_at (by decide) rfl (Nat.le_of_ble_eq_true rfl) dX10_isBetter_5 ⟨Nat.le_refl 0, Nat.le_refl 0⟩ kc_X1 hrc hW (fun i3 s2 hW => ?_)
  refine fr_aload_n (pc := 8) 0 rfl rfl dX10_isBetter_8 ?_
  refine fr_getR (pc := 9) (T := TX10) (k := 3) kc_X10 (by decide) w_545 dX10_isBetter_9 hW (fun r6 hW => ?_)
  refine fr_iload_n (pc := 12) 2 rfl rfl dX10_isBetter_12 ?_
  obtain ⟨hrc, hW⟩ := hW
  refine fr_callV_I (pc := 13) (As := [.int p1]) (st := [.int i3]) wd_X1_at w_817 ok_X1_at (by decide) rfl (Nat.le_of_ble_eq_true rfl) dX10_isBetter_13 ⟨Nat.le_refl 0, Nat.le_refl 0⟩ kc_X1 hrc hW (fun i8 s7 hW => ?_)
  refine fr_icmp_eq (pc := 16) (tgt := 44) (by decide) dX10_isBetter_16 hW (fun hW => ?_) (fun hW => ?_)
  · refine fr_aload_n (pc := 44) 0 rfl rfl dX10_isBetter_44 ?_
    refine fr_getR (pc := 45) (T := TX10) (k := 0) kc_X10 (by decide) w_548 dX10_isBetter_45 hW (fun r11 hW => ?_)
    refine fr_iload_n (pc := 48) 1 rfl rfl dX10_isBetter_48 ?_
    obtain ⟨hrc, hW⟩ := hW
    refine fr_callV_I (pc := 49) (As := [.int p0]) (st := []) wd_X3_sizesOf w_820 ok_X3_sizesOf (by decide) rfl (Nat.le_of_ble_eq_true rfl) dX10_isBetter_49 ⟨Nat.le_refl 0, Nat.le_refl 0⟩ kc_X3 hrc hW (fun i13 s12 hW => ?_)
    refine fr_aload_n (pc := 52) 0 rfl rfl dX10_isBetter_52 ?_
    refine fr_getR (pc := 53) (T := TX10) (k := 0) kc_X10 (by decide) w_548 dX10_isBetter_53 hW (fun r16 hW => ?_)
    refine fr_iload_n (pc := 56) 2 rfl rfl dX10_isBetter_56 ?_
    obtain ⟨hrc, hW⟩ := hW
    refine fr_callV_I (pc := 57) (As := [.int p1]) (st := [.int i13]) wd_X3_sizesOf w_820 ok_X3_sizesOf (by decide) rfl (Nat.le_of_ble_eq_true rfl) dX10_isBetter_57 ⟨Nat.le_refl 0, Nat.le_refl 0⟩ kc_X3 hrc hW (fun i18 s17 hW => ?_)
    refine fr_icmp_ge (pc := 60) (tgt := 67) (by decide) dX10_isBetter_60 hW (fun hW => ?_) (fun hW => ?_)
    · refine fr_iconst (pc := 67) 0 (by decide) dX10_isBetter_67 ?_
      exact fr_zret (pc := 68) dX10_isBetter_68 rfl ⟨Nat.le_refl 0, Nat.le_refl 0⟩ ⟨rfl, hW⟩
    · refine fr_iconst (pc := 63) 1 (by decide) dX10_isBetter_63 ?_
      refine fr_goto (pc := 64) (tgt := 68) (by decide) dX10_isBetter_64 ?_
      exact fr_zret (pc := 68) dX10_isBetter_68 rfl ⟨Nat.le_refl 0, Nat.le_refl 0⟩ ⟨rfl, hW⟩
  · refine fr_aload_n (pc := 19) 0 rfl rfl dX10_isBetter_19 ?_
    refine fr_getR (pc := 20) (T := TX10) (k := 3) kc_X10 (by decide) w_545 dX10_isBetter_20 hW (fun r21 hW => ?_)
    refine fr_iload_n (pc := 23) 1 rfl rfl dX10_isBetter_23 ?_
    obtain ⟨hrc, hW⟩ := hW
    refine fr_callV_I (pc := 24) (As := [.int p0]) (st := []) wd_X1_at w_817 ok_X1_at (by decide) rfl (Nat.le_of_ble_eq_true rfl) dX10_isBetter_24 ⟨Nat.le_refl 0, Nat.le_refl 0⟩ kc_X1 hrc hW (fun i23 s22 hW => ?_)
    refine fr_aload_n (pc := 27) 0 rfl rfl dX10_isBetter_27 ?_
    refine fr_getR (pc := 28) (T := TX10) (k := 3) kc_X10 (by decide) w_545 dX10_isBetter_28 hW (fun r26 hW => ?_)
    refine fr_iload_n (pc := 31) 2 rfl rfl dX10_isBetter_31 ?_
    obtain ⟨hrc, hW⟩ := hW
    refine fr_callV_I (pc := 32) (As := [.int p1]) (st := [.int i23]) wd_X1_at w_817 ok_X1_at (by decide) rfl (Nat.le_of_ble_eq_true rfl) dX10_isBetter_32 ⟨Nat.le_refl 0, Nat.le_refl 0⟩ kc_X1 hrc hW (fun i28 s27 hW => ?_)
    refine fr_icmp_ge (pc := 35) (tgt := 42) (by decide) dX10_isBetter_35 hW (fun hW => ?_) (fun hW => ?_)
    · refine fr_iconst (pc := 42) 0 (by decide) dX10_isBetter_42 ?_
      exact fr_zret (pc := 43) dX10_isBetter_43 rfl ⟨Nat.le_refl 0, Nat.le_refl 0⟩ ⟨rfl, hW⟩
    · refine fr_iconst (pc := 38) 1 (by decide) dX10_isBetter_38 ?_
      refine fr_goto (pc := 39) (tgt := 43) (by decide) dX10_isBetter_39 ?_
      exact fr_zret (pc := 43) dX10_isBetter_43 rfl ⟨Nat.le_refl 0, Nat.le_refl 0⟩ ⟨rfl, hW⟩
def J_X10_bestSet_17 (g : GG) (post : Option Value → Hs → Prop) (σ : Hs) (a0 : Nat) (v1 : Int32) (v2 : Int32) (v3 : Int32) (v4 : Int32) : Prop := Fr g M_X10_bestSet (0, 0, 0, 0) [(0, .ref a0), (1, .int v1), (2, .int v2), (3, .int v3), (4, .int v4)] [] 17 σ post
set_option maxHeartbeats 4000000 in
set_option maxRecDepth 100000 in
theorem q_X10_bestSet {g : GG} {σ : Hs} {post : Option Value → Hs → Prop} (r0 : Nat) (p0 : Int32) (hW : Rc σ r0 10 ∧ Do g M_X10_workOutAll 0 0 [.ref r0] σ (kV (fun s1 => FR s1 r0 10 0 (fun r2 => Rc s1 r2 3 ∧ Do g M_X3_keptSet 0 0 [.ref r2] s1 (kI (fun i4 s3 => J_X10_bestSet_17 g post s3 r0 p0 i4 0 1 )))))) : Do g M_X10_bestSet 0 0 [.ref r0, .int p0] σ post := by
  refine Do.of (by decide +kernel) (Nat.le_of_ble_eq_true rfl) ?_
  show Fr g M_X10_bestSet (0, 0, 0, 0) [(0, .ref r0), (1, .int p0)] [] 0 σ post
  refine fr_aload_n (pc := 0) 0 rfl rfl dX10_bestSet_0 ?_
  obtain ⟨hrc, hW⟩ := hW
  refine fr_callV_V (pc := 1) (As := []) (st := []) wd_X10_workOutAll w_821 ok_X10_workOutAll (by decide) rfl (Nat.le_of_ble_eq_true rfl) dX10_bestSet_1 ⟨Nat.le_refl 0, Nat.le_refl 0⟩ kc_X10 hrc hW (fun s1 hW => ?_)
  refine fr_aload_n (pc := 4) 0 rfl rfl dX10_bestSet_4 ?_
  refine fr_getR (pc := 5) (T := TX10) (k := 0) kc_X10 (by decide) w_548 dX10_bestSet_5 hW (fun r2 hW => ?_)
  obtain ⟨hrc, hW⟩ := hW
  refine fr_callV_I (pc := 8) (As := []) (st := []) wd_X3_keptSet w_822 ok_X3_keptSet (by decide) rfl (Nat.le_of_ble_eq_true rfl) dX10_bestSet_8 ⟨Nat.le_refl 0, Nat.le_refl 0⟩ kc_X3 hrc hW (fun i4 s3 hW => ?_)
  refine fr_istore_n (pc := 11) (lv' := [(2, .int i4), (0, .ref r0), (1, .int p0)]) rfl (by decide) rfl dX10_bestSet_11 ?_
  refine fr_iconst (pc := 12) 0 (by decide) dX10_bestSet_12 ?_
  refine fr_istore_n (pc := 13) (lv' := [(3, .int 0), (2, .int i4), (0, .ref r0), (1, .int p0)]) rfl (by decide) rfl dX10_bestSet_13 ?_
  refine fr_iconst (pc := 14) 1 (by decide) dX10_bestSet_14 ?_
  refine fr_istore (pc := 15) (lv' := [(4, .int 1), (3, .int 0), (2, .int i4), (0, .ref r0), (1, .int p0)]) (by decide) rfl dX10_bestSet_15 ?_
  exact fr_sub [3, 4, 2, 1, 0] rfl hW
set_option maxHeartbeats 4000000 in
set_option maxRecDepth 100000 in
theorem q_X10_bestSet_17 {g : GG} {σ : Hs} {post : Option Value → Hs → Prop} (a0 : Nat) (v1 : Int32) (v2 : Int32) (v3 : Int32) (v4 : Int32) (hW : (256 ≤ v4 → post (some (.int v3)) σ) ∧ (¬ 256 ≤ v4 → (¬ (v4 &&& (v2 ^^^ (-1))) = 0 → J_X10_bestSet_17 g post σ a0 v1 v2 v3 ((v4 + 1)) ) ∧ ((v4 &&& (v2 ^^^ (-1))) = 0 → FR σ a0 10 0 (fun r7 => Rc σ r7 3 ∧ Do g M_X3_sizesOf 0 0 [.ref r7, .int v4] σ (kI (fun i9 s8 => (v1 < i9 → J_X10_bestSet_17 g post s8 a0 v1 v2 v3 ((v4 + 1)) ) ∧ (¬ v1 < i9 → Rc s8 a0 10 ∧ Do g M_X10_isBetter 0 0 [.ref a0, .int v4, .int v3] s8 (kI (fun i13 s12 => (i13 = 0 → J_X10_bestSet_17 g post s12 a0 v1 v2 v3 ((v4 + 1)) ) ∧ (¬ i13 = 0 → J_X10_bestSet_17 g post s12 a0 v1 v2 v4 ((v4 + 1)) )))))))))) : J_X10_bestSet_17 g post σ a0 v1 v2 v3 v4 := by
  show Fr g M_X10_bestSet (0, 0, 0, 0) [(0, .ref a0), (1, .int v1), (2, .int v2), (3, .int v3), (4, .int v4)] [] 17 σ post
  refine fr_iload (pc := 17) 4 rfl dX10_bestSet_17 ?_
  refine fr_sipush (pc := 19) 256 (by decide) dX10_bestSet_19 ?_
  refine fr_icmp_ge (pc := 22) (tgt := 66) (by decide) dX10_bestSet_22 hW (fun hW => ?_) (fun hW => ?_)
  · refine fr_iload_n (pc := 66) 3 rfl rfl dX10_bestSet_66 ?_
    exact fr_iret (pc := 67) dX10_bestSet_67 rfl ⟨Nat.le_refl 0, Nat.le_refl 0⟩ hW
  · refine fr_iload (pc := 25) 4 rfl dX10_bestSet_25 ?_
    refine fr_iload_n (pc := 27) 2 rfl rfl dX10_bestSet_27 ?_
    refine fr_iconst (pc := 28) (-1) (by decide) dX10_bestSet_28 ?_
    refine fr_ixor (pc := 29) dX10_bestSet_29 ?_
    refine fr_iand (pc := 30) dX10_bestSet_30 ?_
    refine fr_if_ne (pc := 31) (tgt := 60) (by decide) dX10_bestSet_31 hW (fun hW => ?_) (fun hW => ?_)
    · refine fr_iinc (pc := 60) (lv' := [(4, .int (v4 + 1)), (0, .ref a0), (1, .int v1), (2, .int v2), (3, .int v3)]) (v4 + 1) 4 rfl (congrArg (fun z => v4 + z) (by decide)) (by decide) rfl dX10_bestSet_60 ?_
      refine fr_goto (pc := 63) (tgt := 17) (by decide) dX10_bestSet_63 ?_
      exact fr_sub [1, 2, 3, 4, 0] rfl hW
    · refine fr_aload_n (pc := 34) 0 rfl rfl dX10_bestSet_34 ?_
      refine fr_getR (pc := 35) (T := TX10) (k := 0) kc_X10 (by decide) w_548 dX10_bestSet_35 hW (fun r7 hW => ?_)
      refine fr_iload (pc := 38) 4 rfl dX10_bestSet_38 ?_
      obtain ⟨hrc, hW⟩ := hW
      refine fr_callV_I (pc := 40) (As := [.int v4]) (st := []) wd_X3_sizesOf w_820 ok_X3_sizesOf (by decide) rfl (Nat.le_of_ble_eq_true rfl) dX10_bestSet_40 ⟨Nat.le_refl 0, Nat.le_refl 0⟩ kc_X3 hrc hW (fun i9 s8 hW => ?_)
      refine fr_iload_n (pc := 43) 1 rfl rfl dX10_bestSet_43 ?_
      refine fr_icmp_gt (pc := 44) (tgt := 60) (by decide) dX10_bestSet_44 hW (fun hW => ?_) (fun hW => ?_)
      · refine fr_iinc (pc := 60) (lv' := [(4, .int (v4 + 1)), (0, .ref a0), (1, .int v1), (2, .int v2), (3, .int v3)]) (v4 + 1) 4 rfl (congrArg (fun z => v4 + z) (by decide)) (by decide) rfl dX10_bestSet_60 ?_
        refine fr_goto (pc := 63) (tgt := 17) (by decide) dX10_bestSet_63 ?_
        exact fr_sub [1, 2, 3, 4, 0] rfl hW
      · refine fr_aload_n (pc := 47) 0 rfl rfl dX10_bestSet_47 ?_
        refine fr_iload (pc := 48) 4 rfl dX10_bestSet_48 ?_
        refine fr_iload_n (pc := 50) 3 rfl rfl dX10_bestSet_50 ?_
        obtain ⟨hrc, hW⟩ := hW
        refine fr_callV_I (pc := 51) (As := [.int v4, .int v3]) (st := []) wd_X10_isBetter w_823 ok_X10_isBetter (by decide) rfl (Nat.le_of_ble_eq_true rfl) dX10_bestSet_51 ⟨Nat.le_refl 0, Nat.le_refl 0⟩ kc_X10 hrc hW (fun i13 s12 hW => ?_)
        refine fr_if_eq (pc := 54) (tgt := 60) (by decide) dX10_bestSet_54 hW (fun hW => ?_) (fun hW => ?_)
        · refine fr_iinc (pc := 60) (lv' := [(4, .int (v4 + 1)), (0, .ref a0), (1, .int v1), (2, .int v2), (3, .int v3)]) (v4 + 1) 4 rfl (congrArg (fun z => v4 + z) (by decide)) (by decide) rfl dX10_bestSet_60 ?_
          refine fr_goto (pc := 63) (tgt := 17) (by decide) dX10_bestSet_63 ?_
          exact fr_sub [1, 2, 3, 4, 0] rfl hW
        · refine fr_iload (pc := 57) 4 rfl dX10_bestSet_57 ?_
          refine fr_istore_n (pc := 59) (lv' := [(3, .int v4), (0, .ref a0), (1, .int v1), (2, .int v2), (4, .int v4)]) rfl (by decide) rfl dX10_bestSet_59 ?_
          refine fr_iinc (pc := 60) (lv' := [(4, .int (v4 + 1)), (3, .int v4), (0, .ref a0), (1, .int v1), (2, .int v2)]) (v4 + 1) 4 rfl (congrArg (fun z => v4 + z) (by decide)) (by decide) rfl dX10_bestSet_60 ?_
          refine fr_goto (pc := 63) (tgt := 17) (by decide) dX10_bestSet_63 ?_
          exact fr_sub [2, 3, 4, 1, 0] rfl hW
set_option maxHeartbeats 4000000 in
set_option maxRecDepth 100000 in
theorem q_X10_workedOut {g : GG} {σ : Hs} {post : Option Value → Hs → Prop} (r0 : Nat) (p0 : Int32) (hW : FR σ r0 10 3 (fun r1 => Rc σ r1 1 ∧ Do g M_X1_at 0 0 [.ref r1, .int p0] σ (kI (fun i3 s2 => post (some (.int i3)) s2)))) : Do g M_X10_workedOut 0 0 [.ref r0, .int p0] σ post := by
  refine Do.of (by decide +kernel) (Nat.le_of_ble_eq_true rfl) ?_
  show Fr g M_X10_workedOut (0, 0, 0, 0) [(0, .ref r0), (1, .int p0)] [] 0 σ post
  refine fr_aload_n (pc := 0) 0 rfl rfl dX10_workedOut_0 ?_
  refine fr_getR (pc := 1) (T := TX10) (k := 3) kc_X10 (by decide) w_545 dX10_workedOut_1 hW (fun r1 hW => ?_)
  refine fr_iload_n (pc := 4) 1 rfl rfl dX10_workedOut_4 ?_
  obtain ⟨hrc, hW⟩ := hW
  refine fr_callV_I (pc := 5) (As := [.int p0]) (st := []) wd_X1_at w_817 ok_X1_at (by decide) rfl (Nat.le_of_ble_eq_true rfl) dX10_workedOut_5 ⟨Nat.le_refl 0, Nat.le_refl 0⟩ kc_X1 hrc hW (fun i3 s2 hW => ?_)
  exact fr_iret (pc := 8) dX10_workedOut_8 rfl ⟨Nat.le_refl 0, Nat.le_refl 0⟩ hW
set_option maxHeartbeats 4000000 in
set_option maxRecDepth 100000 in
theorem q_X11_choose {g : GG} {σ : Hs} {post : Option Value → Hs → Prop} (r0 : Nat) (p0 : Int32) (p1 : Int32) (hW : Do g M_X11_isSpace 0 0 [.int p0] σ (kI (fun i2 s1 => (i2 = 0 → post (some (.int (-102))) s1) ∧ (¬ i2 = 0 → (p1 < 0 → post (some (.int (-102))) s1) ∧ (¬ p1 < 0 → (p1 ≤ 2 → FI s1 r0 11 7 (fun i5 => (i5 < 20 → FI s1 r0 11 7 (fun i6 => PF s1 r0 11 7 (.int (i6 + 1)) (fun s7 => FR s7 r0 11 3 (fun r8 => Rc s7 r8 10 ∧ Do g M_X10_bestSet 0 0 [.ref r8, .int p0] s7 (kI (fun i10 s9 => (¬ p1 = 0 → (¬ p1 = 1 → FR s9 r0 11 1 (fun r13 => Rc s9 r13 3 ∧ Do g M_X3_sizesOf 0 0 [.ref r13, .int i10] s9 (kI (fun i15 s14 => post (some (.int i15)) s14)))) ∧ (p1 = 1 → FR s9 r0 11 3 (fun r18 => Rc s9 r18 10 ∧ Do g M_X10_workedOut 0 0 [.ref r18, .int i10] s9 (kI (fun i20 s19 => post (some (.int i20)) s19))))) ∧ (p1 = 0 → post (some (.int i10)) s9))))))) ∧ (¬ i5 < 20 → post (some (.int (-103))) s1))) ∧ (¬ p1 ≤ 2 → post (some (.int (-102))) s1)))))) : Do g M_X11_choose 0 0 [.ref r0, .int p0, .int p1] σ post := by
  refine Do.of (by decide +kernel) (Nat.le_of_ble_eq_true rfl) ?_
  show Fr g M_X11_choose (0, 0, 0, 0) [(0, .ref r0), (1, .int p0), (2, .int p1)] [] 0 σ post
  refine fr_iload_n (pc := 0) 1 rfl rfl dX11_choose_0 ?_
  refine fr_callS_I (pc := 1) (As := [.int p0]) (st := []) wd_X11_isSpace w_824 ok_X11_isSpace (by decide) rfl (Nat.le_of_ble_eq_true rfl) dX11_choose_1 ⟨Nat.le_refl 0, Nat.le_refl 0⟩ hW (fun i2 s1 hW => ?_)
  refine fr_if_eq (pc := 4) (tgt := 16) (by decide) dX11_choose_4 hW (fun hW => ?_) (fun hW => ?_)
  · refine fr_bipush (pc := 16) (-102) (by decide) dX11_choose_16 ?_
    exact fr_iret (pc := 18) dX11_choose_18 rfl ⟨Nat.le_refl 0, Nat.le_refl 0⟩ hW
  · refine fr_iload_n (pc := 7) 2 rfl rfl dX11_choose_7 ?_
    refine fr_if_lt (pc := 8) (tgt := 16) (by decide) dX11_choose_8 hW (fun hW => ?_) (fun hW => ?_)
    · refine fr_bipush (pc := 16) (-102) (by decide) dX11_choose_16 ?_
      exact fr_iret (pc := 18) dX11_choose_18 rfl ⟨Nat.le_refl 0, Nat.le_refl 0⟩ hW
    · refine fr_iload_n (pc := 11) 2 rfl rfl dX11_choose_11 ?_
      refine fr_iconst (pc := 12) 2 (by decide) dX11_choose_12 ?_
      refine fr_icmp_le (pc := 13) (tgt := 19) (by decide) dX11_choose_13 hW (fun hW => ?_) (fun hW => ?_)
      · refine fr_aload_n (pc := 19) 0 rfl rfl dX11_choose_19 ?_
        refine fr_getI (pc := 20) (T := TX11) (k := 7) kc_X11 (by decide) w_716 dX11_choose_20 hW (fun i5 hW => ?_)
        refine fr_bipush (pc := 23) 20 (by decide) dX11_choose_23 ?_
        refine fr_icmp_lt (pc := 25) (tgt := 31) (by decide) dX11_choose_25 hW (fun hW => ?_) (fun hW => ?_)
        · refine fr_aload_n (pc := 31) 0 rfl rfl dX11_choose_31 ?_
          refine fr_dup (pc := 32) rfl dX11_choose_32 ?_
          refine fr_getI (pc := 33) (T := TX11) (k := 7) kc_X11 (by decide) w_716 dX11_choose_33 hW (fun i6 hW => ?_)
          refine fr_iconst (pc := 36) 1 (by decide) dX11_choose_36 ?_
          refine fr_iadd (pc := 37) dX11_choose_37 ?_
          refine fr_put (pc := 38) (T := TX11) (k := 7) kc_X11 (by decide) w_716 rfl rfl rfl dX11_choose_38 hW (fun s7 hW => ?_)
          refine fr_aload_n (pc := 41) 0 rfl rfl dX11_choose_41 ?_
          refine fr_getR (pc := 42) (T := TX11) (k := 3) kc_X11 (by decide) w_583 dX11_choose_42 hW (fun r8 hW => ?_)
          refine fr_iload_n (pc := 45) 1 rfl rfl dX11_choose_45 ?_
          obtain ⟨hrc, hW⟩ := hW
          refine fr_callV_I (pc := 46) (As := [.int p0]) (st := []) wd_X10_bestSet w_825 ok_X10_bestSet (by decide) rfl (Nat.le_of_ble_eq_true rfl) dX11_choose_46 ⟨Nat.le_refl 0, Nat.le_refl 0⟩ kc_X10 hrc hW (fun i10 s9 hW => ?_)
          refine fr_istore_n (pc := 49) (lv' := [(3, .int i10), (0, .ref r0), (1, .int p0), (2, .int p1)]) rfl (by decide) rfl dX11_choose_49 ?_
          refine fr_iload_n (pc := 50) 3 rfl rfl dX11_choose_50 ?_
          refine fr_if_ne (pc := 51) (tgt := 56) (by decide) dX11_choose_51 hW (fun hW => ?_) (fun hW => ?_)
          · refine fr_iload_n (pc := 56) 3 rfl rfl dX11_choose_56 ?_
            refine fr_iconst (pc := 57) 1 (by decide) dX11_choose_57 ?_
            refine fr_icmp_ne (pc := 58) (tgt := 72) (by decide) dX11_choose_58 hW (fun hW => ?_) (fun hW => ?_)
            · refine fr_aload_n (pc := 72) 1 rfl rfl dX11_choose_72 ?_
              refine fr_getR (pc := 73) (T := TX11) (k := 1) kc_X11 (by decide) w_579 dX11_choose_73 hW (fun r13 hW => ?_)
              refine fr_iload_n (pc := 76) 0 rfl rfl dX11_choose_76 ?_
              obtain ⟨hrc, hW⟩ := hW
              refine fr_callV_I (pc := 77) (As := [.int i10]) (st := []) wd_X3_sizesOf w_827 ok_X3_sizesOf (by decide) rfl (Nat.le_of_ble_eq_true rfl) dX11_choose_77 ⟨Nat.le_refl 0, Nat.le_refl 0⟩ kc_X3 hrc hW (fun i15 s14 hW => ?_)
              exact fr_iret (pc := 80) dX11_choose_80 rfl ⟨Nat.le_refl 0, Nat.le_refl 0⟩ hW
            · refine fr_aload_n (pc := 61) 1 rfl rfl dX11_choose_61 ?_
              refine fr_getR (pc := 62) (T := TX11) (k := 3) kc_X11 (by decide) w_583 dX11_choose_62 hW (fun r18 hW => ?_)
              refine fr_iload_n (pc := 65) 0 rfl rfl dX11_choose_65 ?_
              obtain ⟨hrc, hW⟩ := hW
              refine fr_callV_I (pc := 66) (As := [.int i10]) (st := []) wd_X10_workedOut w_826 ok_X10_workedOut (by decide) rfl (Nat.le_of_ble_eq_true rfl) dX11_choose_66 ⟨Nat.le_refl 0, Nat.le_refl 0⟩ kc_X10 hrc hW (fun i20 s19 hW => ?_)
              refine fr_goto (pc := 69) (tgt := 80) (by decide) dX11_choose_69 ?_
              exact fr_iret (pc := 80) dX11_choose_80 rfl ⟨Nat.le_refl 0, Nat.le_refl 0⟩ hW
          · refine fr_iload_n (pc := 54) 0 rfl rfl dX11_choose_54 ?_
            exact fr_iret (pc := 55) dX11_choose_55 rfl ⟨Nat.le_refl 0, Nat.le_refl 0⟩ hW
        · refine fr_bipush (pc := 28) (-103) (by decide) dX11_choose_28 ?_
          exact fr_iret (pc := 30) dX11_choose_30 rfl ⟨Nat.le_refl 0, Nat.le_refl 0⟩ hW
      · refine fr_bipush (pc := 16) (-102) (by decide) dX11_choose_16 ?_
        exact fr_iret (pc := 18) dX11_choose_18 rfl ⟨Nat.le_refl 0, Nat.le_refl 0⟩ hW
def J_X10_nextStep_15 (g : GG) (post : Option Value → Hs → Prop) (σ : Hs) (a0 : Nat) (v1 : Int32) (v2 : Int32) (v3 : Int32) (v4 : Int32) (v5 : Int32) : Prop := Fr g M_X10_nextStep (0, 0, 0, 0) [(0, .ref a0), (1, .int v1), (2, .int v2), (3, .int v3), (4, .int v4), (5, .int v5)] [] 15 σ post
def J_X10_nextStep_66 (g : GG) (post : Option Value → Hs → Prop) (σ : Hs) (a0 : Nat) (v1 : Int32) (v2 : Int32) (v3 : Int32) (v4 : Int32) (v5 : Int32) (v6 : Int32) (t0 : Int32) : Prop := Fr g M_X10_nextStep (0, 0, 0, 0) [(0, .ref a0), (1, .int v1), (2, .int v2), (3, .int v3), (4, .int v4), (5, .int v5), (6, .int v6)] [.int t0] 66 σ post
set_option maxHeartbeats 4000000 in
set_option maxRecDepth 100000 in
theorem q_X10_nextStep {g : GG} {σ : Hs} {post : Option Value → Hs → Prop} (r0 : Nat) (p0 : Int32) (p1 : Int32) (hW : FR σ r0 10 3 (fun r1 => Rc σ r1 1 ∧ Do g M_X1_at 0 0 [.ref r1, .int p0] σ (kI (fun i3 s2 => J_X10_nextStep_15 g post s2 r0 p0 p1 (-1) i3 0 )))) : Do g M_X10_nextStep 0 0 [.ref r0, .int p0, .int p1] σ post := by
  refine Do.of (by decide +kernel) (Nat.le_of_ble_eq_true rfl) ?_
  show Fr g M_X10_nextStep (0, 0, 0, 0) [(0, .ref r0), (1, .int p0), (2, .int p1)] [] 0 σ post
  refine fr_iconst (pc := 0) (-1) (by decide) dX10_nextStep_0 ?_
  refine fr_istore_n (pc := 1) (lv' := [(3, .int (-1)), (0, .ref r0), (1, .int p0), (2, .int p1)]) rfl (by decide) rfl dX10_nextStep_1 ?_
  refine fr_aload_n (pc := 2) 1 rfl rfl dX10_nextStep_2 ?_
  refine fr_getR (pc := 3) (T := TX10) (k := 3) kc_X10 (by decide) w_545 dX10_nextStep_3 hW (fun r1 hW => ?_)
  refine fr_iload_n (pc := 6) 2 rfl rfl dX10_nextStep_6 ?_
  obtain ⟨hrc, hW⟩ := hW
  refine fr_callV_I (pc := 7) (As := [.int p0]) (st := []) wd_X1_at w_817 ok_X1_at (by decide) rfl (Nat.le_of_ble_eq_true rfl) dX10_nextStep_7 ⟨Nat.le_refl 0, Nat.le_refl 0⟩ kc_X1 hrc hW (fun i3 s2 hW => ?_)
  refine fr_istore (pc := 10) (lv' := [(4, .int i3), (3, .int (-1)), (0, .ref r0), (1, .int p0), (2, .int p1)]) (by decide) rfl dX10_nextStep_10 ?_
  refine fr_iconst (pc := 12) 0 (by decide) dX10_nextStep_12 ?_
  refine fr_istore (pc := 13) (lv' := [(5, .int 0), (4, .int i3), (3, .int (-1)), (0, .ref r0), (1, .int p0), (2, .int p1)]) (by decide) rfl dX10_nextStep_13 ?_
  exact fr_sub [3, 4, 5, 2, 1, 0] rfl hW
set_option maxHeartbeats 4000000 in
set_option maxRecDepth 100000 in
theorem q_X10_nextStep_15 {g : GG} {σ : Hs} {post : Option Value → Hs → Prop} (a0 : Nat) (v1 : Int32) (v2 : Int32) (v3 : Int32) (v4 : Int32) (v5 : Int32) (hW : (8 ≤ v5 → post (some (.int v3)) σ) ∧ (¬ 8 ≤ v5 → Do g M_X11_with 0 0 [.int v1, .int v5] σ (kI (fun i7 s6 => (i7 = v1 → J_X10_nextStep_66 g post s6 a0 v1 v2 v3 v4 v5 i7 0) ∧ (¬ i7 = v1 → FR s6 a0 10 0 (fun r10 => Rc s6 r10 3 ∧ Do g M_X3_kept 0 0 [.ref r10, .int v5] s6 (kA (fun s11 => J_X10_nextStep_66 g post s11 a0 v1 v2 v3 v4 v5 i7 0) (fun r14 s11 => FR s11 a0 10 0 (fun r15 => Rc s11 r15 3 ∧ Do g M_X3_sizesOf 0 0 [.ref r15, .int i7] s11 (kI (fun i17 s16 => (v2 < i17 → J_X10_nextStep_66 g post s16 a0 v1 v2 v3 v4 v5 i7 0) ∧ (¬ v2 < i17 → J_X10_nextStep_66 g post s16 a0 v1 v2 v3 v4 v5 i7 1)))))))))))) : J_X10_nextStep_15 g post σ a0 v1 v2 v3 v4 v5 := by
  show Fr g M_X10_nextStep (0, 0, 0, 0) [(0, .ref a0), (1, .int v1), (2, .int v2), (3, .int v3), (4, .int v4), (5, .int v5)] [] 15 σ post
  refine fr_iload (pc := 15) 5 rfl dX10_nextStep_15 ?_
  refine fr_bipush (pc := 17) 8 (by decide) dX10_nextStep_17 ?_
  refine fr_icmp_ge (pc := 19) (tgt := 107) (by decide) dX10_nextStep_19 hW (fun hW => ?_) (fun hW => ?_)
  · refine fr_iload_n (pc := 107) 3 rfl rfl dX10_nextStep_107 ?_
    exact fr_iret (pc := 108) dX10_nextStep_108 rfl ⟨Nat.le_refl 0, Nat.le_refl 0⟩ hW
  · refine fr_iload_n (pc := 22) 1 rfl rfl dX10_nextStep_22 ?_
    refine fr_iload (pc := 23) 5 rfl dX10_nextStep_23 ?_
    refine fr_callSN_I (pc := 25) (As := [.int v1, .int v5]) (st := []) wd_X11_with ⟨RX11, by decide +kernel⟩ ok_X11_with (by decide) rfl (Nat.le_of_ble_eq_true rfl) dX10_nextStep_25 ⟨Nat.le_refl 0, Nat.le_refl 0⟩ hW (fun i7 s6 hW => ?_)
    refine fr_istore (pc := 28) (lv' := [(6, .int i7), (0, .ref a0), (1, .int v1), (2, .int v2), (3, .int v3), (4, .int v4), (5, .int v5)]) (by decide) rfl dX10_nextStep_28 ?_
    refine fr_iload (pc := 30) 0 rfl dX10_nextStep_30 ?_
    refine fr_iload_n (pc := 32) 2 rfl rfl dX10_nextStep_32 ?_
    refine fr_icmp_eq (pc := 33) (tgt := 65) (by decide) dX10_nextStep_33 hW (fun hW => ?_) (fun hW => ?_)
    · refine fr_iconst (pc := 65) 0 (by decide) dX10_nextStep_65 ?_
      exact fr_sub [1, 2, 3, 4, 5, 6, 0] rfl hW
    · refine fr_aload_n (pc := 36) 1 rfl rfl dX10_nextStep_36 ?_
      refine fr_getR (pc := 37) (T := TX10) (k := 0) kc_X10 (by decide) w_548 dX10_nextStep_37 hW (fun r10 hW => ?_)
      refine fr_iload (pc := 40) 6 rfl dX10_nextStep_40 ?_
      obtain ⟨hrc, hW⟩ := hW
      refine fr_callV_A (pc := 42) (As := [.int v5]) (st := []) wd_X3_kept w_828 ok_X3_kept (by decide) rfl (Nat.le_of_ble_eq_true rfl) dX10_nextStep_42 ⟨Nat.le_refl 0, Nat.le_refl 0⟩ kc_X3 hrc hW (fun s11 hW => ?_) (fun r14 s11 hW => ?_)
      · refine fr_ifnullN (pc := 45) (tgt := 65) (by decide) dX10_nextStep_45 ?_
        refine fr_iconst (pc := 65) 0 (by decide) dX10_nextStep_65 ?_
        exact fr_sub [1, 2, 3, 4, 5, 6, 0] rfl hW
      · refine fr_ifnull (pc := 45) dX10_nextStep_45 ?_
        refine fr_aload_n (pc := 48) 1 rfl rfl dX10_nextStep_48 ?_
        refine fr_getR (pc := 49) (T := TX10) (k := 0) kc_X10 (by decide) w_548 dX10_nextStep_49 hW (fun r15 hW => ?_)
        refine fr_iload (pc := 52) 0 rfl dX10_nextStep_52 ?_
        obtain ⟨hrc, hW⟩ := hW
        refine fr_callV_I (pc := 54) (As := [.int i7]) (st := []) wd_X3_sizesOf w_820 ok_X3_sizesOf (by decide) rfl (Nat.le_of_ble_eq_true rfl) dX10_nextStep_54 ⟨Nat.le_refl 0, Nat.le_refl 0⟩ kc_X3 hrc hW (fun i17 s16 hW => ?_)
        refine fr_iload_n (pc := 57) 3 rfl rfl dX10_nextStep_57 ?_
        refine fr_icmp_gt (pc := 58) (tgt := 65) (by decide) dX10_nextStep_58 hW (fun hW => ?_) (fun hW => ?_)
        · refine fr_iconst (pc := 65) 0 (by decide) dX10_nextStep_65 ?_
          exact fr_sub [1, 2, 3, 4, 5, 6, 0] rfl hW
        · refine fr_iconst (pc := 61) 1 (by decide) dX10_nextStep_61 ?_
          refine fr_goto (pc := 62) (tgt := 66) (by decide) dX10_nextStep_62 ?_
          exact fr_sub [1, 2, 3, 4, 5, 6, 0] rfl hW
set_option maxHeartbeats 4000000 in
set_option maxRecDepth 100000 in
theorem q_X10_nextStep_66 {g : GG} {σ : Hs} {post : Option Value → Hs → Prop} (a0 : Nat) (v1 : Int32) (v2 : Int32) (v3 : Int32) (v4 : Int32) (v5 : Int32) (v6 : Int32) (t0 : Int32) (hW : (t0 = 0 → J_X10_nextStep_15 g post σ a0 v1 v2 v3 v4 ((v5 + 1)) ) ∧ (¬ t0 = 0 → FR σ a0 10 3 (fun r20 => Rc σ r20 1 ∧ Do g M_X1_at 0 0 [.ref r20, .int v6] σ (kI (fun i22 s21 => (v4 ≤ i22 → J_X10_nextStep_15 g post s21 a0 v1 v2 v3 v4 ((v5 + 1)) ) ∧ (¬ v4 ≤ i22 → FR s21 a0 10 3 (fun r25 => Rc s21 r25 1 ∧ Do g M_X1_at 0 0 [.ref r25, .int v6] s21 (kI (fun i27 s26 => J_X10_nextStep_15 g post s26 a0 v1 v2 v5 i27 ((v5 + 1)) ))))))))) : J_X10_nextStep_66 g post σ a0 v1 v2 v3 v4 v5 v6 t0 := by
  show Fr g M_X10_nextStep (0, 0, 0, 0) [(0, .ref a0), (1, .int v1), (2, .int v2), (3, .int v3), (4, .int v4), (5, .int v5), (6, .int v6)] [.int t0] 66 σ post
  refine fr_istore (pc := 66) (lv' := [(7, .int t0), (0, .ref a0), (1, .int v1), (2, .int v2), (3, .int v3), (4, .int v4), (5, .int v5), (6, .int v6)]) (by decide) rfl dX10_nextStep_66 ?_
  refine fr_iload (pc := 68) 0 rfl dX10_nextStep_68 ?_
  refine fr_if_eq (pc := 70) (tgt := 101) (by decide) dX10_nextStep_70 hW (fun hW => ?_) (fun hW => ?_)
  · refine fr_iinc (pc := 101) (lv' := [(5, .int (v5 + 1)), (7, .int t0), (0, .ref a0), (1, .int v1), (2, .int v2), (3, .int v3), (4, .int v4), (6, .int v6)]) (v5 + 1) 6 rfl (congrArg (fun z => v5 + z) (by decide)) (by decide) rfl dX10_nextStep_101 ?_
    refine fr_goto (pc := 104) (tgt := 15) (by decide) dX10_nextStep_104 ?_
    exact fr_sub [2, 3, 4, 5, 6, 0] rfl hW
  · refine fr_aload_n (pc := 73) 1 rfl rfl dX10_nextStep_73 ?_
    refine fr_getR (pc := 74) (T := TX10) (k := 3) kc_X10 (by decide) w_545 dX10_nextStep_74 hW (fun r20 hW => ?_)
    refine fr_iload (pc := 77) 7 rfl dX10_nextStep_77 ?_
    obtain ⟨hrc, hW⟩ := hW
    refine fr_callV_I (pc := 79) (As := [.int v6]) (st := []) wd_X1_at w_817 ok_X1_at (by decide) rfl (Nat.le_of_ble_eq_true rfl) dX10_nextStep_79 ⟨Nat.le_refl 0, Nat.le_refl 0⟩ kc_X1 hrc hW (fun i22 s21 hW => ?_)
    refine fr_iload (pc := 82) 5 rfl dX10_nextStep_82 ?_
    refine fr_icmp_ge (pc := 84) (tgt := 101) (by decide) dX10_nextStep_84 hW (fun hW => ?_) (fun hW => ?_)
    · refine fr_iinc (pc := 101) (lv' := [(5, .int (v5 + 1)), (7, .int t0), (0, .ref a0), (1, .int v1), (2, .int v2), (3, .int v3), (4, .int v4), (6, .int v6)]) (v5 + 1) 6 rfl (congrArg (fun z => v5 + z) (by decide)) (by decide) rfl dX10_nextStep_101 ?_
      refine fr_goto (pc := 104) (tgt := 15) (by decide) dX10_nextStep_104 ?_
      exact fr_sub [2, 3, 4, 5, 6, 0] rfl hW
    · refine fr_aload_n (pc := 87) 1 rfl rfl dX10_nextStep_87 ?_
      refine fr_getR (pc := 88) (T := TX10) (k := 3) kc_X10 (by decide) w_545 dX10_nextStep_88 hW (fun r25 hW => ?_)
      refine fr_iload (pc := 91) 7 rfl dX10_nextStep_91 ?_
      obtain ⟨hrc, hW⟩ := hW
      refine fr_callV_I (pc := 93) (As := [.int v6]) (st := []) wd_X1_at w_817 ok_X1_at (by decide) rfl (Nat.le_of_ble_eq_true rfl) dX10_nextStep_93 ⟨Nat.le_refl 0, Nat.le_refl 0⟩ kc_X1 hrc hW (fun i27 s26 hW => ?_)
      refine fr_istore (pc := 96) (lv' := [(4, .int i27), (7, .int t0), (0, .ref a0), (1, .int v1), (2, .int v2), (3, .int v3), (5, .int v5), (6, .int v6)]) (by decide) rfl dX10_nextStep_96 ?_
      refine fr_iload (pc := 98) 6 rfl dX10_nextStep_98 ?_
      refine fr_istore_n (pc := 100) (lv' := [(3, .int v5), (4, .int i27), (7, .int t0), (0, .ref a0), (1, .int v1), (2, .int v2), (5, .int v5), (6, .int v6)]) rfl (by decide) rfl dX10_nextStep_100 ?_
      refine fr_iinc (pc := 101) (lv' := [(5, .int (v5 + 1)), (3, .int v5), (4, .int i27), (7, .int t0), (0, .ref a0), (1, .int v1), (2, .int v2), (6, .int v6)]) (v5 + 1) 6 rfl (congrArg (fun z => v5 + z) (by decide)) (by decide) rfl dX10_nextStep_101 ?_
      refine fr_goto (pc := 104) (tgt := 15) (by decide) dX10_nextStep_104 ?_
      exact fr_sub [4, 5, 6, 1, 2, 0] rfl hW
def J_X10_stepByStep_13 (g : GG) (post : Option Value → Hs → Prop) (σ : Hs) (a0 : Nat) (v1 : Int32) (v2 : Int32) (v3 : Int32) : Prop := Fr g M_X10_stepByStep (0, 0, 0, 0) [(0, .ref a0), (1, .int v1), (2, .int v2), (3, .int v3)] [] 13 σ post
set_option maxHeartbeats 4000000 in
set_option maxRecDepth 100000 in
theorem q_X10_stepByStep {g : GG} {σ : Hs} {post : Option Value → Hs → Prop} (r0 : Nat) (p0 : Int32) (hW : Rc σ r0 10 ∧ Do g M_X10_workOutAll 0 0 [.ref r0] σ (kV (fun s1 => PF s1 r0 10 7 (.int 0) (fun s2 => J_X10_stepByStep_13 g post s2 r0 p0 0 0 )))) : Do g M_X10_stepByStep 0 0 [.ref r0, .int p0] σ post := by
  refine Do.of (by decide +kernel) (Nat.le_of_ble_eq_true rfl) ?_
  show Fr g M_X10_stepByStep (0, 0, 0, 0) [(0, .ref r0), (1, .int p0)] [] 0 σ post
  refine fr_aload_n (pc := 0) 0 rfl rfl dX10_stepByStep_0 ?_
  obtain ⟨hrc, hW⟩ := hW
  refine fr_callV_V (pc := 1) (As := []) (st := []) wd_X10_workOutAll w_821 ok_X10_workOutAll (by decide) rfl (Nat.le_of_ble_eq_true rfl) dX10_stepByStep_1 ⟨Nat.le_refl 0, Nat.le_refl 0⟩ kc_X10 hrc hW (fun s1 hW => ?_)
  refine fr_aload_n (pc := 4) 0 rfl rfl dX10_stepByStep_4 ?_
  refine fr_iconst (pc := 5) 0 (by decide) dX10_stepByStep_5 ?_
  refine fr_put (pc := 6) (T := TX10) (k := 7) kc_X10 (by decide) w_829 rfl rfl rfl dX10_stepByStep_6 hW (fun s2 hW => ?_)
  refine fr_iconst (pc := 9) 0 (by decide) dX10_stepByStep_9 ?_
  refine fr_istore_n (pc := 10) (lv' := [(2, .int 0), (0, .ref r0), (1, .int p0)]) rfl (by decide) rfl dX10_stepByStep_10 ?_
  refine fr_iconst (pc := 11) 0 (by decide) dX10_stepByStep_11 ?_
  refine fr_istore_n (pc := 12) (lv' := [(3, .int 0), (2, .int 0), (0, .ref r0), (1, .int p0)]) rfl (by decide) rfl dX10_stepByStep_12 ?_
  exact fr_sub [2, 3, 1, 0] rfl hW
set_option maxHeartbeats 4000000 in
set_option maxRecDepth 100000 in
theorem q_X10_stepByStep_13 {g : GG} {σ : Hs} {post : Option Value → Hs → Prop} (a0 : Nat) (v1 : Int32) (v2 : Int32) (v3 : Int32) (hW : (8 ≤ v3 → post (some (.int v2)) σ) ∧ (¬ 8 ≤ v3 → Rc σ a0 10 ∧ Do g M_X10_nextStep 0 0 [.ref a0, .int v2, .int v1] σ (kI (fun i4 s3 => (¬ i4 = (-1) → FR s3 a0 10 5 (fun r7 => FI s3 a0 10 7 (fun i8 => Rc s3 r7 1 ∧ Do g M_X1_put 0 0 [.ref r7, .int i8, .int i4] s3 (kV (fun s9 => FI s9 a0 10 7 (fun i10 => PF s9 a0 10 7 (.int (i10 + 1)) (fun s11 => Do g M_X11_with 0 0 [.int v2, .int i4] s11 (kI (fun i13 s12 => J_X10_stepByStep_13 g post s12 a0 v1 i13 ((v3 + 1)) ))))))))) ∧ (i4 = (-1) → post (some (.int v2)) s3))))) : J_X10_stepByStep_13 g post σ a0 v1 v2 v3 := by
  show Fr g M_X10_stepByStep (0, 0, 0, 0) [(0, .ref a0), (1, .int v1), (2, .int v2), (3, .int v3)] [] 13 σ post
  refine fr_iload_n (pc := 13) 3 rfl rfl dX10_stepByStep_13 ?_
  refine fr_bipush (pc := 14) 8 (by decide) dX10_stepByStep_14 ?_
  refine fr_icmp_ge (pc := 16) (tgt := 72) (by decide) dX10_stepByStep_16 hW (fun hW => ?_) (fun hW => ?_)
  · refine fr_iload_n (pc := 72) 2 rfl rfl dX10_stepByStep_72 ?_
    exact fr_iret (pc := 73) dX10_stepByStep_73 rfl ⟨Nat.le_refl 0, Nat.le_refl 0⟩ hW
  · refine fr_aload_n (pc := 19) 0 rfl rfl dX10_stepByStep_19 ?_
    refine fr_iload_n (pc := 20) 2 rfl rfl dX10_stepByStep_20 ?_
    refine fr_iload_n (pc := 21) 1 rfl rfl dX10_stepByStep_21 ?_
    obtain ⟨hrc, hW⟩ := hW
    refine fr_callV_I (pc := 22) (As := [.int v2, .int v1]) (st := []) wd_X10_nextStep w_830 ok_X10_nextStep (by decide) rfl (Nat.le_of_ble_eq_true rfl) dX10_stepByStep_22 ⟨Nat.le_refl 0, Nat.le_refl 0⟩ kc_X10 hrc hW (fun i4 s3 hW => ?_)
    refine fr_istore (pc := 25) (lv' := [(4, .int i4), (0, .ref a0), (1, .int v1), (2, .int v2), (3, .int v3)]) (by decide) rfl dX10_stepByStep_25 ?_
    refine fr_iload (pc := 27) 0 rfl dX10_stepByStep_27 ?_
    refine fr_iconst (pc := 29) (-1) (by decide) dX10_stepByStep_29 ?_
    refine fr_icmp_ne (pc := 30) (tgt := 36) (by decide) dX10_stepByStep_30 hW (fun hW => ?_) (fun hW => ?_)
    · refine fr_aload_n (pc := 36) 1 rfl rfl dX10_stepByStep_36 ?_
      refine fr_getR (pc := 37) (T := TX10) (k := 5) kc_X10 (by decide) w_547 dX10_stepByStep_37 hW (fun r7 hW => ?_)
      refine fr_aload_n (pc := 40) 1 rfl rfl dX10_stepByStep_40 ?_
      refine fr_getI (pc := 41) (T := TX10) (k := 7) kc_X10 (by decide) w_829 dX10_stepByStep_41 hW (fun i8 hW => ?_)
      refine fr_iload (pc := 44) 0 rfl dX10_stepByStep_44 ?_
      obtain ⟨hrc, hW⟩ := hW
      refine fr_callV_V (pc := 46) (As := [.int i8, .int i4]) (st := []) wd_X1_put w_815 ok_X1_put (by decide) rfl (Nat.le_of_ble_eq_true rfl) dX10_stepByStep_46 ⟨Nat.le_refl 0, Nat.le_refl 0⟩ kc_X1 hrc hW (fun s9 hW => ?_)
      refine fr_aload_n (pc := 49) 1 rfl rfl dX10_stepByStep_49 ?_
      refine fr_dup (pc := 50) rfl dX10_stepByStep_50 ?_
      refine fr_getI (pc := 51) (T := TX10) (k := 7) kc_X10 (by decide) w_829 dX10_stepByStep_51 hW (fun i10 hW => ?_)
      refine fr_iconst (pc := 54) 1 (by decide) dX10_stepByStep_54 ?_
      refine fr_iadd (pc := 55) dX10_stepByStep_55 ?_
      refine fr_put (pc := 56) (T := TX10) (k := 7) kc_X10 (by decide) w_829 rfl rfl rfl dX10_stepByStep_56 hW (fun s11 hW => ?_)
      refine fr_iload_n (pc := 59) 3 rfl rfl dX10_stepByStep_59 ?_
      refine fr_iload (pc := 60) 0 rfl dX10_stepByStep_60 ?_
      refine fr_callSN_I (pc := 62) (As := [.int v2, .int i4]) (st := []) wd_X11_with ⟨RX11, by decide +kernel⟩ ok_X11_with (by decide) rfl (Nat.le_of_ble_eq_true rfl) dX10_stepByStep_62 ⟨Nat.le_refl 0, Nat.le_refl 0⟩ hW (fun i13 s12 hW => ?_)
      refine fr_istore_n (pc := 65) (lv' := [(2, .int i13), (4, .int i4), (0, .ref a0), (1, .int v1), (3, .int v3)]) rfl (by decide) rfl dX10_stepByStep_65 ?_
      refine fr_iinc (pc := 66) (lv' := [(3, .int (v3 + 1)), (2, .int i13), (4, .int i4), (0, .ref a0), (1, .int v1)]) (v3 + 1) 4 rfl (congrArg (fun z => v3 + z) (by decide)) (by decide) rfl dX10_stepByStep_66 ?_
      refine fr_goto (pc := 69) (tgt := 13) (by decide) dX10_stepByStep_69 ?_
      exact fr_sub [3, 4, 1, 0] rfl hW
    · refine fr_goto (pc := 33) (tgt := 72) (by decide) dX10_stepByStep_33 ?_
      refine fr_iload_n (pc := 72) 3 rfl rfl dX10_stepByStep_72 ?_
      exact fr_iret (pc := 73) dX10_stepByStep_73 rfl ⟨Nat.le_refl 0, Nat.le_refl 0⟩ hW
set_option maxHeartbeats 4000000 in
set_option maxRecDepth 100000 in
theorem q_X10_stepAt {g : GG} {σ : Hs} {post : Option Value → Hs → Prop} (r0 : Nat) (p0 : Int32) (hW : (p0 < 0 → post (some (.int (-1))) σ) ∧ (¬ p0 < 0 → FI σ r0 10 7 (fun i1 => (i1 ≤ p0 → post (some (.int (-1))) σ) ∧ (¬ i1 ≤ p0 → FR σ r0 10 5 (fun r2 => Rc σ r2 1 ∧ Do g M_X1_at 0 0 [.ref r2, .int p0] σ (kI (fun i4 s3 => post (some (.int i4)) s3))))))) : Do g M_X10_stepAt 0 0 [.ref r0, .int p0] σ post := by
  refine Do.of (by decide +kernel) (Nat.le_of_ble_eq_true rfl) ?_
  show Fr g M_X10_stepAt (0, 0, 0, 0) [(0, .ref r0), (1, .int p0)] [] 0 σ post
  refine fr_iload_n (pc := 0) 1 rfl rfl dX10_stepAt_0 ?_
  refine fr_if_lt (pc := 1) (tgt := 23) (by decide) dX10_stepAt_1 hW (fun hW => ?_) (fun hW => ?_)
  · refine fr_iconst (pc := 23) (-1) (by decide) dX10_stepAt_23 ?_
    exact fr_iret (pc := 24) dX10_stepAt_24 rfl ⟨Nat.le_refl 0, Nat.le_refl 0⟩ hW
  · refine fr_iload_n (pc := 4) 1 rfl rfl dX10_stepAt_4 ?_
    refine fr_aload_n (pc := 5) 0 rfl rfl dX10_stepAt_5 ?_
    refine fr_getI (pc := 6) (T := TX10) (k := 7) kc_X10 (by decide) w_829 dX10_stepAt_6 hW (fun i1 hW => ?_)
    refine fr_icmp_ge (pc := 9) (tgt := 23) (by decide) dX10_stepAt_9 hW (fun hW => ?_) (fun hW => ?_)
    · refine fr_iconst (pc := 23) (-1) (by decide) dX10_stepAt_23 ?_
      exact fr_iret (pc := 24) dX10_stepAt_24 rfl ⟨Nat.le_refl 0, Nat.le_refl 0⟩ hW
    · refine fr_aload_n (pc := 12) 0 rfl rfl dX10_stepAt_12 ?_
      refine fr_getR (pc := 13) (T := TX10) (k := 5) kc_X10 (by decide) w_547 dX10_stepAt_13 hW (fun r2 hW => ?_)
      refine fr_iload_n (pc := 16) 1 rfl rfl dX10_stepAt_16 ?_
      obtain ⟨hrc, hW⟩ := hW
      refine fr_callV_I (pc := 17) (As := [.int p0]) (st := []) wd_X1_at w_817 ok_X1_at (by decide) rfl (Nat.le_of_ble_eq_true rfl) dX10_stepAt_17 ⟨Nat.le_refl 0, Nat.le_refl 0⟩ kc_X1 hrc hW (fun i4 s3 hW => ?_)
      refine fr_goto (pc := 20) (tgt := 24) (by decide) dX10_stepAt_20 ?_
      exact fr_iret (pc := 24) dX10_stepAt_24 rfl ⟨Nat.le_refl 0, Nat.le_refl 0⟩ hW
def J_X11_steps_17 (g : GG) (post : Option Value → Hs → Prop) (σ : Hs) (a0 : Nat) (v1 : Int32) (v2 : Int32) (t0 : Int32) : Prop := Fr g M_X11_steps (0, 0, 0, 0) [(0, .ref a0), (1, .int v1), (2, .int v2)] [.int t0] 17 σ post
def J_X11_steps_41 (g : GG) (post : Option Value → Hs → Prop) (σ : Hs) (a0 : Nat) (v1 : Int32) (v2 : Int32) (v3 : Int32) : Prop := Fr g M_X11_steps (0, 0, 0, 0) [(0, .ref a0), (1, .int v1), (2, .int v2), (3, .int v3)] [] 41 σ post
set_option maxHeartbeats 4000000 in
set_option maxRecDepth 100000 in
theorem q_X11_steps {g : GG} {σ : Hs} {post : Option Value → Hs → Prop} (r0 : Nat) (p0 : Int32) (p1 : Int32) (hW : (p1 < 10 → J_X11_steps_17 g post σ r0 p0 p1 0) ∧ (¬ p1 < 10 → (18 ≤ p1 → J_X11_steps_17 g post σ r0 p0 p1 0) ∧ (¬ 18 ≤ p1 → J_X11_steps_17 g post σ r0 p0 p1 1))) : Do g M_X11_steps 0 0 [.ref r0, .int p0, .int p1] σ post := by
  refine Do.of (by decide +kernel) (Nat.le_of_ble_eq_true rfl) ?_
  show Fr g M_X11_steps (0, 0, 0, 0) [(0, .ref r0), (1, .int p0), (2, .int p1)] [] 0 σ post
  refine fr_iload_n (pc := 0) 2 rfl rfl dX11_steps_0 ?_
  refine fr_bipush (pc := 1) 10 (by decide) dX11_steps_1 ?_
  refine fr_icmp_lt (pc := 3) (tgt := 16) (by decide) dX11_steps_3 hW (fun hW => ?_) (fun hW => ?_)
  · refine fr_iconst (pc := 16) 0 (by decide) dX11_steps_16 ?_
    exact fr_sub [0, 1, 2] rfl hW
  · refine fr_iload_n (pc := 6) 2 rfl rfl dX11_steps_6 ?_
    refine fr_bipush (pc := 7) 18 (by decide) dX11_steps_7 ?_
    refine fr_icmp_ge (pc := 9) (tgt := 16) (by decide) dX11_steps_9 hW (fun hW => ?_) (fun hW => ?_)
    · refine fr_iconst (pc := 16) 0 (by decide) dX11_steps_16 ?_
      exact fr_sub [0, 1, 2] rfl hW
    · refine fr_iconst (pc := 12) 1 (by decide) dX11_steps_12 ?_
      refine fr_goto (pc := 13) (tgt := 17) (by decide) dX11_steps_13 ?_
      exact fr_sub [0, 1, 2] rfl hW
set_option maxHeartbeats 4000000 in
set_option maxRecDepth 100000 in
theorem q_X11_steps_17 {g : GG} {σ : Hs} {post : Option Value → Hs → Prop} (a0 : Nat) (v1 : Int32) (v2 : Int32) (t0 : Int32) (hW : Do g M_X11_isSpace 0 0 [.int v1] σ (kI (fun i2 s1 => (i2 = 0 → post (some (.int (-102))) s1) ∧ (¬ i2 = 0 → (¬ t0 = 0 → J_X11_steps_41 g post s1 a0 v1 v2 t0 ) ∧ (t0 = 0 → (v2 < 0 → post (some (.int (-102))) s1) ∧ (¬ v2 < 0 → (v2 ≤ 2 → J_X11_steps_41 g post s1 a0 v1 v2 t0 ) ∧ (¬ v2 ≤ 2 → post (some (.int (-102))) s1))))))) : J_X11_steps_17 g post σ a0 v1 v2 t0 := by
  show Fr g M_X11_steps (0, 0, 0, 0) [(0, .ref a0), (1, .int v1), (2, .int v2)] [.int t0] 17 σ post
  refine fr_istore_n (pc := 17) (lv' := [(3, .int t0), (0, .ref a0), (1, .int v1), (2, .int v2)]) rfl (by decide) rfl dX11_steps_17 ?_
  refine fr_iload_n (pc := 18) 2 rfl rfl dX11_steps_18 ?_
  refine fr_callS_I (pc := 19) (As := [.int v1]) (st := []) wd_X11_isSpace w_824 ok_X11_isSpace (by decide) rfl (Nat.le_of_ble_eq_true rfl) dX11_steps_19 ⟨Nat.le_refl 0, Nat.le_refl 0⟩ hW (fun i2 s1 hW => ?_)
  refine fr_if_eq (pc := 22) (tgt := 38) (by decide) dX11_steps_22 hW (fun hW => ?_) (fun hW => ?_)
  · refine fr_bipush (pc := 38) (-102) (by decide) dX11_steps_38 ?_
    exact fr_iret (pc := 40) dX11_steps_40 rfl ⟨Nat.le_refl 0, Nat.le_refl 0⟩ hW
  · refine fr_iload_n (pc := 25) 0 rfl rfl dX11_steps_25 ?_
    refine fr_if_ne (pc := 26) (tgt := 41) (by decide) dX11_steps_26 hW (fun hW => ?_) (fun hW => ?_)
    · exact fr_sub [1, 2, 3, 0] rfl hW
    · refine fr_iload_n (pc := 29) 3 rfl rfl dX11_steps_29 ?_
      refine fr_if_lt (pc := 30) (tgt := 38) (by decide) dX11_steps_30 hW (fun hW => ?_) (fun hW => ?_)
      · refine fr_bipush (pc := 38) (-102) (by decide) dX11_steps_38 ?_
        exact fr_iret (pc := 40) dX11_steps_40 rfl ⟨Nat.le_refl 0, Nat.le_refl 0⟩ hW
      · refine fr_iload_n (pc := 33) 3 rfl rfl dX11_steps_33 ?_
        refine fr_iconst (pc := 34) 2 (by decide) dX11_steps_34 ?_
        refine fr_icmp_le (pc := 35) (tgt := 41) (by decide) dX11_steps_35 hW (fun hW => ?_) (fun hW => ?_)
        · exact fr_sub [1, 2, 3, 0] rfl hW
        · refine fr_bipush (pc := 38) (-102) (by decide) dX11_steps_38 ?_
          exact fr_iret (pc := 40) dX11_steps_40 rfl ⟨Nat.le_refl 0, Nat.le_refl 0⟩ hW
set_option maxHeartbeats 4000000 in
set_option maxRecDepth 100000 in
theorem q_X11_steps_41 {g : GG} {σ : Hs} {post : Option Value → Hs → Prop} (a0 : Nat) (v1 : Int32) (v2 : Int32) (v3 : Int32) (hW : FI σ a0 11 8 (fun i5 => (i5 < 20 → FI σ a0 11 8 (fun i6 => PF σ a0 11 8 (.int (i6 + 1)) (fun s7 => FR s7 a0 11 3 (fun r8 => Rc s7 r8 10 ∧ Do g M_X10_stepByStep 0 0 [.ref r8, .int v1] s7 (kI (fun i10 s9 => (v3 = 0 → (¬ v2 = 0 → (¬ v2 = 1 → Do g M_J6_bitCount_0f7a4 0 0 [.int i10] s9 (kI (fun i14 s13 => post (some (.int i14)) s13))) ∧ (v2 = 1 → FR s9 a0 11 3 (fun r17 => Rc s9 r17 10 ∧ Do g M_X10_workedOut 0 0 [.ref r17, .int i10] s9 (kI (fun i19 s18 => post (some (.int i19)) s18))))) ∧ (v2 = 0 → post (some (.int i10)) s9)) ∧ (¬ v3 = 0 → FR s9 a0 11 3 (fun r22 => Rc s9 r22 10 ∧ Do g M_X10_stepAt 0 0 [.ref r22, .int (v2 - 10)] s9 (kI (fun i24 s23 => post (some (.int i24)) s23)))))))))) ∧ (¬ i5 < 20 → post (some (.int (-103))) σ))) : J_X11_steps_41 g post σ a0 v1 v2 v3 := by
  show Fr g M_X11_steps (0, 0, 0, 0) [(0, .ref a0), (1, .int v1), (2, .int v2), (3, .int v3)] [] 41 σ post
  refine fr_aload_n (pc := 41) 0 rfl rfl dX11_steps_41 ?_
  refine fr_getI (pc := 42) (T := TX11) (k := 8) kc_X11 (by decide) w_717 dX11_steps_42 hW (fun i5 hW => ?_)
  refine fr_bipush (pc := 45) 20 (by decide) dX11_steps_45 ?_
  refine fr_icmp_lt (pc := 47) (tgt := 53) (by decide) dX11_steps_47 hW (fun hW => ?_) (fun hW => ?_)
  · refine fr_aload_n (pc := 53) 0 rfl rfl dX11_steps_53 ?_
    refine fr_dup (pc := 54) rfl dX11_steps_54 ?_
    refine fr_getI (pc := 55) (T := TX11) (k := 8) kc_X11 (by decide) w_717 dX11_steps_55 hW (fun i6 hW => ?_)
    refine fr_iconst (pc := 58) 1 (by decide) dX11_steps_58 ?_
    refine fr_iadd (pc := 59) dX11_steps_59 ?_
    refine fr_put (pc := 60) (T := TX11) (k := 8) kc_X11 (by decide) w_717 rfl rfl rfl dX11_steps_60 hW (fun s7 hW => ?_)
    refine fr_aload_n (pc := 63) 0 rfl rfl dX11_steps_63 ?_
    refine fr_getR (pc := 64) (T := TX11) (k := 3) kc_X11 (by decide) w_583 dX11_steps_64 hW (fun r8 hW => ?_)
    refine fr_iload_n (pc := 67) 1 rfl rfl dX11_steps_67 ?_
    obtain ⟨hrc, hW⟩ := hW
    refine fr_callV_I (pc := 68) (As := [.int v1]) (st := []) wd_X10_stepByStep w_831 ok_X10_stepByStep (by decide) rfl (Nat.le_of_ble_eq_true rfl) dX11_steps_68 ⟨Nat.le_refl 0, Nat.le_refl 0⟩ kc_X10 hrc hW (fun i10 s9 hW => ?_)
    refine fr_istore (pc := 71) (lv' := [(4, .int i10), (0, .ref a0), (1, .int v1), (2, .int v2), (3, .int v3)]) (by decide) rfl dX11_steps_71 ?_
    refine fr_iload_n (pc := 73) 4 rfl rfl dX11_steps_73 ?_
    refine fr_if_eq (pc := 74) (tgt := 89) (by decide) dX11_steps_74 hW (fun hW => ?_) (fun hW => ?_)
    · refine fr_iload_n (pc := 89) 3 rfl rfl dX11_steps_89 ?_
      refine fr_if_ne (pc := 90) (tgt := 96) (by decide) dX11_steps_90 hW (fun hW => ?_) (fun hW => ?_)
      · refine fr_iload_n (pc := 96) 3 rfl rfl dX11_steps_96 ?_
        refine fr_iconst (pc := 97) 1 (by decide) dX11_steps_97 ?_
        refine fr_icmp_ne (pc := 98) (tgt := 113) (by decide) dX11_steps_98 hW (fun hW => ?_) (fun hW => ?_)
        · refine fr_iload (pc := 113) 0 rfl dX11_steps_113 ?_
          refine fr_callS_I (pc := 115) (As := [.int i10]) (st := []) wd_J6_bitCount_0f7a4 w_720 ok_J6_bitCount_0f7a4 (by decide) rfl (Nat.le_of_ble_eq_true rfl) dX11_steps_115 ⟨Nat.le_refl 0, Nat.le_refl 0⟩ hW (fun i14 s13 hW => ?_)
          exact fr_iret (pc := 118) dX11_steps_118 rfl ⟨Nat.le_refl 0, Nat.le_refl 0⟩ hW
        · refine fr_aload_n (pc := 101) 1 rfl rfl dX11_steps_101 ?_
          refine fr_getR (pc := 102) (T := TX11) (k := 3) kc_X11 (by decide) w_583 dX11_steps_102 hW (fun r17 hW => ?_)
          refine fr_iload (pc := 105) 0 rfl dX11_steps_105 ?_
          obtain ⟨hrc, hW⟩ := hW
          refine fr_callV_I (pc := 107) (As := [.int i10]) (st := []) wd_X10_workedOut w_826 ok_X10_workedOut (by decide) rfl (Nat.le_of_ble_eq_true rfl) dX11_steps_107 ⟨Nat.le_refl 0, Nat.le_refl 0⟩ kc_X10 hrc hW (fun i19 s18 hW => ?_)
          refine fr_goto (pc := 110) (tgt := 118) (by decide) dX11_steps_110 ?_
          exact fr_iret (pc := 118) dX11_steps_118 rfl ⟨Nat.le_refl 0, Nat.le_refl 0⟩ hW
      · refine fr_iload (pc := 93) 0 rfl dX11_steps_93 ?_
        exact fr_iret (pc := 95) dX11_steps_95 rfl ⟨Nat.le_refl 0, Nat.le_refl 0⟩ hW
    · refine fr_aload_n (pc := 77) 1 rfl rfl dX11_steps_77 ?_
      refine fr_getR (pc := 78) (T := TX11) (k := 3) kc_X11 (by decide) w_583 dX11_steps_78 hW (fun r22 hW => ?_)
      refine fr_iload_n (pc := 81) 3 rfl rfl dX11_steps_81 ?_
      refine fr_bipush (pc := 82) 10 (by decide) dX11_steps_82 ?_
      refine fr_isub (pc := 84) dX11_steps_84 ?_
      obtain ⟨hrc, hW⟩ := hW
      refine fr_callV_I (pc := 85) (As := [.int (v2 - 10)]) (st := []) wd_X10_stepAt w_832 ok_X10_stepAt (by decide) rfl (Nat.le_of_ble_eq_true rfl) dX11_steps_85 ⟨Nat.le_refl 0, Nat.le_refl 0⟩ kc_X10 hrc hW (fun i24 s23 hW => ?_)
      exact fr_iret (pc := 88) dX11_steps_88 rfl ⟨Nat.le_refl 0, Nat.le_refl 0⟩ hW
  · refine fr_bipush (pc := 50) (-103) (by decide) dX11_steps_50 ?_
    exact fr_iret (pc := 52) dX11_steps_52 rfl ⟨Nat.le_refl 0, Nat.le_refl 0⟩ hW
set_option maxHeartbeats 4000000 in
set_option maxRecDepth 100000 in
theorem q_X11_worth {g : GG} {σ : Hs} {post : Option Value → Hs → Prop} (r0 : Nat) (p0 : Int32) (p1 : Int32) (hW : FR σ r0 11 1 (fun r1 => Rc σ r1 3 ∧ Do g M_X3_kept 0 0 [.ref r1, .int p1] σ (kA (fun s2 => post (some (.int (-101))) s2) (fun r5 s2 => Do g M_X11_isSet 0 0 [.int p0] s2 (kI (fun i7 s6 => (¬ i7 = 0 → Do g M_X11_has 0 0 [.int p0, .int p1] s6 (kI (fun i11 s10 => (¬ i11 = 0 → FR s10 r0 11 3 (fun r14 => Do g M_X11_without 0 0 [.int p0, .int p1] s10 (kI (fun i16 s15 => Rc s15 r14 10 ∧ Do g M_X10_workOf 0 0 [.ref r14, .int i16] s15 (kI (fun i20 s19 => FR s19 r0 11 3 (fun r23 => Rc s19 r23 10 ∧ Do g M_X10_workOf 0 0 [.ref r23, .int p0] s19 (kI (fun i25 s24 => post (some (.int (i20 - i25))) s24))))))))) ∧ (i11 = 0 → post (some (.int (-101))) s10)))) ∧ (i7 = 0 → post (some (.int (-102))) s6))))))) : Do g M_X11_worth 0 0 [.ref r0, .int p0, .int p1] σ post := by
  refine Do.of (by decide +kernel) (Nat.le_of_ble_eq_true rfl) ?_
  show Fr g M_X11_worth (0, 0, 0, 0) [(0, .ref r0), (1, .int p0), (2, .int p1)] [] 0 σ post
  refine fr_aload_n (pc := 0) 0 rfl rfl dX11_worth_0 ?_
  refine fr_getR (pc := 1) (T := TX11) (k := 1) kc_X11 (by decide) w_579 dX11_worth_1 hW (fun r1 hW => ?_)
  refine fr_iload_n (pc := 4) 2 rfl rfl dX11_worth_4 ?_
  obtain ⟨hrc, hW⟩ := hW
  refine fr_callV_A (pc := 5) (As := [.int p1]) (st := []) wd_X3_kept w_752 ok_X3_kept (by decide) rfl (Nat.le_of_ble_eq_true rfl) dX11_worth_5 ⟨Nat.le_refl 0, Nat.le_refl 0⟩ kc_X3 hrc hW (fun s2 hW => ?_) (fun r5 s2 hW => ?_)
  · refine fr_ifnonnullN (pc := 8) dX11_worth_8 ?_
    refine fr_bipush (pc := 11) (-101) (by decide) dX11_worth_11 ?_
    exact fr_iret (pc := 13) dX11_worth_13 rfl ⟨Nat.le_refl 0, Nat.le_refl 0⟩ hW
  · refine fr_ifnonnull (pc := 8) (tgt := 14) (by decide) dX11_worth_8 ?_
    refine fr_iload_n (pc := 14) 1 rfl rfl dX11_worth_14 ?_
    refine fr_callS_I (pc := 15) (As := [.int p0]) (st := []) wd_X11_isSet w_803 ok_X11_isSet (by decide) rfl (Nat.le_of_ble_eq_true rfl) dX11_worth_15 ⟨Nat.le_refl 0, Nat.le_refl 0⟩ hW (fun i7 s6 hW => ?_)
    refine fr_if_ne (pc := 18) (tgt := 24) (by decide) dX11_worth_18 hW (fun hW => ?_) (fun hW => ?_)
    · refine fr_iload_n (pc := 24) 1 rfl rfl dX11_worth_24 ?_
      refine fr_iload_n (pc := 25) 2 rfl rfl dX11_worth_25 ?_
      refine fr_callS_I (pc := 26) (As := [.int p0, .int p1]) (st := []) wd_X11_has w_833 ok_X11_has (by decide) rfl (Nat.le_of_ble_eq_true rfl) dX11_worth_26 ⟨Nat.le_refl 0, Nat.le_refl 0⟩ hW (fun i11 s10 hW => ?_)
      refine fr_if_ne (pc := 29) (tgt := 35) (by decide) dX11_worth_29 hW (fun hW => ?_) (fun hW => ?_)
      · refine fr_aload_n (pc := 35) 0 rfl rfl dX11_worth_35 ?_
        refine fr_getR (pc := 36) (T := TX11) (k := 3) kc_X11 (by decide) w_583 dX11_worth_36 hW (fun r14 hW => ?_)
        refine fr_iload_n (pc := 39) 1 rfl rfl dX11_worth_39 ?_
        refine fr_iload_n (pc := 40) 2 rfl rfl dX11_worth_40 ?_
        refine fr_callS_I (pc := 41) (As := [.int p0, .int p1]) (st := [.ref r14]) wd_X11_without w_834 ok_X11_without (by decide) rfl (Nat.le_of_ble_eq_true rfl) dX11_worth_41 ⟨Nat.le_refl 0, Nat.le_refl 0⟩ hW (fun i16 s15 hW => ?_)
        obtain ⟨hrc, hW⟩ := hW
        refine fr_callV_I (pc := 44) (As := [.int i16]) (st := []) wd_X10_workOf w_813 ok_X10_workOf (by decide) rfl (Nat.le_of_ble_eq_true rfl) dX11_worth_44 ⟨Nat.le_refl 0, Nat.le_refl 0⟩ kc_X10 hrc hW (fun i20 s19 hW => ?_)
        refine fr_aload_n (pc := 47) 0 rfl rfl dX11_worth_47 ?_
        refine fr_getR (pc := 48) (T := TX11) (k := 3) kc_X11 (by decide) w_583 dX11_worth_48 hW (fun r23 hW => ?_)
        refine fr_iload_n (pc := 51) 1 rfl rfl dX11_worth_51 ?_
        obtain ⟨hrc, hW⟩ := hW
        refine fr_callV_I (pc := 52) (As := [.int p0]) (st := [.int i20]) wd_X10_workOf w_813 ok_X10_workOf (by decide) rfl (Nat.le_of_ble_eq_true rfl) dX11_worth_52 ⟨Nat.le_refl 0, Nat.le_refl 0⟩ kc_X10 hrc hW (fun i25 s24 hW => ?_)
        refine fr_isub (pc := 55) dX11_worth_55 ?_
        exact fr_iret (pc := 56) dX11_worth_56 rfl ⟨Nat.le_refl 0, Nat.le_refl 0⟩ hW
      · refine fr_bipush (pc := 32) (-101) (by decide) dX11_worth_32 ?_
        exact fr_iret (pc := 34) dX11_worth_34 rfl ⟨Nat.le_refl 0, Nat.le_refl 0⟩ hW
    · refine fr_bipush (pc := 21) (-102) (by decide) dX11_worth_21 ?_
      exact fr_iret (pc := 23) dX11_worth_23 rfl ⟨Nat.le_refl 0, Nat.le_refl 0⟩ hW
