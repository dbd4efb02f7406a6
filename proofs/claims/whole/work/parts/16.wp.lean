set_option maxHeartbeats 4000000 in
set_option maxRecDepth 100000 in
theorem q_X12_isQuestion {g : GG} {σ : Hs} {post : Option Value → Hs → Prop} (r0 : Nat) (p0 : Int32) (hW : FI σ r0 12 14 (fun i1 => Do g M_X12_in 0 0 [.int p0, .int 0, .int (i1 - 1)] σ (kI (fun i3 s2 => (narrow .boolean (.int i3) = .int i3 ∧ post (some (.int i3)) s2))))) : Do g M_X12_isQuestion 0 0 [.ref r0, .int p0] σ post := by
  refine Do.of (by decide +kernel) (Nat.le_of_ble_eq_true rfl) ?_
  show Fr g M_X12_isQuestion (0, 0, 0, 0) [(0, .ref r0), (1, .int p0)] [] 0 σ post
  refine fr_iload_n (pc := 0) 1 rfl rfl dX12_isQuestion_0 ?_
  refine fr_iconst (pc := 1) 0 (by decide) dX12_isQuestion_1 ?_
  refine fr_aload_n (pc := 2) 0 rfl rfl dX12_isQuestion_2 ?_
  refine fr_getI (pc := 3) (T := TX12) (k := 14) kc_X12 (by decide) w_1198 dX12_isQuestion_3 hW (fun i1 hW => ?_)
  refine fr_iconst (pc := 6) 1 (by decide) dX12_isQuestion_6 ?_
  refine fr_isub (pc := 7) dX12_isQuestion_7 ?_
  refine fr_callS_I (pc := 8) (As := [.int p0, .int 0, .int (i1 - 1)]) (st := []) wd_X12_in w_1067 ok_X12_in (by decide) rfl (Nat.le_of_ble_eq_true rfl) dX12_isQuestion_8 ⟨Nat.le_refl 0, Nat.le_refl 0⟩ hW (fun i3 s2 hW => ?_)
  exact fr_zret (pc := 11) dX12_isQuestion_11 rfl ⟨Nat.le_refl 0, Nat.le_refl 0⟩ hW
set_option maxHeartbeats 4000000 in
set_option maxRecDepth 100000 in
theorem q_X12_bound {g : GG} {σ : Hs} {post : Option Value → Hs → Prop} (r0 : Nat) (p0 : Int32) (p1 : Int32) (p2 : Int32) (hW : Rc σ r0 12 ∧ Do g M_X12_isQuestion 0 0 [.ref r0, .int p0] σ (kI (fun i2 s1 => (i2 = 0 → post (some (.int (-101))) s1) ∧ (¬ i2 = 0 → Do g M_X12_in 0 0 [.int p1, .int 0, .int 3] s1 (kI (fun i6 s5 => (¬ i6 = 0 → Do g M_X12_in 0 0 [.int p2, .int 0, .int 1] s5 (kI (fun i10 s9 => (i10 = 0 → post (some (.int (-102))) s9) ∧ (¬ i10 = 0 → FR s9 r0 12 15 (fun r13 => AI g s9 r13 0 (((8 * p0) + (2 * p1)) + p2) (fun i14 => post (some (.int i14)) s9)))))) ∧ (i6 = 0 → post (some (.int (-101))) s5))))))) : Do g M_X12_bound 0 0 [.ref r0, .int p0, .int p1, .int p2] σ post := by
  refine Do.of (by decide +kernel) (Nat.le_of_ble_eq_true rfl) ?_
  show Fr g M_X12_bound (0, 0, 0, 0) [(0, .ref r0), (1, .int p0), (2, .int p1), (3, .int p2)] [] 0 σ post
  refine fr_aload_n (pc := 0) 0 rfl rfl dX12_bound_0 ?_
  refine fr_iload_n (pc := 1) 1 rfl rfl dX12_bound_1 ?_
  obtain ⟨hrc, hW⟩ := hW
  refine fr_callV_I (pc := 2) (As := [.int p0]) (st := []) wd_X12_isQuestion w_1205 ok_X12_isQuestion (by decide) rfl (Nat.le_of_ble_eq_true rfl) dX12_bound_2 ⟨Nat.le_refl 0, Nat.le_refl 0⟩ kc_X12 hrc hW (fun i2 s1 hW => ?_)
  refine fr_if_eq (pc := 5) (tgt := 17) (by decide) dX12_bound_5 hW (fun hW => ?_) (fun hW => ?_)
  · refine fr_bipush (pc := 17) (-101) (by decide) dX12_bound_17 ?_
    exact fr_iret (pc := 19) dX12_bound_19 rfl ⟨Nat.le_refl 0, Nat.le_refl 0⟩ hW
  · refine fr_iload_n (pc := 8) 2 rfl rfl dX12_bound_8 ?_
    refine fr_iconst (pc := 9) 0 (by decide) dX12_bound_9 ?_
    refine fr_iconst (pc := 10) 3 (by decide) dX12_bound_10 ?_
    refine fr_callS_I (pc := 11) (As := [.int p1, .int 0, .int 3]) (st := []) wd_X12_in w_1067 ok_X12_in (by decide) rfl (Nat.le_of_ble_eq_true rfl) dX12_bound_11 ⟨Nat.le_refl 0, Nat.le_refl 0⟩ hW (fun i6 s5 hW => ?_)
    refine fr_if_ne (pc := 14) (tgt := 20) (by decide) dX12_bound_14 hW (fun hW => ?_) (fun hW => ?_)
    · refine fr_iload_n (pc := 20) 3 rfl rfl dX12_bound_20 ?_
      refine fr_iconst (pc := 21) 0 (by decide) dX12_bound_21 ?_
      refine fr_iconst (pc := 22) 1 (by decide) dX12_bound_22 ?_
      refine fr_callS_I (pc := 23) (As := [.int p2, .int 0, .int 1]) (st := []) wd_X12_in w_1067 ok_X12_in (by decide) rfl (Nat.le_of_ble_eq_true rfl) dX12_bound_23 ⟨Nat.le_refl 0, Nat.le_refl 0⟩ hW (fun i10 s9 hW => ?_)
      refine fr_if_eq (pc := 26) (tgt := 47) (by decide) dX12_bound_26 hW (fun hW => ?_) (fun hW => ?_)
      · refine fr_bipush (pc := 47) (-102) (by decide) dX12_bound_47 ?_
        exact fr_iret (pc := 49) dX12_bound_49 rfl ⟨Nat.le_refl 0, Nat.le_refl 0⟩ hW
      · refine fr_aload_n (pc := 29) 0 rfl rfl dX12_bound_29 ?_
        refine fr_getR (pc := 30) (T := TX12) (k := 15) kc_X12 (by decide) w_1018 dX12_bound_30 hW (fun r13 hW => ?_)
        refine fr_bipush (pc := 33) 8 (by decide) dX12_bound_33 ?_
        refine fr_iload_n (pc := 35) 1 rfl rfl dX12_bound_35 ?_
        refine fr_imul (pc := 36) dX12_bound_36 ?_
        refine fr_iconst (pc := 37) 2 (by decide) dX12_bound_37 ?_
        refine fr_iload_n (pc := 38) 2 rfl rfl dX12_bound_38 ?_
        refine fr_imul (pc := 39) dX12_bound_39 ?_
        refine fr_iadd (pc := 40) dX12_bound_40 ?_
        refine fr_iload_n (pc := 41) 3 rfl rfl dX12_bound_41 ?_
        refine fr_iadd (pc := 42) dX12_bound_42 ?_
        refine fr_iald (pc := 43) dX12_bound_43 hW (fun i14 hW => ?_)
        refine fr_goto (pc := 44) (tgt := 49) (by decide) dX12_bound_44 ?_
        exact fr_iret (pc := 49) dX12_bound_49 rfl ⟨Nat.le_refl 0, Nat.le_refl 0⟩ hW
    · refine fr_bipush (pc := 17) (-101) (by decide) dX12_bound_17 ?_
      exact fr_iret (pc := 19) dX12_bound_19 rfl ⟨Nat.le_refl 0, Nat.le_refl 0⟩ hW
set_option maxHeartbeats 4000000 in
set_option maxRecDepth 100000 in
theorem q_X6_heft {g : GG} {σ : Hs} {post : Option Value → Hs → Prop} (r0 : Nat) (hW : FI σ r0 6 6 (fun i1 => post (some (.int i1)) σ)) : Do g M_X6_heft 0 0 [.ref r0] σ post := by
  refine Do.of (by decide +kernel) (Nat.le_of_ble_eq_true rfl) ?_
  show Fr g M_X6_heft (0, 0, 0, 0) [(0, .ref r0)] [] 0 σ post
  refine fr_aload_n (pc := 0) 0 rfl rfl dX6_heft_0 ?_
  refine fr_getI (pc := 1) (T := TX6) (k := 6) kc_X6 (by decide) w_1160 dX6_heft_1 hW (fun i1 hW => ?_)
  exact fr_iret (pc := 4) dX6_heft_4 rfl ⟨Nat.le_refl 0, Nat.le_refl 0⟩ hW
set_option maxHeartbeats 4000000 in
set_option maxRecDepth 100000 in
theorem q_X6_weigh {g : GG} {σ : Hs} {post : Option Value → Hs → Prop} (r0 : Nat) (p0 : Int32) (hW : PF σ r0 6 6 (.int p0) (fun s1 => post none s1)) : Do g M_X6_weigh 0 0 [.ref r0, .int p0] σ post := by
  refine Do.of (by decide +kernel) (Nat.le_of_ble_eq_true rfl) ?_
  show Fr g M_X6_weigh (0, 0, 0, 0) [(0, .ref r0), (1, .int p0)] [] 0 σ post
  refine fr_aload_n (pc := 0) 0 rfl rfl dX6_weigh_0 ?_
  refine fr_iload_n (pc := 1) 1 rfl rfl dX6_weigh_1 ?_
  refine fr_put (pc := 2) (T := TX6) (k := 6) kc_X6 (by decide) w_1160 rfl rfl rfl dX6_weigh_2 hW (fun s1 hW => ?_)
  exact fr_ret (pc := 5) dX6_weigh_5 rfl ⟨Nat.le_refl 0, Nat.le_refl 0⟩ hW
set_option maxHeartbeats 4000000 in
set_option maxRecDepth 100000 in
theorem q_X11_weight {g : GG} {σ : Hs} {post : Option Value → Hs → Prop} (r0 : Nat) (p0 : Int32) (p1 : Int32) (hW : FR σ r0 11 3 (fun r1 => Rc σ r1 10 ∧ Do g M_X10_question 0 0 [.ref r1, .int p0] σ (kA (fun s2 => post (some (.int (-101))) s2) (fun r5 s2 => Do g M_X11_isNumber 0 0 [.int p1] s2 (kI (fun i7 s6 => (¬ i7 = 0 → Rc s6 r5 6 ∧ Do g M_X6_heft 0 0 [.ref r5] s6 (kI (fun i11 s10 => Rc s10 r5 6 ∧ Do g M_X6_weigh 0 0 [.ref r5, .int p1] s10 (kV (fun s14 => post (some (.int i11)) s14))))) ∧ (i7 = 0 → post (some (.int (-102))) s6))))))) : Do g M_X11_weight 0 0 [.ref r0, .int p0, .int p1] σ post := by
  refine Do.of (by decide +kernel) (Nat.le_of_ble_eq_true rfl) ?_
  show Fr g M_X11_weight (0, 0, 0, 0) [(0, .ref r0), (1, .int p0), (2, .int p1)] [] 0 σ post
  refine fr_aload_n (pc := 0) 0 rfl rfl dX11_weight_0 ?_
  refine fr_getR (pc := 1) (T := TX11) (k := 3) kc_X11 (by decide) w_995 dX11_weight_1 hW (fun r1 hW => ?_)
  refine fr_iload_n (pc := 4) 1 rfl rfl dX11_weight_4 ?_
  obtain ⟨hrc, hW⟩ := hW
  refine fr_callV_A (pc := 5) (As := [.int p0]) (st := []) wd_X10_question w_1201 ok_X10_question (by decide) rfl (Nat.le_of_ble_eq_true rfl) dX11_weight_5 ⟨Nat.le_refl 0, Nat.le_refl 0⟩ kc_X10 hrc hW (fun s2 hW => ?_) (fun r5 s2 hW => ?_)
  · refine fr_astore_nN (pc := 8) (lv' := [(3, .null), (0, .ref r0), (1, .int p0), (2, .int p1)]) rfl (by decide) rfl dX11_weight_8 ?_
    refine fr_aload_nN (pc := 9) 0 rfl rfl dX11_weight_9 ?_
    refine fr_ifnonnullN (pc := 10) dX11_weight_10 ?_
    refine fr_bipush (pc := 13) (-101) (by decide) dX11_weight_13 ?_
    exact fr_iret (pc := 15) dX11_weight_15 rfl ⟨Nat.le_refl 0, Nat.le_refl 0⟩ hW
  · refine fr_astore_n (pc := 8) (lv' := [(3, .ref r5), (0, .ref r0), (1, .int p0), (2, .int p1)]) rfl (by decide) rfl dX11_weight_8 ?_
    refine fr_aload_n (pc := 9) 0 rfl rfl dX11_weight_9 ?_
    refine fr_ifnonnull (pc := 10) (tgt := 16) (by decide) dX11_weight_10 ?_
    refine fr_iload_n (pc := 16) 3 rfl rfl dX11_weight_16 ?_
    refine fr_callS_I (pc := 17) (As := [.int p1]) (st := []) wd_X11_isNumber w_1063 ok_X11_isNumber (by decide) rfl (Nat.le_of_ble_eq_true rfl) dX11_weight_17 ⟨Nat.le_refl 0, Nat.le_refl 0⟩ hW (fun i7 s6 hW => ?_)
    refine fr_if_ne (pc := 20) (tgt := 26) (by decide) dX11_weight_20 hW (fun hW => ?_) (fun hW => ?_)
    · refine fr_aload_n (pc := 26) 0 rfl rfl dX11_weight_26 ?_
      obtain ⟨hrc, hW⟩ := hW
      refine fr_callV_I (pc := 27) (As := []) (st := []) wd_X6_heft w_1206 ok_X6_heft (by decide) rfl (Nat.le_of_ble_eq_true rfl) dX11_weight_27 ⟨Nat.le_refl 0, Nat.le_refl 0⟩ kc_X6 hrc hW (fun i11 s10 hW => ?_)
      refine fr_istore (pc := 30) (lv' := [(4, .int i11), (3, .ref r5), (0, .ref r0), (1, .int p0), (2, .int p1)]) (by decide) rfl dX11_weight_30 ?_
      refine fr_aload_n (pc := 32) 1 rfl rfl dX11_weight_32 ?_
      refine fr_iload_n (pc := 33) 4 rfl rfl dX11_weight_33 ?_
      obtain ⟨hrc, hW⟩ := hW
      refine fr_callV_V (pc := 34) (As := [.int p1]) (st := []) wd_X6_weigh w_1207 ok_X6_weigh (by decide) rfl (Nat.le_of_ble_eq_true rfl) dX11_weight_34 ⟨Nat.le_refl 0, Nat.le_refl 0⟩ kc_X6 hrc hW (fun s14 hW => ?_)
      refine fr_iload (pc := 37) 0 rfl dX11_weight_37 ?_
      exact fr_iret (pc := 39) dX11_weight_39 rfl ⟨Nat.le_refl 0, Nat.le_refl 0⟩ hW
    · refine fr_bipush (pc := 23) (-102) (by decide) dX11_weight_23 ?_
      exact fr_iret (pc := 25) dX11_weight_25 rfl ⟨Nat.le_refl 0, Nat.le_refl 0⟩ hW
set_option maxHeartbeats 4000000 in
set_option maxRecDepth 100000 in
theorem q_X12_weight {g : GG} {σ : Hs} {post : Option Value → Hs → Prop} (r0 : Nat) (p0 : Int32) (p1 : Int32) (hW : Rc σ r0 12 ∧ Do g M_X12_isQuestion 0 0 [.ref r0, .int p0] σ (kI (fun i2 s1 => (¬ i2 = 0 → Do g M_X12_isNumber 0 0 [.int p1] s1 (kI (fun i6 s5 => (¬ i6 = 0 → FR s5 r0 12 18 (fun r9 => AI g s5 r9 0 p0 (fun i10 => FR s5 r0 12 18 (fun r11 => SI g s5 r11 0 p0 p1 (fun s12 => post (some (.int i10)) s12))))) ∧ (i6 = 0 → post (some (.int (-102))) s5)))) ∧ (i2 = 0 → post (some (.int (-101))) s1)))) : Do g M_X12_weight 0 0 [.ref r0, .int p0, .int p1] σ post := by
  refine Do.of (by decide +kernel) (Nat.le_of_ble_eq_true rfl) ?_
  show Fr g M_X12_weight (0, 0, 0, 0) [(0, .ref r0), (1, .int p0), (2, .int p1)] [] 0 σ post
  refine fr_aload_n (pc := 0) 0 rfl rfl dX12_weight_0 ?_
  refine fr_iload_n (pc := 1) 1 rfl rfl dX12_weight_1 ?_
  obtain ⟨hrc, hW⟩ := hW
  refine fr_callV_I (pc := 2) (As := [.int p0]) (st := []) wd_X12_isQuestion w_1205 ok_X12_isQuestion (by decide) rfl (Nat.le_of_ble_eq_true rfl) dX12_weight_2 ⟨Nat.le_refl 0, Nat.le_refl 0⟩ kc_X12 hrc hW (fun i2 s1 hW => ?_)
  refine fr_if_ne (pc := 5) (tgt := 11) (by decide) dX12_weight_5 hW (fun hW => ?_) (fun hW => ?_)
  · refine fr_iload_n (pc := 11) 2 rfl rfl dX12_weight_11 ?_
    refine fr_callS_I (pc := 12) (As := [.int p1]) (st := []) wd_X12_isNumber w_1077 ok_X12_isNumber (by decide) rfl (Nat.le_of_ble_eq_true rfl) dX12_weight_12 ⟨Nat.le_refl 0, Nat.le_refl 0⟩ hW (fun i6 s5 hW => ?_)
    refine fr_if_ne (pc := 15) (tgt := 21) (by decide) dX12_weight_15 hW (fun hW => ?_) (fun hW => ?_)
    · refine fr_aload_n (pc := 21) 0 rfl rfl dX12_weight_21 ?_
      refine fr_getR (pc := 22) (T := TX12) (k := 18) kc_X12 (by decide) w_1021 dX12_weight_22 hW (fun r9 hW => ?_)
      refine fr_iload_n (pc := 25) 1 rfl rfl dX12_weight_25 ?_
      refine fr_iald (pc := 26) dX12_weight_26 hW (fun i10 hW => ?_)
      refine fr_istore_n (pc := 27) (lv' := [(3, .int i10), (0, .ref r0), (1, .int p0), (2, .int p1)]) rfl (by decide) rfl dX12_weight_27 ?_
      refine fr_aload_n (pc := 28) 1 rfl rfl dX12_weight_28 ?_
      refine fr_getR (pc := 29) (T := TX12) (k := 18) kc_X12 (by decide) w_1021 dX12_weight_29 hW (fun r11 hW => ?_)
      refine fr_iload_n (pc := 32) 2 rfl rfl dX12_weight_32 ?_
      refine fr_iload_n (pc := 33) 3 rfl rfl dX12_weight_33 ?_
      refine fr_iast (pc := 34) dX12_weight_34 hW (fun s12 hW => ?_)
      refine fr_iload_n (pc := 35) 0 rfl rfl dX12_weight_35 ?_
      exact fr_iret (pc := 36) dX12_weight_36 rfl ⟨Nat.le_refl 0, Nat.le_refl 0⟩ hW
    · refine fr_bipush (pc := 18) (-102) (by decide) dX12_weight_18 ?_
      exact fr_iret (pc := 20) dX12_weight_20 rfl ⟨Nat.le_refl 0, Nat.le_refl 0⟩ hW
  · refine fr_bipush (pc := 8) (-101) (by decide) dX12_weight_8 ?_
    exact fr_iret (pc := 10) dX12_weight_10 rfl ⟨Nat.le_refl 0, Nat.le_refl 0⟩ hW
set_option maxHeartbeats 4000000 in
set_option maxRecDepth 100000 in
theorem q_X8_taken {g : GG} {σ : Hs} {post : Option Value → Hs → Prop} (r0 : Nat) (hW : FL σ r0 8 1 (fun l1 => post (some (.long l1)) σ)) : Do g M_X8_taken 0 0 [.ref r0] σ post := by
  refine Do.of (by decide +kernel) (Nat.le_of_ble_eq_true rfl) ?_
  show Fr g M_X8_taken (0, 0, 0, 0) [(0, .ref r0)] [] 0 σ post
  refine fr_aload_n (pc := 0) 0 rfl rfl dX8_taken_0 ?_
  refine fr_getL (pc := 1) (T := TX8) (k := 1) kc_X8 (by decide) w_1031 dX8_taken_1 hW (fun l1 hW => ?_)
  exact fr_lret (pc := 4) dX8_taken_4 rfl ⟨Nat.le_refl 0, Nat.le_refl 0⟩ hW
def J_X8_rowsWithin_6 (g : GG) (post : Option Value → Hs → Prop) (σ : Hs) (a0 : Nat) (v1 : Int32) (v2 : Int32) (v3 : Int32) (w4 : Int64) (v6 : Int32) : Prop := Fr g M_X8_rowsWithin (0, 0, 0, 0) [(0, .ref a0), (1, .int v1), (2, .int v2), (3, .int v3), (4, .long w4), (6, .int v6)] [] 6 σ post
set_option maxHeartbeats 4000000 in
set_option maxRecDepth 100000 in
theorem q_X8_rowsWithin {g : GG} {σ : Hs} {post : Option Value → Hs → Prop} (r0 : Nat) (p0 : Int32) (p1 : Int32) (p2 : Int32) (hW : J_X8_rowsWithin_6 g post σ r0 p0 p1 p2 0 0 ) : Do g M_X8_rowsWithin 0 0 [.ref r0, .int p0, .int p1, .int p2] σ post := by
  refine Do.of (by decide +kernel) (Nat.le_of_ble_eq_true rfl) ?_
  show Fr g M_X8_rowsWithin (0, 0, 0, 0) [(0, .ref r0), (1, .int p0), (2, .int p1), (3, .int p2)] [] 0 σ post
  refine fr_lconst (pc := 0) 0 (by decide) dX8_rowsWithin_0 ?_
  refine fr_lstore (pc := 1) (lv' := [(4, .long 0), (0, .ref r0), (1, .int p0), (2, .int p1), (3, .int p2)]) (by decide) rfl dX8_rowsWithin_1 ?_
  refine fr_iconst (pc := 3) 0 (by decide) dX8_rowsWithin_3 ?_
  refine fr_istore (pc := 4) (lv' := [(6, .int 0), (4, .long 0), (0, .ref r0), (1, .int p0), (2, .int p1), (3, .int p2)]) (by decide) rfl dX8_rowsWithin_4 ?_
  exact fr_sub [2, 3, 4, 5, 1, 0] rfl hW
set_option maxHeartbeats 4000000 in
set_option maxRecDepth 100000 in
theorem q_X8_rowsWithin_6 {g : GG} {σ : Hs} {post : Option Value → Hs → Prop} (a0 : Nat) (v1 : Int32) (v2 : Int32) (v3 : Int32) (w4 : Int64) (v6 : Int32) (hW : (64 ≤ v6 → post (some (.long w4)) σ) ∧ (¬ 64 ≤ v6 → FR σ a0 8 0 (fun r1 => Rc σ r1 1 ∧ Do g M_X1_at 0 0 [.ref r1, .int ((v6 * 4) + v1)] σ (kI (fun i3 s2 => FL s2 a0 8 1 (fun l6 => Do g M_X11_hasSlot 0 0 [.long l6, .int v6] s2 (kI (fun i8 s7 => (i8 = 0 → J_X8_rowsWithin_6 g post s7 a0 v1 v2 v3 w4 ((v6 + 1)) ) ∧ (¬ i8 = 0 → (i3 < v2 → J_X8_rowsWithin_6 g post s7 a0 v1 v2 v3 w4 ((v6 + 1)) ) ∧ (¬ i3 < v2 → (v3 < i3 → J_X8_rowsWithin_6 g post s7 a0 v1 v2 v3 w4 ((v6 + 1)) ) ∧ (¬ v3 < i3 → J_X8_rowsWithin_6 g post s7 a0 v1 v2 v3 ((w4 ||| ((1 : Int64) <<< (v6.toInt64 &&& 63)))) ((v6 + 1)) ))))))))))) : J_X8_rowsWithin_6 g post σ a0 v1 v2 v3 w4 v6 := by
  show Fr g M_X8_rowsWithin (0, 0, 0, 0) [(0, .ref a0), (1, .int v1), (2, .int v2), (3, .int v3), (4, .long w4), (6, .int v6)] [] 6 σ post
  refine fr_iload (pc := 6) 5 rfl dX8_rowsWithin_6 ?_
  refine fr_bipush (pc := 8) 64 (by decide) dX8_rowsWithin_8 ?_
  refine fr_icmp_ge (pc := 10) (tgt := 67) (by decide) dX8_rowsWithin_10 hW (fun hW => ?_) (fun hW => ?_)
  · refine fr_lload (pc := 67) 4 rfl dX8_rowsWithin_67 ?_
    exact fr_lret (pc := 69) dX8_rowsWithin_69 rfl ⟨Nat.le_refl 0, Nat.le_refl 0⟩ hW
  · refine fr_aload_n (pc := 13) 0 rfl rfl dX8_rowsWithin_13 ?_
    refine fr_getR (pc := 14) (T := TX8) (k := 0) kc_X8 (by decide) w_931 dX8_rowsWithin_14 hW (fun r1 hW => ?_)
    refine fr_iload (pc := 17) 5 rfl dX8_rowsWithin_17 ?_
    refine fr_iconst (pc := 19) 4 (by decide) dX8_rowsWithin_19 ?_
    refine fr_imul (pc := 20) dX8_rowsWithin_20 ?_
    refine fr_iload_n (pc := 21) 1 rfl rfl dX8_rowsWithin_21 ?_
    refine fr_iadd (pc := 22) dX8_rowsWithin_22 ?_
    obtain ⟨hrc, hW⟩ := hW
    refine fr_callV_I (pc := 23) (As := [.int ((v6 * 4) + v1)]) (st := []) wd_X1_at w_1035 ok_X1_at (by decide) rfl (Nat.le_of_ble_eq_true rfl) dX8_rowsWithin_23 ⟨Nat.le_refl 0, Nat.le_refl 0⟩ kc_X1 hrc hW (fun i3 s2 hW => ?_)
    refine fr_istore (pc := 26) (lv' := [(7, .int i3), (0, .ref a0), (1, .int v1), (2, .int v2), (3, .int v3), (4, .long w4), (6, .int v6)]) (by decide) rfl dX8_rowsWithin_26 ?_
    refine fr_aload_n (pc := 28) 1 rfl rfl dX8_rowsWithin_28 ?_
    refine fr_getL (pc := 29) (T := TX8) (k := 1) kc_X8 (by decide) w_1031 dX8_rowsWithin_29 hW (fun l6 hW => ?_)
    refine fr_iload (pc := 32) 6 rfl dX8_rowsWithin_32 ?_
    refine fr_callSN_I (pc := 34) (As := [.long l6, .int v6]) (st := []) wd_X11_hasSlot ⟨RX11, by decide +kernel⟩ ok_X11_hasSlot (by decide) rfl (Nat.le_of_ble_eq_true rfl) dX8_rowsWithin_34 ⟨Nat.le_refl 0, Nat.le_refl 0⟩ hW (fun i8 s7 hW => ?_)
    refine fr_if_eq (pc := 37) (tgt := 61) (by decide) dX8_rowsWithin_37 hW (fun hW => ?_) (fun hW => ?_)
    · refine fr_iinc (pc := 61) (lv' := [(6, .int (v6 + 1)), (7, .int i3), (0, .ref a0), (1, .int v1), (2, .int v2), (3, .int v3), (4, .long w4)]) (v6 + 1) 6 rfl (congrArg (fun z => v6 + z) (by decide)) (by decide) rfl dX8_rowsWithin_61 ?_
      refine fr_goto (pc := 64) (tgt := 6) (by decide) dX8_rowsWithin_64 ?_
      exact fr_sub [2, 3, 4, 5, 6, 0] rfl hW
    · refine fr_iload (pc := 40) 0 rfl dX8_rowsWithin_40 ?_
      refine fr_iload_n (pc := 42) 3 rfl rfl dX8_rowsWithin_42 ?_
      refine fr_icmp_lt (pc := 43) (tgt := 61) (by decide) dX8_rowsWithin_43 hW (fun hW => ?_) (fun hW => ?_)
      · refine fr_iinc (pc := 61) (lv' := [(6, .int (v6 + 1)), (7, .int i3), (0, .ref a0), (1, .int v1), (2, .int v2), (3, .int v3), (4, .long w4)]) (v6 + 1) 6 rfl (congrArg (fun z => v6 + z) (by decide)) (by decide) rfl dX8_rowsWithin_61 ?_
        refine fr_goto (pc := 64) (tgt := 6) (by decide) dX8_rowsWithin_64 ?_
        exact fr_sub [2, 3, 4, 5, 6, 0] rfl hW
      · refine fr_iload (pc := 46) 0 rfl dX8_rowsWithin_46 ?_
        refine fr_iload_n (pc := 48) 4 rfl rfl dX8_rowsWithin_48 ?_
        refine fr_icmp_gt (pc := 49) (tgt := 61) (by decide) dX8_rowsWithin_49 hW (fun hW => ?_) (fun hW => ?_)
        · refine fr_iinc (pc := 61) (lv' := [(6, .int (v6 + 1)), (7, .int i3), (0, .ref a0), (1, .int v1), (2, .int v2), (3, .int v3), (4, .long w4)]) (v6 + 1) 6 rfl (congrArg (fun z => v6 + z) (by decide)) (by decide) rfl dX8_rowsWithin_61 ?_
          refine fr_goto (pc := 64) (tgt := 6) (by decide) dX8_rowsWithin_64 ?_
          exact fr_sub [2, 3, 4, 5, 6, 0] rfl hW
        · refine fr_lload (pc := 52) 5 rfl dX8_rowsWithin_52 ?_
          refine fr_lconst (pc := 54) 1 (by decide) dX8_rowsWithin_54 ?_
          refine fr_iload (pc := 55) 6 rfl dX8_rowsWithin_55 ?_
          refine fr_lshl (pc := 57) dX8_rowsWithin_57 ?_
          refine fr_lor (pc := 58) dX8_rowsWithin_58 ?_
          refine fr_lstore (pc := 59) (lv' := [(4, .long (w4 ||| ((1 : Int64) <<< (v6.toInt64 &&& 63)))), (7, .int i3), (0, .ref a0), (1, .int v1), (2, .int v2), (3, .int v3), (6, .int v6)]) (by decide) rfl dX8_rowsWithin_59 ?_
          refine fr_iinc (pc := 61) (lv' := [(6, .int (v6 + 1)), (4, .long (w4 ||| ((1 : Int64) <<< (v6.toInt64 &&& 63)))), (7, .int i3), (0, .ref a0), (1, .int v1), (2, .int v2), (3, .int v3)]) (v6 + 1) 6 rfl (congrArg (fun z => v6 + z) (by decide)) (by decide) rfl dX8_rowsWithin_61 ?_
          refine fr_goto (pc := 64) (tgt := 6) (by decide) dX8_rowsWithin_64 ?_
          exact fr_sub [3, 4, 5, 6, 1, 0] rfl hW
def J_X6_rowsWithin_8 (g : GG) (post : Option Value → Hs → Prop) (σ : Hs) (a0 : Nat) (a1 : Nat) (v2 : Int32) (w3 : Int64) (v5 : Int32) : Prop := Fr g M_X6_rowsWithin (0, 0, 0, 0) [(0, .ref a0), (1, .ref a1), (2, .int v2), (3, .long w3), (5, .int v5)] [] 8 σ post
set_option maxHeartbeats 4000000 in
set_option maxRecDepth 100000 in
theorem q_X6_rowsWithin {g : GG} {σ : Hs} {post : Option Value → Hs → Prop} (r0 : Nat) (p0 : Nat) (p1 : Int32) (hW : Rc σ p0 8 ∧ Do g M_X8_taken 0 0 [.ref p0] σ (kL (fun l3 s1 => J_X6_rowsWithin_8 g post s1 r0 p0 p1 l3 0 ))) : Do g M_X6_rowsWithin 0 0 [.ref r0, .ref p0, .int p1] σ post := by
  refine Do.of (by decide +kernel) (Nat.le_of_ble_eq_true rfl) ?_
  show Fr g M_X6_rowsWithin (0, 0, 0, 0) [(0, .ref r0), (1, .ref p0), (2, .int p1)] [] 0 σ post
  refine fr_aload_n (pc := 0) 1 rfl rfl dX6_rowsWithin_0 ?_
  obtain ⟨hrc, hW⟩ := hW
  refine fr_callV_L (pc := 1) (As := []) (st := []) wd_X8_taken w_1208 ok_X8_taken (by decide) rfl (Nat.le_of_ble_eq_true rfl) dX6_rowsWithin_1 ⟨Nat.le_refl 0, Nat.le_refl 0⟩ kc_X8 hrc hW (fun l3 s1 hW => ?_)
  refine fr_lstore_n (pc := 4) (lv' := [(3, .long l3), (0, .ref r0), (1, .ref p0), (2, .int p1)]) rfl (by decide) rfl dX6_rowsWithin_4 ?_
  refine fr_iconst (pc := 5) 0 (by decide) dX6_rowsWithin_5 ?_
  refine fr_istore (pc := 6) (lv' := [(5, .int 0), (3, .long l3), (0, .ref r0), (1, .ref p0), (2, .int p1)]) (by decide) rfl dX6_rowsWithin_6 ?_
  exact fr_sub [2, 3, 4, 1, 0] rfl hW
set_option maxHeartbeats 4000000 in
set_option maxRecDepth 100000 in
theorem q_X6_rowsWithin_8 {g : GG} {σ : Hs} {post : Option Value → Hs → Prop} (a0 : Nat) (a1 : Nat) (v2 : Int32) (w3 : Int64) (v5 : Int32) (hW : (4 ≤ v5 → post (some (.long w3)) σ) ∧ (¬ 4 ≤ v5 → FI σ a0 6 2 (fun i5 => Do g M_X11_has 0 0 [.int (v2 &&& i5), .int v5] σ (kI (fun i7 s6 => (i7 = 0 → J_X6_rowsWithin_8 g post s6 a0 a1 v2 w3 ((v5 + 1)) ) ∧ (¬ i7 = 0 → Rc s6 a0 6 ∧ Do g M_X6_least 0 0 [.ref a0, .int v5] s6 (kI (fun i11 s10 => Rc s10 a0 6 ∧ Do g M_X6_greatest 0 0 [.ref a0, .int v5] s10 (kI (fun i15 s14 => Rc s14 a1 8 ∧ Do g M_X8_rowsWithin 0 0 [.ref a1, .int v5, .int i11, .int i15] s14 (kL (fun l20 s18 => J_X6_rowsWithin_8 g post s18 a0 a1 v2 ((w3 &&& l20)) ((v5 + 1)) )))))))))))) : J_X6_rowsWithin_8 g post σ a0 a1 v2 w3 v5 := by
  show Fr g M_X6_rowsWithin (0, 0, 0, 0) [(0, .ref a0), (1, .ref a1), (2, .int v2), (3, .long w3), (5, .int v5)] [] 8 σ post
  refine fr_iload (pc := 8) 4 rfl dX6_rowsWithin_8 ?_
  refine fr_iconst (pc := 10) 4 (by decide) dX6_rowsWithin_10 ?_
  refine fr_icmp_ge (pc := 11) (tgt := 55) (by decide) dX6_rowsWithin_11 hW (fun hW => ?_) (fun hW => ?_)
  · refine fr_lload_n (pc := 55) 3 rfl rfl dX6_rowsWithin_55 ?_
    exact fr_lret (pc := 56) dX6_rowsWithin_56 rfl ⟨Nat.le_refl 0, Nat.le_refl 0⟩ hW
  · refine fr_iload_n (pc := 14) 2 rfl rfl dX6_rowsWithin_14 ?_
    refine fr_aload_n (pc := 15) 0 rfl rfl dX6_rowsWithin_15 ?_
    refine fr_getI (pc := 16) (T := TX6) (k := 2) kc_X6 (by decide) w_1156 dX6_rowsWithin_16 hW (fun i5 hW => ?_)
    refine fr_iand (pc := 19) dX6_rowsWithin_19 ?_
    refine fr_iload (pc := 20) 4 rfl dX6_rowsWithin_20 ?_
    refine fr_callSN_I (pc := 22) (As := [.int (v2 &&& i5), .int v5]) (st := []) wd_X11_has ⟨RX11, by decide +kernel⟩ ok_X11_has (by decide) rfl (Nat.le_of_ble_eq_true rfl) dX6_rowsWithin_22 ⟨Nat.le_refl 0, Nat.le_refl 0⟩ hW (fun i7 s6 hW => ?_)
    refine fr_if_eq (pc := 25) (tgt := 49) (by decide) dX6_rowsWithin_25 hW (fun hW => ?_) (fun hW => ?_)
    · refine fr_iinc (pc := 49) (lv' := [(5, .int (v5 + 1)), (0, .ref a0), (1, .ref a1), (2, .int v2), (3, .long w3)]) (v5 + 1) 4 rfl (congrArg (fun z => v5 + z) (by decide)) (by decide) rfl dX6_rowsWithin_49 ?_
      refine fr_goto (pc := 52) (tgt := 8) (by decide) dX6_rowsWithin_52 ?_
      exact fr_sub [1, 2, 3, 4, 0] rfl hW
    · refine fr_lload_n (pc := 28) 3 rfl rfl dX6_rowsWithin_28 ?_
      refine fr_aload_n (pc := 29) 1 rfl rfl dX6_rowsWithin_29 ?_
      refine fr_iload (pc := 30) 4 rfl dX6_rowsWithin_30 ?_
      refine fr_aload_n (pc := 32) 0 rfl rfl dX6_rowsWithin_32 ?_
      refine fr_iload (pc := 33) 4 rfl dX6_rowsWithin_33 ?_
      obtain ⟨hrc, hW⟩ := hW
      refine fr_callV_I (pc := 35) (As := [.int v5]) (st := [.int v5, .ref a1, .long w3]) wd_X6_least w_1199 ok_X6_least (by decide) rfl (Nat.le_of_ble_eq_true rfl) dX6_rowsWithin_35 ⟨Nat.le_refl 0, Nat.le_refl 0⟩ kc_X6 hrc hW (fun i11 s10 hW => ?_)
      refine fr_aload_n (pc := 38) 0 rfl rfl dX6_rowsWithin_38 ?_
      refine fr_iload (pc := 39) 4 rfl dX6_rowsWithin_39 ?_
      obtain ⟨hrc, hW⟩ := hW
      refine fr_callV_I (pc := 41) (As := [.int v5]) (st := [.int i11, .int v5, .ref a1, .long w3]) wd_X6_greatest w_1200 ok_X6_greatest (by decide) rfl (Nat.le_of_ble_eq_true rfl) dX6_rowsWithin_41 ⟨Nat.le_refl 0, Nat.le_refl 0⟩ kc_X6 hrc hW (fun i15 s14 hW => ?_)
      obtain ⟨hrc, hW⟩ := hW
      refine fr_callV_L (pc := 44) (As := [.int v5, .int i11, .int i15]) (st := [.long w3]) wd_X8_rowsWithin w_1209 ok_X8_rowsWithin (by decide) rfl (Nat.le_of_ble_eq_true rfl) dX6_rowsWithin_44 ⟨Nat.le_refl 0, Nat.le_refl 0⟩ kc_X8 hrc hW (fun l20 s18 hW => ?_)
      refine fr_land (pc := 47) dX6_rowsWithin_47 ?_
      refine fr_lstore_n (pc := 48) (lv' := [(3, .long (w3 &&& l20)), (0, .ref a0), (1, .ref a1), (2, .int v2), (5, .int v5)]) rfl (by decide) rfl dX6_rowsWithin_48 ?_
      refine fr_iinc (pc := 49) (lv' := [(5, .int (v5 + 1)), (3, .long (w3 &&& l20)), (0, .ref a0), (1, .ref a1), (2, .int v2)]) (v5 + 1) 4 rfl (congrArg (fun z => v5 + z) (by decide)) (by decide) rfl dX6_rowsWithin_49 ?_
      refine fr_goto (pc := 52) (tgt := 8) (by decide) dX6_rowsWithin_52 ?_
      exact fr_sub [2, 3, 4, 1, 0] rfl hW
set_option maxHeartbeats 4000000 in
set_option maxRecDepth 100000 in
theorem q_X11_answers {g : GG} {σ : Hs} {post : Option Value → Hs → Prop} (r0 : Nat) (p0 : Int32) (hW : FR σ r0 11 3 (fun r1 => Rc σ r1 10 ∧ Do g M_X10_question 0 0 [.ref r1, .int p0] σ (kA (fun s2 => post (some (.int (-101))) s2) (fun r5 s2 => FR s2 r0 11 0 (fun r6 => Rc s2 r5 6 ∧ Do g M_X6_rowsWithin 0 0 [.ref r5, .ref r6, .int 15] s2 (kL (fun l9 s7 => Do g M_J13_bitCount_95d88 0 0 [.long l9] s7 (kI (fun i12 s11 => post (some (.int i12)) s11))))))))) : Do g M_X11_answers 0 0 [.ref r0, .int p0] σ post := by
  refine Do.of (by decide +kernel) (Nat.le_of_ble_eq_true rfl) ?_
  show Fr g M_X11_answers (0, 0, 0, 0) [(0, .ref r0), (1, .int p0)] [] 0 σ post
  refine fr_aload_n (pc := 0) 0 rfl rfl dX11_answers_0 ?_
  refine fr_getR (pc := 1) (T := TX11) (k := 3) kc_X11 (by decide) w_995 dX11_answers_1 hW (fun r1 hW => ?_)
  refine fr_iload_n (pc := 4) 1 rfl rfl dX11_answers_4 ?_
  obtain ⟨hrc, hW⟩ := hW
  refine fr_callV_A (pc := 5) (As := [.int p0]) (st := []) wd_X10_question w_1201 ok_X10_question (by decide) rfl (Nat.le_of_ble_eq_true rfl) dX11_answers_5 ⟨Nat.le_refl 0, Nat.le_refl 0⟩ kc_X10 hrc hW (fun s2 hW => ?_) (fun r5 s2 hW => ?_)
  · refine fr_astore_nN (pc := 8) (lv' := [(2, .null), (0, .ref r0), (1, .int p0)]) rfl (by decide) rfl dX11_answers_8 ?_
    refine fr_aload_nN (pc := 9) 0 rfl rfl dX11_answers_9 ?_
    refine fr_ifnonnullN (pc := 10) dX11_answers_10 ?_
    refine fr_bipush (pc := 13) (-101) (by decide) dX11_answers_13 ?_
    refine fr_goto (pc := 15) (tgt := 31) (by decide) dX11_answers_15 ?_
    exact fr_iret (pc := 31) dX11_answers_31 rfl ⟨Nat.le_refl 0, Nat.le_refl 0⟩ hW
  · refine fr_astore_n (pc := 8) (lv' := [(2, .ref r5), (0, .ref r0), (1, .int p0)]) rfl (by decide) rfl dX11_answers_8 ?_
    refine fr_aload_n (pc := 9) 0 rfl rfl dX11_answers_9 ?_
    refine fr_ifnonnull (pc := 10) (tgt := 18) (by decide) dX11_answers_10 ?_
    refine fr_aload_n (pc := 18) 0 rfl rfl dX11_answers_18 ?_
    refine fr_aload_n (pc := 19) 1 rfl rfl dX11_answers_19 ?_
    refine fr_getR (pc := 20) (T := TX11) (k := 0) kc_X11 (by decide) w_990 dX11_answers_20 hW (fun r6 hW => ?_)
    refine fr_bipush (pc := 23) 15 (by decide) dX11_answers_23 ?_
    obtain ⟨hrc, hW⟩ := hW
    refine fr_callV_L (pc := 25) (As := [.ref r6, .int 15]) (st := []) wd_X6_rowsWithin w_1210 ok_X6_rowsWithin (by decide) rfl (Nat.le_of_ble_eq_true rfl) dX11_answers_25 ⟨Nat.le_refl 0, Nat.le_refl 0⟩ kc_X6 hrc hW (fun l9 s7 hW => ?_)
    refine fr_callS_I (pc := 28) (As := [.long l9]) (st := []) wd_J13_bitCount_95d88 w_1211 ok_J13_bitCount_95d88 (by decide) rfl (Nat.le_of_ble_eq_true rfl) dX11_answers_28 ⟨Nat.le_refl 0, Nat.le_refl 0⟩ hW (fun i12 s11 hW => ?_)
    exact fr_iret (pc := 31) dX11_answers_31 rfl ⟨Nat.le_refl 0, Nat.le_refl 0⟩ hW
set_option maxHeartbeats 4000000 in
set_option maxRecDepth 100000 in
theorem q_X12_leastOf {g : GG} {σ : Hs} {post : Option Value → Hs → Prop} (r0 : Nat) (p0 : Int32) (p1 : Int32) (hW : FR σ r0 12 15 (fun r1 => AI g σ r1 0 ((8 * p0) + (2 * p1)) (fun i2 => post (some (.int i2)) σ))) : Do g M_X12_leastOf 0 0 [.ref r0, .int p0, .int p1] σ post := by
  refine Do.of (by decide +kernel) (Nat.le_of_ble_eq_true rfl) ?_
  show Fr g M_X12_leastOf (0, 0, 0, 0) [(0, .ref r0), (1, .int p0), (2, .int p1)] [] 0 σ post
  refine fr_aload_n (pc := 0) 0 rfl rfl dX12_leastOf_0 ?_
  refine fr_getR (pc := 1) (T := TX12) (k := 15) kc_X12 (by decide) w_1018 dX12_leastOf_1 hW (fun r1 hW => ?_)
  refine fr_bipush (pc := 4) 8 (by decide) dX12_leastOf_4 ?_
  refine fr_iload_n (pc := 6) 1 rfl rfl dX12_leastOf_6 ?_
  refine fr_imul (pc := 7) dX12_leastOf_7 ?_
  refine fr_iconst (pc := 8) 2 (by decide) dX12_leastOf_8 ?_
  refine fr_iload_n (pc := 9) 2 rfl rfl dX12_leastOf_9 ?_
  refine fr_imul (pc := 10) dX12_leastOf_10 ?_
  refine fr_iadd (pc := 11) dX12_leastOf_11 ?_
  refine fr_iald (pc := 12) dX12_leastOf_12 hW (fun i2 hW => ?_)
  exact fr_iret (pc := 13) dX12_leastOf_13 rfl ⟨Nat.le_refl 0, Nat.le_refl 0⟩ hW
set_option maxHeartbeats 4000000 in
set_option maxRecDepth 100000 in
theorem q_X12_mostOf {g : GG} {σ : Hs} {post : Option Value → Hs → Prop} (r0 : Nat) (p0 : Int32) (p1 : Int32) (hW : FR σ r0 12 15 (fun r1 => AI g σ r1 0 (((8 * p0) + (2 * p1)) + 1) (fun i2 => post (some (.int i2)) σ))) : Do g M_X12_mostOf 0 0 [.ref r0, .int p0, .int p1] σ post := by
  refine Do.of (by decide +kernel) (Nat.le_of_ble_eq_true rfl) ?_
  show Fr g M_X12_mostOf (0, 0, 0, 0) [(0, .ref r0), (1, .int p0), (2, .int p1)] [] 0 σ post
  refine fr_aload_n (pc := 0) 0 rfl rfl dX12_mostOf_0 ?_
  refine fr_getR (pc := 1) (T := TX12) (k := 15) kc_X12 (by decide) w_1018 dX12_mostOf_1 hW (fun r1 hW => ?_)
  refine fr_bipush (pc := 4) 8 (by decide) dX12_mostOf_4 ?_
  refine fr_iload_n (pc := 6) 1 rfl rfl dX12_mostOf_6 ?_
  refine fr_imul (pc := 7) dX12_mostOf_7 ?_
  refine fr_iconst (pc := 8) 2 (by decide) dX12_mostOf_8 ?_
  refine fr_iload_n (pc := 9) 2 rfl rfl dX12_mostOf_9 ?_
  refine fr_imul (pc := 10) dX12_mostOf_10 ?_
  refine fr_iadd (pc := 11) dX12_mostOf_11 ?_
  refine fr_iconst (pc := 12) 1 (by decide) dX12_mostOf_12 ?_
  refine fr_iadd (pc := 13) dX12_mostOf_13 ?_
  refine fr_iald (pc := 14) dX12_mostOf_14 hW (fun i2 hW => ?_)
  exact fr_iret (pc := 15) dX12_mostOf_15 rfl ⟨Nat.le_refl 0, Nat.le_refl 0⟩ hW
set_option maxHeartbeats 4000000 in
set_option maxRecDepth 100000 in
theorem q_X12_isWithin {g : GG} {σ : Hs} {post : Option Value → Hs → Prop} (r0 : Nat) (p0 : Int32) (p1 : Int32) (p2 : Int32) (hW : FR σ r0 12 1 (fun r1 => AI g σ r1 0 ((4 * p2) + p1) (fun i2 => Rc σ r0 12 ∧ Do g M_X12_leastOf 0 0 [.ref r0, .int p0, .int p1] σ (kI (fun i4 s3 => Rc s3 r0 12 ∧ Do g M_X12_mostOf 0 0 [.ref r0, .int p0, .int p1] s3 (kI (fun i8 s7 => Do g M_X12_in 0 0 [.int i2, .int i4, .int i8] s7 (kI (fun i12 s11 => (narrow .boolean (.int i12) = .int i12 ∧ post (some (.int i12)) s11)))))))))) : Do g M_X12_isWithin 0 0 [.ref r0, .int p0, .int p1, .int p2] σ post := by
  refine Do.of (by decide +kernel) (Nat.le_of_ble_eq_true rfl) ?_
  show Fr g M_X12_isWithin (0, 0, 0, 0) [(0, .ref r0), (1, .int p0), (2, .int p1), (3, .int p2)] [] 0 σ post
  refine fr_aload_n (pc := 0) 0 rfl rfl dX12_isWithin_0 ?_
  refine fr_getR (pc := 1) (T := TX12) (k := 1) kc_X12 (by decide) w_1007 dX12_isWithin_1 hW (fun r1 hW => ?_)
  refine fr_iconst (pc := 4) 4 (by decide) dX12_isWithin_4 ?_
  refine fr_iload_n (pc := 5) 3 rfl rfl dX12_isWithin_5 ?_
  refine fr_imul (pc := 6) dX12_isWithin_6 ?_
  refine fr_iload_n (pc := 7) 2 rfl rfl dX12_isWithin_7 ?_
  refine fr_iadd (pc := 8) dX12_isWithin_8 ?_
  refine fr_iald (pc := 9) dX12_isWithin_9 hW (fun i2 hW => ?_)
  refine fr_aload_n (pc := 10) 0 rfl rfl dX12_isWithin_10 ?_
  refine fr_iload_n (pc := 11) 1 rfl rfl dX12_isWithin_11 ?_
  refine fr_iload_n (pc := 12) 2 rfl rfl dX12_isWithin_12 ?_
  obtain ⟨hrc, hW⟩ := hW
  refine fr_callV_I (pc := 13) (As := [.int p0, .int p1]) (st := [.int i2]) wd_X12_leastOf w_1212 ok_X12_leastOf (by decide) rfl (Nat.le_of_ble_eq_true rfl) dX12_isWithin_13 ⟨Nat.le_refl 0, Nat.le_refl 0⟩ kc_X12 hrc hW (fun i4 s3 hW => ?_)
  refine fr_aload_n (pc := 16) 0 rfl rfl dX12_isWithin_16 ?_
  refine fr_iload_n (pc := 17) 1 rfl rfl dX12_isWithin_17 ?_
  refine fr_iload_n (pc := 18) 2 rfl rfl dX12_isWithin_18 ?_
  obtain ⟨hrc, hW⟩ := hW
  refine fr_callV_I (pc := 19) (As := [.int p0, .int p1]) (st := [.int i4, .int i2]) wd_X12_mostOf w_1213 ok_X12_mostOf (by decide) rfl (Nat.le_of_ble_eq_true rfl) dX12_isWithin_19 ⟨Nat.le_refl 0, Nat.le_refl 0⟩ kc_X12 hrc hW (fun i8 s7 hW => ?_)
  refine fr_callS_I (pc := 22) (As := [.int i2, .int i4, .int i8]) (st := []) wd_X12_in w_1067 ok_X12_in (by decide) rfl (Nat.le_of_ble_eq_true rfl) dX12_isWithin_22 ⟨Nat.le_refl 0, Nat.le_refl 0⟩ hW (fun i12 s11 hW => ?_)
  exact fr_zret (pc := 25) dX12_isWithin_25 rfl ⟨Nat.le_refl 0, Nat.le_refl 0⟩ hW
set_option maxHeartbeats 4000000 in
set_option maxRecDepth 100000 in
theorem q_X12_isAnswer {g : GG} {σ : Hs} {post : Option Value → Hs → Prop} (r0 : Nat) (p0 : Int32) (p1 : Int32) (hW : FR σ r0 12 0 (fun r1 => AI g σ r1 1 p1 (fun i2 => (i2 = 0 → post (some (.int 0)) σ) ∧ (¬ i2 = 0 → Rc σ r0 12 ∧ Do g M_X12_isWithin 0 0 [.ref r0, .int p0, .int 0, .int p1] σ (kI (fun i4 s3 => (i4 = 0 → post (some (.int 0)) s3) ∧ (¬ i4 = 0 → Rc s3 r0 12 ∧ Do g M_X12_isWithin 0 0 [.ref r0, .int p0, .int 1, .int p1] s3 (kI (fun i8 s7 => (i8 = 0 → post (some (.int 0)) s7) ∧ (¬ i8 = 0 → Rc s7 r0 12 ∧ Do g M_X12_isWithin 0 0 [.ref r0, .int p0, .int 2, .int p1] s7 (kI (fun i12 s11 => (i12 = 0 → post (some (.int 0)) s11) ∧ (¬ i12 = 0 → Rc s11 r0 12 ∧ Do g M_X12_isWithin 0 0 [.ref r0, .int p0, .int 3, .int p1] s11 (kI (fun i16 s15 => (i16 = 0 → post (some (.int 0)) s15) ∧ (¬ i16 = 0 → post (some (.int 1)) s15)))))))))))))))) : Do g M_X12_isAnswer 0 0 [.ref r0, .int p0, .int p1] σ post := by
  refine Do.of (by decide +kernel) (Nat.le_of_ble_eq_true rfl) ?_
  show Fr g M_X12_isAnswer (0, 0, 0, 0) [(0, .ref r0), (1, .int p0), (2, .int p1)] [] 0 σ post
  refine fr_aload_n (pc := 0) 0 rfl rfl dX12_isAnswer_0 ?_
  refine fr_getR (pc := 1) (T := TX12) (k := 0) kc_X12 (by decide) w_1006 dX12_isAnswer_1 hW (fun r1 hW => ?_)
  refine fr_iload_n (pc := 4) 2 rfl rfl dX12_isAnswer_4 ?_
  refine fr_zald (pc := 5) dX12_isAnswer_5 hW (fun i2 hW => ?_)
  refine fr_if_eq (pc := 6) (tgt := 53) (by decide) dX12_isAnswer_6 hW (fun hW => ?_) (fun hW => ?_)
  · refine fr_iconst (pc := 53) 0 (by decide) dX12_isAnswer_53 ?_
    exact fr_zret (pc := 54) dX12_isAnswer_54 rfl ⟨Nat.le_refl 0, Nat.le_refl 0⟩ ⟨rfl, hW⟩
  · refine fr_aload_n (pc := 9) 0 rfl rfl dX12_isAnswer_9 ?_
    refine fr_iload_n (pc := 10) 1 rfl rfl dX12_isAnswer_10 ?_
    refine fr_iconst (pc := 11) 0 (by decide) dX12_isAnswer_11 ?_
    refine fr_iload_n (pc := 12) 2 rfl rfl dX12_isAnswer_12 ?_
    obtain ⟨hrc, hW⟩ := hW
    refine fr_callV_I (pc := 13) (As := [.int p0, .int 0, .int p1]) (st := []) wd_X12_isWithin w_1214 ok_X12_isWithin (by decide) rfl (Nat.le_of_ble_eq_true rfl) dX12_isAnswer_13 ⟨Nat.le_refl 0, Nat.le_refl 0⟩ kc_X12 hrc hW (fun i4 s3 hW => ?_)
    refine fr_if_eq (pc := 16) (tgt := 53) (by decide) dX12_isAnswer_16 hW (fun hW => ?_) (fun hW => ?_)
    · refine fr_iconst (pc := 53) 0 (by decide) dX12_isAnswer_53 ?_
      exact fr_zret (pc := 54) dX12_isAnswer_54 rfl ⟨Nat.le_refl 0, Nat.le_refl 0⟩ ⟨rfl, hW⟩
    · refine fr_aload_n (pc := 19) 0 rfl rfl dX12_isAnswer_19 ?_
      refine fr_iload_n (pc := 20) 1 rfl rfl dX12_isAnswer_20 ?_
      refine fr_iconst (pc := 21) 1 (by decide) dX12_isAnswer_21 ?_
      refine fr_iload_n (pc := 22) 2 rfl rfl dX12_isAnswer_22 ?_
      obtain ⟨hrc, hW⟩ := hW
      refine fr_callV_I (pc := 23) (As := [.int p0, .int 1, .int p1]) (st := []) wd_X12_isWithin w_1214 ok_X12_isWithin (by decide) rfl (Nat.le_of_ble_eq_true rfl) dX12_isAnswer_23 ⟨Nat.le_refl 0, Nat.le_refl 0⟩ kc_X12 hrc hW (fun i8 s7 hW => ?_)
      refine fr_if_eq (pc := 26) (tgt := 53) (by decide) dX12_isAnswer_26 hW (fun hW => ?_) (fun hW => ?_)
      · refine fr_iconst (pc := 53) 0 (by decide) dX12_isAnswer_53 ?_
        exact fr_zret (pc := 54) dX12_isAnswer_54 rfl ⟨Nat.le_refl 0, Nat.le_refl 0⟩ ⟨rfl, hW⟩
      · refine fr_aload_n (pc := 29) 0 rfl rfl dX12_isAnswer_29 ?_
        refine fr_iload_n (pc := 30) 1 rfl rfl dX12_isAnswer_30 ?_
        refine fr_iconst (pc := 31) 2 (by decide) dX12_isAnswer_31 ?_
        refine fr_iload_n (pc := 32) 2 rfl rfl dX12_isAnswer_32 ?_
        obtain ⟨hrc, hW⟩ := hW
        refine fr_callV_I (pc := 33) (As := [.int p0, .int 2, .int p1]) (st := []) wd_X12_isWithin w_1214 ok_X12_isWithin (by decide) rfl (Nat.le_of_ble_eq_true rfl) dX12_isAnswer_33 ⟨Nat.le_refl 0, Nat.le_refl 0⟩ kc_X12 hrc hW (fun i12 s11 hW => ?_)
        refine fr_if_eq (pc := 36) (tgt := 53) (by decide) dX12_isAnswer_36 hW (fun hW => ?_) (fun hW => ?_)
        · refine fr_iconst (pc := 53) 0 (by decide) dX12_isAnswer_53 ?_
          exact fr_zret (pc := 54) dX12_isAnswer_54 rfl ⟨Nat.le_refl 0, Nat.le_refl 0⟩ ⟨rfl, hW⟩
        · refine fr_aload_n (pc := 39) 0 rfl rfl dX12_isAnswer_39 ?_
          refine fr_iload_n (pc := 40) 1 rfl rfl dX12_isAnswer_40 ?_
          refine fr_iconst (pc := 41) 3 (by decide) dX12_isAnswer_41 ?_
          refine fr_iload_n (pc := 42) 2 rfl rfl dX12_isAnswer_42 ?_
          obtain ⟨hrc, hW⟩ := hW
          refine fr_callV_I (pc := 43) (As := [.int p0, .int 3, .int p1]) (st := []) wd_X12_isWithin w_1214 ok_X12_isWithin (by decide) rfl (Nat.le_of_ble_eq_true rfl) dX12_isAnswer_43 ⟨Nat.le_refl 0, Nat.le_refl 0⟩ kc_X12 hrc hW (fun i16 s15 hW => ?_)
          refine fr_if_eq (pc := 46) (tgt := 53) (by decide) dX12_isAnswer_46 hW (fun hW => ?_) (fun hW => ?_)
          · refine fr_iconst (pc := 53) 0 (by decide) dX12_isAnswer_53 ?_
            exact fr_zret (pc := 54) dX12_isAnswer_54 rfl ⟨Nat.le_refl 0, Nat.le_refl 0⟩ ⟨rfl, hW⟩
          · refine fr_iconst (pc := 49) 1 (by decide) dX12_isAnswer_49 ?_
            refine fr_goto (pc := 50) (tgt := 54) (by decide) dX12_isAnswer_50 ?_
            exact fr_zret (pc := 54) dX12_isAnswer_54 rfl ⟨Nat.le_refl 0, Nat.le_refl 0⟩ ⟨rfl, hW⟩
def J_X12_answersOf_4 (g : GG) (post : Option Value → Hs → Prop) (σ : Hs) (a0 : Nat) (v1 : Int32) (v2 : Int32) (v3 : Int32) : Prop := Fr g M_X12_answersOf (0, 0, 0, 0) [(0, .ref a0), (1, .int v1), (2, .int v2), (3, .int v3)] [] 4 σ post
set_option maxHeartbeats 4000000 in
set_option maxRecDepth 100000 in
theorem q_X12_answersOf {g : GG} {σ : Hs} {post : Option Value → Hs → Prop} (r0 : Nat) (p0 : Int32) (hW : J_X12_answersOf_4 g post σ r0 p0 0 0 ) : Do g M_X12_answersOf 0 0 [.ref r0, .int p0] σ post := by
  refine Do.of (by decide +kernel) (Nat.le_of_ble_eq_true rfl) ?_
  show Fr g M_X12_answersOf (0, 0, 0, 0) [(0, .ref r0), (1, .int p0)] [] 0 σ post
  refine fr_iconst (pc := 0) 0 (by decide) dX12_answersOf_0 ?_
  refine fr_istore_n (pc := 1) (lv' := [(2, .int 0), (0, .ref r0), (1, .int p0)]) rfl (by decide) rfl dX12_answersOf_1 ?_
  refine fr_iconst (pc := 2) 0 (by decide) dX12_answersOf_2 ?_
  refine fr_istore_n (pc := 3) (lv' := [(3, .int 0), (2, .int 0), (0, .ref r0), (1, .int p0)]) rfl (by decide) rfl dX12_answersOf_3 ?_
  exact fr_sub [2, 3, 1, 0] rfl hW
set_option maxHeartbeats 4000000 in
set_option maxRecDepth 100000 in
theorem q_X12_answersOf_4 {g : GG} {σ : Hs} {post : Option Value → Hs → Prop} (a0 : Nat) (v1 : Int32) (v2 : Int32) (v3 : Int32) (hW : (64 ≤ v3 → post (some (.int v2)) σ) ∧ (¬ 64 ≤ v3 → Rc σ a0 12 ∧ Do g M_X12_isAnswer 0 0 [.ref a0, .int v1, .int v3] σ (kI (fun i2 s1 => (i2 = 0 → J_X12_answersOf_4 g post s1 a0 v1 ((v2 + 0)) ((v3 + 1)) ) ∧ (¬ i2 = 0 → J_X12_answersOf_4 g post s1 a0 v1 ((v2 + 1)) ((v3 + 1)) ))))) : J_X12_answersOf_4 g post σ a0 v1 v2 v3 := by
  show Fr g M_X12_answersOf (0, 0, 0, 0) [(0, .ref a0), (1, .int v1), (2, .int v2), (3, .int v3)] [] 4 σ post
  refine fr_iload_n (pc := 4) 3 rfl rfl dX12_answersOf_4 ?_
  refine fr_bipush (pc := 5) 64 (by decide) dX12_answersOf_5 ?_
  refine fr_icmp_ge (pc := 7) (tgt := 33) (by decide) dX12_answersOf_7 hW (fun hW => ?_) (fun hW => ?_)
  · refine fr_iload_n (pc := 33) 2 rfl rfl dX12_answersOf_33 ?_
    exact fr_iret (pc := 34) dX12_answersOf_34 rfl ⟨Nat.le_refl 0, Nat.le_refl 0⟩ hW
  · refine fr_iload_n (pc := 10) 2 rfl rfl dX12_answersOf_10 ?_
    refine fr_aload_n (pc := 11) 0 rfl rfl dX12_answersOf_11 ?_
    refine fr_iload_n (pc := 12) 1 rfl rfl dX12_answersOf_12 ?_
    refine fr_iload_n (pc := 13) 3 rfl rfl dX12_answersOf_13 ?_
    obtain ⟨hrc, hW⟩ := hW
    refine fr_callV_I (pc := 14) (As := [.int v1, .int v3]) (st := [.int v2]) wd_X12_isAnswer w_1215 ok_X12_isAnswer (by decide) rfl (Nat.le_of_ble_eq_true rfl) dX12_answersOf_14 ⟨Nat.le_refl 0, Nat.le_refl 0⟩ kc_X12 hrc hW (fun i2 s1 hW => ?_)
    refine fr_if_eq (pc := 17) (tgt := 24) (by decide) dX12_answersOf_17 hW (fun hW => ?_) (fun hW => ?_)
    · refine fr_iconst (pc := 24) 0 (by decide) dX12_answersOf_24 ?_
      refine fr_iadd (pc := 25) dX12_answersOf_25 ?_
      refine fr_istore_n (pc := 26) (lv' := [(2, .int (v2 + 0)), (0, .ref a0), (1, .int v1), (3, .int v3)]) rfl (by decide) rfl dX12_answersOf_26 ?_
      refine fr_iinc (pc := 27) (lv' := [(3, .int (v3 + 1)), (2, .int (v2 + 0)), (0, .ref a0), (1, .int v1)]) (v3 + 1) 3 rfl (congrArg (fun z => v3 + z) (by decide)) (by decide) rfl dX12_answersOf_27 ?_
      refine fr_goto (pc := 30) (tgt := 4) (by decide) dX12_answersOf_30 ?_
      exact fr_sub [2, 3, 1, 0] rfl hW
    · refine fr_iconst (pc := 20) 1 (by decide) dX12_answersOf_20 ?_
      refine fr_goto (pc := 21) (tgt := 25) (by decide) dX12_answersOf_21 ?_
      refine fr_iadd (pc := 25) dX12_answersOf_25 ?_
      refine fr_istore_n (pc := 26) (lv' := [(2, .int (v2 + 1)), (0, .ref a0), (1, .int v1), (3, .int v3)]) rfl (by decide) rfl dX12_answersOf_26 ?_
      refine fr_iinc (pc := 27) (lv' := [(3, .int (v3 + 1)), (2, .int (v2 + 1)), (0, .ref a0), (1, .int v1)]) (v3 + 1) 3 rfl (congrArg (fun z => v3 + z) (by decide)) (by decide) rfl dX12_answersOf_27 ?_
      refine fr_goto (pc := 30) (tgt := 4) (by decide) dX12_answersOf_30 ?_
      exact fr_sub [2, 3, 1, 0] rfl hW
set_option maxHeartbeats 4000000 in
set_option maxRecDepth 100000 in
theorem q_X12_answers {g : GG} {σ : Hs} {post : Option Value → Hs → Prop} (r0 : Nat) (p0 : Int32) (hW : Rc σ r0 12 ∧ Do g M_X12_isQuestion 0 0 [.ref r0, .int p0] σ (kI (fun i2 s1 => (i2 = 0 → post (some (.int (-101))) s1) ∧ (¬ i2 = 0 → Rc s1 r0 12 ∧ Do g M_X12_answersOf 0 0 [.ref r0, .int p0] s1 (kI (fun i6 s5 => post (some (.int i6)) s5)))))) : Do g M_X12_answers 0 0 [.ref r0, .int p0] σ post := by
  refine Do.of (by decide +kernel) (Nat.le_of_ble_eq_true rfl) ?_
  show Fr g M_X12_answers (0, 0, 0, 0) [(0, .ref r0), (1, .int p0)] [] 0 σ post
  refine fr_aload_n (pc := 0) 0 rfl rfl dX12_answers_0 ?_
  refine fr_iload_n (pc := 1) 1 rfl rfl dX12_answers_1 ?_
  obtain ⟨hrc, hW⟩ := hW
  refine fr_callV_I (pc := 2) (As := [.int p0]) (st := []) wd_X12_isQuestion w_1205 ok_X12_isQuestion (by decide) rfl (Nat.le_of_ble_eq_true rfl) dX12_answers_2 ⟨Nat.le_refl 0, Nat.le_refl 0⟩ kc_X12 hrc hW (fun i2 s1 hW => ?_)
  refine fr_if_eq (pc := 5) (tgt := 16) (by decide) dX12_answers_5 hW (fun hW => ?_) (fun hW => ?_)
  · refine fr_bipush (pc := 16) (-101) (by decide) dX12_answers_16 ?_
    exact fr_iret (pc := 18) dX12_answers_18 rfl ⟨Nat.le_refl 0, Nat.le_refl 0⟩ hW
  · refine fr_aload_n (pc := 8) 0 rfl rfl dX12_answers_8 ?_
    refine fr_iload_n (pc := 9) 1 rfl rfl dX12_answers_9 ?_
    obtain ⟨hrc, hW⟩ := hW
    refine fr_callV_I (pc := 10) (As := [.int p0]) (st := []) wd_X12_answersOf w_1216 ok_X12_answersOf (by decide) rfl (Nat.le_of_ble_eq_true rfl) dX12_answers_10 ⟨Nat.le_refl 0, Nat.le_refl 0⟩ kc_X12 hrc hW (fun i6 s5 hW => ?_)
    refine fr_goto (pc := 13) (tgt := 18) (by decide) dX12_answers_13 ?_
    exact fr_iret (pc := 18) dX12_answers_18 rfl ⟨Nat.le_refl 0, Nat.le_refl 0⟩ hW
set_option maxHeartbeats 4000000 in
set_option maxRecDepth 100000 in
theorem q_X6_sortNumber {g : GG} {σ : Hs} {post : Option Value → Hs → Prop} (r0 : Nat) (p0 : Nat) (p1 : Int32) (hW : FI σ r0 6 5 (fun i1 => (¬ i1 = (-1) → FI σ r0 6 5 (fun i2 => Rc σ p0 8 ∧ Do g M_X8_number 0 0 [.ref p0, .int p1, .int i2] σ (kI (fun i4 s3 => post (some (.int i4)) s3)))) ∧ (i1 = (-1) → post (some (.int 0)) σ))) : Do g M_X6_sortNumber 0 0 [.ref r0, .ref p0, .int p1] σ post := by
  refine Do.of (by decide +kernel) (Nat.le_of_ble_eq_true rfl) ?_
  show Fr g M_X6_sortNumber (0, 0, 0, 0) [(0, .ref r0), (1, .ref p0), (2, .int p1)] [] 0 σ post
  refine fr_aload_n (pc := 0) 0 rfl rfl dX6_sortNumber_0 ?_
  refine fr_getI (pc := 1) (T := TX6) (k := 5) kc_X6 (by decide) w_1159 dX6_sortNumber_1 hW (fun i1 hW => ?_)
  refine fr_iconst (pc := 4) (-1) (by decide) dX6_sortNumber_4 ?_
  refine fr_icmp_ne (pc := 5) (tgt := 12) (by decide) dX6_sortNumber_5 hW (fun hW => ?_) (fun hW => ?_)
  · refine fr_aload_n (pc := 12) 1 rfl rfl dX6_sortNumber_12 ?_
    refine fr_iload_n (pc := 13) 2 rfl rfl dX6_sortNumber_13 ?_
    refine fr_aload_n (pc := 14) 0 rfl rfl dX6_sortNumber_14 ?_
    refine fr_getI (pc := 15) (T := TX6) (k := 5) kc_X6 (by decide) w_1159 dX6_sortNumber_15 hW (fun i2 hW => ?_)
    obtain ⟨hrc, hW⟩ := hW
    refine fr_callV_I (pc := 18) (As := [.int p1, .int i2]) (st := []) wd_X8_number w_1217 ok_X8_number (by decide) rfl (Nat.le_of_ble_eq_true rfl) dX6_sortNumber_18 ⟨Nat.le_refl 0, Nat.le_refl 0⟩ kc_X8 hrc hW (fun i4 s3 hW => ?_)
    exact fr_iret (pc := 21) dX6_sortNumber_21 rfl ⟨Nat.le_refl 0, Nat.le_refl 0⟩ hW
  · refine fr_iconst (pc := 8) 0 (by decide) dX6_sortNumber_8 ?_
    refine fr_goto (pc := 9) (tgt := 21) (by decide) dX6_sortNumber_9 ?_
    exact fr_iret (pc := 21) dX6_sortNumber_21 rfl ⟨Nat.le_refl 0, Nat.le_refl 0⟩ hW
def J_X6_rowsAhead_15 (g : GG) (post : Option Value → Hs → Prop) (σ : Hs) (a0 : Nat) (a1 : Nat) (w2 : Int64) (v4 : Int32) (v5 : Int32) (v6 : Int32) (v7 : Int32) : Prop := Fr g M_X6_rowsAhead (0, 0, 0, 0) [(0, .ref a0), (1, .ref a1), (2, .long w2), (4, .int v4), (5, .int v5), (6, .int v6), (7, .int v7)] [] 15 σ post
set_option maxHeartbeats 4000000 in
set_option maxRecDepth 100000 in
theorem q_X6_rowsAhead {g : GG} {σ : Hs} {post : Option Value → Hs → Prop} (r0 : Nat) (p0 : Nat) (p1 : Int64) (p2 : Int32) (hW : Rc σ r0 6 ∧ Do g M_X6_sortNumber 0 0 [.ref r0, .ref p0, .int p2] σ (kI (fun i2 s1 => J_X6_rowsAhead_15 g post s1 r0 p0 p1 p2 i2 0 0 ))) : Do g M_X6_rowsAhead 0 0 [.ref r0, .ref p0, .long p1, .int p2] σ post := by
  refine Do.of (by decide +kernel) (Nat.le_of_ble_eq_true rfl) ?_
  show Fr g M_X6_rowsAhead (0, 0, 0, 0) [(0, .ref r0), (1, .ref p0), (2, .long p1), (4, .int p2)] [] 0 σ post
  refine fr_aload_n (pc := 0) 0 rfl rfl dX6_rowsAhead_0 ?_
  refine fr_aload_n (pc := 1) 1 rfl rfl dX6_rowsAhead_1 ?_
  refine fr_iload (pc := 2) 3 rfl dX6_rowsAhead_2 ?_
  obtain ⟨hrc, hW⟩ := hW
  refine fr_callV_I (pc := 4) (As := [.ref p0, .int p2]) (st := []) wd_X6_sortNumber w_1218 ok_X6_sortNumber (by decide) rfl (Nat.le_of_ble_eq_true rfl) dX6_rowsAhead_4 ⟨Nat.le_refl 0, Nat.le_refl 0⟩ kc_X6 hrc hW (fun i2 s1 hW => ?_)
  refine fr_istore (pc := 7) (lv' := [(5, .int i2), (0, .ref r0), (1, .ref p0), (2, .long p1), (4, .int p2)]) (by decide) rfl dX6_rowsAhead_7 ?_
  refine fr_iconst (pc := 9) 0 (by decide) dX6_rowsAhead_9 ?_
  refine fr_istore (pc := 10) (lv' := [(6, .int 0), (5, .int i2), (0, .ref r0), (1, .ref p0), (2, .long p1), (4, .int p2)]) (by decide) rfl dX6_rowsAhead_10 ?_
  refine fr_iconst (pc := 12) 0 (by decide) dX6_rowsAhead_12 ?_
  refine fr_istore (pc := 13) (lv' := [(7, .int 0), (6, .int 0), (5, .int i2), (0, .ref r0), (1, .ref p0), (2, .long p1), (4, .int p2)]) (by decide) rfl dX6_rowsAhead_13 ?_
  exact fr_sub [3, 4, 5, 6, 2, 1, 0] rfl hW
set_option maxHeartbeats 4000000 in
set_option maxRecDepth 100000 in
theorem q_X6_rowsAhead_15 {g : GG} {σ : Hs} {post : Option Value → Hs → Prop} (a0 : Nat) (a1 : Nat) (w2 : Int64) (v4 : Int32) (v5 : Int32) (v6 : Int32) (v7 : Int32) (hW : (64 ≤ v7 → post (some (.int v6)) σ) ∧ (¬ 64 ≤ v7 → Rc σ a0 6 ∧ Do g M_X6_sortNumber 0 0 [.ref a0, .ref a1, .int v7] σ (kI (fun i6 s5 => Do g M_X11_hasSlot 0 0 [.long w2, .int v7] s5 (kI (fun i10 s9 => (i10 = 0 → J_X6_rowsAhead_15 g post s9 a0 a1 w2 v4 v5 v6 ((v7 + 1)) ) ∧ (¬ i10 = 0 → (i6 < v5 → J_X6_rowsAhead_15 g post s9 a0 a1 w2 v4 v5 ((v6 + 1)) ((v7 + 1)) ) ∧ (¬ i6 < v5 → (¬ i6 = v5 → J_X6_rowsAhead_15 g post s9 a0 a1 w2 v4 v5 v6 ((v7 + 1)) ) ∧ (i6 = v5 → (v4 ≤ v7 → J_X6_rowsAhead_15 g post s9 a0 a1 w2 v4 v5 v6 ((v7 + 1)) ) ∧ (¬ v4 ≤ v7 → J_X6_rowsAhead_15 g post s9 a0 a1 w2 v4 v5 ((v6 + 1)) ((v7 + 1)) )))))))))) : J_X6_rowsAhead_15 g post σ a0 a1 w2 v4 v5 v6 v7 := by
  show Fr g M_X6_rowsAhead (0, 0, 0, 0) [(0, .ref a0), (1, .ref a1), (2, .long w2), (4, .int v4), (5, .int v5), (6, .int v6), (7, .int v7)] [] 15 σ post
  refine fr_iload (pc := 15) 6 rfl dX6_rowsAhead_15 ?_
  refine fr_bipush (pc := 17) 64 (by decide) dX6_rowsAhead_17 ?_
  refine fr_icmp_ge (pc := 19) (tgt := 70) (by decide) dX6_rowsAhead_19 hW (fun hW => ?_) (fun hW => ?_)
  · refine fr_iload (pc := 70) 5 rfl dX6_rowsAhead_70 ?_
    exact fr_iret (pc := 72) dX6_rowsAhead_72 rfl ⟨Nat.le_refl 0, Nat.le_refl 0⟩ hW
  · refine fr_aload_n (pc := 22) 0 rfl rfl dX6_rowsAhead_22 ?_
    refine fr_aload_n (pc := 23) 1 rfl rfl dX6_rowsAhead_23 ?_
    refine fr_iload (pc := 24) 6 rfl dX6_rowsAhead_24 ?_
    obtain ⟨hrc, hW⟩ := hW
    refine fr_callV_I (pc := 26) (As := [.ref a1, .int v7]) (st := []) wd_X6_sortNumber w_1218 ok_X6_sortNumber (by decide) rfl (Nat.le_of_ble_eq_true rfl) dX6_rowsAhead_26 ⟨Nat.le_refl 0, Nat.le_refl 0⟩ kc_X6 hrc hW (fun i6 s5 hW => ?_)
    refine fr_istore (pc := 29) (lv' := [(8, .int i6), (0, .ref a0), (1, .ref a1), (2, .long w2), (4, .int v4), (5, .int v5), (6, .int v6), (7, .int v7)]) (by decide) rfl dX6_rowsAhead_29 ?_
    refine fr_lload_n (pc := 31) 3 rfl rfl dX6_rowsAhead_31 ?_
    refine fr_iload (pc := 32) 7 rfl dX6_rowsAhead_32 ?_
    refine fr_callSN_I (pc := 34) (As := [.long w2, .int v7]) (st := []) wd_X11_hasSlot ⟨RX11, by decide +kernel⟩ ok_X11_hasSlot (by decide) rfl (Nat.le_of_ble_eq_true rfl) dX6_rowsAhead_34 ⟨Nat.le_refl 0, Nat.le_refl 0⟩ hW (fun i10 s9 hW => ?_)
    refine fr_if_eq (pc := 37) (tgt := 64) (by decide) dX6_rowsAhead_37 hW (fun hW => ?_) (fun hW => ?_)
    · refine fr_iinc (pc := 64) (lv' := [(7, .int (v7 + 1)), (8, .int i6), (0, .ref a0), (1, .ref a1), (2, .long w2), (4, .int v4), (5, .int v5), (6, .int v6)]) (v7 + 1) 7 rfl (congrArg (fun z => v7 + z) (by decide)) (by decide) rfl dX6_rowsAhead_64 ?_
      refine fr_goto (pc := 67) (tgt := 15) (by decide) dX6_rowsAhead_67 ?_
      exact fr_sub [2, 3, 4, 5, 6, 7, 0] rfl hW
    · refine fr_iload (pc := 40) 0 rfl dX6_rowsAhead_40 ?_
      refine fr_iload (pc := 42) 5 rfl dX6_rowsAhead_42 ?_
      refine fr_icmp_lt (pc := 44) (tgt := 61) (by decide) dX6_rowsAhead_44 hW (fun hW => ?_) (fun hW => ?_)
      · refine fr_iinc (pc := 61) (lv' := [(6, .int (v6 + 1)), (8, .int i6), (0, .ref a0), (1, .ref a1), (2, .long w2), (4, .int v4), (5, .int v5), (7, .int v7)]) (v6 + 1) 6 rfl (congrArg (fun z => v6 + z) (by decide)) (by decide) rfl dX6_rowsAhead_61 ?_
        refine fr_iinc (pc := 64) (lv' := [(7, .int (v7 + 1)), (6, .int (v6 + 1)), (8, .int i6), (0, .ref a0), (1, .ref a1), (2, .long w2), (4, .int v4), (5, .int v5)]) (v7 + 1) 7 rfl (congrArg (fun z => v7 + z) (by decide)) (by decide) rfl dX6_rowsAhead_64 ?_
        refine fr_goto (pc := 67) (tgt := 15) (by decide) dX6_rowsAhead_67 ?_
        exact fr_sub [3, 4, 5, 6, 7, 1, 0] rfl hW
      · refine fr_iload (pc := 47) 0 rfl dX6_rowsAhead_47 ?_
        refine fr_iload (pc := 49) 5 rfl dX6_rowsAhead_49 ?_
        refine fr_icmp_ne (pc := 51) (tgt := 64) (by decide) dX6_rowsAhead_51 hW (fun hW => ?_) (fun hW => ?_)
        · refine fr_iinc (pc := 64) (lv' := [(7, .int (v7 + 1)), (8, .int i6), (0, .ref a0), (1, .ref a1), (2, .long w2), (4, .int v4), (5, .int v5), (6, .int v6)]) (v7 + 1) 7 rfl (congrArg (fun z => v7 + z) (by decide)) (by decide) rfl dX6_rowsAhead_64 ?_
          refine fr_goto (pc := 67) (tgt := 15) (by decide) dX6_rowsAhead_67 ?_
          exact fr_sub [2, 3, 4, 5, 6, 7, 0] rfl hW
        · refine fr_iload (pc := 54) 7 rfl dX6_rowsAhead_54 ?_
          refine fr_iload (pc := 56) 4 rfl dX6_rowsAhead_56 ?_
          refine fr_icmp_ge (pc := 58) (tgt := 64) (by decide) dX6_rowsAhead_58 hW (fun hW => ?_) (fun hW => ?_)
          · refine fr_iinc (pc := 64) (lv' := [(7, .int (v7 + 1)), (8, .int i6), (0, .ref a0), (1, .ref a1), (2, .long w2), (4, .int v4), (5, .int v5), (6, .int v6)]) (v7 + 1) 7 rfl (congrArg (fun z => v7 + z) (by decide)) (by decide) rfl dX6_rowsAhead_64 ?_
            refine fr_goto (pc := 67) (tgt := 15) (by decide) dX6_rowsAhead_67 ?_
            exact fr_sub [2, 3, 4, 5, 6, 7, 0] rfl hW
          · refine fr_iinc (pc := 61) (lv' := [(6, .int (v6 + 1)), (8, .int i6), (0, .ref a0), (1, .ref a1), (2, .long w2), (4, .int v4), (5, .int v5), (7, .int v7)]) (v6 + 1) 6 rfl (congrArg (fun z => v6 + z) (by decide)) (by decide) rfl dX6_rowsAhead_61 ?_
            refine fr_iinc (pc := 64) (lv' := [(7, .int (v7 + 1)), (6, .int (v6 + 1)), (8, .int i6), (0, .ref a0), (1, .ref a1), (2, .long w2), (4, .int v4), (5, .int v5)]) (v7 + 1) 7 rfl (congrArg (fun z => v7 + z) (by decide)) (by decide) rfl dX6_rowsAhead_64 ?_
            refine fr_goto (pc := 67) (tgt := 15) (by decide) dX6_rowsAhead_67 ?_
            exact fr_sub [3, 4, 5, 6, 7, 1, 0] rfl hW
def J_X6_placed_11 (g : GG) (post : Option Value → Hs → Prop) (σ : Hs) (a0 : Nat) (a1 : Nat) (v2 : Int32) (w3 : Int64) (v5 : Int32) : Prop := Fr g M_X6_placed (0, 0, 0, 0) [(0, .ref a0), (1, .ref a1), (2, .int v2), (3, .long w3), (5, .int v5)] [] 11 σ post
set_option maxHeartbeats 4000000 in
set_option maxRecDepth 100000 in
theorem q_X6_placed {g : GG} {σ : Hs} {post : Option Value → Hs → Prop} (r0 : Nat) (p0 : Nat) (p1 : Int32) (hW : Rc σ r0 6 ∧ Do g M_X6_rowsWithin 0 0 [.ref r0, .ref p0, .int 15] σ (kL (fun l3 s1 => J_X6_placed_11 g post s1 r0 p0 p1 l3 0 ))) : Do g M_X6_placed 0 0 [.ref r0, .ref p0, .int p1] σ post := by
  refine Do.of (by decide +kernel) (Nat.le_of_ble_eq_true rfl) ?_
  show Fr g M_X6_placed (0, 0, 0, 0) [(0, .ref r0), (1, .ref p0), (2, .int p1)] [] 0 σ post
  refine fr_aload_n (pc := 0) 0 rfl rfl dX6_placed_0 ?_
  refine fr_aload_n (pc := 1) 1 rfl rfl dX6_placed_1 ?_
  refine fr_bipush (pc := 2) 15 (by decide) dX6_placed_2 ?_
  obtain ⟨hrc, hW⟩ := hW
  refine fr_callV_L (pc := 4) (As := [.ref p0, .int 15]) (st := []) wd_X6_rowsWithin w_1219 ok_X6_rowsWithin (by decide) rfl (Nat.le_of_ble_eq_true rfl) dX6_placed_4 ⟨Nat.le_refl 0, Nat.le_refl 0⟩ kc_X6 hrc hW (fun l3 s1 hW => ?_)
  refine fr_lstore_n (pc := 7) (lv' := [(3, .long l3), (0, .ref r0), (1, .ref p0), (2, .int p1)]) rfl (by decide) rfl dX6_placed_7 ?_
  refine fr_iconst (pc := 8) 0 (by decide) dX6_placed_8 ?_
  refine fr_istore (pc := 9) (lv' := [(5, .int 0), (3, .long l3), (0, .ref r0), (1, .ref p0), (2, .int p1)]) (by decide) rfl dX6_placed_9 ?_
  exact fr_sub [2, 3, 4, 1, 0] rfl hW
set_option maxHeartbeats 4000000 in
set_option maxRecDepth 100000 in
theorem q_X6_placed_11 {g : GG} {σ : Hs} {post : Option Value → Hs → Prop} (a0 : Nat) (a1 : Nat) (v2 : Int32) (w3 : Int64) (v5 : Int32) (hW : (64 ≤ v5 → post (some (.int (-1))) σ) ∧ (¬ 64 ≤ v5 → Do g M_X11_hasSlot 0 0 [.long w3, .int v5] σ (kI (fun i6 s5 => (i6 = 0 → J_X6_placed_11 g post s5 a0 a1 v2 w3 ((v5 + 1)) ) ∧ (¬ i6 = 0 → Rc s5 a0 6 ∧ Do g M_X6_rowsAhead 0 0 [.ref a0, .ref a1, .long w3, .int v5] s5 (kI (fun i10 s9 => (¬ i10 = v2 → J_X6_placed_11 g post s9 a0 a1 v2 w3 ((v5 + 1)) ) ∧ (i10 = v2 → post (some (.int v5)) s9)))))))) : J_X6_placed_11 g post σ a0 a1 v2 w3 v5 := by
  show Fr g M_X6_placed (0, 0, 0, 0) [(0, .ref a0), (1, .ref a1), (2, .int v2), (3, .long w3), (5, .int v5)] [] 11 σ post
  refine fr_iload (pc := 11) 4 rfl dX6_placed_11 ?_
  refine fr_bipush (pc := 13) 64 (by decide) dX6_placed_13 ?_
  refine fr_icmp_ge (pc := 15) (tgt := 48) (by decide) dX6_placed_15 hW (fun hW => ?_) (fun hW => ?_)
  · refine fr_iconst (pc := 48) (-1) (by decide) dX6_placed_48 ?_
    exact fr_iret (pc := 49) dX6_placed_49 rfl ⟨Nat.le_refl 0, Nat.le_refl 0⟩ hW
  · refine fr_lload_n (pc := 18) 3 rfl rfl dX6_placed_18 ?_
    refine fr_iload (pc := 19) 4 rfl dX6_placed_19 ?_
    refine fr_callSN_I (pc := 21) (As := [.long w3, .int v5]) (st := []) wd_X11_hasSlot ⟨RX11, by decide +kernel⟩ ok_X11_hasSlot (by decide) rfl (Nat.le_of_ble_eq_true rfl) dX6_placed_21 ⟨Nat.le_refl 0, Nat.le_refl 0⟩ hW (fun i6 s5 hW => ?_)
    refine fr_if_eq (pc := 24) (tgt := 42) (by decide) dX6_placed_24 hW (fun hW => ?_) (fun hW => ?_)
    · refine fr_iinc (pc := 42) (lv' := [(5, .int (v5 + 1)), (0, .ref a0), (1, .ref a1), (2, .int v2), (3, .long w3)]) (v5 + 1) 4 rfl (congrArg (fun z => v5 + z) (by decide)) (by decide) rfl dX6_placed_42 ?_
      refine fr_goto (pc := 45) (tgt := 11) (by decide) dX6_placed_45 ?_
      exact fr_sub [1, 2, 3, 4, 0] rfl hW
    · refine fr_aload_n (pc := 27) 0 rfl rfl dX6_placed_27 ?_
      refine fr_aload_n (pc := 28) 1 rfl rfl dX6_placed_28 ?_
      refine fr_lload_n (pc := 29) 3 rfl rfl dX6_placed_29 ?_
      refine fr_iload (pc := 30) 4 rfl dX6_placed_30 ?_
      obtain ⟨hrc, hW⟩ := hW
      refine fr_callV_I (pc := 32) (As := [.ref a1, .long w3, .int v5]) (st := []) wd_X6_rowsAhead w_1220 ok_X6_rowsAhead (by decide) rfl (Nat.le_of_ble_eq_true rfl) dX6_placed_32 ⟨Nat.le_refl 0, Nat.le_refl 0⟩ kc_X6 hrc hW (fun i10 s9 hW => ?_)
      refine fr_iload_n (pc := 35) 2 rfl rfl dX6_placed_35 ?_
      refine fr_icmp_ne (pc := 36) (tgt := 42) (by decide) dX6_placed_36 hW (fun hW => ?_) (fun hW => ?_)
      · refine fr_iinc (pc := 42) (lv' := [(5, .int (v5 + 1)), (0, .ref a0), (1, .ref a1), (2, .int v2), (3, .long w3)]) (v5 + 1) 4 rfl (congrArg (fun z => v5 + z) (by decide)) (by decide) rfl dX6_placed_42 ?_
        refine fr_goto (pc := 45) (tgt := 11) (by decide) dX6_placed_45 ?_
        exact fr_sub [1, 2, 3, 4, 0] rfl hW
      · refine fr_iload (pc := 39) 4 rfl dX6_placed_39 ?_
        exact fr_iret (pc := 41) dX6_placed_41 rfl ⟨Nat.le_refl 0, Nat.le_refl 0⟩ hW
set_option maxHeartbeats 4000000 in
set_option maxRecDepth 100000 in
theorem q_X11_answer {g : GG} {σ : Hs} {post : Option Value → Hs → Prop} (r0 : Nat) (p0 : Int32) (p1 : Int32) (hW : FR σ r0 11 3 (fun r1 => Rc σ r1 10 ∧ Do g M_X10_question 0 0 [.ref r1, .int p0] σ (kA (fun s2 => post (some (.int (-101))) s2) (fun r5 s2 => FR s2 r0 11 0 (fun r6 => Rc s2 r5 6 ∧ Do g M_X6_placed 0 0 [.ref r5, .ref r6, .int p1] s2 (kI (fun i8 s7 => post (some (.int i8)) s7))))))) : Do g M_X11_answer 0 0 [.ref r0, .int p0, .int p1] σ post := by
  refine Do.of (by decide +kernel) (Nat.le_of_ble_eq_true rfl) ?_
  show Fr g M_X11_answer (0, 0, 0, 0) [(0, .ref r0), (1, .int p0), (2, .int p1)] [] 0 σ post
  refine fr_aload_n (pc := 0) 0 rfl rfl dX11_answer_0 ?_
  refine fr_getR (pc := 1) (T := TX11) (k := 3) kc_X11 (by decide) w_995 dX11_answer_1 hW (fun r1 hW => ?_)
  refine fr_iload_n (pc := 4) 1 rfl rfl dX11_answer_4 ?_
  obtain ⟨hrc, hW⟩ := hW
  refine fr_callV_A (pc := 5) (As := [.int p0]) (st := []) wd_X10_question w_1201 ok_X10_question (by decide) rfl (Nat.le_of_ble_eq_true rfl) dX11_answer_5 ⟨Nat.le_refl 0, Nat.le_refl 0⟩ kc_X10 hrc hW (fun s2 hW => ?_) (fun r5 s2 hW => ?_)
  · refine fr_astore_nN (pc := 8) (lv' := [(3, .null), (0, .ref r0), (1, .int p0), (2, .int p1)]) rfl (by decide) rfl dX11_answer_8 ?_
    refine fr_aload_nN (pc := 9) 0 rfl rfl dX11_answer_9 ?_
    refine fr_ifnonnullN (pc := 10) dX11_answer_10 ?_
    refine fr_bipush (pc := 13) (-101) (by decide) dX11_answer_13 ?_
    refine fr_goto (pc := 15) (tgt := 27) (by decide) dX11_answer_15 ?_
    exact fr_iret (pc := 27) dX11_answer_27 rfl ⟨Nat.le_refl 0, Nat.le_refl 0⟩ hW
  · refine fr_astore_n (pc := 8) (lv' := [(3, .ref r5), (0, .ref r0), (1, .int p0), (2, .int p1)]) rfl (by decide) rfl dX11_answer_8 ?_
    refine fr_aload_n (pc := 9) 0 rfl rfl dX11_answer_9 ?_
    refine fr_ifnonnull (pc := 10) (tgt := 18) (by decide) dX11_answer_10 ?_
    refine fr_aload_n (pc := 18) 0 rfl rfl dX11_answer_18 ?_
    refine fr_aload_n (pc := 19) 1 rfl rfl dX11_answer_19 ?_
    refine fr_getR (pc := 20) (T := TX11) (k := 0) kc_X11 (by decide) w_990 dX11_answer_20 hW (fun r6 hW => ?_)
    refine fr_iload_n (pc := 23) 3 rfl rfl dX11_answer_23 ?_
    obtain ⟨hrc, hW⟩ := hW
    refine fr_callV_I (pc := 24) (As := [.ref r6, .int p1]) (st := []) wd_X6_placed w_1221 ok_X6_placed (by decide) rfl (Nat.le_of_ble_eq_true rfl) dX11_answer_24 ⟨Nat.le_refl 0, Nat.le_refl 0⟩ kc_X6 hrc hW (fun i8 s7 hW => ?_)
    exact fr_iret (pc := 27) dX11_answer_27 rfl ⟨Nat.le_refl 0, Nat.le_refl 0⟩ hW
def J_X12_answer_21 (g : GG) (post : Option Value → Hs → Prop) (σ : Hs) (a0 : Nat) (v1 : Int32) (v2 : Int32) (v3 : Int32) (v4 : Int32) : Prop := Fr g M_X12_answer (0, 0, 0, 0) [(0, .ref a0), (1, .int v1), (2, .int v2), (3, .int v3), (4, .int v4)] [] 21 σ post
def J_X12_answer_44 (g : GG) (post : Option Value → Hs → Prop) (σ : Hs) (a0 : Nat) (v1 : Int32) (v2 : Int32) (v3 : Int32) (v4 : Int32) (v5 : Int32) (v6 : Int32) : Prop := Fr g M_X12_answer (0, 0, 0, 0) [(0, .ref a0), (1, .int v1), (2, .int v2), (3, .int v3), (4, .int v4), (5, .int v5), (6, .int v6)] [] 44 σ post
def J_X12_answer_83 (g : GG) (post : Option Value → Hs → Prop) (σ : Hs) (a0 : Nat) (v1 : Int32) (v2 : Int32) (v3 : Int32) (v4 : Int32) (v5 : Int32) (v6 : Int32) (t0 : Int32) : Prop := Fr g M_X12_answer (0, 0, 0, 0) [(0, .ref a0), (1, .int v1), (2, .int v2), (3, .int v3), (4, .int v4), (5, .int v5), (6, .int v6)] [.int t0] 83 σ post
set_option maxHeartbeats 4000000 in
set_option maxRecDepth 100000 in
theorem q_X12_answer {g : GG} {σ : Hs} {post : Option Value → Hs → Prop} (r0 : Nat) (p0 : Int32) (p1 : Int32) (hW : Rc σ r0 12 ∧ Do g M_X12_isQuestion 0 0 [.ref r0, .int p0] σ (kI (fun i2 s1 => (¬ i2 = 0 → FR s1 r0 12 17 (fun r5 => AI g s1 r5 0 p0 (fun i6 => J_X12_answer_21 g post s1 r0 p0 p1 i6 0 ))) ∧ (i2 = 0 → post (some (.int (-101))) s1)))) : Do g M_X12_answer 0 0 [.ref r0, .int p0, .int p1] σ post := by
  refine Do.of (by decide +kernel) (Nat.le_of_ble_eq_true rfl) ?_
  show Fr g M_X12_answer (0, 0, 0, 0) [(0, .ref r0), (1, .int p0), (2, .int p1)] [] 0 σ post
  refine fr_aload_n (pc := 0) 0 rfl rfl dX12_answer_0 ?_
  refine fr_iload_n (pc := 1) 1 rfl rfl dX12_answer_1 ?_
  obtain ⟨hrc, hW⟩ := hW
  refine fr_callV_I (pc := 2) (As := [.int p0]) (st := []) wd_X12_isQuestion w_1205 ok_X12_isQuestion (by decide) rfl (Nat.le_of_ble_eq_true rfl) dX12_answer_2 ⟨Nat.le_refl 0, Nat.le_refl 0⟩ kc_X12 hrc hW (fun i2 s1 hW => ?_)
  refine fr_if_ne (pc := 5) (tgt := 11) (by decide) dX12_answer_5 hW (fun hW => ?_) (fun hW => ?_)
  · refine fr_aload_n (pc := 11) 0 rfl rfl dX12_answer_11 ?_
    refine fr_getR (pc := 12) (T := TX12) (k := 17) kc_X12 (by decide) w_1020 dX12_answer_12 hW (fun r5 hW => ?_)
    refine fr_iload_n (pc := 15) 1 rfl rfl dX12_answer_15 ?_
    refine fr_iald (pc := 16) dX12_answer_16 hW (fun i6 hW => ?_)
    refine fr_istore_n (pc := 17) (lv' := [(3, .int i6), (0, .ref r0), (1, .int p0), (2, .int p1)]) rfl (by decide) rfl dX12_answer_17 ?_
    refine fr_iconst (pc := 18) 0 (by decide) dX12_answer_18 ?_
    refine fr_istore (pc := 19) (lv' := [(4, .int 0), (3, .int i6), (0, .ref r0), (1, .int p0), (2, .int p1)]) (by decide) rfl dX12_answer_19 ?_
    exact fr_sub [2, 3, 4, 1, 0] rfl hW
  · refine fr_bipush (pc := 8) (-101) (by decide) dX12_answer_8 ?_
    exact fr_iret (pc := 10) dX12_answer_10 rfl ⟨Nat.le_refl 0, Nat.le_refl 0⟩ hW
set_option maxHeartbeats 4000000 in
set_option maxRecDepth 100000 in
theorem q_X12_answer_21 {g : GG} {σ : Hs} {post : Option Value → Hs → Prop} (a0 : Nat) (v1 : Int32) (v2 : Int32) (v3 : Int32) (v4 : Int32) (hW : (64 ≤ v4 → post (some (.int (-1))) σ) ∧ (¬ 64 ≤ v4 → Rc σ a0 12 ∧ Do g M_X12_isAnswer 0 0 [.ref a0, .int v1, .int v4] σ (kI (fun i8 s7 => (i8 = 0 → J_X12_answer_21 g post s7 a0 v1 v2 v3 ((v4 + 1)) ) ∧ (¬ i8 = 0 → J_X12_answer_44 g post s7 a0 v1 v2 v3 v4 0 0 ))))) : J_X12_answer_21 g post σ a0 v1 v2 v3 v4 := by
  show Fr g M_X12_answer (0, 0, 0, 0) [(0, .ref a0), (1, .int v1), (2, .int v2), (3, .int v3), (4, .int v4)] [] 21 σ post
  refine fr_iload (pc := 21) 4 rfl dX12_answer_21 ?_
  refine fr_bipush (pc := 23) 64 (by decide) dX12_answer_23 ?_
  refine fr_icmp_ge (pc := 25) (tgt := 143) (by decide) dX12_answer_25 hW (fun hW => ?_) (fun hW => ?_)
  · refine fr_iconst (pc := 143) (-1) (by decide) dX12_answer_143 ?_
    exact fr_iret (pc := 144) dX12_answer_144 rfl ⟨Nat.le_refl 0, Nat.le_refl 0⟩ hW
  · refine fr_aload_n (pc := 28) 0 rfl rfl dX12_answer_28 ?_
    refine fr_iload_n (pc := 29) 1 rfl rfl dX12_answer_29 ?_
    refine fr_iload (pc := 30) 4 rfl dX12_answer_30 ?_
    obtain ⟨hrc, hW⟩ := hW
    refine fr_callV_I (pc := 32) (As := [.int v1, .int v4]) (st := []) wd_X12_isAnswer w_1215 ok_X12_isAnswer (by decide) rfl (Nat.le_of_ble_eq_true rfl) dX12_answer_32 ⟨Nat.le_refl 0, Nat.le_refl 0⟩ kc_X12 hrc hW (fun i8 s7 hW => ?_)
    refine fr_if_eq (pc := 35) (tgt := 137) (by decide) dX12_answer_35 hW (fun hW => ?_) (fun hW => ?_)
    · refine fr_iinc (pc := 137) (lv' := [(4, .int (v4 + 1)), (0, .ref a0), (1, .int v1), (2, .int v2), (3, .int v3)]) (v4 + 1) 4 rfl (congrArg (fun z => v4 + z) (by decide)) (by decide) rfl dX12_answer_137 ?_
      refine fr_goto (pc := 140) (tgt := 21) (by decide) dX12_answer_140 ?_
      exact fr_sub [1, 2, 3, 4, 0] rfl hW
    · refine fr_iconst (pc := 38) 0 (by decide) dX12_answer_38 ?_
      refine fr_istore (pc := 39) (lv' := [(5, .int 0), (0, .ref a0), (1, .int v1), (2, .int v2), (3, .int v3), (4, .int v4)]) (by decide) rfl dX12_answer_39 ?_
      refine fr_iconst (pc := 41) 0 (by decide) dX12_answer_41 ?_
      refine fr_istore (pc := 42) (lv' := [(6, .int 0), (5, .int 0), (0, .ref a0), (1, .int v1), (2, .int v2), (3, .int v3), (4, .int v4)]) (by decide) rfl dX12_answer_42 ?_
      exact fr_sub [2, 3, 4, 5, 6, 1, 0] rfl hW
set_option maxHeartbeats 4000000 in
set_option maxRecDepth 100000 in
theorem q_X12_answer_44 {g : GG} {σ : Hs} {post : Option Value → Hs → Prop} (a0 : Nat) (v1 : Int32) (v2 : Int32) (v3 : Int32) (v4 : Int32) (v5 : Int32) (v6 : Int32) (hW : (64 ≤ v6 → (¬ v5 = v2 → J_X12_answer_21 g post σ a0 v1 v2 v3 ((v4 + 1)) ) ∧ (v5 = v2 → post (some (.int v4)) σ)) ∧ (¬ 64 ≤ v6 → (¬ v3 = (-1) → FR σ a0 12 1 (fun r11 => AI g σ r11 0 ((4 * v6) + v3) (fun i12 => FR σ a0 12 1 (fun r13 => AI g σ r13 0 ((4 * v4) + v3) (fun i14 => J_X12_answer_83 g post σ a0 v1 v2 v3 v4 v5 v6 ((i12 - i14))))))) ∧ (v3 = (-1) → J_X12_answer_83 g post σ a0 v1 v2 v3 v4 v5 v6 0))) : J_X12_answer_44 g post σ a0 v1 v2 v3 v4 v5 v6 := by
  show Fr g M_X12_answer (0, 0, 0, 0) [(0, .ref a0), (1, .int v1), (2, .int v2), (3, .int v3), (4, .int v4), (5, .int v5), (6, .int v6)] [] 44 σ post
  refine fr_iload (pc := 44) 6 rfl dX12_answer_44 ?_
  refine fr_bipush (pc := 46) 64 (by decide) dX12_answer_46 ?_
  refine fr_icmp_ge (pc := 48) (tgt := 128) (by decide) dX12_answer_48 hW (fun hW => ?_) (fun hW => ?_)
  · refine fr_iload (pc := 128) 5 rfl dX12_answer_128 ?_
    refine fr_iload_n (pc := 130) 2 rfl rfl dX12_answer_130 ?_
    refine fr_icmp_ne (pc := 131) (tgt := 137) (by decide) dX12_answer_131 hW (fun hW => ?_) (fun hW => ?_)
    · refine fr_iinc (pc := 137) (lv' := [(4, .int (v4 + 1)), (0, .ref a0), (1, .int v1), (2, .int v2), (3, .int v3), (5, .int v5), (6, .int v6)]) (v4 + 1) 4 rfl (congrArg (fun z => v4 + z) (by decide)) (by decide) rfl dX12_answer_137 ?_
      refine fr_goto (pc := 140) (tgt := 21) (by decide) dX12_answer_140 ?_
      exact fr_sub [1, 2, 3, 4, 0] rfl hW
    · refine fr_iload (pc := 134) 4 rfl dX12_answer_134 ?_
      exact fr_iret (pc := 136) dX12_answer_136 rfl ⟨Nat.le_refl 0, Nat.le_refl 0⟩ hW
  · refine fr_iload_n (pc := 51) 3 rfl rfl dX12_answer_51 ?_
    refine fr_iconst (pc := 52) (-1) (by decide) dX12_answer_52 ?_
    refine fr_icmp_ne (pc := 53) (tgt := 60) (by decide) dX12_answer_53 hW (fun hW => ?_) (fun hW => ?_)
    · refine fr_aload_n (pc := 60) 0 rfl rfl dX12_answer_60 ?_
      refine fr_getR (pc := 61) (T := TX12) (k := 1) kc_X12 (by decide) w_1007 dX12_answer_61 hW (fun r11 hW => ?_)
      refine fr_iconst (pc := 64) 4 (by decide) dX12_answer_64 ?_
      refine fr_iload (pc := 65) 6 rfl dX12_answer_65 ?_
      refine fr_imul (pc := 67) dX12_answer_67 ?_
      refine fr_iload_n (pc := 68) 3 rfl rfl dX12_answer_68 ?_
      refine fr_iadd (pc := 69) dX12_answer_69 ?_
      refine fr_iald (pc := 70) dX12_answer_70 hW (fun i12 hW => ?_)
      refine fr_aload_n (pc := 71) 0 rfl rfl dX12_answer_71 ?_
      refine fr_getR (pc := 72) (T := TX12) (k := 1) kc_X12 (by decide) w_1007 dX12_answer_72 hW (fun r13 hW => ?_)
      refine fr_iconst (pc := 75) 4 (by decide) dX12_answer_75 ?_
      refine fr_iload (pc := 76) 4 rfl dX12_answer_76 ?_
      refine fr_imul (pc := 78) dX12_answer_78 ?_
      refine fr_iload_n (pc := 79) 3 rfl rfl dX12_answer_79 ?_
      refine fr_iadd (pc := 80) dX12_answer_80 ?_
      refine fr_iald (pc := 81) dX12_answer_81 hW (fun i14 hW => ?_)
      refine fr_isub (pc := 82) dX12_answer_82 ?_
      exact fr_sub [0, 1, 2, 3, 4, 5, 6] rfl hW
    · refine fr_iconst (pc := 56) 0 (by decide) dX12_answer_56 ?_
      refine fr_goto (pc := 57) (tgt := 83) (by decide) dX12_answer_57 ?_
      exact fr_sub [0, 1, 2, 3, 4, 5, 6] rfl hW
set_option maxHeartbeats 4000000 in
set_option maxRecDepth 100000 in
theorem q_X12_answer_83 {g : GG} {σ : Hs} {post : Option Value → Hs → Prop} (a0 : Nat) (v1 : Int32) (v2 : Int32) (v3 : Int32) (v4 : Int32) (v5 : Int32) (v6 : Int32) (t0 : Int32) (hW : Rc σ a0 12 ∧ Do g M_X12_isAnswer 0 0 [.ref a0, .int v1, .int v6] σ (kI (fun i16 s15 => (i16 = 0 → J_X12_answer_44 g post s15 a0 v1 v2 v3 v4 ((v5 + 0)) ((v6 + 1)) ) ∧ (¬ i16 = 0 → (t0 < 0 → J_X12_answer_44 g post s15 a0 v1 v2 v3 v4 ((v5 + 1)) ((v6 + 1)) ) ∧ (¬ t0 < 0 → (¬ t0 = 0 → J_X12_answer_44 g post s15 a0 v1 v2 v3 v4 ((v5 + 0)) ((v6 + 1)) ) ∧ (t0 = 0 → (v4 ≤ v6 → J_X12_answer_44 g post s15 a0 v1 v2 v3 v4 ((v5 + 0)) ((v6 + 1)) ) ∧ (¬ v4 ≤ v6 → J_X12_answer_44 g post s15 a0 v1 v2 v3 v4 ((v5 + 1)) ((v6 + 1)) ))))))) : J_X12_answer_83 g post σ a0 v1 v2 v3 v4 v5 v6 t0 := by
  show Fr g M_X12_answer (0, 0, 0, 0) [(0, .ref a0), (1, .int v1), (2, .int v2), (3, .int v3), (4, .int v4), (5, .int v5), (6, .int v6)] [.int t0] 83 σ post
  refine fr_istore (pc := 83) (lv' := [(7, .int t0), (0, .ref a0), (1, .int v1), (2, .int v2), (3, .int v3), (4, .int v4), (5, .int v5), (6, .int v6)]) (by decide) rfl dX12_answer_83 ?_
  refine fr_iload (pc := 85) 6 rfl dX12_answer_85 ?_
  refine fr_aload_n (pc := 87) 1 rfl rfl dX12_answer_87 ?_
  refine fr_iload_n (pc := 88) 2 rfl rfl dX12_answer_88 ?_
  refine fr_iload (pc := 89) 7 rfl dX12_answer_89 ?_
  obtain ⟨hrc, hW⟩ := hW
  refine fr_callV_I (pc := 91) (As := [.int v1, .int v6]) (st := [.int v5]) wd_X12_isAnswer w_1215 ok_X12_isAnswer (by decide) rfl (Nat.le_of_ble_eq_true rfl) dX12_answer_91 ⟨Nat.le_refl 0, Nat.le_refl 0⟩ kc_X12 hrc hW (fun i16 s15 hW => ?_)
  refine fr_if_eq (pc := 94) (tgt := 118) (by decide) dX12_answer_94 hW (fun hW => ?_) (fun hW => ?_)
  · refine fr_iconst (pc := 118) 0 (by decide) dX12_answer_118 ?_
    refine fr_iadd (pc := 119) dX12_answer_119 ?_
    refine fr_istore (pc := 120) (lv' := [(5, .int (v5 + 0)), (7, .int t0), (0, .ref a0), (1, .int v1), (2, .int v2), (3, .int v3), (4, .int v4), (6, .int v6)]) (by decide) rfl dX12_answer_120 ?_
    refine fr_iinc (pc := 122) (lv' := [(6, .int (v6 + 1)), (5, .int (v5 + 0)), (7, .int t0), (0, .ref a0), (1, .int v1), (2, .int v2), (3, .int v3), (4, .int v4)]) (v6 + 1) 7 rfl (congrArg (fun z => v6 + z) (by decide)) (by decide) rfl dX12_answer_122 ?_
    refine fr_goto (pc := 125) (tgt := 44) (by decide) dX12_answer_125 ?_
    exact fr_sub [3, 4, 5, 6, 7, 1, 0] rfl hW
  · refine fr_iload (pc := 97) 0 rfl dX12_answer_97 ?_
    refine fr_if_lt (pc := 99) (tgt := 114) (by decide) dX12_answer_99 hW (fun hW => ?_) (fun hW => ?_)
    · refine fr_iconst (pc := 114) 1 (by decide) dX12_answer_114 ?_
      refine fr_goto (pc := 115) (tgt := 119) (by decide) dX12_answer_115 ?_
      refine fr_iadd (pc := 119) dX12_answer_119 ?_
      refine fr_istore (pc := 120) (lv' := [(5, .int (v5 + 1)), (7, .int t0), (0, .ref a0), (1, .int v1), (2, .int v2), (3, .int v3), (4, .int v4), (6, .int v6)]) (by decide) rfl dX12_answer_120 ?_
      refine fr_iinc (pc := 122) (lv' := [(6, .int (v6 + 1)), (5, .int (v5 + 1)), (7, .int t0), (0, .ref a0), (1, .int v1), (2, .int v2), (3, .int v3), (4, .int v4)]) (v6 + 1) 7 rfl (congrArg (fun z => v6 + z) (by decide)) (by decide) rfl dX12_answer_122 ?_
      refine fr_goto (pc := 125) (tgt := 44) (by decide) dX12_answer_125 ?_
      exact fr_sub [3, 4, 5, 6, 7, 1, 0] rfl hW
    · refine fr_iload (pc := 102) 0 rfl dX12_answer_102 ?_
      refine fr_if_ne (pc := 104) (tgt := 118) (by decide) dX12_answer_104 hW (fun hW => ?_) (fun hW => ?_)
      · refine fr_iconst (pc := 118) 0 (by decide) dX12_answer_118 ?_
        refine fr_iadd (pc := 119) dX12_answer_119 ?_
        refine fr_istore (pc := 120) (lv' := [(5, .int (v5 + 0)), (7, .int t0), (0, .ref a0), (1, .int v1), (2, .int v2), (3, .int v3), (4, .int v4), (6, .int v6)]) (by decide) rfl dX12_answer_120 ?_
        refine fr_iinc (pc := 122) (lv' := [(6, .int (v6 + 1)), (5, .int (v5 + 0)), (7, .int t0), (0, .ref a0), (1, .int v1), (2, .int v2), (3, .int v3), (4, .int v4)]) (v6 + 1) 7 rfl (congrArg (fun z => v6 + z) (by decide)) (by decide) rfl dX12_answer_122 ?_
        refine fr_goto (pc := 125) (tgt := 44) (by decide) dX12_answer_125 ?_
        exact fr_sub [3, 4, 5, 6, 7, 1, 0] rfl hW
      · refine fr_iload (pc := 107) 7 rfl dX12_answer_107 ?_
        refine fr_iload (pc := 109) 5 rfl dX12_answer_109 ?_
        refine fr_icmp_ge (pc := 111) (tgt := 118) (by decide) dX12_answer_111 hW (fun hW => ?_) (fun hW => ?_)
        · refine fr_iconst (pc := 118) 0 (by decide) dX12_answer_118 ?_
          refine fr_iadd (pc := 119) dX12_answer_119 ?_
          refine fr_istore (pc := 120) (lv' := [(5, .int (v5 + 0)), (7, .int t0), (0, .ref a0), (1, .int v1), (2, .int v2), (3, .int v3), (4, .int v4), (6, .int v6)]) (by decide) rfl dX12_answer_120 ?_
          refine fr_iinc (pc := 122) (lv' := [(6, .int (v6 + 1)), (5, .int (v5 + 0)), (7, .int t0), (0, .ref a0), (1, .int v1), (2, .int v2), (3, .int v3), (4, .int v4)]) (v6 + 1) 7 rfl (congrArg (fun z => v6 + z) (by decide)) (by decide) rfl dX12_answer_122 ?_
          refine fr_goto (pc := 125) (tgt := 44) (by decide) dX12_answer_125 ?_
          exact fr_sub [3, 4, 5, 6, 7, 1, 0] rfl hW
        · refine fr_iconst (pc := 114) 1 (by decide) dX12_answer_114 ?_
          refine fr_goto (pc := 115) (tgt := 119) (by decide) dX12_answer_115 ?_
          refine fr_iadd (pc := 119) dX12_answer_119 ?_
          refine fr_istore (pc := 120) (lv' := [(5, .int (v5 + 1)), (7, .int t0), (0, .ref a0), (1, .int v1), (2, .int v2), (3, .int v3), (4, .int v4), (6, .int v6)]) (by decide) rfl dX12_answer_120 ?_
          refine fr_iinc (pc := 122) (lv' := [(6, .int (v6 + 1)), (5, .int (v5 + 1)), (7, .int t0), (0, .ref a0), (1, .int v1), (2, .int v2), (3, .int v3), (4, .int v4)]) (v6 + 1) 7 rfl (congrArg (fun z => v6 + z) (by decide)) (by decide) rfl dX12_answer_122 ?_
          refine fr_goto (pc := 125) (tgt := 44) (by decide) dX12_answer_125 ?_
          exact fr_sub [3, 4, 5, 6, 7, 1, 0] rfl hW
set_option maxHeartbeats 4000000 in
set_option maxRecDepth 100000 in
theorem q_X6_isFixed {g : GG} {σ : Hs} {post : Option Value → Hs → Prop} (r0 : Nat) (p0 : Int32) (hW : FI σ r0 6 3 (fun i1 => Do g M_X11_has 0 0 [.int i1, .int p0] σ (kI (fun i3 s2 => (narrow .boolean (.int i3) = .int i3 ∧ post (some (.int i3)) s2))))) : Do g M_X6_isFixed 0 0 [.ref r0, .int p0] σ post := by
  refine Do.of (by decide +kernel) (Nat.le_of_ble_eq_true rfl) ?_
  show Fr g M_X6_isFixed (0, 0, 0, 0) [(0, .ref r0), (1, .int p0)] [] 0 σ post
  refine fr_aload_n (pc := 0) 0 rfl rfl dX6_isFixed_0 ?_
  refine fr_getI (pc := 1) (T := TX6) (k := 3) kc_X6 (by decide) w_1157 dX6_isFixed_1 hW (fun i1 hW => ?_)
  refine fr_iload_n (pc := 4) 1 rfl rfl dX6_isFixed_4 ?_
  refine fr_callSN_I (pc := 5) (As := [.int i1, .int p0]) (st := []) wd_X11_has ⟨RX11, by decide +kernel⟩ ok_X11_has (by decide) rfl (Nat.le_of_ble_eq_true rfl) dX6_isFixed_5 ⟨Nat.le_refl 0, Nat.le_refl 0⟩ hW (fun i3 s2 hW => ?_)
  exact fr_zret (pc := 8) dX6_isFixed_8 rfl ⟨Nat.le_refl 0, Nat.le_refl 0⟩ hW
set_option maxHeartbeats 4000000 in
set_option maxRecDepth 100000 in
theorem q_X6_mustSort {g : GG} {σ : Hs} {post : Option Value → Hs → Prop} (r0 : Nat) (hW : FI σ r0 6 5 (fun i1 => (i1 = (-1) → post (some (.int 0)) σ) ∧ (¬ i1 = (-1) → FI σ r0 6 5 (fun i2 => Rc σ r0 6 ∧ Do g M_X6_isFixed 0 0 [.ref r0, .int i2] σ (kI (fun i4 s3 => (¬ i4 = 0 → post (some (.int 0)) s3) ∧ (i4 = 0 → post (some (.int 1)) s3))))))) : Do g M_X6_mustSort 0 0 [.ref r0] σ post := by
  refine Do.of (by decide +kernel) (Nat.le_of_ble_eq_true rfl) ?_
  show Fr g M_X6_mustSort (0, 0, 0, 0) [(0, .ref r0)] [] 0 σ post
  refine fr_aload_n (pc := 0) 0 rfl rfl dX6_mustSort_0 ?_
  refine fr_getI (pc := 1) (T := TX6) (k := 5) kc_X6 (by decide) w_1159 dX6_mustSort_1 hW (fun i1 hW => ?_)
  refine fr_iconst (pc := 4) (-1) (by decide) dX6_mustSort_4 ?_
  refine fr_icmp_eq (pc := 5) (tgt := 23) (by decide) dX6_mustSort_5 hW (fun hW => ?_) (fun hW => ?_)
  · refine fr_iconst (pc := 23) 0 (by decide) dX6_mustSort_23 ?_
    exact fr_zret (pc := 24) dX6_mustSort_24 rfl ⟨Nat.le_refl 0, Nat.le_refl 0⟩ ⟨rfl, hW⟩
  · refine fr_aload_n (pc := 8) 0 rfl rfl dX6_mustSort_8 ?_
    refine fr_aload_n (pc := 9) 0 rfl rfl dX6_mustSort_9 ?_
    refine fr_getI (pc := 10) (T := TX6) (k := 5) kc_X6 (by decide) w_1159 dX6_mustSort_10 hW (fun i2 hW => ?_)
    obtain ⟨hrc, hW⟩ := hW
    refine fr_callV_I (pc := 13) (As := [.int i2]) (st := []) wd_X6_isFixed w_1222 ok_X6_isFixed (by decide) rfl (Nat.le_of_ble_eq_true rfl) dX6_mustSort_13 ⟨Nat.le_refl 0, Nat.le_refl 0⟩ kc_X6 hrc hW (fun i4 s3 hW => ?_)
    refine fr_if_ne (pc := 16) (tgt := 23) (by decide) dX6_mustSort_16 hW (fun hW => ?_) (fun hW => ?_)
    · refine fr_iconst (pc := 23) 0 (by decide) dX6_mustSort_23 ?_
      exact fr_zret (pc := 24) dX6_mustSort_24 rfl ⟨Nat.le_refl 0, Nat.le_refl 0⟩ ⟨rfl, hW⟩
    · refine fr_iconst (pc := 19) 1 (by decide) dX6_mustSort_19 ?_
      refine fr_goto (pc := 20) (tgt := 24) (by decide) dX6_mustSort_20 ?_
      exact fr_zret (pc := 24) dX6_mustSort_24 rfl ⟨Nat.le_refl 0, Nat.le_refl 0⟩ ⟨rfl, hW⟩
def J_X8_pagesOf_15 (g : GG) (post : Option Value → Hs → Prop) (σ : Hs) (a0 : Nat) (w1 : Int64) (w3 : Int64) (v5 : Int32) (v6 : Int32) : Prop := Fr g M_X8_pagesOf (0, 0, 0, 0) [(0, .ref a0), (1, .long w1), (3, .long w3), (5, .int v5), (6, .int v6)] [] 15 σ post
set_option maxHeartbeats 4000000 in
set_option maxRecDepth 100000 in
theorem q_X8_pagesOf {g : GG} {σ : Hs} {post : Option Value → Hs → Prop} (r0 : Nat) (p0 : Int64) (hW : FI σ r0 8 2 (fun i1 => J_X8_pagesOf_15 g post σ r0 p0 ((((1 : Int64) <<< (i1.toInt64 &&& 63)) - 1)) 0 0 )) : Do g M_X8_pagesOf 0 0 [.ref r0, .long p0] σ post := by
  refine Do.of (by decide +kernel) (Nat.le_of_ble_eq_true rfl) ?_
  show Fr g M_X8_pagesOf (0, 0, 0, 0) [(0, .ref r0), (1, .long p0)] [] 0 σ post
  refine fr_lconst (pc := 0) 1 (by decide) dX8_pagesOf_0 ?_
  refine fr_aload_n (pc := 1) 0 rfl rfl dX8_pagesOf_1 ?_
  refine fr_getI (pc := 2) (T := TX8) (k := 2) kc_X8 (by decide) w_932 dX8_pagesOf_2 hW (fun i1 hW => ?_)
  refine fr_lshl (pc := 5) dX8_pagesOf_5 ?_
  refine fr_lconst (pc := 6) 1 (by decide) dX8_pagesOf_6 ?_
  refine fr_lsub (pc := 7) dX8_pagesOf_7 ?_
  refine fr_lstore_n (pc := 8) (lv' := [(3, .long (((1 : Int64) <<< (i1.toInt64 &&& 63)) - 1)), (0, .ref r0), (1, .long p0)]) rfl (by decide) rfl dX8_pagesOf_8 ?_
  refine fr_iconst (pc := 9) 0 (by decide) dX8_pagesOf_9 ?_
  refine fr_istore (pc := 10) (lv' := [(5, .int 0), (3, .long (((1 : Int64) <<< (i1.toInt64 &&& 63)) - 1)), (0, .ref r0), (1, .long p0)]) (by decide) rfl dX8_pagesOf_10 ?_
  refine fr_iconst (pc := 12) 0 (by decide) dX8_pagesOf_12 ?_
  refine fr_istore (pc := 13) (lv' := [(6, .int 0), (5, .int 0), (3, .long (((1 : Int64) <<< (i1.toInt64 &&& 63)) - 1)), (0, .ref r0), (1, .long p0)]) (by decide) rfl dX8_pagesOf_13 ?_
  exact fr_sub [3, 4, 2, 1, 0] rfl hW
set_option maxHeartbeats 4000000 in
set_option maxRecDepth 100000 in
theorem q_X8_pagesOf_15 {g : GG} {σ : Hs} {post : Option Value → Hs → Prop} (a0 : Nat) (w1 : Int64) (w3 : Int64) (v5 : Int32) (v6 : Int32) (hW : (64 ≤ v6 → post (some (.int v5)) σ) ∧ (¬ 64 ≤ v6 → FI σ a0 8 2 (fun i2 => ((v6 * i2) < 64 → ((lg_cmp (((w1.toUInt64 >>> ((v6 * i2).toInt64.toUInt64 &&& Int64.toUInt64 63)).toInt64) &&& w3) 0) = 0 → J_X8_pagesOf_15 g post σ a0 w1 w3 v5 ((v6 + 1)) ) ∧ (¬ (lg_cmp (((w1.toUInt64 >>> ((v6 * i2).toInt64.toUInt64 &&& Int64.toUInt64 63)).toInt64) &&& w3) 0) = 0 → J_X8_pagesOf_15 g post σ a0 w1 w3 ((v5 + 1)) ((v6 + 1)) )) ∧ (¬ (v6 * i2) < 64 → post (some (.int v5)) σ)))) : J_X8_pagesOf_15 g post σ a0 w1 w3 v5 v6 := by
  show Fr g M_X8_pagesOf (0, 0, 0, 0) [(0, .ref a0), (1, .long w1), (3, .long w3), (5, .int v5), (6, .int v6)] [] 15 σ post
  refine fr_iload (pc := 15) 4 rfl dX8_pagesOf_15 ?_
  refine fr_bipush (pc := 17) 64 (by decide) dX8_pagesOf_17 ?_
  refine fr_icmp_ge (pc := 19) (tgt := 61) (by decide) dX8_pagesOf_19 hW (fun hW => ?_) (fun hW => ?_)
  · refine fr_iload (pc := 61) 3 rfl dX8_pagesOf_61 ?_
    exact fr_iret (pc := 63) dX8_pagesOf_63 rfl ⟨Nat.le_refl 0, Nat.le_refl 0⟩ hW
  · refine fr_iload (pc := 22) 4 rfl dX8_pagesOf_22 ?_
    refine fr_aload_n (pc := 24) 0 rfl rfl dX8_pagesOf_24 ?_
    refine fr_getI (pc := 25) (T := TX8) (k := 2) kc_X8 (by decide) w_932 dX8_pagesOf_25 hW (fun i2 hW => ?_)
    refine fr_imul (pc := 28) dX8_pagesOf_28 ?_
    refine fr_istore (pc := 29) (lv' := [(7, .int (v6 * i2)), (0, .ref a0), (1, .long w1), (3, .long w3), (5, .int v5), (6, .int v6)]) (by decide) rfl dX8_pagesOf_29 ?_
    refine fr_iload (pc := 31) 0 rfl dX8_pagesOf_31 ?_
    refine fr_bipush (pc := 33) 64 (by decide) dX8_pagesOf_33 ?_
    refine fr_icmp_lt (pc := 35) (tgt := 41) (by decide) dX8_pagesOf_35 hW (fun hW => ?_) (fun hW => ?_)
    · refine fr_lload_n (pc := 41) 2 rfl rfl dX8_pagesOf_41 ?_
      refine fr_iload (pc := 42) 0 rfl dX8_pagesOf_42 ?_
      refine fr_lushr (pc := 44) dX8_pagesOf_44 ?_
      refine fr_lload_n (pc := 45) 3 rfl rfl dX8_pagesOf_45 ?_
      refine fr_land (pc := 46) dX8_pagesOf_46 ?_
      refine fr_lconst (pc := 47) 0 (by decide) dX8_pagesOf_47 ?_
      refine fr_lcmp (pc := 48) dX8_pagesOf_48 ?_
      refine fr_if_eq (pc := 49) (tgt := 55) (by decide) dX8_pagesOf_49 hW (fun hW => ?_) (fun hW => ?_)
      · refine fr_iinc (pc := 55) (lv' := [(6, .int (v6 + 1)), (7, .int (v6 * i2)), (0, .ref a0), (1, .long w1), (3, .long w3), (5, .int v5)]) (v6 + 1) 5 rfl (congrArg (fun z => v6 + z) (by decide)) (by decide) rfl dX8_pagesOf_55 ?_
        refine fr_goto (pc := 58) (tgt := 15) (by decide) dX8_pagesOf_58 ?_
        exact fr_sub [2, 3, 4, 5, 0] rfl hW
      · refine fr_iinc (pc := 52) (lv' := [(5, .int (v5 + 1)), (7, .int (v6 * i2)), (0, .ref a0), (1, .long w1), (3, .long w3), (6, .int v6)]) (v5 + 1) 4 rfl (congrArg (fun z => v5 + z) (by decide)) (by decide) rfl dX8_pagesOf_52 ?_
        refine fr_iinc (pc := 55) (lv' := [(6, .int (v6 + 1)), (5, .int (v5 + 1)), (7, .int (v6 * i2)), (0, .ref a0), (1, .long w1), (3, .long w3)]) (v6 + 1) 5 rfl (congrArg (fun z => v6 + z) (by decide)) (by decide) rfl dX8_pagesOf_55 ?_
        refine fr_goto (pc := 58) (tgt := 15) (by decide) dX8_pagesOf_58 ?_
        exact fr_sub [3, 4, 5, 1, 0] rfl hW
    · refine fr_goto (pc := 38) (tgt := 61) (by decide) dX8_pagesOf_38 ?_
      refine fr_iload (pc := 61) 4 rfl dX8_pagesOf_61 ?_
      exact fr_iret (pc := 63) dX8_pagesOf_63 rfl ⟨Nat.le_refl 0, Nat.le_refl 0⟩ hW
set_option maxHeartbeats 4000000 in
set_option maxRecDepth 100000 in
theorem q_X8_fullPages {g : GG} {σ : Hs} {post : Option Value → Hs → Prop} (r0 : Nat) (hW : FL σ r0 8 1 (fun l1 => Rc σ r0 8 ∧ Do g M_X8_pagesOf 0 0 [.ref r0, .long l1] σ (kI (fun i3 s2 => post (some (.int i3)) s2)))) : Do g M_X8_fullPages 0 0 [.ref r0] σ post := by
  refine Do.of (by decide +kernel) (Nat.le_of_ble_eq_true rfl) ?_
  show Fr g M_X8_fullPages (0, 0, 0, 0) [(0, .ref r0)] [] 0 σ post
  refine fr_aload_n (pc := 0) 0 rfl rfl dX8_fullPages_0 ?_
  refine fr_aload_n (pc := 1) 0 rfl rfl dX8_fullPages_1 ?_
  refine fr_getL (pc := 2) (T := TX8) (k := 1) kc_X8 (by decide) w_1031 dX8_fullPages_2 hW (fun l1 hW => ?_)
  obtain ⟨hrc, hW⟩ := hW
  refine fr_callV_I (pc := 5) (As := [.long l1]) (st := []) wd_X8_pagesOf w_1223 ok_X8_pagesOf (by decide) rfl (Nat.le_of_ble_eq_true rfl) dX8_fullPages_5 ⟨Nat.le_refl 0, Nat.le_refl 0⟩ kc_X8 hrc hW (fun i3 s2 hW => ?_)
  exact fr_iret (pc := 8) dX8_fullPages_8 rfl ⟨Nat.le_refl 0, Nat.le_refl 0⟩ hW
set_option maxHeartbeats 4000000 in
set_option maxRecDepth 100000 in
theorem q_X9_add {g : GG} {σ : Hs} {post : Option Value → Hs → Prop} (r0 : Nat) (p0 : Int32) (p1 : Int32) (p2 : Int32) (hW : FR σ r0 9 2 (fun r1 => FI σ r0 9 7 (fun i2 => Rc σ r1 1 ∧ Do g M_X1_put 0 0 [.ref r1, .int i2, .int p0] σ (kV (fun s3 => FR s3 r0 9 3 (fun r4 => FI s3 r0 9 7 (fun i5 => Rc s3 r4 1 ∧ Do g M_X1_put 0 0 [.ref r4, .int i5, .int p1] s3 (kV (fun s6 => FR s6 r0 9 4 (fun r7 => FI s6 r0 9 7 (fun i8 => Rc s6 r7 1 ∧ Do g M_X1_put 0 0 [.ref r7, .int i8, .int p2] s6 (kV (fun s9 => FI s9 r0 9 7 (fun i10 => PF s9 r0 9 7 (.int (i10 + 1)) (fun s11 => post none s11))))))))))))))) : Do g M_X9_add 0 0 [.ref r0, .int p0, .int p1, .int p2] σ post := by
  refine Do.of (by decide +kernel) (Nat.le_of_ble_eq_true rfl) ?_
  show Fr g M_X9_add (0, 0, 0, 0) [(0, .ref r0), (1, .int p0), (2, .int p1), (3, .int p2)] [] 0 σ post
  refine fr_aload_n (pc := 0) 0 rfl rfl dX9_add_0 ?_
  refine fr_getR (pc := 1) (T := TX9) (k := 2) kc_X9 (by decide) w_944 dX9_add_1 hW (fun r1 hW => ?_)
  refine fr_aload_n (pc := 4) 0 rfl rfl dX9_add_4 ?_
  refine fr_getI (pc := 5) (T := TX9) (k := 7) kc_X9 (by decide) w_1224 dX9_add_5 hW (fun i2 hW => ?_)
  refine fr_iload_n (pc := 8) 1 rfl rfl dX9_add_8 ?_
  obtain ⟨hrc, hW⟩ := hW
  refine fr_callV_V (pc := 9) (As := [.int i2, .int p0]) (st := []) wd_X1_put w_1225 ok_X1_put (by decide) rfl (Nat.le_of_ble_eq_true rfl) dX9_add_9 ⟨Nat.le_refl 0, Nat.le_refl 0⟩ kc_X1 hrc hW (fun s3 hW => ?_)
  refine fr_aload_n (pc := 12) 0 rfl rfl dX9_add_12 ?_
  refine fr_getR (pc := 13) (T := TX9) (k := 3) kc_X9 (by decide) w_945 dX9_add_13 hW (fun r4 hW => ?_)
  refine fr_aload_n (pc := 16) 0 rfl rfl dX9_add_16 ?_
  refine fr_getI (pc := 17) (T := TX9) (k := 7) kc_X9 (by decide) w_1224 dX9_add_17 hW (fun i5 hW => ?_)
  refine fr_iload_n (pc := 20) 2 rfl rfl dX9_add_20 ?_
  obtain ⟨hrc, hW⟩ := hW
  refine fr_callV_V (pc := 21) (As := [.int i5, .int p1]) (st := []) wd_X1_put w_1225 ok_X1_put (by decide) rfl (Nat.le_of_ble_eq_true rfl) dX9_add_21 ⟨Nat.le_refl 0, Nat.le_refl 0⟩ kc_X1 hrc hW (fun s6 hW => ?_)
  refine fr_aload_n (pc := 24) 0 rfl rfl dX9_add_24 ?_
  refine fr_getR (pc := 25) (T := TX9) (k := 4) kc_X9 (by decide) w_946 dX9_add_25 hW (fun r7 hW => ?_)
  refine fr_aload_n (pc := 28) 0 rfl rfl dX9_add_28 ?_
  refine fr_getI (pc := 29) (T := TX9) (k := 7) kc_X9 (by decide) w_1224 dX9_add_29 hW (fun i8 hW => ?_)
  refine fr_iload_n (pc := 32) 3 rfl rfl dX9_add_32 ?_
  obtain ⟨hrc, hW⟩ := hW
  refine fr_callV_V (pc := 33) (As := [.int i8, .int p2]) (st := []) wd_X1_put w_1225 ok_X1_put (by decide) rfl (Nat.le_of_ble_eq_true rfl) dX9_add_33 ⟨Nat.le_refl 0, Nat.le_refl 0⟩ kc_X1 hrc hW (fun s9 hW => ?_)
  refine fr_aload_n (pc := 36) 0 rfl rfl dX9_add_36 ?_
  refine fr_dup (pc := 37) rfl dX9_add_37 ?_
  refine fr_getI (pc := 38) (T := TX9) (k := 7) kc_X9 (by decide) w_1224 dX9_add_38 hW (fun i10 hW => ?_)
  refine fr_iconst (pc := 41) 1 (by decide) dX9_add_41 ?_
  refine fr_iadd (pc := 42) dX9_add_42 ?_
  refine fr_put (pc := 43) (T := TX9) (k := 7) kc_X9 (by decide) w_1224 rfl rfl rfl dX9_add_43 hW (fun s11 hW => ?_)
  exact fr_ret (pc := 46) dX9_add_46 rfl ⟨Nat.le_refl 0, Nat.le_refl 0⟩ hW
set_option maxHeartbeats 4000000 in
set_option maxRecDepth 100000 in
theorem q_X2_columns {g : GG} {σ : Hs} {post : Option Value → Hs → Prop} (r0 : Nat) (hW : FI σ r0 2 4 (fun i1 => post (some (.int i1)) σ)) : Do g M_X2_columns 0 0 [.ref r0] σ post := by
  refine Do.of (by decide +kernel) (Nat.le_of_ble_eq_true rfl) ?_
  show Fr g M_X2_columns (0, 0, 0, 0) [(0, .ref r0)] [] 0 σ post
  refine fr_aload_n (pc := 0) 0 rfl rfl dX2_columns_0 ?_
  refine fr_getI (pc := 1) (T := TX2) (k := 4) kc_X2 (by decide) w_1113 dX2_columns_1 hW (fun i1 hW => ?_)
  exact fr_iret (pc := 4) dX2_columns_4 rfl ⟨Nat.le_refl 0, Nat.le_refl 0⟩ hW
set_option maxHeartbeats 4000000 in
set_option maxRecDepth 100000 in
theorem q_X6_isBound {g : GG} {σ : Hs} {post : Option Value → Hs → Prop} (r0 : Nat) (p0 : Int32) (hW : FI σ r0 6 2 (fun i1 => Do g M_X11_has 0 0 [.int i1, .int p0] σ (kI (fun i3 s2 => (narrow .boolean (.int i3) = .int i3 ∧ post (some (.int i3)) s2))))) : Do g M_X6_isBound 0 0 [.ref r0, .int p0] σ post := by
  refine Do.of (by decide +kernel) (Nat.le_of_ble_eq_true rfl) ?_
  show Fr g M_X6_isBound (0, 0, 0, 0) [(0, .ref r0), (1, .int p0)] [] 0 σ post
  refine fr_aload_n (pc := 0) 0 rfl rfl dX6_isBound_0 ?_
  refine fr_getI (pc := 1) (T := TX6) (k := 2) kc_X6 (by decide) w_1156 dX6_isBound_1 hW (fun i1 hW => ?_)
  refine fr_iload_n (pc := 4) 1 rfl rfl dX6_isBound_4 ?_
  refine fr_callSN_I (pc := 5) (As := [.int i1, .int p0]) (st := []) wd_X11_has ⟨RX11, by decide +kernel⟩ ok_X11_has (by decide) rfl (Nat.le_of_ble_eq_true rfl) dX6_isBound_5 ⟨Nat.le_refl 0, Nat.le_refl 0⟩ hW (fun i3 s2 hW => ?_)
  exact fr_zret (pc := 8) dX6_isBound_8 rfl ⟨Nat.le_refl 0, Nat.le_refl 0⟩ hW
def J_X2_runColumns_4 (g : GG) (post : Option Value → Hs → Prop) (σ : Hs) (a0 : Nat) (a1 : Nat) (v2 : Int32) (v3 : Int32) : Prop := Fr g M_X2_runColumns (0, 0, 0, 0) [(0, .ref a0), (1, .ref a1), (2, .int v2), (3, .int v3)] [] 4 σ post
set_option maxHeartbeats 4000000 in
set_option maxRecDepth 100000 in
theorem q_X2_runColumns {g : GG} {σ : Hs} {post : Option Value → Hs → Prop} (r0 : Nat) (p0 : Nat) (hW : J_X2_runColumns_4 g post σ r0 p0 0 0 ) : Do g M_X2_runColumns 0 0 [.ref r0, .ref p0] σ post := by
  refine Do.of (by decide +kernel) (Nat.le_of_ble_eq_true rfl) ?_
  show Fr g M_X2_runColumns (0, 0, 0, 0) [(0, .ref r0), (1, .ref p0)] [] 0 σ post
  refine fr_iconst (pc := 0) 0 (by decide) dX2_runColumns_0 ?_
  refine fr_istore_n (pc := 1) (lv' := [(2, .int 0), (0, .ref r0), (1, .ref p0)]) rfl (by decide) rfl dX2_runColumns_1 ?_
  refine fr_iconst (pc := 2) 0 (by decide) dX2_runColumns_2 ?_
  refine fr_istore_n (pc := 3) (lv' := [(3, .int 0), (2, .int 0), (0, .ref r0), (1, .ref p0)]) rfl (by decide) rfl dX2_runColumns_3 ?_
  exact fr_sub [2, 3, 1, 0] rfl hW
set_option maxHeartbeats 4000000 in
set_option maxRecDepth 100000 in
theorem q_X2_runColumns_4 {g : GG} {σ : Hs} {post : Option Value → Hs → Prop} (a0 : Nat) (a1 : Nat) (v2 : Int32) (v3 : Int32) (hW : FI σ a0 2 2 (fun i1 => (i1 ≤ v3 → post (some (.int v2)) σ) ∧ (¬ i1 ≤ v3 → FR σ a0 2 5 (fun r2 => Rc σ r2 1 ∧ Do g M_X1_at 0 0 [.ref r2, .int v3] σ (kI (fun i4 s3 => Rc s3 a1 6 ∧ Do g M_X6_isBound 0 0 [.ref a1, .int i4] s3 (kI (fun i8 s7 => (¬ i8 = 0 → Do g M_X11_with 0 0 [.int v2, .int i4] s7 (kI (fun i12 s11 => Rc s11 a1 6 ∧ Do g M_X6_isFixed 0 0 [.ref a1, .int i4] s11 (kI (fun i16 s15 => (¬ i16 = 0 → J_X2_runColumns_4 g post s15 a0 a1 i12 ((v3 + 1)) ) ∧ (i16 = 0 → post (some (.int i12)) s15)))))) ∧ (i8 = 0 → post (some (.int v2)) s7))))))))) : J_X2_runColumns_4 g post σ a0 a1 v2 v3 := by
  show Fr g M_X2_runColumns (0, 0, 0, 0) [(0, .ref a0), (1, .ref a1), (2, .int v2), (3, .int v3)] [] 4 σ post
  refine fr_iload_n (pc := 4) 3 rfl rfl dX2_runColumns_4 ?_
  refine fr_aload_n (pc := 5) 0 rfl rfl dX2_runColumns_5 ?_
  refine fr_getI (pc := 6) (T := TX2) (k := 2) kc_X2 (by decide) w_1036 dX2_runColumns_6 hW (fun i1 hW => ?_)
  refine fr_icmp_ge (pc := 9) (tgt := 59) (by decide) dX2_runColumns_9 hW (fun hW => ?_) (fun hW => ?_)
  · refine fr_iload_n (pc := 59) 2 rfl rfl dX2_runColumns_59 ?_
    exact fr_iret (pc := 60) dX2_runColumns_60 rfl ⟨Nat.le_refl 0, Nat.le_refl 0⟩ hW
  · refine fr_aload_n (pc := 12) 0 rfl rfl dX2_runColumns_12 ?_
    refine fr_getR (pc := 13) (T := TX2) (k := 5) kc_X2 (by decide) w_1037 dX2_runColumns_13 hW (fun r2 hW => ?_)
    refine fr_iload_n (pc := 16) 3 rfl rfl dX2_runColumns_16 ?_
    obtain ⟨hrc, hW⟩ := hW
    refine fr_callV_I (pc := 17) (As := [.int v3]) (st := []) wd_X1_at w_1039 ok_X1_at (by decide) rfl (Nat.le_of_ble_eq_true rfl) dX2_runColumns_17 ⟨Nat.le_refl 0, Nat.le_refl 0⟩ kc_X1 hrc hW (fun i4 s3 hW => ?_)
    refine fr_istore (pc := 20) (lv' := [(4, .int i4), (0, .ref a0), (1, .ref a1), (2, .int v2), (3, .int v3)]) (by decide) rfl dX2_runColumns_20 ?_
    refine fr_aload_n (pc := 22) 2 rfl rfl dX2_runColumns_22 ?_
    refine fr_iload (pc := 23) 0 rfl dX2_runColumns_23 ?_
    obtain ⟨hrc, hW⟩ := hW
    refine fr_callV_I (pc := 25) (As := [.int i4]) (st := []) wd_X6_isBound w_1226 ok_X6_isBound (by decide) rfl (Nat.le_of_ble_eq_true rfl) dX2_runColumns_25 ⟨Nat.le_refl 0, Nat.le_refl 0⟩ kc_X6 hrc hW (fun i8 s7 hW => ?_)
    refine fr_if_ne (pc := 28) (tgt := 34) (by decide) dX2_runColumns_28 hW (fun hW => ?_) (fun hW => ?_)
    · refine fr_iload_n (pc := 34) 3 rfl rfl dX2_runColumns_34 ?_
      refine fr_iload (pc := 35) 0 rfl dX2_runColumns_35 ?_
      refine fr_callSN_I (pc := 37) (As := [.int v2, .int i4]) (st := []) wd_X11_with ⟨RX11, by decide +kernel⟩ ok_X11_with (by decide) rfl (Nat.le_of_ble_eq_true rfl) dX2_runColumns_37 ⟨Nat.le_refl 0, Nat.le_refl 0⟩ hW (fun i12 s11 hW => ?_)
      refine fr_istore_n (pc := 40) (lv' := [(2, .int i12), (4, .int i4), (0, .ref a0), (1, .ref a1), (3, .int v3)]) rfl (by decide) rfl dX2_runColumns_40 ?_
      refine fr_aload_n (pc := 41) 3 rfl rfl dX2_runColumns_41 ?_
      refine fr_iload (pc := 42) 1 rfl dX2_runColumns_42 ?_
      obtain ⟨hrc, hW⟩ := hW
      refine fr_callV_I (pc := 44) (As := [.int i4]) (st := []) wd_X6_isFixed w_1227 ok_X6_isFixed (by decide) rfl (Nat.le_of_ble_eq_true rfl) dX2_runColumns_44 ⟨Nat.le_refl 0, Nat.le_refl 0⟩ kc_X6 hrc hW (fun i16 s15 hW => ?_)
      refine fr_if_ne (pc := 47) (tgt := 53) (by decide) dX2_runColumns_47 hW (fun hW => ?_) (fun hW => ?_)
      · refine fr_iinc (pc := 53) (lv' := [(3, .int (v3 + 1)), (2, .int i12), (4, .int i4), (0, .ref a0), (1, .ref a1)]) (v3 + 1) 4 rfl (congrArg (fun z => v3 + z) (by decide)) (by decide) rfl dX2_runColumns_53 ?_
        refine fr_goto (pc := 56) (tgt := 4) (by decide) dX2_runColumns_56 ?_
        exact fr_sub [3, 4, 1, 0] rfl hW
      · refine fr_goto (pc := 50) (tgt := 59) (by decide) dX2_runColumns_50 ?_
        refine fr_iload_n (pc := 59) 0 rfl rfl dX2_runColumns_59 ?_
        exact fr_iret (pc := 60) dX2_runColumns_60 rfl ⟨Nat.le_refl 0, Nat.le_refl 0⟩ hW
    · refine fr_goto (pc := 31) (tgt := 59) (by decide) dX2_runColumns_31 ?_
      refine fr_iload_n (pc := 59) 3 rfl rfl dX2_runColumns_59 ?_
      exact fr_iret (pc := 60) dX2_runColumns_60 rfl ⟨Nat.le_refl 0, Nat.le_refl 0⟩ hW
def J_X2_hasSome_3 (g : GG) (post : Option Value → Hs → Prop) (σ : Hs) (a0 : Nat) (w1 : Int64) (v4 : Int32) (v5 : Int32) : Prop := Fr g M_X2_hasSome (0, 0, 0, 0) [(0, .ref a0), (1, .long w1), (4, .int v4), (5, .int v5)] [] 3 σ post
set_option maxHeartbeats 4000000 in
set_option maxRecDepth 100000 in
theorem q_X2_hasSome {g : GG} {σ : Hs} {post : Option Value → Hs → Prop} (r0 : Nat) (p0 : Int64) (p1 : Int32) (p2 : Int32) (hW : J_X2_hasSome_3 g post σ r0 p0 p2 p1 ) : Do g M_X2_hasSome 0 0 [.ref r0, .long p0, .int p1, .int p2] σ post := by
  refine Do.of (by decide +kernel) (Nat.le_of_ble_eq_true rfl) ?_
  show Fr g M_X2_hasSome (0, 0, 0, 0) [(0, .ref r0), (1, .long p0), (3, .int p1), (4, .int p2)] [] 0 σ post
  refine fr_iload_n (pc := 0) 2 rfl rfl dX2_hasSome_0 ?_
  refine fr_istore (pc := 1) (lv' := [(5, .int p1), (0, .ref r0), (1, .long p0), (3, .int p1), (4, .int p2)]) (by decide) rfl dX2_hasSome_1 ?_
  exact fr_sub [1, 2, 4, 0] rfl hW
set_option maxHeartbeats 4000000 in
set_option maxRecDepth 100000 in
theorem q_X2_hasSome_3 {g : GG} {σ : Hs} {post : Option Value → Hs → Prop} (a0 : Nat) (w1 : Int64) (v4 : Int32) (v5 : Int32) (hW : (v4 ≤ v5 → post (some (.int 0)) σ) ∧ (¬ v4 ≤ v5 → FR σ a0 2 6 (fun r1 => Rc σ r1 1 ∧ Do g M_X1_at 0 0 [.ref r1, .int v5] σ (kI (fun i3 s2 => Do g M_X11_hasSlot 0 0 [.long w1, .int i3] s2 (kI (fun i7 s6 => (i7 = 0 → J_X2_hasSome_3 g post s6 a0 w1 v4 ((v5 + 1)) ) ∧ (¬ i7 = 0 → post (some (.int 1)) s6)))))))) : J_X2_hasSome_3 g post σ a0 w1 v4 v5 := by
  show Fr g M_X2_hasSome (0, 0, 0, 0) [(0, .ref a0), (1, .long w1), (4, .int v4), (5, .int v5)] [] 3 σ post
  refine fr_iload (pc := 3) 3 rfl dX2_hasSome_3 ?_
  refine fr_iload (pc := 5) 2 rfl dX2_hasSome_5 ?_
  refine fr_icmp_ge (pc := 7) (tgt := 34) (by decide) dX2_hasSome_7 hW (fun hW => ?_) (fun hW => ?_)
  · refine fr_iconst (pc := 34) 0 (by decide) dX2_hasSome_34 ?_
    exact fr_zret (pc := 35) dX2_hasSome_35 rfl ⟨Nat.le_refl 0, Nat.le_refl 0⟩ ⟨rfl, hW⟩
  · refine fr_lload_n (pc := 10) 1 rfl rfl dX2_hasSome_10 ?_
    refine fr_aload_n (pc := 11) 0 rfl rfl dX2_hasSome_11 ?_
    refine fr_getR (pc := 12) (T := TX2) (k := 6) kc_X2 (by decide) w_1042 dX2_hasSome_12 hW (fun r1 hW => ?_)
    refine fr_iload (pc := 15) 3 rfl dX2_hasSome_15 ?_
    obtain ⟨hrc, hW⟩ := hW
    refine fr_callV_I (pc := 17) (As := [.int v5]) (st := [.long w1]) wd_X1_at w_1039 ok_X1_at (by decide) rfl (Nat.le_of_ble_eq_true rfl) dX2_hasSome_17 ⟨Nat.le_refl 0, Nat.le_refl 0⟩ kc_X1 hrc hW (fun i3 s2 hW => ?_)
    refine fr_callSN_I (pc := 20) (As := [.long w1, .int i3]) (st := []) wd_X11_hasSlot ⟨RX11, by decide +kernel⟩ ok_X11_hasSlot (by decide) rfl (Nat.le_of_ble_eq_true rfl) dX2_hasSome_20 ⟨Nat.le_refl 0, Nat.le_refl 0⟩ hW (fun i7 s6 hW => ?_)
    refine fr_if_eq (pc := 23) (tgt := 28) (by decide) dX2_hasSome_23 hW (fun hW => ?_) (fun hW => ?_)
    · refine fr_iinc (pc := 28) (lv' := [(5, .int (v5 + 1)), (0, .ref a0), (1, .long w1), (4, .int v4)]) (v5 + 1) 3 rfl (congrArg (fun z => v5 + z) (by decide)) (by decide) rfl dX2_hasSome_28 ?_
      refine fr_goto (pc := 31) (tgt := 3) (by decide) dX2_hasSome_31 ?_
      exact fr_sub [1, 2, 3, 0] rfl hW
    · refine fr_iconst (pc := 26) 1 (by decide) dX2_hasSome_26 ?_
      exact fr_zret (pc := 27) dX2_hasSome_27 rfl ⟨Nat.le_refl 0, Nat.le_refl 0⟩ ⟨rfl, hW⟩
def J_X2_leavesOf_8 (g : GG) (post : Option Value → Hs → Prop) (σ : Hs) (a0 : Nat) (w1 : Int64) (v3 : Int32) (v4 : Int32) (v5 : Int32) : Prop := Fr g M_X2_leavesOf (0, 0, 0, 0) [(0, .ref a0), (1, .long w1), (3, .int v3), (4, .int v4), (5, .int v5)] [] 8 σ post
set_option maxHeartbeats 4000000 in
set_option maxRecDepth 100000 in
theorem q_X2_leavesOf {g : GG} {σ : Hs} {post : Option Value → Hs → Prop} (r0 : Nat) (p0 : Int64) (hW : J_X2_leavesOf_8 g post σ r0 p0 0 0 0 ) : Do g M_X2_leavesOf 0 0 [.ref r0, .long p0] σ post := by
  refine Do.of (by decide +kernel) (Nat.le_of_ble_eq_true rfl) ?_
  show Fr g M_X2_leavesOf (0, 0, 0, 0) [(0, .ref r0), (1, .long p0)] [] 0 σ post
  refine fr_iconst (pc := 0) 0 (by decide) dX2_leavesOf_0 ?_
  refine fr_istore_n (pc := 1) (lv' := [(3, .int 0), (0, .ref r0), (1, .long p0)]) rfl (by decide) rfl dX2_leavesOf_1 ?_
  refine fr_iconst (pc := 2) 0 (by decide) dX2_leavesOf_2 ?_
  refine fr_istore (pc := 3) (lv' := [(4, .int 0), (3, .int 0), (0, .ref r0), (1, .long p0)]) (by decide) rfl dX2_leavesOf_3 ?_
  refine fr_iconst (pc := 5) 0 (by decide) dX2_leavesOf_5 ?_
  refine fr_istore (pc := 6) (lv' := [(5, .int 0), (4, .int 0), (3, .int 0), (0, .ref r0), (1, .long p0)]) (by decide) rfl dX2_leavesOf_6 ?_
  exact fr_sub [3, 4, 2, 1, 0] rfl hW
set_option maxHeartbeats 4000000 in
set_option maxRecDepth 100000 in
theorem q_X2_leavesOf_8 {g : GG} {σ : Hs} {post : Option Value → Hs → Prop} (a0 : Nat) (w1 : Int64) (v3 : Int32) (v4 : Int32) (v5 : Int32) (hW : FI σ a0 2 9 (fun i1 => (i1 ≤ v5 → (¬ v3 = 0 → post (some (.int v3)) σ) ∧ (v3 = 0 → FI σ a0 2 9 (fun i2 => (i2 ≤ 0 → post (some (.int v3)) σ) ∧ (¬ i2 ≤ 0 → post (some (.int 1)) σ)))) ∧ (¬ i1 ≤ v5 → FR σ a0 2 7 (fun r3 => Rc σ r3 1 ∧ Do g M_X1_at 0 0 [.ref r3, .int v5] σ (kI (fun i5 s4 => Rc s4 a0 2 ∧ Do g M_X2_hasSome 0 0 [.ref a0, .long w1, .int v4, .int (v4 + i5)] s4 (kI (fun i9 s8 => (i9 = 0 → J_X2_leavesOf_8 g post s8 a0 w1 v3 ((v4 + i5)) ((v5 + 1)) ) ∧ (¬ i9 = 0 → J_X2_leavesOf_8 g post s8 a0 w1 ((v3 + 1)) ((v4 + i5)) ((v5 + 1)) ))))))))) : J_X2_leavesOf_8 g post σ a0 w1 v3 v4 v5 := by
  show Fr g M_X2_leavesOf (0, 0, 0, 0) [(0, .ref a0), (1, .long w1), (3, .int v3), (4, .int v4), (5, .int v5)] [] 8 σ post
  refine fr_iload (pc := 8) 4 rfl dX2_leavesOf_8 ?_
  refine fr_aload_n (pc := 10) 0 rfl rfl dX2_leavesOf_10 ?_
  refine fr_getI (pc := 11) (T := TX2) (k := 9) kc_X2 (by decide) w_1044 dX2_leavesOf_11 hW (fun i1 hW => ?_)
  refine fr_icmp_ge (pc := 14) (tgt := 56) (by decide) dX2_leavesOf_14 hW (fun hW => ?_) (fun hW => ?_)
  · refine fr_iload_n (pc := 56) 2 rfl rfl dX2_leavesOf_56 ?_
    refine fr_if_ne (pc := 57) (tgt := 71) (by decide) dX2_leavesOf_57 hW (fun hW => ?_) (fun hW => ?_)
    · refine fr_iload_n (pc := 71) 2 rfl rfl dX2_leavesOf_71 ?_
      exact fr_iret (pc := 72) dX2_leavesOf_72 rfl ⟨Nat.le_refl 0, Nat.le_refl 0⟩ hW
    · refine fr_aload_n (pc := 60) 0 rfl rfl dX2_leavesOf_60 ?_
      refine fr_getI (pc := 61) (T := TX2) (k := 9) kc_X2 (by decide) w_1044 dX2_leavesOf_61 hW (fun i2 hW => ?_)
      refine fr_if_le (pc := 64) (tgt := 71) (by decide) dX2_leavesOf_64 hW (fun hW => ?_) (fun hW => ?_)
      · refine fr_iload_n (pc := 71) 2 rfl rfl dX2_leavesOf_71 ?_
        exact fr_iret (pc := 72) dX2_leavesOf_72 rfl ⟨Nat.le_refl 0, Nat.le_refl 0⟩ hW
      · refine fr_iconst (pc := 67) 1 (by decide) dX2_leavesOf_67 ?_
        refine fr_goto (pc := 68) (tgt := 72) (by decide) dX2_leavesOf_68 ?_
        exact fr_iret (pc := 72) dX2_leavesOf_72 rfl ⟨Nat.le_refl 0, Nat.le_refl 0⟩ hW
  · refine fr_iload (pc := 17) 3 rfl dX2_leavesOf_17 ?_
    refine fr_aload_n (pc := 19) 0 rfl rfl dX2_leavesOf_19 ?_
    refine fr_getR (pc := 20) (T := TX2) (k := 7) kc_X2 (by decide) w_1045 dX2_leavesOf_20 hW (fun r3 hW => ?_)
    refine fr_iload (pc := 23) 4 rfl dX2_leavesOf_23 ?_
    obtain ⟨hrc, hW⟩ := hW
    refine fr_callV_I (pc := 25) (As := [.int v5]) (st := [.int v4]) wd_X1_at w_1039 ok_X1_at (by decide) rfl (Nat.le_of_ble_eq_true rfl) dX2_leavesOf_25 ⟨Nat.le_refl 0, Nat.le_refl 0⟩ kc_X1 hrc hW (fun i5 s4 hW => ?_)
    refine fr_iadd (pc := 28) dX2_leavesOf_28 ?_
    refine fr_istore (pc := 29) (lv' := [(6, .int (v4 + i5)), (0, .ref a0), (1, .long w1), (3, .int v3), (4, .int v4), (5, .int v5)]) (by decide) rfl dX2_leavesOf_29 ?_
    refine fr_aload_n (pc := 31) 1 rfl rfl dX2_leavesOf_31 ?_
    refine fr_lload_n (pc := 32) 2 rfl rfl dX2_leavesOf_32 ?_
    refine fr_iload (pc := 33) 4 rfl dX2_leavesOf_33 ?_
    refine fr_iload (pc := 35) 0 rfl dX2_leavesOf_35 ?_
    obtain ⟨hrc, hW⟩ := hW
    refine fr_callV_I (pc := 37) (As := [.long w1, .int v4, .int (v4 + i5)]) (st := []) wd_X2_hasSome w_1228 ok_X2_hasSome (by decide) rfl (Nat.le_of_ble_eq_true rfl) dX2_leavesOf_37 ⟨Nat.le_refl 0, Nat.le_refl 0⟩ kc_X2 hrc hW (fun i9 s8 hW => ?_)
    refine fr_if_eq (pc := 40) (tgt := 46) (by decide) dX2_leavesOf_40 hW (fun hW => ?_) (fun hW => ?_)
    · refine fr_iload (pc := 46) 0 rfl dX2_leavesOf_46 ?_
      refine fr_istore (pc := 48) (lv' := [(4, .int (v4 + i5)), (6, .int (v4 + i5)), (0, .ref a0), (1, .long w1), (3, .int v3), (5, .int v5)]) (by decide) rfl dX2_leavesOf_48 ?_
      refine fr_iinc (pc := 50) (lv' := [(5, .int (v5 + 1)), (4, .int (v4 + i5)), (6, .int (v4 + i5)), (0, .ref a0), (1, .long w1), (3, .int v3)]) (v5 + 1) 5 rfl (congrArg (fun z => v5 + z) (by decide)) (by decide) rfl dX2_leavesOf_50 ?_
      refine fr_goto (pc := 53) (tgt := 8) (by decide) dX2_leavesOf_53 ?_
      exact fr_sub [3, 4, 5, 1, 0] rfl hW
    · refine fr_iinc (pc := 43) (lv' := [(3, .int (v3 + 1)), (6, .int (v4 + i5)), (0, .ref a0), (1, .long w1), (4, .int v4), (5, .int v5)]) (v3 + 1) 3 rfl (congrArg (fun z => v3 + z) (by decide)) (by decide) rfl dX2_leavesOf_43 ?_
      refine fr_iload (pc := 46) 1 rfl dX2_leavesOf_46 ?_
      refine fr_istore (pc := 48) (lv' := [(4, .int (v4 + i5)), (3, .int (v3 + 1)), (6, .int (v4 + i5)), (0, .ref a0), (1, .long w1), (5, .int v5)]) (by decide) rfl dX2_leavesOf_48 ?_
      refine fr_iinc (pc := 50) (lv' := [(5, .int (v5 + 1)), (4, .int (v4 + i5)), (3, .int (v3 + 1)), (6, .int (v4 + i5)), (0, .ref a0), (1, .long w1)]) (v5 + 1) 5 rfl (congrArg (fun z => v5 + z) (by decide)) (by decide) rfl dX2_leavesOf_50 ?_
      refine fr_goto (pc := 53) (tgt := 8) (by decide) dX2_leavesOf_53 ?_
      exact fr_sub [4, 5, 2, 1, 0] rfl hW
set_option maxHeartbeats 4000000 in
set_option maxRecDepth 100000 in
theorem q_X6_usedColumns {g : GG} {σ : Hs} {post : Option Value → Hs → Prop} (r0 : Nat) (hW : FI σ r0 6 2 (fun i1 => FI σ r0 6 4 (fun i2 => FI σ r0 6 5 (fun i3 => (¬ i3 = (-1) → FI σ r0 6 5 (fun i4 => Do g M_X11_with 0 0 [.int (i1 ||| i2), .int i4] σ (kI (fun i6 s5 => post (some (.int i6)) s5)))) ∧ (i3 = (-1) → post (some (.int (i1 ||| i2))) σ))))) : Do g M_X6_usedColumns 0 0 [.ref r0] σ post := by
  refine Do.of (by decide +kernel) (Nat.le_of_ble_eq_true rfl) ?_
  show Fr g M_X6_usedColumns (0, 0, 0, 0) [(0, .ref r0)] [] 0 σ post
  refine fr_aload_n (pc := 0) 0 rfl rfl dX6_usedColumns_0 ?_
  refine fr_getI (pc := 1) (T := TX6) (k := 2) kc_X6 (by decide) w_1156 dX6_usedColumns_1 hW (fun i1 hW => ?_)
  refine fr_aload_n (pc := 4) 0 rfl rfl dX6_usedColumns_4 ?_
  refine fr_getI (pc := 5) (T := TX6) (k := 4) kc_X6 (by decide) w_1158 dX6_usedColumns_5 hW (fun i2 hW => ?_)
  refine fr_ior (pc := 8) dX6_usedColumns_8 ?_
  refine fr_istore_n (pc := 9) (lv' := [(1, .int (i1 ||| i2)), (0, .ref r0)]) rfl (by decide) rfl dX6_usedColumns_9 ?_
  refine fr_aload_n (pc := 10) 1 rfl rfl dX6_usedColumns_10 ?_
  refine fr_getI (pc := 11) (T := TX6) (k := 5) kc_X6 (by decide) w_1159 dX6_usedColumns_11 hW (fun i3 hW => ?_)
  refine fr_iconst (pc := 14) (-1) (by decide) dX6_usedColumns_14 ?_
  refine fr_icmp_ne (pc := 15) (tgt := 22) (by decide) dX6_usedColumns_15 hW (fun hW => ?_) (fun hW => ?_)
  · refine fr_iload_n (pc := 22) 0 rfl rfl dX6_usedColumns_22 ?_
    refine fr_aload_n (pc := 23) 1 rfl rfl dX6_usedColumns_23 ?_
    refine fr_getI (pc := 24) (T := TX6) (k := 5) kc_X6 (by decide) w_1159 dX6_usedColumns_24 hW (fun i4 hW => ?_)
    refine fr_callSN_I (pc := 27) (As := [.int (i1 ||| i2), .int i4]) (st := []) wd_X11_with ⟨RX11, by decide +kernel⟩ ok_X11_with (by decide) rfl (Nat.le_of_ble_eq_true rfl) dX6_usedColumns_27 ⟨Nat.le_refl 0, Nat.le_refl 0⟩ hW (fun i6 s5 hW => ?_)
    exact fr_iret (pc := 30) dX6_usedColumns_30 rfl ⟨Nat.le_refl 0, Nat.le_refl 0⟩ hW
  · refine fr_iload_n (pc := 18) 0 rfl rfl dX6_usedColumns_18 ?_
    refine fr_goto (pc := 19) (tgt := 30) (by decide) dX6_usedColumns_19 ?_
    exact fr_iret (pc := 30) dX6_usedColumns_30 rfl ⟨Nat.le_refl 0, Nat.le_refl 0⟩ hW
set_option maxHeartbeats 4000000 in
set_option maxRecDepth 100000 in
theorem q_X2_covers {g : GG} {σ : Hs} {post : Option Value → Hs → Prop} (r0 : Nat) (p0 : Nat) (hW : Rc σ p0 6 ∧ Do g M_X6_usedColumns 0 0 [.ref p0] σ (kI (fun i2 s1 => FI s1 r0 2 4 (fun i5 => (¬ (i2 &&& (i5 ^^^ (-1))) = 0 → post (some (.int 0)) s1) ∧ ((i2 &&& (i5 ^^^ (-1))) = 0 → post (some (.int 1)) s1))))) : Do g M_X2_covers 0 0 [.ref r0, .ref p0] σ post := by
  refine Do.of (by decide +kernel) (Nat.le_of_ble_eq_true rfl) ?_
  show Fr g M_X2_covers (0, 0, 0, 0) [(0, .ref r0), (1, .ref p0)] [] 0 σ post
  refine fr_aload_n (pc := 0) 1 rfl rfl dX2_covers_0 ?_
  obtain ⟨hrc, hW⟩ := hW
  refine fr_callV_I (pc := 1) (As := []) (st := []) wd_X6_usedColumns w_1229 ok_X6_usedColumns (by decide) rfl (Nat.le_of_ble_eq_true rfl) dX2_covers_1 ⟨Nat.le_refl 0, Nat.le_refl 0⟩ kc_X6 hrc hW (fun i2 s1 hW => ?_)
  refine fr_aload_n (pc := 4) 0 rfl rfl dX2_covers_4 ?_
  refine fr_getI (pc := 5) (T := TX2) (k := 4) kc_X2 (by decide) w_1113 dX2_covers_5 hW (fun i5 hW => ?_)
  refine fr_iconst (pc := 8) (-1) (by decide) dX2_covers_8 ?_
  refine fr_ixor (pc := 9) dX2_covers_9 ?_
  refine fr_iand (pc := 10) dX2_covers_10 ?_
  refine fr_if_ne (pc := 11) (tgt := 18) (by decide) dX2_covers_11 hW (fun hW => ?_) (fun hW => ?_)
  · refine fr_iconst (pc := 18) 0 (by decide) dX2_covers_18 ?_
    exact fr_zret (pc := 19) dX2_covers_19 rfl ⟨Nat.le_refl 0, Nat.le_refl 0⟩ ⟨rfl, hW⟩
  · refine fr_iconst (pc := 14) 1 (by decide) dX2_covers_14 ?_
    refine fr_goto (pc := 15) (tgt := 19) (by decide) dX2_covers_15 ?_
    exact fr_zret (pc := 19) dX2_covers_19 rfl ⟨Nat.le_refl 0, Nat.le_refl 0⟩ ⟨rfl, hW⟩
