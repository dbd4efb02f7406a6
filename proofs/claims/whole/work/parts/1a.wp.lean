def J_X10_stepByStep_13 (g : GG) (post : Option Value → Hs → Prop) (σ : Hs) (a0 : Nat) (v1 : Int32) (v2 : Int32) (v3 : Int32) : Prop := Fr g M_X10_stepByStep (0, 0, 0, 0) [(0, .ref a0), (1, .int v1), (2, .int v2), (3, .int v3)] [] 13 σ post
set_option maxHeartbeats 4000000 in
set_option maxRecDepth 100000 in
theorem q_X10_stepByStep {g : GG} {σ : Hs} {post : Option Value → Hs → Prop} (r0 : Nat) (p0 : Int32) (hW : Rc σ r0 10 ∧ Do g M_X10_workOutAll 0 0 [.ref r0] σ (kV (fun s1 => PF s1 r0 10 7 (.int 0) (fun s2 => J_X10_stepByStep_13 g post s2 r0 p0 0 0 )))) : Do g M_X10_stepByStep 0 0 [.ref r0, .int p0] σ post := by
  refine Do.of (by decide +kernel) (Nat.le_of_ble_eq_true rfl) ?_
  show Fr g M_X10_stepByStep (0, 0, 0, 0) [(0, .ref r0), (1, .int p0)] [] 0 σ post
  refine fr_aload_n (pc := 0) 0 rfl rfl dX10_stepByStep_0 ?_
  obtain ⟨hrc, hW⟩ := hW
  refine fr_callV_V (pc := 1) (As := []) (st := []) wd_X10_workOutAll w_1299 ok_X10_workOutAll (by decide) rfl (Nat.le_of_ble_eq_true rfl) dX10_stepByStep_1 ⟨Nat.le_refl 0, Nat.le_refl 0⟩ kc_X10 hrc hW (fun s1 hW => ?_)
  refine fr_aload_n (pc := 4) 0 rfl rfl dX10_stepByStep_4 ?_
  refine fr_iconst (pc := 5) 0 (by decide) dX10_stepByStep_5 ?_
  refine fr_put (pc := 6) (T := TX10) (k := 7) kc_X10 (by decide) w_1311 rfl rfl rfl dX10_stepByStep_6 hW (fun s2 hW => ?_)
  refine fr_iconst (pc := 9) 0 (by decide) dX10_stepByStep_9 ?_
  refine fr_istore_n (pc := 10) (lv' := [(2, .int 0), (0, .ref r0), (1, .int p0)]) rfl (by decide) rfl dX10_stepByStep_10 ?_
  refine fr_iconst (pc := 11) 0 (by decide) dX10_stepByStep_11 ?_
  refine fr_istore_n (pc := 12) (lv' := [(3, .int 0), (2, .int 0), (0, .ref r0), (1, .int p0)]) rfl (by decide) rfl dX10_stepByStep_12 ?_
  exact fr_sub [2, 3, 1, 0] rfl hW
set_option maxHeartbeats 4000000 in
set_option maxRecDepth 100000 in
theorem q_X10_stepByStep_13 {g : GG} {σ : Hs} {post : Option Value → Hs → Prop} (a0 : Nat) (v1 : Int32) (v2 : Int32) (v3 : Int32) (hW : (8 ≤ v3 → post (some (.int v2)) σ) ∧ (¬ 8 ≤ v3 → Rc σ a0 10 ∧ Do g M_X10_nextStep 0 0 [.ref a0, .int v2, .int v1] σ (kI (fun i4 s3 => (¬ i4 = (-1) → FR s3 a0 10 5 (fun r7 => FI s3 a0 10 7 (fun i8 => Rc s3 r7 1 ∧ Do g M_X1_put 0 0 [.ref r7, .int i8, .int i4] s3 (kV (fun s9 => FI s9 a0 10 7 (fun i10 => PF s9 a0 10 7 (.int (i10 + 1)) (fun s11 => Do g M_X11_with 0 0 [.int v2, .int i4] s11 (kI (fun i13 s12 => J_X10_stepByStep_13 g post s12 a0 v1 i13 ((v3 + 1)) ))))))))) ∧ (i4 = (-1) → post (some (.int v2)) s3))))) : J_X10_stepByStep_13 g post σ a0 v1 v2 v3 := by
  show Fr g M_X10_stepByStep (0, 0, 0, 0) [(0, .ref a0), (1, .int v1), (2, .int v2), (3, .int v3)] [] 13 σ post
  refine fr_iload_n (pc := 13) 3 rfl rfl dX10_stepByStep_13 ?_
  refine fr_bipush (pc := 14) 8 (by decide) dX10_stepByStep_14 ?_
  refine fr_icmp_ge (pc := 16) (tgt := 72) (by decide) dX10_stepByStep_16 hW (fun hW => ?_) (fun hW => ?_)
  · refine fr_iload_n (pc := 72) 2 rfl rfl dX10_stepByStep_72 ?_
    exact fr_iret (pc := 73) dX10_stepByStep_73 rfl ⟨Nat.le_refl 0, Nat.le_refl 0⟩ hW
  · refine fr_aload_n (pc := 19) 0 rfl rfl dX10_stepByStep_19 ?_
    refine fr_iload_n (pc := 20) 2 rfl rfl dX10_stepByStep_20 ?_
    refine fr_iload_n (pc := 21) 1 rfl rfl dX10_stepByStep_21 ?_
    obtain ⟨hrc, hW⟩ := hW
    refine fr_callV_I (pc := 22) (As := [.int v2, .int v1]) (st := []) wd_X10_nextStep w_1312 ok_X10_nextStep (by decide) rfl (Nat.le_of_ble_eq_true rfl) dX10_stepByStep_22 ⟨Nat.le_refl 0, Nat.le_refl 0⟩ kc_X10 hrc hW (fun i4 s3 hW => ?_)
    refine fr_istore (pc := 25) (lv' := [(4, .int i4), (0, .ref a0), (1, .int v1), (2, .int v2), (3, .int v3)]) (by decide) rfl dX10_stepByStep_25 ?_
    refine fr_iload (pc := 27) 0 rfl dX10_stepByStep_27 ?_
    refine fr_iconst (pc := 29) (-1) (by decide) dX10_stepByStep_29 ?_
    refine fr_icmp_ne (pc := 30) (tgt := 36) (by decide) dX10_stepByStep_30 hW (fun hW => ?_) (fun hW => ?_)
    · refine fr_aload_n (pc := 36) 1 rfl rfl dX10_stepByStep_36 ?_
      refine fr_getR (pc := 37) (T := TX10) (k := 5) kc_X10 (by decide) w_959 dX10_stepByStep_37 hW (fun r7 hW => ?_)
      refine fr_aload_n (pc := 40) 1 rfl rfl dX10_stepByStep_40 ?_
      refine fr_getI (pc := 41) (T := TX10) (k := 7) kc_X10 (by decide) w_1311 dX10_stepByStep_41 hW (fun i8 hW => ?_)
      refine fr_iload (pc := 44) 0 rfl dX10_stepByStep_44 ?_
      obtain ⟨hrc, hW⟩ := hW
      refine fr_callV_V (pc := 46) (As := [.int i8, .int i4]) (st := []) wd_X1_put w_1293 ok_X1_put (by decide) rfl (Nat.le_of_ble_eq_true rfl) dX10_stepByStep_46 ⟨Nat.le_refl 0, Nat.le_refl 0⟩ kc_X1 hrc hW (fun s9 hW => ?_)
      refine fr_aload_n (pc := 49) 1 rfl rfl dX10_stepByStep_49 ?_
      refine fr_dup (pc := 50) rfl dX10_stepByStep_50 ?_
      refine fr_getI (pc := 51) (T := TX10) (k := 7) kc_X10 (by decide) w_1311 dX10_stepByStep_51 hW (fun i10 hW => ?_)
      refine fr_iconst (pc := 54) 1 (by decide) dX10_stepByStep_54 ?_
      refine fr_iadd (pc := 55) dX10_stepByStep_55 ?_
      refine fr_put (pc := 56) (T := TX10) (k := 7) kc_X10 (by decide) w_1311 rfl rfl rfl dX10_stepByStep_56 hW (fun s11 hW => ?_)
      refine fr_iload_n (pc := 59) 3 rfl rfl dX10_stepByStep_59 ?_
      refine fr_iload (pc := 60) 0 rfl dX10_stepByStep_60 ?_
      refine fr_callSN_I (pc := 62) (As := [.int v2, .int i4]) (st := []) wd_X11_with ⟨RX11, by decide +kernel⟩ ok_X11_with (by decide) rfl (Nat.le_of_ble_eq_true rfl) dX10_stepByStep_62 ⟨Nat.le_refl 0, Nat.le_refl 0⟩ hW (fun i13 s12 hW => ?_)
      refine fr_istore_n (pc := 65) (lv' := [(2, .int i13), (4, .int i4), (0, .ref a0), (1, .int v1), (3, .int v3)]) rfl (by decide) rfl dX10_stepByStep_65 ?_
      refine fr_iinc (pc := 66) (lv' := [(3, .int (v3 + 1)), (2, .int i13), (4, .int i4), (0, .ref a0), (1, .int v1)]) (v3 + 1) 4 rfl (congrArg (fun z => v3 + z) (by decide)) (by decide) rfl dX10_stepByStep_66 ?_
      refine fr_goto (pc := 69) (tgt := 13) (by decide) dX10_stepByStep_69 ?_
      exact fr_sub [3, 4, 1, 0] rfl hW
    · refine fr_goto (pc := 33) (tgt := 72) (by decide) dX10_stepByStep_33 ?_
      refine fr_iload_n (pc := 72) 3 rfl rfl dX10_stepByStep_72 ?_
      exact fr_iret (pc := 73) dX10_stepByStep_73 rfl ⟨Nat.le_refl 0, Nat.le_refl 0⟩ hW
set_option maxHeartbeats 4000000 in
set_option maxRecDepth 100000 in
theorem q_X10_stepAt {g : GG} {σ : Hs} {post : Option Value → Hs → Prop} (r0 : Nat) (p0 : Int32) (hW : (p0 < 0 → post (some (.int (-1))) σ) ∧ (¬ p0 < 0 → FI σ r0 10 7 (fun i1 => (i1 ≤ p0 → post (some (.int (-1))) σ) ∧ (¬ i1 ≤ p0 → FR σ r0 10 5 (fun r2 => Rc σ r2 1 ∧ Do g M_X1_at 0 0 [.ref r2, .int p0] σ (kI (fun i4 s3 => post (some (.int i4)) s3))))))) : Do g M_X10_stepAt 0 0 [.ref r0, .int p0] σ post := by
  refine Do.of (by decide +kernel) (Nat.le_of_ble_eq_true rfl) ?_
  show Fr g M_X10_stepAt (0, 0, 0, 0) [(0, .ref r0), (1, .int p0)] [] 0 σ post
  refine fr_iload_n (pc := 0) 1 rfl rfl dX10_stepAt_0 ?_
  refine fr_if_lt (pc := 1) (tgt := 23) (by decide) dX10_stepAt_1 hW (fun hW => ?_) (fun hW => ?_)
  · refine fr_iconst (pc := 23) (-1) (by decide) dX10_stepAt_23 ?_
    exact fr_iret (pc := 24) dX10_stepAt_24 rfl ⟨Nat.le_refl 0, Nat.le_refl 0⟩ hW
  · refine fr_iload_n (pc := 4) 1 rfl rfl dX10_stepAt_4 ?_
    refine fr_aload_n (pc := 5) 0 rfl rfl dX10_stepAt_5 ?_
    refine fr_getI (pc := 6) (T := TX10) (k := 7) kc_X10 (by decide) w_1311 dX10_stepAt_6 hW (fun i1 hW => ?_)
    refine fr_icmp_ge (pc := 9) (tgt := 23) (by decide) dX10_stepAt_9 hW (fun hW => ?_) (fun hW => ?_)
    · refine fr_iconst (pc := 23) (-1) (by decide) dX10_stepAt_23 ?_
      exact fr_iret (pc := 24) dX10_stepAt_24 rfl ⟨Nat.le_refl 0, Nat.le_refl 0⟩ hW
    · refine fr_aload_n (pc := 12) 0 rfl rfl dX10_stepAt_12 ?_
      refine fr_getR (pc := 13) (T := TX10) (k := 5) kc_X10 (by decide) w_959 dX10_stepAt_13 hW (fun r2 hW => ?_)
      refine fr_iload_n (pc := 16) 1 rfl rfl dX10_stepAt_16 ?_
      obtain ⟨hrc, hW⟩ := hW
      refine fr_callV_I (pc := 17) (As := [.int p0]) (st := []) wd_X1_at w_1295 ok_X1_at (by decide) rfl (Nat.le_of_ble_eq_true rfl) dX10_stepAt_17 ⟨Nat.le_refl 0, Nat.le_refl 0⟩ kc_X1 hrc hW (fun i4 s3 hW => ?_)
      refine fr_goto (pc := 20) (tgt := 24) (by decide) dX10_stepAt_20 ?_
      exact fr_iret (pc := 24) dX10_stepAt_24 rfl ⟨Nat.le_refl 0, Nat.le_refl 0⟩ hW
set_option maxHeartbeats 4000000 in
set_option maxRecDepth 100000 in
theorem q_J6_bitCount_0f7a4 {g : GG} {σ : Hs} {post : Option Value → Hs → Prop} (p0 : Int32) (hW : post (some (.int ((((((((p0 - (((p0.toUInt32 >>> ((1 : Int32).toUInt32 &&& Int32.toUInt32 31)).toInt32) &&& 1431655765)) &&& 858993459) + ((((p0 - (((p0.toUInt32 >>> ((1 : Int32).toUInt32 &&& Int32.toUInt32 31)).toInt32) &&& 1431655765)).toUInt32 >>> ((2 : Int32).toUInt32 &&& Int32.toUInt32 31)).toInt32) &&& 858993459)) + (((((p0 - (((p0.toUInt32 >>> ((1 : Int32).toUInt32 &&& Int32.toUInt32 31)).toInt32) &&& 1431655765)) &&& 858993459) + ((((p0 - (((p0.toUInt32 >>> ((1 : Int32).toUInt32 &&& Int32.toUInt32 31)).toInt32) &&& 1431655765)).toUInt32 >>> ((2 : Int32).toUInt32 &&& Int32.toUInt32 31)).toInt32) &&& 858993459)).toUInt32 >>> ((4 : Int32).toUInt32 &&& Int32.toUInt32 31)).toInt32)) &&& 252645135) + (((((((p0 - (((p0.toUInt32 >>> ((1 : Int32).toUInt32 &&& Int32.toUInt32 31)).toInt32) &&& 1431655765)) &&& 858993459) + ((((p0 - (((p0.toUInt32 >>> ((1 : Int32).toUInt32 &&& Int32.toUInt32 31)).toInt32) &&& 1431655765)).toUInt32 >>> ((2 : Int32).toUInt32 &&& Int32.toUInt32 31)).toInt32) &&& 858993459)) + (((((p0 - (((p0.toUInt32 >>> ((1 : Int32).toUInt32 &&& Int32.toUInt32 31)).toInt32) &&& 1431655765)) &&& 858993459) + ((((p0 - (((p0.toUInt32 >>> ((1 : Int32).toUInt32 &&& Int32.toUInt32 31)).toInt32) &&& 1431655765)).toUInt32 >>> ((2 : Int32).toUInt32 &&& Int32.toUInt32 31)).toInt32) &&& 858993459)).toUInt32 >>> ((4 : Int32).toUInt32 &&& Int32.toUInt32 31)).toInt32)) &&& 252645135).toUInt32 >>> ((8 : Int32).toUInt32 &&& Int32.toUInt32 31)).toInt32)) + ((((((((p0 - (((p0.toUInt32 >>> ((1 : Int32).toUInt32 &&& Int32.toUInt32 31)).toInt32) &&& 1431655765)) &&& 858993459) + ((((p0 - (((p0.toUInt32 >>> ((1 : Int32).toUInt32 &&& Int32.toUInt32 31)).toInt32) &&& 1431655765)).toUInt32 >>> ((2 : Int32).toUInt32 &&& Int32.toUInt32 31)).toInt32) &&& 858993459)) + (((((p0 - (((p0.toUInt32 >>> ((1 : Int32).toUInt32 &&& Int32.toUInt32 31)).toInt32) &&& 1431655765)) &&& 858993459) + ((((p0 - (((p0.toUInt32 >>> ((1 : Int32).toUInt32 &&& Int32.toUInt32 31)).toInt32) &&& 1431655765)).toUInt32 >>> ((2 : Int32).toUInt32 &&& Int32.toUInt32 31)).toInt32) &&& 858993459)).toUInt32 >>> ((4 : Int32).toUInt32 &&& Int32.toUInt32 31)).toInt32)) &&& 252645135) + (((((((p0 - (((p0.toUInt32 >>> ((1 : Int32).toUInt32 &&& Int32.toUInt32 31)).toInt32) &&& 1431655765)) &&& 858993459) + ((((p0 - (((p0.toUInt32 >>> ((1 : Int32).toUInt32 &&& Int32.toUInt32 31)).toInt32) &&& 1431655765)).toUInt32 >>> ((2 : Int32).toUInt32 &&& Int32.toUInt32 31)).toInt32) &&& 858993459)) + (((((p0 - (((p0.toUInt32 >>> ((1 : Int32).toUInt32 &&& Int32.toUInt32 31)).toInt32) &&& 1431655765)) &&& 858993459) + ((((p0 - (((p0.toUInt32 >>> ((1 : Int32).toUInt32 &&& Int32.toUInt32 31)).toInt32) &&& 1431655765)).toUInt32 >>> ((2 : Int32).toUInt32 &&& Int32.toUInt32 31)).toInt32) &&& 858993459)).toUInt32 >>> ((4 : Int32).toUInt32 &&& Int32.toUInt32 31)).toInt32)) &&& 252645135).toUInt32 >>> ((8 : Int32).toUInt32 &&& Int32.toUInt32 31)).toInt32)).toUInt32 >>> ((16 : Int32).toUInt32 &&& Int32.toUInt32 31)).toInt32)) &&& 63))) σ) : Do g M_J6_bitCount_0f7a4 0 0 [.int p0] σ post := by
  refine Do.of (by decide +kernel) (Nat.le_of_ble_eq_true rfl) ?_
  show Fr g M_J6_bitCount_0f7a4 (0, 0, 0, 0) [(0, .int p0)] [] 0 σ post
  refine fr_iload_n (pc := 0) 0 rfl rfl dJ6_bitCount_0f7a4_0 ?_
  refine fr_iload_n (pc := 1) 0 rfl rfl dJ6_bitCount_0f7a4_1 ?_
  refine fr_iconst (pc := 2) 1 (by decide) dJ6_bitCount_0f7a4_2 ?_
  refine fr_iushr (pc := 3) dJ6_bitCount_0f7a4_3 ?_
  refine fr_ldcw (pc := 4) w_1313 dJ6_bitCount_0f7a4_4 ?_
  refine fr_iand (pc := 7) dJ6_bitCount_0f7a4_7 ?_
  refine fr_isub (pc := 8) dJ6_bitCount_0f7a4_8 ?_
  refine fr_istore_n (pc := 9) (lv' := [(0, .int (p0 - (((p0.toUInt32 >>> ((1 : Int32).toUInt32 &&& Int32.toUInt32 31)).toInt32) &&& 1431655765)))]) rfl (by decide) rfl dJ6_bitCount_0f7a4_9 ?_
  refine fr_iload_n (pc := 10) 0 rfl rfl dJ6_bitCount_0f7a4_10 ?_
  refine fr_ldcw (pc := 11) w_1314 dJ6_bitCount_0f7a4_11 ?_
  refine fr_iand (pc := 14) dJ6_bitCount_0f7a4_14 ?_
  refine fr_iload_n (pc := 15) 0 rfl rfl dJ6_bitCount_0f7a4_15 ?_
  refine fr_iconst (pc := 16) 2 (by decide) dJ6_bitCount_0f7a4_16 ?_
  refine fr_iushr (pc := 17) dJ6_bitCount_0f7a4_17 ?_
  refine fr_ldcw (pc := 18) w_1314 dJ6_bitCount_0f7a4_18 ?_
  refine fr_iand (pc := 21) dJ6_bitCount_0f7a4_21 ?_
  refine fr_iadd (pc := 22) dJ6_bitCount_0f7a4_22 ?_
  refine fr_istore_n (pc := 23) (lv' := [(0, .int (((p0 - (((p0.toUInt32 >>> ((1 : Int32).toUInt32 &&& Int32.toUInt32 31)).toInt32) &&& 1431655765)) &&& 858993459) + ((((p0 - (((p0.toUInt32 >>> ((1 : Int32).toUInt32 &&& Int32.toUInt32 31)).toInt32) &&& 1431655765)).toUInt32 >>> ((2 : Int32).toUInt32 &&& Int32.toUInt32 31)).toInt32) &&& 858993459)))]) rfl (by decide) rfl dJ6_bitCount_0f7a4_23 ?_
  refine fr_iload_n (pc := 24) 0 rfl rfl dJ6_bitCount_0f7a4_24 ?_
  refine fr_iload_n (pc := 25) 0 rfl rfl dJ6_bitCount_0f7a4_25 ?_
  refine fr_iconst (pc := 26) 4 (by decide) dJ6_bitCount_0f7a4_26 ?_
  refine fr_iushr (pc := 27) dJ6_bitCount_0f7a4_27 ?_
  refine fr_iadd (pc := 28) dJ6_bitCount_0f7a4_28 ?_
  refine fr_ldcw (pc := 29) w_1315 dJ6_bitCount_0f7a4_29 ?_
  refine fr_iand (pc := 32) dJ6_bitCount_0f7a4_32 ?_
  refine fr_istore_n (pc := 33) (lv' := [(0, .int (((((p0 - (((p0.toUInt32 >>> ((1 : Int32).toUInt32 &&& Int32.toUInt32 31)).toInt32) &&& 1431655765)) &&& 858993459) + ((((p0 - (((p0.toUInt32 >>> ((1 : Int32).toUInt32 &&& Int32.toUInt32 31)).toInt32) &&& 1431655765)).toUInt32 >>> ((2 : Int32).toUInt32 &&& Int32.toUInt32 31)).toInt32) &&& 858993459)) + (((((p0 - (((p0.toUInt32 >>> ((1 : Int32).toUInt32 &&& Int32.toUInt32 31)).toInt32) &&& 1431655765)) &&& 858993459) + ((((p0 - (((p0.toUInt32 >>> ((1 : Int32).toUInt32 &&& Int32.toUInt32 31)).toInt32) &&& 1431655765)).toUInt32 >>> ((2 : Int32).toUInt32 &&& Int32.toUInt32 31)).toInt32) &&& 858993459)).toUInt32 >>> ((4 : Int32).toUInt32 &&& Int32.toUInt32 31)).toInt32)) &&& 252645135))]) rfl (by decide) rfl dJ6_bitCount_0f7a4_33 ?_
  refine fr_iload_n (pc := 34) 0 rfl rfl dJ6_bitCount_0f7a4_34 ?_
  refine fr_iload_n (pc := 35) 0 rfl rfl dJ6_bitCount_0f7a4_35 ?_
  refine fr_bipush (pc := 36) 8 (by decide) dJ6_bitCount_0f7a4_36 ?_
  refine fr_iushr (pc := 38) dJ6_bitCount_0f7a4_38 ?_
  refine fr_iadd (pc := 39) dJ6_bitCount_0f7a4_39 ?_
  refine fr_istore_n (pc := 40) (lv' := [(0, .int ((((((p0 - (((p0.toUInt32 >>> ((1 : Int32).toUInt32 &&& Int32.toUInt32 31)).toInt32) &&& 1431655765)) &&& 858993459) + ((((p0 - (((p0.toUInt32 >>> ((1 : Int32).toUInt32 &&& Int32.toUInt32 31)).toInt32) &&& 1431655765)).toUInt32 >>> ((2 : Int32).toUInt32 &&& Int32.toUInt32 31)).toInt32) &&& 858993459)) + (((((p0 - (((p0.toUInt32 >>> ((1 : Int32).toUInt32 &&& Int32.toUInt32 31)).toInt32) &&& 1431655765)) &&& 858993459) + ((((p0 - (((p0.toUInt32 >>> ((1 : Int32).toUInt32 &&& Int32.toUInt32 31)).toInt32) &&& 1431655765)).toUInt32 >>> ((2 : Int32).toUInt32 &&& Int32.toUInt32 31)).toInt32) &&& 858993459)).toUInt32 >>> ((4 : Int32).toUInt32 &&& Int32.toUInt32 31)).toInt32)) &&& 252645135) + (((((((p0 - (((p0.toUInt32 >>> ((1 : Int32).toUInt32 &&& Int32.toUInt32 31)).toInt32) &&& 1431655765)) &&& 858993459) + ((((p0 - (((p0.toUInt32 >>> ((1 : Int32).toUInt32 &&& Int32.toUInt32 31)).toInt32) &&& 1431655765)).toUInt32 >>> ((2 : Int32).toUInt32 &&& Int32.toUInt32 31)).toInt32) &&& 858993459)) + (((((p0 - (((p0.toUInt32 >>> ((1 : Int32).toUInt32 &&& Int32.toUInt32 31)).toInt32) &&& 1431655765)) &&& 858993459) + ((((p0 - (((p0.toUInt32 >>> ((1 : Int32).toUInt32 &&& Int32.toUInt32 31)).toInt32) &&& 1431655765)).toUInt32 >>> ((2 : Int32).toUInt32 &&& Int32.toUInt32 31)).toInt32) &&& 858993459)).toUInt32 >>> ((4 : Int32).toUInt32 &&& Int32.toUInt32 31)).toInt32)) &&& 252645135).toUInt32 >>> ((8 : Int32).toUInt32 &&& Int32.toUInt32 31)).toInt32)))]) rfl (by decide) rfl dJ6_bitCount_0f7a4_40 ?_
  refine fr_iload_n (pc := 41) 0 rfl rfl dJ6_bitCount_0f7a4_41 ?_
  refine fr_iload_n (pc := 42) 0 rfl rfl dJ6_bitCount_0f7a4_42 ?_
  refine fr_bipush (pc := 43) 16 (by decide) dJ6_bitCount_0f7a4_43 ?_
  refine fr_iushr (pc := 45) dJ6_bitCount_0f7a4_45 ?_
  refine fr_iadd (pc := 46) dJ6_bitCount_0f7a4_46 ?_
  refine fr_istore_n (pc := 47) (lv' := [(0, .int (((((((p0 - (((p0.toUInt32 >>> ((1 : Int32).toUInt32 &&& Int32.toUInt32 31)).toInt32) &&& 1431655765)) &&& 858993459) + ((((p0 - (((p0.toUInt32 >>> ((1 : Int32).toUInt32 &&& Int32.toUInt32 31)).toInt32) &&& 1431655765)).toUInt32 >>> ((2 : Int32).toUInt32 &&& Int32.toUInt32 31)).toInt32) &&& 858993459)) + (((((p0 - (((p0.toUInt32 >>> ((1 : Int32).toUInt32 &&& Int32.toUInt32 31)).toInt32) &&& 1431655765)) &&& 858993459) + ((((p0 - (((p0.toUInt32 >>> ((1 : Int32).toUInt32 &&& Int32.toUInt32 31)).toInt32) &&& 1431655765)).toUInt32 >>> ((2 : Int32).toUInt32 &&& Int32.toUInt32 31)).toInt32) &&& 858993459)).toUInt32 >>> ((4 : Int32).toUInt32 &&& Int32.toUInt32 31)).toInt32)) &&& 252645135) + (((((((p0 - (((p0.toUInt32 >>> ((1 : Int32).toUInt32 &&& Int32.toUInt32 31)).toInt32) &&& 1431655765)) &&& 858993459) + ((((p0 - (((p0.toUInt32 >>> ((1 : Int32).toUInt32 &&& Int32.toUInt32 31)).toInt32) &&& 1431655765)).toUInt32 >>> ((2 : Int32).toUInt32 &&& Int32.toUInt32 31)).toInt32) &&& 858993459)) + (((((p0 - (((p0.toUInt32 >>> ((1 : Int32).toUInt32 &&& Int32.toUInt32 31)).toInt32) &&& 1431655765)) &&& 858993459) + ((((p0 - (((p0.toUInt32 >>> ((1 : Int32).toUInt32 &&& Int32.toUInt32 31)).toInt32) &&& 1431655765)).toUInt32 >>> ((2 : Int32).toUInt32 &&& Int32.toUInt32 31)).toInt32) &&& 858993459)).toUInt32 >>> ((4 : Int32).toUInt32 &&& Int32.toUInt32 31)).toInt32)) &&& 252645135).toUInt32 >>> ((8 : Int32).toUInt32 &&& Int32.toUInt32 31)).toInt32)) + ((((((((p0 - (((p0.toUInt32 >>> ((1 : Int32).toUInt32 &&& Int32.toUInt32 31)).toInt32) &&& 1431655765)) &&& 858993459) + ((((p0 - (((p0.toUInt32 >>> ((1 : Int32).toUInt32 &&& Int32.toUInt32 31)).toInt32) &&& 1431655765)).toUInt32 >>> ((2 : Int32).toUInt32 &&& Int32.toUInt32 31)).toInt32) &&& 858993459)) + (((((p0 - (((p0.toUInt32 >>> ((1 : Int32).toUInt32 &&& Int32.toUInt32 31)).toInt32) &&& 1431655765)) &&& 858993459) + ((((p0 - (((p0.toUInt32 >>> ((1 : Int32).toUInt32 &&& Int32.toUInt32 31)).toInt32) &&& 1431655765)).toUInt32 >>> ((2 : Int32).toUInt32 &&& Int32.toUInt32 31)).toInt32) &&& 858993459)).toUInt32 >>> ((4 : Int32).toUInt32 &&& Int32.toUInt32 31)).toInt32)) &&& 252645135) + (((((((p0 - (((p0.toUInt32 >>> ((1 : Int32).toUInt32 &&& Int32.toUInt32 31)).toInt32) &&& 1431655765)) &&& 858993459) + ((((p0 - (((p0.toUInt32 >>> ((1 : Int32).toUInt32 &&& Int32.toUInt32 31)).toInt32) &&& 1431655765)).toUInt32 >>> ((2 : Int32).toUInt32 &&& Int32.toUInt32 31)).toInt32) &&& 858993459)) + (((((p0 - (((p0.toUInt32 >>> ((1 : Int32).toUInt32 &&& Int32.toUInt32 31)).toInt32) &&& 1431655765)) &&& 858993459) + ((((p0 - (((p0.toUInt32 >>> ((1 : Int32).toUInt32 &&& Int32.toUInt32 31)).toInt32) &&& 1431655765)).toUInt32 >>> ((2 : Int32).toUInt32 &&& Int32.toUInt32 31)).toInt32) &&& 858993459)).toUInt32 >>> ((4 : Int32).toUInt32 &&& Int32.toUInt32 31)).toInt32)) &&& 252645135).toUInt32 >>> ((8 : Int32).toUInt32 &&& Int32.toUInt32 31)).toInt32)).toUInt32 >>> ((16 : Int32).toUInt32 &&& Int32.toUInt32 31)).toInt32)))]) rfl (by decide) rfl dJ6_bitCount_0f7a4_47 ?_
  refine fr_iload_n (pc := 48) 0 rfl rfl dJ6_bitCount_0f7a4_48 ?_
  refine fr_bipush (pc := 49) 63 (by decide) dJ6_bitCount_0f7a4_49 ?_
  refine fr_iand (pc := 51) dJ6_bitCount_0f7a4_51 ?_
  exact fr_iret (pc := 52) dJ6_bitCount_0f7a4_52 rfl ⟨Nat.le_refl 0, Nat.le_refl 0⟩ hW
def J_X11_steps_17 (g : GG) (post : Option Value → Hs → Prop) (σ : Hs) (a0 : Nat) (v1 : Int32) (v2 : Int32) (t0 : Int32) : Prop := Fr g M_X11_steps (0, 0, 0, 0) [(0, .ref a0), (1, .int v1), (2, .int v2)] [.int t0] 17 σ post
def J_X11_steps_41 (g : GG) (post : Option Value → Hs → Prop) (σ : Hs) (a0 : Nat) (v1 : Int32) (v2 : Int32) (v3 : Int32) : Prop := Fr g M_X11_steps (0, 0, 0, 0) [(0, .ref a0), (1, .int v1), (2, .int v2), (3, .int v3)] [] 41 σ post
set_option maxHeartbeats 4000000 in
set_option maxRecDepth 100000 in
theorem q_X11_steps {g : GG} {σ : Hs} {post : Option Value → Hs → Prop} (r0 : Nat) (p0 : Int32) (p1 : Int32) (hW : (p1 < 10 → J_X11_steps_17 g post σ r0 p0 p1 0) ∧ (¬ p1 < 10 → (18 ≤ p1 → J_X11_steps_17 g post σ r0 p0 p1 0) ∧ (¬ 18 ≤ p1 → J_X11_steps_17 g post σ r0 p0 p1 1))) : Do g M_X11_steps 0 0 [.ref r0, .int p0, .int p1] σ post := by
  refine Do.of (by decide +kernel) (Nat.le_of_ble_eq_true rfl) ?_
  show Fr g M_X11_steps (0, 0, 0, 0) [(0, .ref r0), (1, .int p0), (2, .int p1)] [] 0 σ post
  refine fr_iload_n (pc := 0) 2 rfl rfl dX11_steps_0 ?_
  refine fr_bipush (pc := 1) 10 (by decide) dX11_steps_1 ?_
  refine fr_icmp_lt (pc := 3) (tgt := 16) (by decide) dX11_steps_3 hW (fun hW => ?_) (fun hW => ?_)
  · refine fr_iconst (pc := 16) 0 (by decide) dX11_steps_16 ?_
    exact fr_sub [0, 1, 2] rfl hW
  · refine fr_iload_n (pc := 6) 2 rfl rfl dX11_steps_6 ?_
    refine fr_bipush (pc := 7) 18 (by decide) dX11_steps_7 ?_
    refine fr_icmp_ge (pc := 9) (tgt := 16) (by decide) dX11_steps_9 hW (fun hW => ?_) (fun hW => ?_)
    · refine fr_iconst (pc := 16) 0 (by decide) dX11_steps_16 ?_
      exact fr_sub [0, 1, 2] rfl hW
    · refine fr_iconst (pc := 12) 1 (by decide) dX11_steps_12 ?_
      refine fr_goto (pc := 13) (tgt := 17) (by decide) dX11_steps_13 ?_
      exact fr_sub [0, 1, 2] rfl hW
set_option maxHeartbeats 4000000 in
set_option maxRecDepth 100000 in
theorem q_X11_steps_17 {g : GG} {σ : Hs} {post : Option Value → Hs → Prop} (a0 : Nat) (v1 : Int32) (v2 : Int32) (t0 : Int32) (hW : Do g M_X11_isSpace 0 0 [.int v1] σ (kI (fun i2 s1 => (i2 = 0 → post (some (.int (-102))) s1) ∧ (¬ i2 = 0 → (¬ t0 = 0 → J_X11_steps_41 g post s1 a0 v1 v2 t0 ) ∧ (t0 = 0 → (v2 < 0 → post (some (.int (-102))) s1) ∧ (¬ v2 < 0 → (v2 ≤ 2 → J_X11_steps_41 g post s1 a0 v1 v2 t0 ) ∧ (¬ v2 ≤ 2 → post (some (.int (-102))) s1))))))) : J_X11_steps_17 g post σ a0 v1 v2 t0 := by
  show Fr g M_X11_steps (0, 0, 0, 0) [(0, .ref a0), (1, .int v1), (2, .int v2)] [.int t0] 17 σ post
  refine fr_istore_n (pc := 17) (lv' := [(3, .int t0), (0, .ref a0), (1, .int v1), (2, .int v2)]) rfl (by decide) rfl dX11_steps_17 ?_
  refine fr_iload_n (pc := 18) 2 rfl rfl dX11_steps_18 ?_
  refine fr_callS_I (pc := 19) (As := [.int v1]) (st := []) wd_X11_isSpace w_1303 ok_X11_isSpace (by decide) rfl (Nat.le_of_ble_eq_true rfl) dX11_steps_19 ⟨Nat.le_refl 0, Nat.le_refl 0⟩ hW (fun i2 s1 hW => ?_)
  refine fr_if_eq (pc := 22) (tgt := 38) (by decide) dX11_steps_22 hW (fun hW => ?_) (fun hW => ?_)
  · refine fr_bipush (pc := 38) (-102) (by decide) dX11_steps_38 ?_
    exact fr_iret (pc := 40) dX11_steps_40 rfl ⟨Nat.le_refl 0, Nat.le_refl 0⟩ hW
  · refine fr_iload_n (pc := 25) 0 rfl rfl dX11_steps_25 ?_
    refine fr_if_ne (pc := 26) (tgt := 41) (by decide) dX11_steps_26 hW (fun hW => ?_) (fun hW => ?_)
    · exact fr_sub [1, 2, 3, 0] rfl hW
    · refine fr_iload_n (pc := 29) 3 rfl rfl dX11_steps_29 ?_
      refine fr_if_lt (pc := 30) (tgt := 38) (by decide) dX11_steps_30 hW (fun hW => ?_) (fun hW => ?_)
      · refine fr_bipush (pc := 38) (-102) (by decide) dX11_steps_38 ?_
        exact fr_iret (pc := 40) dX11_steps_40 rfl ⟨Nat.le_refl 0, Nat.le_refl 0⟩ hW
      · refine fr_iload_n (pc := 33) 3 rfl rfl dX11_steps_33 ?_
        refine fr_iconst (pc := 34) 2 (by decide) dX11_steps_34 ?_
        refine fr_icmp_le (pc := 35) (tgt := 41) (by decide) dX11_steps_35 hW (fun hW => ?_) (fun hW => ?_)
        · exact fr_sub [1, 2, 3, 0] rfl hW
        · refine fr_bipush (pc := 38) (-102) (by decide) dX11_steps_38 ?_
          exact fr_iret (pc := 40) dX11_steps_40 rfl ⟨Nat.le_refl 0, Nat.le_refl 0⟩ hW
set_option maxHeartbeats 4000000 in
set_option maxRecDepth 100000 in
theorem q_X11_steps_41 {g : GG} {σ : Hs} {post : Option Value → Hs → Prop} (a0 : Nat) (v1 : Int32) (v2 : Int32) (v3 : Int32) (hW : FI σ a0 11 8 (fun i5 => (i5 < 20 → FI σ a0 11 8 (fun i6 => PF σ a0 11 8 (.int (i6 + 1)) (fun s7 => FR s7 a0 11 3 (fun r8 => Rc s7 r8 10 ∧ Do g M_X10_stepByStep 0 0 [.ref r8, .int v1] s7 (kI (fun i10 s9 => (v3 = 0 → (¬ v2 = 0 → (¬ v2 = 1 → Do g M_J6_bitCount_0f7a4 0 0 [.int i10] s9 (kI (fun i14 s13 => post (some (.int i14)) s13))) ∧ (v2 = 1 → FR s9 a0 11 3 (fun r17 => Rc s9 r17 10 ∧ Do g M_X10_workedOut 0 0 [.ref r17, .int i10] s9 (kI (fun i19 s18 => post (some (.int i19)) s18))))) ∧ (v2 = 0 → post (some (.int i10)) s9)) ∧ (¬ v3 = 0 → FR s9 a0 11 3 (fun r22 => Rc s9 r22 10 ∧ Do g M_X10_stepAt 0 0 [.ref r22, .int (v2 - 10)] s9 (kI (fun i24 s23 => post (some (.int i24)) s23)))))))))) ∧ (¬ i5 < 20 → post (some (.int (-103))) σ))) : J_X11_steps_41 g post σ a0 v1 v2 v3 := by
  show Fr g M_X11_steps (0, 0, 0, 0) [(0, .ref a0), (1, .int v1), (2, .int v2), (3, .int v3)] [] 41 σ post
  refine fr_aload_n (pc := 41) 0 rfl rfl dX11_steps_41 ?_
  refine fr_getI (pc := 42) (T := TX11) (k := 8) kc_X11 (by decide) w_1316 dX11_steps_42 hW (fun i5 hW => ?_)
  refine fr_bipush (pc := 45) 20 (by decide) dX11_steps_45 ?_
  refine fr_icmp_lt (pc := 47) (tgt := 53) (by decide) dX11_steps_47 hW (fun hW => ?_) (fun hW => ?_)
  · refine fr_aload_n (pc := 53) 0 rfl rfl dX11_steps_53 ?_
    refine fr_dup (pc := 54) rfl dX11_steps_54 ?_
    refine fr_getI (pc := 55) (T := TX11) (k := 8) kc_X11 (by decide) w_1316 dX11_steps_55 hW (fun i6 hW => ?_)
    refine fr_iconst (pc := 58) 1 (by decide) dX11_steps_58 ?_
    refine fr_iadd (pc := 59) dX11_steps_59 ?_
    refine fr_put (pc := 60) (T := TX11) (k := 8) kc_X11 (by decide) w_1316 rfl rfl rfl dX11_steps_60 hW (fun s7 hW => ?_)
    refine fr_aload_n (pc := 63) 0 rfl rfl dX11_steps_63 ?_
    refine fr_getR (pc := 64) (T := TX11) (k := 3) kc_X11 (by decide) w_995 dX11_steps_64 hW (fun r8 hW => ?_)
    refine fr_iload_n (pc := 67) 1 rfl rfl dX11_steps_67 ?_
    obtain ⟨hrc, hW⟩ := hW
    refine fr_callV_I (pc := 68) (As := [.int v1]) (st := []) wd_X10_stepByStep w_1317 ok_X10_stepByStep (by decide) rfl (Nat.le_of_ble_eq_true rfl) dX11_steps_68 ⟨Nat.le_refl 0, Nat.le_refl 0⟩ kc_X10 hrc hW (fun i10 s9 hW => ?_)
    refine fr_istore (pc := 71) (lv' := [(4, .int i10), (0, .ref a0), (1, .int v1), (2, .int v2), (3, .int v3)]) (by decide) rfl dX11_steps_71 ?_
    refine fr_iload_n (pc := 73) 4 rfl rfl dX11_steps_73 ?_
    refine fr_if_eq (pc := 74) (tgt := 89) (by decide) dX11_steps_74 hW (fun hW => ?_) (fun hW => ?_)
    · refine fr_iload_n (pc := 89) 3 rfl rfl dX11_steps_89 ?_
      refine fr_if_ne (pc := 90) (tgt := 96) (by decide) dX11_steps_90 hW (fun hW => ?_) (fun hW => ?_)
      · refine fr_iload_n (pc := 96) 3 rfl rfl dX11_steps_96 ?_
        refine fr_iconst (pc := 97) 1 (by decide) dX11_steps_97 ?_
        refine fr_icmp_ne (pc := 98) (tgt := 113) (by decide) dX11_steps_98 hW (fun hW => ?_) (fun hW => ?_)
        · refine fr_iload (pc := 113) 0 rfl dX11_steps_113 ?_
          refine fr_callS_I (pc := 115) (As := [.int i10]) (st := []) wd_J6_bitCount_0f7a4 w_1319 ok_J6_bitCount_0f7a4 (by decide) rfl (Nat.le_of_ble_eq_true rfl) dX11_steps_115 ⟨Nat.le_refl 0, Nat.le_refl 0⟩ hW (fun i14 s13 hW => ?_)
          exact fr_iret (pc := 118) dX11_steps_118 rfl ⟨Nat.le_refl 0, Nat.le_refl 0⟩ hW
        · refine fr_aload_n (pc := 101) 1 rfl rfl dX11_steps_101 ?_
          refine fr_getR (pc := 102) (T := TX11) (k := 3) kc_X11 (by decide) w_995 dX11_steps_102 hW (fun r17 hW => ?_)
          refine fr_iload (pc := 105) 0 rfl dX11_steps_105 ?_
          obtain ⟨hrc, hW⟩ := hW
          refine fr_callV_I (pc := 107) (As := [.int i10]) (st := []) wd_X10_workedOut w_1305 ok_X10_workedOut (by decide) rfl (Nat.le_of_ble_eq_true rfl) dX11_steps_107 ⟨Nat.le_refl 0, Nat.le_refl 0⟩ kc_X10 hrc hW (fun i19 s18 hW => ?_)
          refine fr_goto (pc := 110) (tgt := 118) (by decide) dX11_steps_110 ?_
          exact fr_iret (pc := 118) dX11_steps_118 rfl ⟨Nat.le_refl 0, Nat.le_refl 0⟩ hW
      · refine fr_iload (pc := 93) 0 rfl dX11_steps_93 ?_
        exact fr_iret (pc := 95) dX11_steps_95 rfl ⟨Nat.le_refl 0, Nat.le_refl 0⟩ hW
    · refine fr_aload_n (pc := 77) 1 rfl rfl dX11_steps_77 ?_
      refine fr_getR (pc := 78) (T := TX11) (k := 3) kc_X11 (by decide) w_995 dX11_steps_78 hW (fun r22 hW => ?_)
      refine fr_iload_n (pc := 81) 3 rfl rfl dX11_steps_81 ?_
      refine fr_bipush (pc := 82) 10 (by decide) dX11_steps_82 ?_
      refine fr_isub (pc := 84) dX11_steps_84 ?_
      obtain ⟨hrc, hW⟩ := hW
      refine fr_callV_I (pc := 85) (As := [.int (v2 - 10)]) (st := []) wd_X10_stepAt w_1318 ok_X10_stepAt (by decide) rfl (Nat.le_of_ble_eq_true rfl) dX11_steps_85 ⟨Nat.le_refl 0, Nat.le_refl 0⟩ kc_X10 hrc hW (fun i24 s23 hW => ?_)
      exact fr_iret (pc := 88) dX11_steps_88 rfl ⟨Nat.le_refl 0, Nat.le_refl 0⟩ hW
  · refine fr_bipush (pc := 50) (-103) (by decide) dX11_steps_50 ?_
    exact fr_iret (pc := 52) dX11_steps_52 rfl ⟨Nat.le_refl 0, Nat.le_refl 0⟩ hW
def J_X12_steps_34 (g : GG) (post : Option Value → Hs → Prop) (σ : Hs) (a0 : Nat) (v1 : Int32) (v2 : Int32) : Prop := Fr g M_X12_steps (0, 0, 0, 0) [(0, .ref a0), (1, .int v1), (2, .int v2)] [] 34 σ post
def J_X12_steps_75 (g : GG) (post : Option Value → Hs → Prop) (σ : Hs) (a0 : Nat) (v1 : Int32) (v2 : Int32) (v3 : Int32) (v4 : Int32) (v5 : Int32) (v6 : Int32) : Prop := Fr g M_X12_steps (0, 0, 0, 0) [(0, .ref a0), (1, .int v1), (2, .int v2), (3, .int v3), (4, .int v4), (5, .int v5), (6, .int v6)] [] 75 σ post
def J_X12_steps_90 (g : GG) (post : Option Value → Hs → Prop) (σ : Hs) (a0 : Nat) (v1 : Int32) (v2 : Int32) (v3 : Int32) (v4 : Int32) (v5 : Int32) (v7 : Int32) (v8 : Int32) (v9 : Int32) : Prop := Fr g M_X12_steps (0, 0, 0, 0) [(0, .ref a0), (1, .int v1), (2, .int v2), (3, .int v3), (4, .int v4), (5, .int v5), (7, .int v7), (8, .int v8), (9, .int v9)] [] 90 σ post
def J_X12_steps_173 (g : GG) (post : Option Value → Hs → Prop) (σ : Hs) (a0 : Nat) (v1 : Int32) (v2 : Int32) (v3 : Int32) (v4 : Int32) (v5 : Int32) (v7 : Int32) (v8 : Int32) (t0 : Int32) : Prop := Fr g M_X12_steps (0, 0, 0, 0) [(0, .ref a0), (1, .int v1), (2, .int v2), (3, .int v3), (4, .int v4), (5, .int v5), (7, .int v7), (8, .int v8)] [.int t0] 173 σ post
set_option maxHeartbeats 4000000 in
set_option maxRecDepth 100000 in
theorem q_X12_steps {g : GG} {σ : Hs} {post : Option Value → Hs → Prop} (r0 : Nat) (p0 : Int32) (p1 : Int32) (hW : Do g M_X12_in 0 0 [.int p0, .int 0, .int 9999] σ (kI (fun i2 s1 => (i2 = 0 → post (some (.int (-102))) s1) ∧ (¬ i2 = 0 → Do g M_X12_in 0 0 [.int p1, .int 0, .int 2] s1 (kI (fun i6 s5 => (¬ i6 = 0 → J_X12_steps_34 g post s5 r0 p0 p1 ) ∧ (i6 = 0 → Do g M_X12_in 0 0 [.int p1, .int 10, .int 17] s5 (kI (fun i10 s9 => (¬ i10 = 0 → J_X12_steps_34 g post s9 r0 p0 p1 ) ∧ (i10 = 0 → post (some (.int (-102))) s9)))))))))) : Do g M_X12_steps 0 0 [.ref r0, .int p0, .int p1] σ post := by
  refine Do.of (by decide +kernel) (Nat.le_of_ble_eq_true rfl) ?_
  show Fr g M_X12_steps (0, 0, 0, 0) [(0, .ref r0), (1, .int p0), (2, .int p1)] [] 0 σ post
  refine fr_iload_n (pc := 0) 1 rfl rfl dX12_steps_0 ?_
  refine fr_iconst (pc := 1) 0 (by decide) dX12_steps_1 ?_
  refine fr_sipush (pc := 2) 9999 (by decide) dX12_steps_2 ?_
  refine fr_callS_I (pc := 5) (As := [.int p0, .int 0, .int 9999]) (st := []) wd_X12_in w_1067 ok_X12_in (by decide) rfl (Nat.le_of_ble_eq_true rfl) dX12_steps_5 ⟨Nat.le_refl 0, Nat.le_refl 0⟩ hW (fun i2 s1 hW => ?_)
  refine fr_if_eq (pc := 8) (tgt := 31) (by decide) dX12_steps_8 hW (fun hW => ?_) (fun hW => ?_)
  · refine fr_bipush (pc := 31) (-102) (by decide) dX12_steps_31 ?_
    exact fr_iret (pc := 33) dX12_steps_33 rfl ⟨Nat.le_refl 0, Nat.le_refl 0⟩ hW
  · refine fr_iload_n (pc := 11) 2 rfl rfl dX12_steps_11 ?_
    refine fr_iconst (pc := 12) 0 (by decide) dX12_steps_12 ?_
    refine fr_iconst (pc := 13) 2 (by decide) dX12_steps_13 ?_
    refine fr_callS_I (pc := 14) (As := [.int p1, .int 0, .int 2]) (st := []) wd_X12_in w_1067 ok_X12_in (by decide) rfl (Nat.le_of_ble_eq_true rfl) dX12_steps_14 ⟨Nat.le_refl 0, Nat.le_refl 0⟩ hW (fun i6 s5 hW => ?_)
    refine fr_if_ne (pc := 17) (tgt := 34) (by decide) dX12_steps_17 hW (fun hW => ?_) (fun hW => ?_)
    · exact fr_sub [0, 1, 2] rfl hW
    · refine fr_iload_n (pc := 20) 2 rfl rfl dX12_steps_20 ?_
      refine fr_bipush (pc := 21) 10 (by decide) dX12_steps_21 ?_
      refine fr_bipush (pc := 23) 17 (by decide) dX12_steps_23 ?_
      refine fr_callS_I (pc := 25) (As := [.int p1, .int 10, .int 17]) (st := []) wd_X12_in w_1067 ok_X12_in (by decide) rfl (Nat.le_of_ble_eq_true rfl) dX12_steps_25 ⟨Nat.le_refl 0, Nat.le_refl 0⟩ hW (fun i10 s9 hW => ?_)
      refine fr_if_ne (pc := 28) (tgt := 34) (by decide) dX12_steps_28 hW (fun hW => ?_) (fun hW => ?_)
      · exact fr_sub [0, 1, 2] rfl hW
      · refine fr_bipush (pc := 31) (-102) (by decide) dX12_steps_31 ?_
        exact fr_iret (pc := 33) dX12_steps_33 rfl ⟨Nat.le_refl 0, Nat.le_refl 0⟩ hW
set_option maxHeartbeats 4000000 in
set_option maxRecDepth 100000 in
theorem q_X12_steps_34 {g : GG} {σ : Hs} {post : Option Value → Hs → Prop} (a0 : Nat) (v1 : Int32) (v2 : Int32) (hW : FI σ a0 12 21 (fun i13 => (¬ i13 = 20 → FI σ a0 12 21 (fun i14 => PF σ a0 12 21 (.int (i14 + 1)) (fun s15 => Rc s15 a0 12 ∧ Do g M_X12_lookAtAll 0 0 [.ref a0] s15 (kV (fun s16 => Rc s16 a0 12 ∧ Do g M_X12_workOf 0 0 [.ref a0, .int 0] s16 (kI (fun i18 s17 => J_X12_steps_75 g post s17 a0 v1 v2 0 i18 0 1 ))))))) ∧ (i13 = 20 → post (some (.int (-103))) σ))) : J_X12_steps_34 g post σ a0 v1 v2 := by
  show Fr g M_X12_steps (0, 0, 0, 0) [(0, .ref a0), (1, .int v1), (2, .int v2)] [] 34 σ post
  refine fr_aload_n (pc := 34) 0 rfl rfl dX12_steps_34 ?_
  refine fr_getI (pc := 35) (T := TX12) (k := 21) kc_X12 (by decide) w_1320 dX12_steps_35 hW (fun i13 hW => ?_)
  refine fr_bipush (pc := 38) 20 (by decide) dX12_steps_38 ?_
  refine fr_icmp_ne (pc := 40) (tgt := 46) (by decide) dX12_steps_40 hW (fun hW => ?_) (fun hW => ?_)
  · refine fr_aload_n (pc := 46) 0 rfl rfl dX12_steps_46 ?_
    refine fr_dup (pc := 47) rfl dX12_steps_47 ?_
    refine fr_getI (pc := 48) (T := TX12) (k := 21) kc_X12 (by decide) w_1320 dX12_steps_48 hW (fun i14 hW => ?_)
    refine fr_iconst (pc := 51) 1 (by decide) dX12_steps_51 ?_
    refine fr_iadd (pc := 52) dX12_steps_52 ?_
    refine fr_put (pc := 53) (T := TX12) (k := 21) kc_X12 (by decide) w_1320 rfl rfl rfl dX12_steps_53 hW (fun s15 hW => ?_)
    refine fr_aload_n (pc := 56) 0 rfl rfl dX12_steps_56 ?_
    obtain ⟨hrc, hW⟩ := hW
    refine fr_callV_V (pc := 57) (As := []) (st := []) wd_X12_lookAtAll w_1288 ok_X12_lookAtAll (by decide) rfl (Nat.le_of_ble_eq_true rfl) dX12_steps_57 ⟨Nat.le_refl 0, Nat.le_refl 0⟩ kc_X12 hrc hW (fun s16 hW => ?_)
    refine fr_iconst (pc := 60) 0 (by decide) dX12_steps_60 ?_
    refine fr_istore_n (pc := 61) (lv' := [(3, .int 0), (0, .ref a0), (1, .int v1), (2, .int v2)]) rfl (by decide) rfl dX12_steps_61 ?_
    refine fr_aload_n (pc := 62) 1 rfl rfl dX12_steps_62 ?_
    refine fr_iconst (pc := 63) 0 (by decide) dX12_steps_63 ?_
    obtain ⟨hrc, hW⟩ := hW
    refine fr_callV_I (pc := 64) (As := [.int 0]) (st := []) wd_X12_workOf w_1289 ok_X12_workOf (by decide) rfl (Nat.le_of_ble_eq_true rfl) dX12_steps_64 ⟨Nat.le_refl 0, Nat.le_refl 0⟩ kc_X12 hrc hW (fun i18 s17 hW => ?_)
    refine fr_istore (pc := 67) (lv' := [(4, .int i18), (3, .int 0), (0, .ref a0), (1, .int v1), (2, .int v2)]) (by decide) rfl dX12_steps_67 ?_
    refine fr_iconst (pc := 69) 0 (by decide) dX12_steps_69 ?_
    refine fr_istore (pc := 70) (lv' := [(5, .int 0), (4, .int i18), (3, .int 0), (0, .ref a0), (1, .int v1), (2, .int v2)]) (by decide) rfl dX12_steps_70 ?_
    refine fr_iconst (pc := 72) 1 (by decide) dX12_steps_72 ?_
    refine fr_istore (pc := 73) (lv' := [(6, .int 1), (5, .int 0), (4, .int i18), (3, .int 0), (0, .ref a0), (1, .int v1), (2, .int v2)]) (by decide) rfl dX12_steps_73 ?_
    exact fr_sub [4, 5, 6, 3, 2, 1, 0] rfl hW
  · refine fr_bipush (pc := 43) (-103) (by decide) dX12_steps_43 ?_
    exact fr_iret (pc := 45) dX12_steps_45 rfl ⟨Nat.le_refl 0, Nat.le_refl 0⟩ hW
set_option maxHeartbeats 4000000 in
set_option maxRecDepth 100000 in
theorem q_X12_steps_75 {g : GG} {σ : Hs} {post : Option Value → Hs → Prop} (a0 : Nat) (v1 : Int32) (v2 : Int32) (v3 : Int32) (v4 : Int32) (v5 : Int32) (v6 : Int32) (hW : (v6 = 0 → (¬ v2 = 0 → (¬ v2 = 1 → (¬ v2 = 2 → (v5 ≤ (v2 - 10) → post (some (.int (-1))) σ) ∧ (¬ v5 ≤ (v2 - 10) → FR σ a0 12 37 (fun r21 => AI g σ r21 0 (v2 - 10) (fun i22 => post (some (.int i22)) σ)))) ∧ (v2 = 2 → post (some (.int v5)) σ)) ∧ (v2 = 1 → post (some (.int v4)) σ)) ∧ (v2 = 0 → post (some (.int v3)) σ)) ∧ (¬ v6 = 0 → J_X12_steps_90 g post σ a0 v1 v2 v3 v4 v5 (-1) v4 0 )) : J_X12_steps_75 g post σ a0 v1 v2 v3 v4 v5 v6 := by
  show Fr g M_X12_steps (0, 0, 0, 0) [(0, .ref a0), (1, .int v1), (2, .int v2), (3, .int v3), (4, .int v4), (5, .int v5), (6, .int v6)] [] 75 σ post
  refine fr_iload (pc := 75) 6 rfl dX12_steps_75 ?_
  refine fr_if_eq (pc := 77) (tgt := 206) (by decide) dX12_steps_77 hW (fun hW => ?_) (fun hW => ?_)
  · refine fr_iload_n (pc := 206) 2 rfl rfl dX12_steps_206 ?_
    refine fr_if_ne (pc := 207) (tgt := 214) (by decide) dX12_steps_207 hW (fun hW => ?_) (fun hW => ?_)
    · refine fr_iload_n (pc := 214) 2 rfl rfl dX12_steps_214 ?_
      refine fr_iconst (pc := 215) 1 (by decide) dX12_steps_215 ?_
      refine fr_icmp_ne (pc := 216) (tgt := 224) (by decide) dX12_steps_216 hW (fun hW => ?_) (fun hW => ?_)
      · refine fr_iload_n (pc := 224) 2 rfl rfl dX12_steps_224 ?_
        refine fr_iconst (pc := 225) 2 (by decide) dX12_steps_225 ?_
        refine fr_icmp_ne (pc := 226) (tgt := 234) (by decide) dX12_steps_226 hW (fun hW => ?_) (fun hW => ?_)
        · refine fr_iload_n (pc := 234) 2 rfl rfl dX12_steps_234 ?_
          refine fr_bipush (pc := 235) 10 (by decide) dX12_steps_235 ?_
          refine fr_isub (pc := 237) dX12_steps_237 ?_
          refine fr_iload (pc := 238) 5 rfl dX12_steps_238 ?_
          refine fr_icmp_ge (pc := 240) (tgt := 255) (by decide) dX12_steps_240 hW (fun hW => ?_) (fun hW => ?_)
          · refine fr_iconst (pc := 255) (-1) (by decide) dX12_steps_255 ?_
            exact fr_iret (pc := 256) dX12_steps_256 rfl ⟨Nat.le_refl 0, Nat.le_refl 0⟩ hW
          · refine fr_aload_n (pc := 243) 0 rfl rfl dX12_steps_243 ?_
            refine fr_getR (pc := 244) (T := TX12) (k := 37) kc_X12 (by decide) w_1028 dX12_steps_244 hW (fun r21 hW => ?_)
            refine fr_iload_n (pc := 247) 2 rfl rfl dX12_steps_247 ?_
            refine fr_bipush (pc := 248) 10 (by decide) dX12_steps_248 ?_
            refine fr_isub (pc := 250) dX12_steps_250 ?_
            refine fr_iald (pc := 251) dX12_steps_251 hW (fun i22 hW => ?_)
            refine fr_goto (pc := 252) (tgt := 256) (by decide) dX12_steps_252 ?_
            exact fr_iret (pc := 256) dX12_steps_256 rfl ⟨Nat.le_refl 0, Nat.le_refl 0⟩ hW
        · refine fr_iload (pc := 229) 5 rfl dX12_steps_229 ?_
          refine fr_goto (pc := 231) (tgt := 256) (by decide) dX12_steps_231 ?_
          exact fr_iret (pc := 256) dX12_steps_256 rfl ⟨Nat.le_refl 0, Nat.le_refl 0⟩ hW
      · refine fr_iload (pc := 219) 4 rfl dX12_steps_219 ?_
        refine fr_goto (pc := 221) (tgt := 256) (by decide) dX12_steps_221 ?_
        exact fr_iret (pc := 256) dX12_steps_256 rfl ⟨Nat.le_refl 0, Nat.le_refl 0⟩ hW
    · refine fr_iload_n (pc := 210) 3 rfl rfl dX12_steps_210 ?_
      refine fr_goto (pc := 211) (tgt := 256) (by decide) dX12_steps_211 ?_
      exact fr_iret (pc := 256) dX12_steps_256 rfl ⟨Nat.le_refl 0, Nat.le_refl 0⟩ hW
  · refine fr_iconst (pc := 80) (-1) (by decide) dX12_steps_80 ?_
    refine fr_istore (pc := 81) (lv' := [(7, .int (-1)), (0, .ref a0), (1, .int v1), (2, .int v2), (3, .int v3), (4, .int v4), (5, .int v5), (6, .int v6)]) (by decide) rfl dX12_steps_81 ?_
    refine fr_iload (pc := 83) 5 rfl dX12_steps_83 ?_
    refine fr_istore (pc := 85) (lv' := [(8, .int v4), (7, .int (-1)), (0, .ref a0), (1, .int v1), (2, .int v2), (3, .int v3), (4, .int v4), (5, .int v5), (6, .int v6)]) (by decide) rfl dX12_steps_85 ?_
    refine fr_iconst (pc := 87) 0 (by decide) dX12_steps_87 ?_
    refine fr_istore (pc := 88) (lv' := [(9, .int 0), (8, .int v4), (7, .int (-1)), (0, .ref a0), (1, .int v1), (2, .int v2), (3, .int v3), (4, .int v4), (5, .int v5), (6, .int v6)]) (by decide) rfl dX12_steps_88 ?_
    exact fr_sub [3, 4, 5, 6, 7, 8, 2, 1, 0] rfl hW
set_option maxHeartbeats 4000000 in
set_option maxRecDepth 100000 in
theorem q_X12_steps_90 {g : GG} {σ : Hs} {post : Option Value → Hs → Prop} (a0 : Nat) (v1 : Int32) (v2 : Int32) (v3 : Int32) (v4 : Int32) (v5 : Int32) (v7 : Int32) (v8 : Int32) (v9 : Int32) (hW : FI σ a0 12 4 (fun i23 => (i23 ≤ v9 → (v7 = (-1) → J_X12_steps_173 g post σ a0 v1 v2 v3 v4 v5 v7 v8 0) ∧ (¬ v7 = (-1) → J_X12_steps_173 g post σ a0 v1 v2 v3 v4 v5 v7 v8 1)) ∧ (¬ i23 ≤ v9 → FR σ a0 12 6 (fun r24 => AI g σ r24 1 v9 (fun i25 => (¬ i25 = 0 → J_X12_steps_90 g post σ a0 v1 v2 v3 v4 v5 v7 v8 ((v9 + 1)) ) ∧ (i25 = 0 → ((v3 ||| ((1 : Int32) <<< (v9 &&& 31))) = v3 → J_X12_steps_90 g post σ a0 v1 v2 v3 v4 v5 v7 v8 ((v9 + 1)) ) ∧ (¬ (v3 ||| ((1 : Int32) <<< (v9 &&& 31))) = v3 → Rc σ a0 12 ∧ Do g M_X12_spaceOf 0 0 [.ref a0, .int (v3 ||| ((1 : Int32) <<< (v9 &&& 31)))] σ (kI (fun i27 s26 => (v1 < i27 → J_X12_steps_90 g post s26 a0 v1 v2 v3 v4 v5 v7 v8 ((v9 + 1)) ) ∧ (¬ v1 < i27 → Rc s26 a0 12 ∧ Do g M_X12_workOf 0 0 [.ref a0, .int (v3 ||| ((1 : Int32) <<< (v9 &&& 31)))] s26 (kI (fun i31 s30 => (v8 ≤ i31 → J_X12_steps_90 g post s30 a0 v1 v2 v3 v4 v5 v7 v8 ((v9 + 1)) ) ∧ (¬ v8 ≤ i31 → Rc s30 a0 12 ∧ Do g M_X12_workOf 0 0 [.ref a0, .int (v3 ||| ((1 : Int32) <<< (v9 &&& 31)))] s30 (kI (fun i35 s34 => J_X12_steps_90 g post s34 a0 v1 v2 v3 v4 v5 v9 i35 ((v9 + 1)) ))))))))))))))) : J_X12_steps_90 g post σ a0 v1 v2 v3 v4 v5 v7 v8 v9 := by
  show Fr g M_X12_steps (0, 0, 0, 0) [(0, .ref a0), (1, .int v1), (2, .int v2), (3, .int v3), (4, .int v4), (5, .int v5), (7, .int v7), (8, .int v8), (9, .int v9)] [] 90 σ post
  refine fr_iload (pc := 90) 8 rfl dX12_steps_90 ?_
  refine fr_aload_n (pc := 92) 0 rfl rfl dX12_steps_92 ?_
  refine fr_getI (pc := 93) (T := TX12) (k := 4) kc_X12 (by decide) w_1073 dX12_steps_93 hW (fun i23 hW => ?_)
  refine fr_icmp_ge (pc := 96) (tgt := 162) (by decide) dX12_steps_96 hW (fun hW => ?_) (fun hW => ?_)
  · refine fr_iload (pc := 162) 6 rfl dX12_steps_162 ?_
    refine fr_iconst (pc := 164) (-1) (by decide) dX12_steps_164 ?_
    refine fr_icmp_eq (pc := 165) (tgt := 172) (by decide) dX12_steps_165 hW (fun hW => ?_) (fun hW => ?_)
    · refine fr_iconst (pc := 172) 0 (by decide) dX12_steps_172 ?_
      exact fr_sub [0, 1, 2, 3, 4, 5, 6, 7] rfl hW
    · refine fr_iconst (pc := 168) 1 (by decide) dX12_steps_168 ?_
      refine fr_goto (pc := 169) (tgt := 173) (by decide) dX12_steps_169 ?_
      exact fr_sub [0, 1, 2, 3, 4, 5, 6, 7] rfl hW
  · refine fr_iload_n (pc := 99) 3 rfl rfl dX12_steps_99 ?_
    refine fr_iconst (pc := 100) 1 (by decide) dX12_steps_100 ?_
    refine fr_iload (pc := 101) 8 rfl dX12_steps_101 ?_
    refine fr_ishl (pc := 103) dX12_steps_103 ?_
    refine fr_ior (pc := 104) dX12_steps_104 ?_
    refine fr_istore (pc := 105) (lv' := [(10, .int (v3 ||| ((1 : Int32) <<< (v9 &&& 31)))), (0, .ref a0), (1, .int v1), (2, .int v2), (3, .int v3), (4, .int v4), (5, .int v5), (7, .int v7), (8, .int v8), (9, .int v9)]) (by decide) rfl dX12_steps_105 ?_
    refine fr_aload_n (pc := 107) 1 rfl rfl dX12_steps_107 ?_
    refine fr_getR (pc := 108) (T := TX12) (k := 6) kc_X12 (by decide) w_1010 dX12_steps_108 hW (fun r24 hW => ?_)
    refine fr_iload (pc := 111) 9 rfl dX12_steps_111 ?_
    refine fr_zald (pc := 113) dX12_steps_113 hW (fun i25 hW => ?_)
    refine fr_if_ne (pc := 114) (tgt := 156) (by decide) dX12_steps_114 hW (fun hW => ?_) (fun hW => ?_)
    · refine fr_iinc (pc := 156) (lv' := [(9, .int (v9 + 1)), (10, .int (v3 ||| ((1 : Int32) <<< (v9 &&& 31)))), (0, .ref a0), (1, .int v1), (2, .int v2), (3, .int v3), (4, .int v4), (5, .int v5), (7, .int v7), (8, .int v8)]) (v9 + 1) 9 rfl (congrArg (fun z => v9 + z) (by decide)) (by decide) rfl dX12_steps_156 ?_
      refine fr_goto (pc := 159) (tgt := 90) (by decide) dX12_steps_159 ?_
      exact fr_sub [2, 3, 4, 5, 6, 7, 8, 9, 0] rfl hW
    · refine fr_iload (pc := 117) 0 rfl dX12_steps_117 ?_
      refine fr_iload_n (pc := 119) 4 rfl rfl dX12_steps_119 ?_
      refine fr_icmp_eq (pc := 120) (tgt := 156) (by decide) dX12_steps_120 hW (fun hW => ?_) (fun hW => ?_)
      · refine fr_iinc (pc := 156) (lv' := [(9, .int (v9 + 1)), (10, .int (v3 ||| ((1 : Int32) <<< (v9 &&& 31)))), (0, .ref a0), (1, .int v1), (2, .int v2), (3, .int v3), (4, .int v4), (5, .int v5), (7, .int v7), (8, .int v8)]) (v9 + 1) 9 rfl (congrArg (fun z => v9 + z) (by decide)) (by decide) rfl dX12_steps_156 ?_
        refine fr_goto (pc := 159) (tgt := 90) (by decide) dX12_steps_159 ?_
        exact fr_sub [2, 3, 4, 5, 6, 7, 8, 9, 0] rfl hW
      · refine fr_aload_n (pc := 123) 1 rfl rfl dX12_steps_123 ?_
        refine fr_iload (pc := 124) 0 rfl dX12_steps_124 ?_
        obtain ⟨hrc, hW⟩ := hW
        refine fr_callV_I (pc := 126) (As := [.int (v3 ||| ((1 : Int32) <<< (v9 &&& 31)))]) (st := []) wd_X12_spaceOf w_1309 ok_X12_spaceOf (by decide) rfl (Nat.le_of_ble_eq_true rfl) dX12_steps_126 ⟨Nat.le_refl 0, Nat.le_refl 0⟩ kc_X12 hrc hW (fun i27 s26 hW => ?_)
        refine fr_iload_n (pc := 129) 2 rfl rfl dX12_steps_129 ?_
        refine fr_icmp_gt (pc := 130) (tgt := 156) (by decide) dX12_steps_130 hW (fun hW => ?_) (fun hW => ?_)
        · refine fr_iinc (pc := 156) (lv' := [(9, .int (v9 + 1)), (10, .int (v3 ||| ((1 : Int32) <<< (v9 &&& 31)))), (0, .ref a0), (1, .int v1), (2, .int v2), (3, .int v3), (4, .int v4), (5, .int v5), (7, .int v7), (8, .int v8)]) (v9 + 1) 9 rfl (congrArg (fun z => v9 + z) (by decide)) (by decide) rfl dX12_steps_156 ?_
          refine fr_goto (pc := 159) (tgt := 90) (by decide) dX12_steps_159 ?_
          exact fr_sub [2, 3, 4, 5, 6, 7, 8, 9, 0] rfl hW
        · refine fr_aload_n (pc := 133) 1 rfl rfl dX12_steps_133 ?_
          refine fr_iload (pc := 134) 0 rfl dX12_steps_134 ?_
          obtain ⟨hrc, hW⟩ := hW
          refine fr_callV_I (pc := 136) (As := [.int (v3 ||| ((1 : Int32) <<< (v9 &&& 31)))]) (st := []) wd_X12_workOf w_1289 ok_X12_workOf (by decide) rfl (Nat.le_of_ble_eq_true rfl) dX12_steps_136 ⟨Nat.le_refl 0, Nat.le_refl 0⟩ kc_X12 hrc hW (fun i31 s30 hW => ?_)
          refine fr_iload (pc := 139) 8 rfl dX12_steps_139 ?_
          refine fr_icmp_ge (pc := 141) (tgt := 156) (by decide) dX12_steps_141 hW (fun hW => ?_) (fun hW => ?_)
          · refine fr_iinc (pc := 156) (lv' := [(9, .int (v9 + 1)), (10, .int (v3 ||| ((1 : Int32) <<< (v9 &&& 31)))), (0, .ref a0), (1, .int v1), (2, .int v2), (3, .int v3), (4, .int v4), (5, .int v5), (7, .int v7), (8, .int v8)]) (v9 + 1) 9 rfl (congrArg (fun z => v9 + z) (by decide)) (by decide) rfl dX12_steps_156 ?_
            refine fr_goto (pc := 159) (tgt := 90) (by decide) dX12_steps_159 ?_
            exact fr_sub [2, 3, 4, 5, 6, 7, 8, 9, 0] rfl hW
          · refine fr_aload_n (pc := 144) 1 rfl rfl dX12_steps_144 ?_
            refine fr_iload (pc := 145) 0 rfl dX12_steps_145 ?_
            obtain ⟨hrc, hW⟩ := hW
            refine fr_callV_I (pc := 147) (As := [.int (v3 ||| ((1 : Int32) <<< (v9 &&& 31)))]) (st := []) wd_X12_workOf w_1289 ok_X12_workOf (by decide) rfl (Nat.le_of_ble_eq_true rfl) dX12_steps_147 ⟨Nat.le_refl 0, Nat.le_refl 0⟩ kc_X12 hrc hW (fun i35 s34 hW => ?_)
            refine fr_istore (pc := 150) (lv' := [(8, .int i35), (10, .int (v3 ||| ((1 : Int32) <<< (v9 &&& 31)))), (0, .ref a0), (1, .int v1), (2, .int v2), (3, .int v3), (4, .int v4), (5, .int v5), (7, .int v7), (9, .int v9)]) (by decide) rfl dX12_steps_150 ?_
            refine fr_iload (pc := 152) 9 rfl dX12_steps_152 ?_
            refine fr_istore (pc := 154) (lv' := [(7, .int v9), (8, .int i35), (10, .int (v3 ||| ((1 : Int32) <<< (v9 &&& 31)))), (0, .ref a0), (1, .int v1), (2, .int v2), (3, .int v3), (4, .int v4), (5, .int v5), (9, .int v9)]) (by decide) rfl dX12_steps_154 ?_
            refine fr_iinc (pc := 156) (lv' := [(9, .int (v9 + 1)), (7, .int v9), (8, .int i35), (10, .int (v3 ||| ((1 : Int32) <<< (v9 &&& 31)))), (0, .ref a0), (1, .int v1), (2, .int v2), (3, .int v3), (4, .int v4), (5, .int v5)]) (v9 + 1) 9 rfl (congrArg (fun z => v9 + z) (by decide)) (by decide) rfl dX12_steps_156 ?_
            refine fr_goto (pc := 159) (tgt := 90) (by decide) dX12_steps_159 ?_
            exact fr_sub [4, 5, 6, 7, 8, 9, 1, 2, 0] rfl hW
set_option maxHeartbeats 4000000 in
set_option maxRecDepth 100000 in
theorem q_X12_steps_173 {g : GG} {σ : Hs} {post : Option Value → Hs → Prop} (a0 : Nat) (v1 : Int32) (v2 : Int32) (v3 : Int32) (v4 : Int32) (v5 : Int32) (v7 : Int32) (v8 : Int32) (t0 : Int32) (hW : (t0 = 0 → J_X12_steps_75 g post σ a0 v1 v2 v3 v4 v5 t0 ) ∧ (¬ t0 = 0 → FR σ a0 12 37 (fun r38 => SI g σ r38 0 v5 v7 (fun s39 => J_X12_steps_75 g post s39 a0 v1 v2 ((v3 ||| ((1 : Int32) <<< (v7 &&& 31)))) v8 ((v5 + 1)) t0 )))) : J_X12_steps_173 g post σ a0 v1 v2 v3 v4 v5 v7 v8 t0 := by
  show Fr g M_X12_steps (0, 0, 0, 0) [(0, .ref a0), (1, .int v1), (2, .int v2), (3, .int v3), (4, .int v4), (5, .int v5), (7, .int v7), (8, .int v8)] [.int t0] 173 σ post
  refine fr_istore (pc := 173) (lv' := [(6, .int t0), (0, .ref a0), (1, .int v1), (2, .int v2), (3, .int v3), (4, .int v4), (5, .int v5), (7, .int v7), (8, .int v8)]) (by decide) rfl dX12_steps_173 ?_
  refine fr_iload (pc := 175) 0 rfl dX12_steps_175 ?_
  refine fr_if_eq (pc := 177) (tgt := 203) (by decide) dX12_steps_177 hW (fun hW => ?_) (fun hW => ?_)
  · refine fr_goto (pc := 203) (tgt := 75) (by decide) dX12_steps_203 ?_
    exact fr_sub [1, 2, 3, 4, 5, 6, 0] rfl hW
  · refine fr_iload_n (pc := 180) 4 rfl rfl dX12_steps_180 ?_
    refine fr_iconst (pc := 181) 1 (by decide) dX12_steps_181 ?_
    refine fr_iload (pc := 182) 7 rfl dX12_steps_182 ?_
    refine fr_ishl (pc := 184) dX12_steps_184 ?_
    refine fr_ior (pc := 185) dX12_steps_185 ?_
    refine fr_istore_n (pc := 186) (lv' := [(3, .int (v3 ||| ((1 : Int32) <<< (v7 &&& 31)))), (6, .int t0), (0, .ref a0), (1, .int v1), (2, .int v2), (4, .int v4), (5, .int v5), (7, .int v7), (8, .int v8)]) rfl (by decide) rfl dX12_steps_186 ?_
    refine fr_iload (pc := 187) 8 rfl dX12_steps_187 ?_
    refine fr_istore (pc := 189) (lv' := [(4, .int v8), (3, .int (v3 ||| ((1 : Int32) <<< (v7 &&& 31)))), (6, .int t0), (0, .ref a0), (1, .int v1), (2, .int v2), (5, .int v5), (7, .int v7), (8, .int v8)]) (by decide) rfl dX12_steps_189 ?_
    refine fr_aload_n (pc := 191) 3 rfl rfl dX12_steps_191 ?_
    refine fr_getR (pc := 192) (T := TX12) (k := 37) kc_X12 (by decide) w_1028 dX12_steps_192 hW (fun r38 hW => ?_)
    refine fr_iload (pc := 195) 6 rfl dX12_steps_195 ?_
    refine fr_iload (pc := 197) 7 rfl dX12_steps_197 ?_
    refine fr_iast (pc := 199) dX12_steps_199 hW (fun s39 hW => ?_)
    refine fr_iinc (pc := 200) (lv' := [(5, .int (v5 + 1)), (4, .int v8), (3, .int (v3 ||| ((1 : Int32) <<< (v7 &&& 31)))), (6, .int t0), (0, .ref a0), (1, .int v1), (2, .int v2), (7, .int v7), (8, .int v8)]) (v5 + 1) 6 rfl (congrArg (fun z => v5 + z) (by decide)) (by decide) rfl dX12_steps_200 ?_
    refine fr_goto (pc := 203) (tgt := 75) (by decide) dX12_steps_203 ?_
    exact fr_sub [4, 5, 6, 2, 1, 0, 3] rfl hW
set_option maxHeartbeats 4000000 in
set_option maxRecDepth 100000 in
theorem q_X11_worth {g : GG} {σ : Hs} {post : Option Value → Hs → Prop} (r0 : Nat) (p0 : Int32) (p1 : Int32) (hW : FR σ r0 11 1 (fun r1 => Rc σ r1 3 ∧ Do g M_X3_kept 0 0 [.ref r1, .int p1] σ (kA (fun s2 => post (some (.int (-101))) s2) (fun r5 s2 => Do g M_X11_isSet 0 0 [.int p0] s2 (kI (fun i7 s6 => (¬ i7 = 0 → Do g M_X11_has 0 0 [.int p0, .int p1] s6 (kI (fun i11 s10 => (¬ i11 = 0 → FR s10 r0 11 3 (fun r14 => Do g M_X11_without 0 0 [.int p0, .int p1] s10 (kI (fun i16 s15 => Rc s15 r14 10 ∧ Do g M_X10_workOf 0 0 [.ref r14, .int i16] s15 (kI (fun i20 s19 => FR s19 r0 11 3 (fun r23 => Rc s19 r23 10 ∧ Do g M_X10_workOf 0 0 [.ref r23, .int p0] s19 (kI (fun i25 s24 => post (some (.int (i20 - i25))) s24))))))))) ∧ (i11 = 0 → post (some (.int (-101))) s10)))) ∧ (i7 = 0 → post (some (.int (-102))) s6))))))) : Do g M_X11_worth 0 0 [.ref r0, .int p0, .int p1] σ post := by
  refine Do.of (by decide +kernel) (Nat.le_of_ble_eq_true rfl) ?_
  show Fr g M_X11_worth (0, 0, 0, 0) [(0, .ref r0), (1, .int p0), (2, .int p1)] [] 0 σ post
  refine fr_aload_n (pc := 0) 0 rfl rfl dX11_worth_0 ?_
  refine fr_getR (pc := 1) (T := TX11) (k := 1) kc_X11 (by decide) w_991 dX11_worth_1 hW (fun r1 hW => ?_)
  refine fr_iload_n (pc := 4) 2 rfl rfl dX11_worth_4 ?_
  obtain ⟨hrc, hW⟩ := hW
  refine fr_callV_A (pc := 5) (As := [.int p1]) (st := []) wd_X3_kept w_1132 ok_X3_kept (by decide) rfl (Nat.le_of_ble_eq_true rfl) dX11_worth_5 ⟨Nat.le_refl 0, Nat.le_refl 0⟩ kc_X3 hrc hW (fun s2 hW => ?_) (fun r5 s2 hW => ?_)
  · refine fr_ifnonnullN (pc := 8) dX11_worth_8 ?_
    refine fr_bipush (pc := 11) (-101) (by decide) dX11_worth_11 ?_
    exact fr_iret (pc := 13) dX11_worth_13 rfl ⟨Nat.le_refl 0, Nat.le_refl 0⟩ hW
  · refine fr_ifnonnull (pc := 8) (tgt := 14) (by decide) dX11_worth_8 ?_
    refine fr_iload_n (pc := 14) 1 rfl rfl dX11_worth_14 ?_
    refine fr_callS_I (pc := 15) (As := [.int p0]) (st := []) wd_X11_isSet w_1270 ok_X11_isSet (by decide) rfl (Nat.le_of_ble_eq_true rfl) dX11_worth_15 ⟨Nat.le_refl 0, Nat.le_refl 0⟩ hW (fun i7 s6 hW => ?_)
    refine fr_if_ne (pc := 18) (tgt := 24) (by decide) dX11_worth_18 hW (fun hW => ?_) (fun hW => ?_)
    · refine fr_iload_n (pc := 24) 1 rfl rfl dX11_worth_24 ?_
      refine fr_iload_n (pc := 25) 2 rfl rfl dX11_worth_25 ?_
      refine fr_callS_I (pc := 26) (As := [.int p0, .int p1]) (st := []) wd_X11_has w_1321 ok_X11_has (by decide) rfl (Nat.le_of_ble_eq_true rfl) dX11_worth_26 ⟨Nat.le_refl 0, Nat.le_refl 0⟩ hW (fun i11 s10 hW => ?_)
      refine fr_if_ne (pc := 29) (tgt := 35) (by decide) dX11_worth_29 hW (fun hW => ?_) (fun hW => ?_)
      · refine fr_aload_n (pc := 35) 0 rfl rfl dX11_worth_35 ?_
        refine fr_getR (pc := 36) (T := TX11) (k := 3) kc_X11 (by decide) w_995 dX11_worth_36 hW (fun r14 hW => ?_)
        refine fr_iload_n (pc := 39) 1 rfl rfl dX11_worth_39 ?_
        refine fr_iload_n (pc := 40) 2 rfl rfl dX11_worth_40 ?_
        refine fr_callS_I (pc := 41) (As := [.int p0, .int p1]) (st := [.ref r14]) wd_X11_without w_1322 ok_X11_without (by decide) rfl (Nat.le_of_ble_eq_true rfl) dX11_worth_41 ⟨Nat.le_refl 0, Nat.le_refl 0⟩ hW (fun i16 s15 hW => ?_)
        obtain ⟨hrc, hW⟩ := hW
        refine fr_callV_I (pc := 44) (As := [.int i16]) (st := []) wd_X10_workOf w_1286 ok_X10_workOf (by decide) rfl (Nat.le_of_ble_eq_true rfl) dX11_worth_44 ⟨Nat.le_refl 0, Nat.le_refl 0⟩ kc_X10 hrc hW (fun i20 s19 hW => ?_)
        refine fr_aload_n (pc := 47) 0 rfl rfl dX11_worth_47 ?_
        refine fr_getR (pc := 48) (T := TX11) (k := 3) kc_X11 (by decide) w_995 dX11_worth_48 hW (fun r23 hW => ?_)
        refine fr_iload_n (pc := 51) 1 rfl rfl dX11_worth_51 ?_
        obtain ⟨hrc, hW⟩ := hW
        refine fr_callV_I (pc := 52) (As := [.int p0]) (st := [.int i20]) wd_X10_workOf w_1286 ok_X10_workOf (by decide) rfl (Nat.le_of_ble_eq_true rfl) dX11_worth_52 ⟨Nat.le_refl 0, Nat.le_refl 0⟩ kc_X10 hrc hW (fun i25 s24 hW => ?_)
        refine fr_isub (pc := 55) dX11_worth_55 ?_
        exact fr_iret (pc := 56) dX11_worth_56 rfl ⟨Nat.le_refl 0, Nat.le_refl 0⟩ hW
      · refine fr_bipush (pc := 32) (-101) (by decide) dX11_worth_32 ?_
        exact fr_iret (pc := 34) dX11_worth_34 rfl ⟨Nat.le_refl 0, Nat.le_refl 0⟩ hW
    · refine fr_bipush (pc := 21) (-102) (by decide) dX11_worth_21 ?_
      exact fr_iret (pc := 23) dX11_worth_23 rfl ⟨Nat.le_refl 0, Nat.le_refl 0⟩ hW
set_option maxHeartbeats 4000000 in
set_option maxRecDepth 100000 in
theorem q_X12_worth {g : GG} {σ : Hs} {post : Option Value → Hs → Prop} (r0 : Nat) (p0 : Int32) (p1 : Int32) (hW : Rc σ r0 12 ∧ Do g M_X12_isOrder 0 0 [.ref r0, .int p1] σ (kI (fun i2 s1 => (¬ i2 = 0 → Do g M_X12_in 0 0 [.int p0, .int 0, .int 255] s1 (kI (fun i6 s5 => (¬ i6 = 0 → (¬ ((p0 >>> (p1 &&& 31)) &&& 1) = 0 → Rc s5 r0 12 ∧ Do g M_X12_lookAtAll 0 0 [.ref r0] s5 (kV (fun s9 => Rc s9 r0 12 ∧ Do g M_X12_workOf 0 0 [.ref r0, .int p0] s9 (kI (fun i11 s10 => Rc s10 r0 12 ∧ Do g M_X12_workOf 0 0 [.ref r0, .int (p0 &&& (((1 : Int32) <<< (p1 &&& 31)) ^^^ (-1)))] s10 (kI (fun i15 s14 => post (some (.int (i15 - i11))) s14))))))) ∧ (((p0 >>> (p1 &&& 31)) &&& 1) = 0 → post (some (.int (-101))) s5)) ∧ (i6 = 0 → post (some (.int (-102))) s5)))) ∧ (i2 = 0 → post (some (.int (-101))) s1)))) : Do g M_X12_worth 0 0 [.ref r0, .int p0, .int p1] σ post := by
  refine Do.of (by decide +kernel) (Nat.le_of_ble_eq_true rfl) ?_
  show Fr g M_X12_worth (0, 0, 0, 0) [(0, .ref r0), (1, .int p0), (2, .int p1)] [] 0 σ post
  refine fr_aload_n (pc := 0) 0 rfl rfl dX12_worth_0 ?_
  refine fr_iload_n (pc := 1) 2 rfl rfl dX12_worth_1 ?_
  obtain ⟨hrc, hW⟩ := hW
  refine fr_callV_I (pc := 2) (As := [.int p1]) (st := []) wd_X12_isOrder w_1135 ok_X12_isOrder (by decide) rfl (Nat.le_of_ble_eq_true rfl) dX12_worth_2 ⟨Nat.le_refl 0, Nat.le_refl 0⟩ kc_X12 hrc hW (fun i2 s1 hW => ?_)
  refine fr_if_ne (pc := 5) (tgt := 11) (by decide) dX12_worth_5 hW (fun hW => ?_) (fun hW => ?_)
  · refine fr_iload_n (pc := 11) 1 rfl rfl dX12_worth_11 ?_
    refine fr_iconst (pc := 12) 0 (by decide) dX12_worth_12 ?_
    refine fr_sipush (pc := 13) 255 (by decide) dX12_worth_13 ?_
    refine fr_callS_I (pc := 16) (As := [.int p0, .int 0, .int 255]) (st := []) wd_X12_in w_1067 ok_X12_in (by decide) rfl (Nat.le_of_ble_eq_true rfl) dX12_worth_16 ⟨Nat.le_refl 0, Nat.le_refl 0⟩ hW (fun i6 s5 hW => ?_)
    refine fr_if_ne (pc := 19) (tgt := 25) (by decide) dX12_worth_19 hW (fun hW => ?_) (fun hW => ?_)
    · refine fr_iload_n (pc := 25) 1 rfl rfl dX12_worth_25 ?_
      refine fr_iload_n (pc := 26) 2 rfl rfl dX12_worth_26 ?_
      refine fr_ishr (pc := 27) dX12_worth_27 ?_
      refine fr_iconst (pc := 28) 1 (by decide) dX12_worth_28 ?_
      refine fr_iand (pc := 29) dX12_worth_29 ?_
      refine fr_if_ne (pc := 30) (tgt := 36) (by decide) dX12_worth_30 hW (fun hW => ?_) (fun hW => ?_)
      · refine fr_aload_n (pc := 36) 0 rfl rfl dX12_worth_36 ?_
        obtain ⟨hrc, hW⟩ := hW
        refine fr_callV_V (pc := 37) (As := []) (st := []) wd_X12_lookAtAll w_1288 ok_X12_lookAtAll (by decide) rfl (Nat.le_of_ble_eq_true rfl) dX12_worth_37 ⟨Nat.le_refl 0, Nat.le_refl 0⟩ kc_X12 hrc hW (fun s9 hW => ?_)
        refine fr_aload_n (pc := 40) 0 rfl rfl dX12_worth_40 ?_
        refine fr_iload_n (pc := 41) 1 rfl rfl dX12_worth_41 ?_
        obtain ⟨hrc, hW⟩ := hW
        refine fr_callV_I (pc := 42) (As := [.int p0]) (st := []) wd_X12_workOf w_1289 ok_X12_workOf (by decide) rfl (Nat.le_of_ble_eq_true rfl) dX12_worth_42 ⟨Nat.le_refl 0, Nat.le_refl 0⟩ kc_X12 hrc hW (fun i11 s10 hW => ?_)
        refine fr_istore_n (pc := 45) (lv' := [(3, .int i11), (0, .ref r0), (1, .int p0), (2, .int p1)]) rfl (by decide) rfl dX12_worth_45 ?_
        refine fr_aload_n (pc := 46) 1 rfl rfl dX12_worth_46 ?_
        refine fr_iload_n (pc := 47) 2 rfl rfl dX12_worth_47 ?_
        refine fr_iconst (pc := 48) 1 (by decide) dX12_worth_48 ?_
        refine fr_iload_n (pc := 49) 3 rfl rfl dX12_worth_49 ?_
        refine fr_ishl (pc := 50) dX12_worth_50 ?_
        refine fr_iconst (pc := 51) (-1) (by decide) dX12_worth_51 ?_
        refine fr_ixor (pc := 52) dX12_worth_52 ?_
        refine fr_iand (pc := 53) dX12_worth_53 ?_
        obtain ⟨hrc, hW⟩ := hW
        refine fr_callV_I (pc := 54) (As := [.int (p0 &&& (((1 : Int32) <<< (p1 &&& 31)) ^^^ (-1)))]) (st := []) wd_X12_workOf w_1289 ok_X12_workOf (by decide) rfl (Nat.le_of_ble_eq_true rfl) dX12_worth_54 ⟨Nat.le_refl 0, Nat.le_refl 0⟩ kc_X12 hrc hW (fun i15 s14 hW => ?_)
        refine fr_iload_n (pc := 57) 0 rfl rfl dX12_worth_57 ?_
        refine fr_isub (pc := 58) dX12_worth_58 ?_
        exact fr_iret (pc := 59) dX12_worth_59 rfl ⟨Nat.le_refl 0, Nat.le_refl 0⟩ hW
      · refine fr_bipush (pc := 33) (-101) (by decide) dX12_worth_33 ?_
        exact fr_iret (pc := 35) dX12_worth_35 rfl ⟨Nat.le_refl 0, Nat.le_refl 0⟩ hW
    · refine fr_bipush (pc := 22) (-102) (by decide) dX12_worth_22 ?_
      exact fr_iret (pc := 24) dX12_worth_24 rfl ⟨Nat.le_refl 0, Nat.le_refl 0⟩ hW
  · refine fr_bipush (pc := 8) (-101) (by decide) dX12_worth_8 ?_
    exact fr_iret (pc := 10) dX12_worth_10 rfl ⟨Nat.le_refl 0, Nat.le_refl 0⟩ hW
set_option maxHeartbeats 4000000 in
set_option maxRecDepth 100000 in
theorem q_X5_of {g : GG} {σ : Hs} {post : Option Value → Hs → Prop} (r0 : Nat) (p0 : Int32) (hW : (p0 < 0 → post (some (.null)) σ) ∧ (¬ p0 < 0 → FR σ r0 5 2 (fun r1 => AN g σ r1 5 (fun i2 => (i2 ≤ p0 → post (some (.null)) σ) ∧ (¬ i2 ≤ p0 → FR σ r0 5 2 (fun r3 => AR g σ r3 5 p0 (post (some (.null)) σ) (fun r4 => post (some (.ref r4)) σ))))))) : Do g M_X5_of 0 0 [.ref r0, .int p0] σ post := by
  refine Do.of (by decide +kernel) (Nat.le_of_ble_eq_true rfl) ?_
  show Fr g M_X5_of (0, 0, 0, 0) [(0, .ref r0), (1, .int p0)] [] 0 σ post
  refine fr_iload_n (pc := 0) 1 rfl rfl dX5_of_0 ?_
  refine fr_if_lt (pc := 1) (tgt := 22) (by decide) dX5_of_1 hW (fun hW => ?_) (fun hW => ?_)
  · refine fr_null (pc := 22) dX5_of_22 ?_
    exact fr_aret (pc := 23) dX5_of_23 rfl (Or.inl rfl) ⟨Nat.le_refl 0, Nat.le_refl 0⟩ hW
  · refine fr_iload_n (pc := 4) 1 rfl rfl dX5_of_4 ?_
    refine fr_aload_n (pc := 5) 0 rfl rfl dX5_of_5 ?_
    refine fr_getR (pc := 6) (T := TX5) (k := 2) kc_X5 (by decide) w_971 dX5_of_6 hW (fun r1 hW => ?_)
    refine fr_alen (pc := 9) 5 (fun _ => rfl) dX5_of_9 hW (fun i2 hW => ?_)
    refine fr_icmp_ge (pc := 10) (tgt := 22) (by decide) dX5_of_10 hW (fun hW => ?_) (fun hW => ?_)
    · refine fr_null (pc := 22) dX5_of_22 ?_
      exact fr_aret (pc := 23) dX5_of_23 rfl (Or.inl rfl) ⟨Nat.le_refl 0, Nat.le_refl 0⟩ hW
    · refine fr_aload_n (pc := 13) 0 rfl rfl dX5_of_13 ?_
      refine fr_getR (pc := 14) (T := TX5) (k := 2) kc_X5 (by decide) w_971 dX5_of_14 hW (fun r3 hW => ?_)
      refine fr_iload_n (pc := 17) 1 rfl rfl dX5_of_17 ?_
      refine fr_aald (pc := 18) 5 (fun _ => rfl) dX5_of_18 hW (fun hW => ?_) (fun r4 hW => ?_)
      · refine fr_goto (pc := 19) (tgt := 23) (by decide) dX5_of_19 ?_
        exact fr_aret (pc := 23) dX5_of_23 rfl (Or.inl rfl) ⟨Nat.le_refl 0, Nat.le_refl 0⟩ hW
      · refine fr_goto (pc := 19) (tgt := 23) (by decide) dX5_of_19 ?_
        exact fr_aret (pc := 23) dX5_of_23 rfl (Or.inr ⟨_, rfl⟩) ⟨Nat.le_refl 0, Nat.le_refl 0⟩ hW
def J_X5_placeFor_2 (g : GG) (post : Option Value → Hs → Prop) (σ : Hs) (a0 : Nat) (v1 : Int32) (v2 : Int32) (v3 : Int32) : Prop := Fr g M_X5_placeFor (0, 0, 0, 0) [(0, .ref a0), (1, .int v1), (2, .int v2), (3, .int v3)] [] 2 σ post
set_option maxHeartbeats 4000000 in
set_option maxRecDepth 100000 in
theorem q_X5_placeFor {g : GG} {σ : Hs} {post : Option Value → Hs → Prop} (r0 : Nat) (p0 : Int32) (p1 : Int32) (hW : J_X5_placeFor_2 g post σ r0 p0 p1 0 ) : Do g M_X5_placeFor 0 0 [.ref r0, .int p0, .int p1] σ post := by
  refine Do.of (by decide +kernel) (Nat.le_of_ble_eq_true rfl) ?_
  show Fr g M_X5_placeFor (0, 0, 0, 0) [(0, .ref r0), (1, .int p0), (2, .int p1)] [] 0 σ post
  refine fr_iconst (pc := 0) 0 (by decide) dX5_placeFor_0 ?_
  refine fr_istore_n (pc := 1) (lv' := [(3, .int 0), (0, .ref r0), (1, .int p0), (2, .int p1)]) rfl (by decide) rfl dX5_placeFor_1 ?_
  exact fr_sub [1, 2, 3, 0] rfl hW
set_option maxHeartbeats 4000000 in
set_option maxRecDepth 100000 in
theorem q_X5_placeFor_2 {g : GG} {σ : Hs} {post : Option Value → Hs → Prop} (a0 : Nat) (v1 : Int32) (v2 : Int32) (v3 : Int32) (hW : (v2 ≤ v3 → post (some (.int v3)) σ) ∧ (¬ v2 ≤ v3 → FR σ a0 5 3 (fun r1 => Rc σ r1 1 ∧ Do g M_X1_at 0 0 [.ref r1, .int v3] σ (kI (fun i3 s2 => (v1 < i3 → post (some (.int v3)) s2) ∧ (¬ v1 < i3 → J_X5_placeFor_2 g post s2 a0 v1 v2 ((v3 + 1)) )))))) : J_X5_placeFor_2 g post σ a0 v1 v2 v3 := by
  show Fr g M_X5_placeFor (0, 0, 0, 0) [(0, .ref a0), (1, .int v1), (2, .int v2), (3, .int v3)] [] 2 σ post
  refine fr_iload_n (pc := 2) 3 rfl rfl dX5_placeFor_2 ?_
  refine fr_iload_n (pc := 3) 2 rfl rfl dX5_placeFor_3 ?_
  refine fr_icmp_ge (pc := 4) (tgt := 25) (by decide) dX5_placeFor_4 hW (fun hW => ?_) (fun hW => ?_)
  · refine fr_iload_n (pc := 25) 3 rfl rfl dX5_placeFor_25 ?_
    exact fr_iret (pc := 26) dX5_placeFor_26 rfl ⟨Nat.le_refl 0, Nat.le_refl 0⟩ hW
  · refine fr_aload_n (pc := 7) 0 rfl rfl dX5_placeFor_7 ?_
    refine fr_getR (pc := 8) (T := TX5) (k := 3) kc_X5 (by decide) w_973 dX5_placeFor_8 hW (fun r1 hW => ?_)
    refine fr_iload_n (pc := 11) 3 rfl rfl dX5_placeFor_11 ?_
    obtain ⟨hrc, hW⟩ := hW
    refine fr_callV_I (pc := 12) (As := [.int v3]) (st := []) wd_X1_at w_1323 ok_X1_at (by decide) rfl (Nat.le_of_ble_eq_true rfl) dX5_placeFor_12 ⟨Nat.le_refl 0, Nat.le_refl 0⟩ kc_X1 hrc hW (fun i3 s2 hW => ?_)
    refine fr_iload_n (pc := 15) 1 rfl rfl dX5_placeFor_15 ?_
    refine fr_icmp_gt (pc := 16) (tgt := 25) (by decide) dX5_placeFor_16 hW (fun hW => ?_) (fun hW => ?_)
    · refine fr_iload_n (pc := 25) 3 rfl rfl dX5_placeFor_25 ?_
      exact fr_iret (pc := 26) dX5_placeFor_26 rfl ⟨Nat.le_refl 0, Nat.le_refl 0⟩ hW
    · refine fr_iinc (pc := 19) (lv' := [(3, .int (v3 + 1)), (0, .ref a0), (1, .int v1), (2, .int v2)]) (v3 + 1) 3 rfl (congrArg (fun z => v3 + z) (by decide)) (by decide) rfl dX5_placeFor_19 ?_
      refine fr_goto (pc := 22) (tgt := 2) (by decide) dX5_placeFor_22 ?_
      exact fr_sub [1, 2, 3, 0] rfl hW
def J_X4_take_10 (g : GG) (post : Option Value → Hs → Prop) (σ : Hs) (a0 : Nat) (a1 : Nat) (v2 : Int32) (v3 : Int32) (v4 : Int32) : Prop := Fr g M_X4_take (0, 0, 0, 0) [(0, .ref a0), (1, .ref a1), (2, .int v2), (3, .int v3), (4, .int v4)] [] 10 σ post
set_option maxHeartbeats 4000000 in
set_option maxRecDepth 100000 in
theorem q_X4_take {g : GG} {σ : Hs} {post : Option Value → Hs → Prop} (r0 : Nat) (p0 : Nat) (p1 : Int32) (hW : PF σ r0 4 3 (.int 1) (fun s1 => J_X4_take_10 g post s1 r0 p0 p1 0 0 )) : Do g M_X4_take 0 0 [.ref r0, .ref p0, .int p1] σ post := by
  refine Do.of (by decide +kernel) (Nat.le_of_ble_eq_true rfl) ?_
  show Fr g M_X4_take (0, 0, 0, 0) [(0, .ref r0), (1, .ref p0), (2, .int p1)] [] 0 σ post
  refine fr_aload_n (pc := 0) 0 rfl rfl dX4_take_0 ?_
  refine fr_iconst (pc := 1) 1 (by decide) dX4_take_1 ?_
  refine fr_put (pc := 2) (T := TX4) (k := 3) kc_X4 (by decide) w_1324 rfl rfl rfl dX4_take_2 hW (fun s1 hW => ?_)
  refine fr_iconst (pc := 5) 0 (by decide) dX4_take_5 ?_
  refine fr_istore_n (pc := 6) (lv' := [(3, .int 0), (0, .ref r0), (1, .ref p0), (2, .int p1)]) rfl (by decide) rfl dX4_take_6 ?_
  refine fr_iconst (pc := 7) 0 (by decide) dX4_take_7 ?_
  refine fr_istore (pc := 8) (lv' := [(4, .int 0), (3, .int 0), (0, .ref r0), (1, .ref p0), (2, .int p1)]) (by decide) rfl dX4_take_8 ?_
  exact fr_sub [2, 3, 4, 1, 0] rfl hW
set_option maxHeartbeats 4000000 in
set_option maxRecDepth 100000 in
theorem q_X4_take_10 {g : GG} {σ : Hs} {post : Option Value → Hs → Prop} (a0 : Nat) (a1 : Nat) (v2 : Int32) (v3 : Int32) (v4 : Int32) (hW : (4 ≤ v4 → post (some (.int v3)) σ) ∧ (¬ 4 ≤ v4 → Do g M_X11_quotient 0 0 [.int (v4 * v2), .int 4] σ (kI (fun i3 s2 => Do g M_X11_quotient 0 0 [.int ((v4 + 1) * v2), .int 4] s2 (kI (fun i7 s6 => FR s6 a0 4 0 (fun r10 => Rc s6 r10 1 ∧ Do g M_X1_put 0 0 [.ref r10, .int v4, .int (i7 - i3)] s6 (kV (fun s11 => (i7 ≤ i3 → J_X4_take_10 g post s11 a0 a1 v2 v3 ((v4 + 1)) ) ∧ (¬ i7 ≤ i3 → FR s11 a0 4 1 (fun r12 => Rc s11 a1 1 ∧ Do g M_X1_at 0 0 [.ref a1, .int i3] s11 (kI (fun i14 s13 => Rc s13 r12 1 ∧ Do g M_X1_put 0 0 [.ref r12, .int v4, .int i14] s13 (kV (fun s17 => FR s17 a0 4 2 (fun r18 => Rc s17 a1 1 ∧ Do g M_X1_at 0 0 [.ref a1, .int (i7 - 1)] s17 (kI (fun i20 s19 => Rc s19 r18 1 ∧ Do g M_X1_put 0 0 [.ref r18, .int v4, .int i20] s19 (kV (fun s23 => J_X4_take_10 g post s23 a0 a1 v2 ((v3 + 1)) ((v4 + 1)) )))))))))))))))))))) : J_X4_take_10 g post σ a0 a1 v2 v3 v4 := by
  show Fr g M_X4_take (0, 0, 0, 0) [(0, .ref a0), (1, .ref a1), (2, .int v2), (3, .int v3), (4, .int v4)] [] 10 σ post
  refine fr_iload (pc := 10) 4 rfl dX4_take_10 ?_
  refine fr_iconst (pc := 12) 4 (by decide) dX4_take_12 ?_
  refine fr_icmp_ge (pc := 13) (tgt := 100) (by decide) dX4_take_13 hW (fun hW => ?_) (fun hW => ?_)
  · refine fr_iload_n (pc := 100) 3 rfl rfl dX4_take_100 ?_
    exact fr_iret (pc := 101) dX4_take_101 rfl ⟨Nat.le_refl 0, Nat.le_refl 0⟩ hW
  · refine fr_iload (pc := 16) 4 rfl dX4_take_16 ?_
    refine fr_iload_n (pc := 18) 2 rfl rfl dX4_take_18 ?_
    refine fr_imul (pc := 19) dX4_take_19 ?_
    refine fr_iconst (pc := 20) 4 (by decide) dX4_take_20 ?_
    refine fr_callSN_I (pc := 21) (As := [.int (v4 * v2), .int 4]) (st := []) wd_X11_quotient ⟨RX11, by decide +kernel⟩ ok_X11_quotient (by decide) rfl (Nat.le_of_ble_eq_true rfl) dX4_take_21 ⟨Nat.le_refl 0, Nat.le_refl 0⟩ hW (fun i3 s2 hW => ?_)
    refine fr_istore (pc := 24) (lv' := [(5, .int i3), (0, .ref a0), (1, .ref a1), (2, .int v2), (3, .int v3), (4, .int v4)]) (by decide) rfl dX4_take_24 ?_
    refine fr_iload (pc := 26) 5 rfl dX4_take_26 ?_
    refine fr_iconst (pc := 28) 1 (by decide) dX4_take_28 ?_
    refine fr_iadd (pc := 29) dX4_take_29 ?_
    refine fr_iload_n (pc := 30) 3 rfl rfl dX4_take_30 ?_
    refine fr_imul (pc := 31) dX4_take_31 ?_
    refine fr_iconst (pc := 32) 4 (by decide) dX4_take_32 ?_
    refine fr_callSN_I (pc := 33) (As := [.int ((v4 + 1) * v2), .int 4]) (st := []) wd_X11_quotient ⟨RX11, by decide +kernel⟩ ok_X11_quotient (by decide) rfl (Nat.le_of_ble_eq_true rfl) dX4_take_33 ⟨Nat.le_refl 0, Nat.le_refl 0⟩ hW (fun i7 s6 hW => ?_)
    refine fr_istore (pc := 36) (lv' := [(6, .int i7), (5, .int i3), (0, .ref a0), (1, .ref a1), (2, .int v2), (3, .int v3), (4, .int v4)]) (by decide) rfl dX4_take_36 ?_
    refine fr_aload_n (pc := 38) 2 rfl rfl dX4_take_38 ?_
    refine fr_getR (pc := 39) (T := TX4) (k := 0) kc_X4 (by decide) w_965 dX4_take_39 hW (fun r10 hW => ?_)
    refine fr_iload (pc := 42) 6 rfl dX4_take_42 ?_
    refine fr_iload (pc := 44) 0 rfl dX4_take_44 ?_
    refine fr_iload (pc := 46) 1 rfl dX4_take_46 ?_
    refine fr_isub (pc := 48) dX4_take_48 ?_
    obtain ⟨hrc, hW⟩ := hW
    refine fr_callV_V (pc := 49) (As := [.int v4, .int (i7 - i3)]) (st := []) wd_X1_put w_1325 ok_X1_put (by decide) rfl (Nat.le_of_ble_eq_true rfl) dX4_take_49 ⟨Nat.le_refl 0, Nat.le_refl 0⟩ kc_X1 hrc hW (fun s11 hW => ?_)
    refine fr_iload (pc := 52) 0 rfl dX4_take_52 ?_
    refine fr_iload (pc := 54) 1 rfl dX4_take_54 ?_
    refine fr_icmp_le (pc := 56) (tgt := 94) (by decide) dX4_take_56 hW (fun hW => ?_) (fun hW => ?_)
    · refine fr_iinc (pc := 94) (lv' := [(4, .int (v4 + 1)), (6, .int i7), (5, .int i3), (0, .ref a0), (1, .ref a1), (2, .int v2), (3, .int v3)]) (v4 + 1) 6 rfl (congrArg (fun z => v4 + z) (by decide)) (by decide) rfl dX4_take_94 ?_
      refine fr_goto (pc := 97) (tgt := 10) (by decide) dX4_take_97 ?_
      exact fr_sub [3, 4, 5, 6, 0] rfl hW
    · refine fr_aload_n (pc := 59) 2 rfl rfl dX4_take_59 ?_
      refine fr_getR (pc := 60) (T := TX4) (k := 1) kc_X4 (by decide) w_966 dX4_take_60 hW (fun r12 hW => ?_)
      refine fr_iload (pc := 63) 6 rfl dX4_take_63 ?_
      refine fr_aload_n (pc := 65) 3 rfl rfl dX4_take_65 ?_
      refine fr_iload (pc := 66) 1 rfl dX4_take_66 ?_
      obtain ⟨hrc, hW⟩ := hW
      refine fr_callV_I (pc := 68) (As := [.int i3]) (st := [.int v4, .ref r12]) wd_X1_at w_1326 ok_X1_at (by decide) rfl (Nat.le_of_ble_eq_true rfl) dX4_take_68 ⟨Nat.le_refl 0, Nat.le_refl 0⟩ kc_X1 hrc hW (fun i14 s13 hW => ?_)
      obtain ⟨hrc, hW⟩ := hW
      refine fr_callV_V (pc := 71) (As := [.int v4, .int i14]) (st := []) wd_X1_put w_1325 ok_X1_put (by decide) rfl (Nat.le_of_ble_eq_true rfl) dX4_take_71 ⟨Nat.le_refl 0, Nat.le_refl 0⟩ kc_X1 hrc hW (fun s17 hW => ?_)
      refine fr_aload_n (pc := 74) 2 rfl rfl dX4_take_74 ?_
      refine fr_getR (pc := 75) (T := TX4) (k := 2) kc_X4 (by decide) w_967 dX4_take_75 hW (fun r18 hW => ?_)
      refine fr_iload (pc := 78) 6 rfl dX4_take_78 ?_
      refine fr_aload_n (pc := 80) 3 rfl rfl dX4_take_80 ?_
      refine fr_iload (pc := 81) 0 rfl dX4_take_81 ?_
      refine fr_iconst (pc := 83) 1 (by decide) dX4_take_83 ?_
      refine fr_isub (pc := 84) dX4_take_84 ?_
      obtain ⟨hrc, hW⟩ := hW
      refine fr_callV_I (pc := 85) (As := [.int (i7 - 1)]) (st := [.int v4, .ref r18]) wd_X1_at w_1326 ok_X1_at (by decide) rfl (Nat.le_of_ble_eq_true rfl) dX4_take_85 ⟨Nat.le_refl 0, Nat.le_refl 0⟩ kc_X1 hrc hW (fun i20 s19 hW => ?_)
      obtain ⟨hrc, hW⟩ := hW
      refine fr_callV_V (pc := 88) (As := [.int v4, .int i20]) (st := []) wd_X1_put w_1325 ok_X1_put (by decide) rfl (Nat.le_of_ble_eq_true rfl) dX4_take_88 ⟨Nat.le_refl 0, Nat.le_refl 0⟩ kc_X1 hrc hW (fun s23 hW => ?_)
      refine fr_iinc (pc := 91) (lv' := [(3, .int (v3 + 1)), (6, .int i7), (5, .int i3), (0, .ref a0), (1, .ref a1), (2, .int v2), (4, .int v4)]) (v3 + 1) 5 rfl (congrArg (fun z => v3 + z) (by decide)) (by decide) rfl dX4_take_91 ?_
      refine fr_iinc (pc := 94) (lv' := [(4, .int (v4 + 1)), (3, .int (v3 + 1)), (6, .int i7), (5, .int i3), (0, .ref a0), (1, .ref a1), (2, .int v2)]) (v4 + 1) 6 rfl (congrArg (fun z => v4 + z) (by decide)) (by decide) rfl dX4_take_94 ?_
      refine fr_goto (pc := 97) (tgt := 10) (by decide) dX4_take_97 ?_
      exact fr_sub [4, 5, 6, 1, 0] rfl hW
def J_X5_take_18 (g : GG) (post : Option Value → Hs → Prop) (σ : Hs) (a0 : Nat) (v1 : Int32) (a2 : Nat) (v3 : Int32) (v4 : Int32) : Prop := Fr g M_X5_take (0, 0, 0, 0) [(0, .ref a0), (1, .int v1), (2, .ref a2), (3, .int v3), (4, .int v4)] [] 18 σ post
set_option maxHeartbeats 4000000 in
set_option maxRecDepth 100000 in
theorem q_X5_take {g : GG} {σ : Hs} {post : Option Value → Hs → Prop} (r0 : Nat) (p0 : Int32) (hW : Rc σ r0 5 ∧ Do g M_X5_of 0 0 [.ref r0, .int p0] σ (kA (fun s1 => post (some (.int (-101))) s1) (fun r4 s1 => J_X5_take_18 g post s1 r0 p0 r4 0 0 ))) : Do g M_X5_take 0 0 [.ref r0, .int p0] σ post := by
  refine Do.of (by decide +kernel) (Nat.le_of_ble_eq_true rfl) ?_
  show Fr g M_X5_take (0, 0, 0, 0) [(0, .ref r0), (1, .int p0)] [] 0 σ post
  refine fr_aload_n (pc := 0) 0 rfl rfl dX5_take_0 ?_
  refine fr_iload_n (pc := 1) 1 rfl rfl dX5_take_1 ?_
  obtain ⟨hrc, hW⟩ := hW
  refine fr_callV_A (pc := 2) (As := [.int p0]) (st := []) wd_X5_of w_1328 ok_X5_of (by decide) rfl (Nat.le_of_ble_eq_true rfl) dX5_take_2 ⟨Nat.le_refl 0, Nat.le_refl 0⟩ kc_X5 hrc hW (fun s1 hW => ?_) (fun r4 s1 hW => ?_)
  · refine fr_astore_nN (pc := 5) (lv' := [(2, .null), (0, .ref r0), (1, .int p0)]) rfl (by decide) rfl dX5_take_5 ?_
    refine fr_aload_nN (pc := 6) 0 rfl rfl dX5_take_6 ?_
    refine fr_ifnonnullN (pc := 7) dX5_take_7 ?_
    refine fr_bipush (pc := 10) (-101) (by decide) dX5_take_10 ?_
    exact fr_iret (pc := 12) dX5_take_12 rfl ⟨Nat.le_refl 0, Nat.le_refl 0⟩ hW
  · refine fr_astore_n (pc := 5) (lv' := [(2, .ref r4), (0, .ref r0), (1, .int p0)]) rfl (by decide) rfl dX5_take_5 ?_
    refine fr_aload_n (pc := 6) 0 rfl rfl dX5_take_6 ?_
    refine fr_ifnonnull (pc := 7) (tgt := 13) (by decide) dX5_take_7 ?_
    refine fr_iconst (pc := 13) 0 (by decide) dX5_take_13 ?_
    refine fr_istore_n (pc := 14) (lv' := [(3, .int 0), (2, .ref r4), (0, .ref r0), (1, .int p0)]) rfl (by decide) rfl dX5_take_14 ?_
    refine fr_iconst (pc := 15) 0 (by decide) dX5_take_15 ?_
    refine fr_istore (pc := 16) (lv' := [(4, .int 0), (3, .int 0), (2, .ref r4), (0, .ref r0), (1, .int p0)]) (by decide) rfl dX5_take_16 ?_
    exact fr_sub [3, 4, 2, 1, 0] rfl hW
set_option maxHeartbeats 4000000 in
set_option maxRecDepth 100000 in
theorem q_X5_take_18 {g : GG} {σ : Hs} {post : Option Value → Hs → Prop} (a0 : Nat) (v1 : Int32) (a2 : Nat) (v3 : Int32) (v4 : Int32) (hW : (64 ≤ v4 → PF σ a0 5 4 (.int v3) (fun s5 => FR s5 a0 5 3 (fun r6 => Rc s5 a2 4 ∧ Do g M_X4_take 0 0 [.ref a2, .ref r6, .int v3] s5 (kI (fun i8 s7 => post (some (.int i8)) s7))))) ∧ (¬ 64 ≤ v4 → FR σ a0 5 0 (fun r11 => Rc σ r11 8 ∧ Do g M_X8_holds 0 0 [.ref r11, .int v4] σ (kI (fun i13 s12 => (i13 = 0 → J_X5_take_18 g post s12 a0 v1 a2 v3 ((v4 + 1)) ) ∧ (¬ i13 = 0 → FR s12 a0 5 0 (fun r16 => Rc s12 r16 8 ∧ Do g M_X8_number 0 0 [.ref r16, .int v4, .int v1] s12 (kI (fun i18 s17 => FR s17 a0 5 3 (fun r21 => Rc s17 a0 5 ∧ Do g M_X5_placeFor 0 0 [.ref a0, .int i18, .int v3] s17 (kI (fun i23 s22 => Rc s22 r21 1 ∧ Do g M_X1_insert 0 0 [.ref r21, .int i23, .int v3, .int i18] s22 (kV (fun s26 => J_X5_take_18 g post s26 a0 v1 a2 ((v3 + 1)) ((v4 + 1)) )))))))))))))) : J_X5_take_18 g post σ a0 v1 a2 v3 v4 := by
  show Fr g M_X5_take (0, 0, 0, 0) [(0, .ref a0), (1, .int v1), (2, .ref a2), (3, .int v3), (4, .int v4)] [] 18 σ post
  refine fr_iload (pc := 18) 4 rfl dX5_take_18 ?_
  refine fr_bipush (pc := 20) 64 (by decide) dX5_take_20 ?_
  refine fr_icmp_ge (pc := 22) (tgt := 75) (by decide) dX5_take_22 hW (fun hW => ?_) (fun hW => ?_)
  · refine fr_aload_n (pc := 75) 0 rfl rfl dX5_take_75 ?_
    refine fr_iload_n (pc := 76) 3 rfl rfl dX5_take_76 ?_
    refine fr_put (pc := 77) (T := TX5) (k := 4) kc_X5 (by decide) w_1327 rfl rfl rfl dX5_take_77 hW (fun s5 hW => ?_)
    refine fr_aload_n (pc := 80) 2 rfl rfl dX5_take_80 ?_
    refine fr_aload_n (pc := 81) 0 rfl rfl dX5_take_81 ?_
    refine fr_getR (pc := 82) (T := TX5) (k := 3) kc_X5 (by decide) w_973 dX5_take_82 hW (fun r6 hW => ?_)
    refine fr_iload_n (pc := 85) 3 rfl rfl dX5_take_85 ?_
    obtain ⟨hrc, hW⟩ := hW
    refine fr_callV_I (pc := 86) (As := [.ref r6, .int v3]) (st := []) wd_X4_take w_1333 ok_X4_take (by decide) rfl (Nat.le_of_ble_eq_true rfl) dX5_take_86 ⟨Nat.le_refl 0, Nat.le_refl 0⟩ kc_X4 hrc hW (fun i8 s7 hW => ?_)
    exact fr_iret (pc := 89) dX5_take_89 rfl ⟨Nat.le_refl 0, Nat.le_refl 0⟩ hW
  · refine fr_aload_n (pc := 25) 0 rfl rfl dX5_take_25 ?_
    refine fr_getR (pc := 26) (T := TX5) (k := 0) kc_X5 (by decide) w_974 dX5_take_26 hW (fun r11 hW => ?_)
    refine fr_iload (pc := 29) 4 rfl dX5_take_29 ?_
    obtain ⟨hrc, hW⟩ := hW
    refine fr_callV_I (pc := 31) (As := [.int v4]) (st := []) wd_X8_holds w_1329 ok_X8_holds (by decide) rfl (Nat.le_of_ble_eq_true rfl) dX5_take_31 ⟨Nat.le_refl 0, Nat.le_refl 0⟩ kc_X8 hrc hW (fun i13 s12 hW => ?_)
    refine fr_if_eq (pc := 34) (tgt := 69) (by decide) dX5_take_34 hW (fun hW => ?_) (fun hW => ?_)
    · refine fr_iinc (pc := 69) (lv' := [(4, .int (v4 + 1)), (0, .ref a0), (1, .int v1), (2, .ref a2), (3, .int v3)]) (v4 + 1) 4 rfl (congrArg (fun z => v4 + z) (by decide)) (by decide) rfl dX5_take_69 ?_
      refine fr_goto (pc := 72) (tgt := 18) (by decide) dX5_take_72 ?_
      exact fr_sub [1, 2, 3, 4, 0] rfl hW
    · refine fr_aload_n (pc := 37) 0 rfl rfl dX5_take_37 ?_
      refine fr_getR (pc := 38) (T := TX5) (k := 0) kc_X5 (by decide) w_974 dX5_take_38 hW (fun r16 hW => ?_)
      refine fr_iload (pc := 41) 4 rfl dX5_take_41 ?_
      refine fr_iload_n (pc := 43) 1 rfl rfl dX5_take_43 ?_
      obtain ⟨hrc, hW⟩ := hW
      refine fr_callV_I (pc := 44) (As := [.int v4, .int v1]) (st := []) wd_X8_number w_1330 ok_X8_number (by decide) rfl (Nat.le_of_ble_eq_true rfl) dX5_take_44 ⟨Nat.le_refl 0, Nat.le_refl 0⟩ kc_X8 hrc hW (fun i18 s17 hW => ?_)
      refine fr_istore (pc := 47) (lv' := [(5, .int i18), (0, .ref a0), (1, .int v1), (2, .ref a2), (3, .int v3), (4, .int v4)]) (by decide) rfl dX5_take_47 ?_
      refine fr_aload_n (pc := 49) 1 rfl rfl dX5_take_49 ?_
      refine fr_getR (pc := 50) (T := TX5) (k := 3) kc_X5 (by decide) w_973 dX5_take_50 hW (fun r21 hW => ?_)
      refine fr_aload_n (pc := 53) 1 rfl rfl dX5_take_53 ?_
      refine fr_iload (pc := 54) 0 rfl dX5_take_54 ?_
      refine fr_iload_n (pc := 56) 4 rfl rfl dX5_take_56 ?_
      obtain ⟨hrc, hW⟩ := hW
      refine fr_callV_I (pc := 57) (As := [.int i18, .int v3]) (st := [.ref r21]) wd_X5_placeFor w_1331 ok_X5_placeFor (by decide) rfl (Nat.le_of_ble_eq_true rfl) dX5_take_57 ⟨Nat.le_refl 0, Nat.le_refl 0⟩ kc_X5 hrc hW (fun i23 s22 hW => ?_)
      refine fr_iload_n (pc := 60) 4 rfl rfl dX5_take_60 ?_
      refine fr_iload (pc := 61) 0 rfl dX5_take_61 ?_
      obtain ⟨hrc, hW⟩ := hW
      refine fr_callV_V (pc := 63) (As := [.int i23, .int v3, .int i18]) (st := []) wd_X1_insert w_1332 ok_X1_insert (by decide) rfl (Nat.le_of_ble_eq_true rfl) dX5_take_63 ⟨Nat.le_refl 0, Nat.le_refl 0⟩ kc_X1 hrc hW (fun s26 hW => ?_)
      refine fr_iinc (pc := 66) (lv' := [(3, .int (v3 + 1)), (5, .int i18), (0, .ref a0), (1, .int v1), (2, .ref a2), (4, .int v4)]) (v3 + 1) 4 rfl (congrArg (fun z => v3 + z) (by decide)) (by decide) rfl dX5_take_66 ?_
      refine fr_iinc (pc := 69) (lv' := [(4, .int (v4 + 1)), (3, .int (v3 + 1)), (5, .int i18), (0, .ref a0), (1, .int v1), (2, .ref a2)]) (v4 + 1) 5 rfl (congrArg (fun z => v4 + z) (by decide)) (by decide) rfl dX5_take_69 ?_
      refine fr_goto (pc := 72) (tgt := 18) (by decide) dX5_take_72 ?_
      exact fr_sub [3, 4, 5, 1, 0] rfl hW
set_option maxHeartbeats 4000000 in
set_option maxRecDepth 100000 in
theorem q_X11_picture {g : GG} {σ : Hs} {post : Option Value → Hs → Prop} (r0 : Nat) (p0 : Int32) (hW : Do g M_X11_isColumn 0 0 [.int p0] σ (kI (fun i2 s1 => (i2 = 0 → post (some (.int (-101))) s1) ∧ (¬ i2 = 0 → FR s1 r0 11 4 (fun r5 => Rc s1 r5 5 ∧ Do g M_X5_take 0 0 [.ref r5, .int p0] s1 (kI (fun i7 s6 => post (some (.int i7)) s6))))))) : Do g M_X11_picture 0 0 [.ref r0, .int p0] σ post := by
  refine Do.of (by decide +kernel) (Nat.le_of_ble_eq_true rfl) ?_
  show Fr g M_X11_picture (0, 0, 0, 0) [(0, .ref r0), (1, .int p0)] [] 0 σ post
  refine fr_iload_n (pc := 0) 1 rfl rfl dX11_picture_0 ?_
  refine fr_callS_I (pc := 1) (As := [.int p0]) (st := []) wd_X11_isColumn w_1084 ok_X11_isColumn (by decide) rfl (Nat.le_of_ble_eq_true rfl) dX11_picture_1 ⟨Nat.le_refl 0, Nat.le_refl 0⟩ hW (fun i2 s1 hW => ?_)
  refine fr_if_eq (pc := 4) (tgt := 18) (by decide) dX11_picture_4 hW (fun hW => ?_) (fun hW => ?_)
  · refine fr_bipush (pc := 18) (-101) (by decide) dX11_picture_18 ?_
    exact fr_iret (pc := 20) dX11_picture_20 rfl ⟨Nat.le_refl 0, Nat.le_refl 0⟩ hW
  · refine fr_aload_n (pc := 7) 0 rfl rfl dX11_picture_7 ?_
    refine fr_getR (pc := 8) (T := TX11) (k := 4) kc_X11 (by decide) w_998 dX11_picture_8 hW (fun r5 hW => ?_)
    refine fr_iload_n (pc := 11) 1 rfl rfl dX11_picture_11 ?_
    obtain ⟨hrc, hW⟩ := hW
    refine fr_callV_I (pc := 12) (As := [.int p0]) (st := []) wd_X5_take w_1334 ok_X5_take (by decide) rfl (Nat.le_of_ble_eq_true rfl) dX11_picture_12 ⟨Nat.le_refl 0, Nat.le_refl 0⟩ kc_X5 hrc hW (fun i7 s6 hW => ?_)
    refine fr_goto (pc := 15) (tgt := 20) (by decide) dX11_picture_15 ?_
    exact fr_iret (pc := 20) dX11_picture_20 rfl ⟨Nat.le_refl 0, Nat.le_refl 0⟩ hW
def J_X12_picture_16 (g : GG) (post : Option Value → Hs → Prop) (σ : Hs) (a0 : Nat) (v1 : Int32) (v2 : Int32) (v3 : Int32) : Prop := Fr g M_X12_picture (0, 0, 0, 0) [(0, .ref a0), (1, .int v1), (2, .int v2), (3, .int v3)] [] 16 σ post
def J_X12_picture_114 (g : GG) (post : Option Value → Hs → Prop) (σ : Hs) (a0 : Nat) (v1 : Int32) (v2 : Int32) (v3 : Int32) (v4 : Int32) : Prop := Fr g M_X12_picture (0, 0, 0, 0) [(0, .ref a0), (1, .int v1), (2, .int v2), (3, .int v3), (4, .int v4)] [] 114 σ post
def J_X12_picture_34 (g : GG) (post : Option Value → Hs → Prop) (σ : Hs) (a0 : Nat) (v1 : Int32) (v2 : Int32) (v3 : Int32) (v4 : Int32) : Prop := Fr g M_X12_picture (0, 0, 0, 0) [(0, .ref a0), (1, .int v1), (2, .int v2), (3, .int v3), (4, .int v4)] [] 34 σ post
def J_X12_picture_187 (g : GG) (post : Option Value → Hs → Prop) (σ : Hs) (a0 : Nat) (v1 : Int32) (v2 : Int32) (v3 : Int32) (v4 : Int32) (v5 : Int32) (v6 : Int32) (v7 : Int32) (t0 : Int32) (t1 : Int32) (t2 : Nat) : Prop := Fr g M_X12_picture (0, 0, 0, 0) [(0, .ref a0), (1, .int v1), (2, .int v2), (3, .int v3), (4, .int v4), (5, .int v5), (6, .int v6), (7, .int v7)] [.int t0, .int t1, .ref t2] 187 σ post
def J_X12_picture_83 (g : GG) (post : Option Value → Hs → Prop) (σ : Hs) (a0 : Nat) (v1 : Int32) (v2 : Int32) (v3 : Int32) (v4 : Int32) : Prop := Fr g M_X12_picture (0, 0, 0, 0) [(0, .ref a0), (1, .int v1), (2, .int v2), (3, .int v3), (4, .int v4)] [] 83 σ post
def J_X12_picture_216 (g : GG) (post : Option Value → Hs → Prop) (σ : Hs) (a0 : Nat) (v1 : Int32) (v2 : Int32) (v3 : Int32) (v4 : Int32) (v5 : Int32) (v6 : Int32) (t0 : Int32) (t1 : Int32) (t2 : Nat) : Prop := Fr g M_X12_picture (0, 0, 0, 0) [(0, .ref a0), (1, .int v1), (2, .int v2), (3, .int v3), (4, .int v4), (5, .int v5), (6, .int v6)] [.int t0, .int t1, .ref t2] 216 σ post
set_option maxHeartbeats 4000000 in
set_option maxRecDepth 100000 in
theorem q_X12_picture {g : GG} {σ : Hs} {post : Option Value → Hs → Prop} (r0 : Nat) (p0 : Int32) (hW : Do g M_X12_in 0 0 [.int p0, .int 0, .int 3] σ (kI (fun i2 s1 => (¬ i2 = 0 → J_X12_picture_16 g post s1 r0 p0 0 0 ) ∧ (i2 = 0 → post (some (.int (-101))) s1)))) : Do g M_X12_picture 0 0 [.ref r0, .int p0] σ post := by
  refine Do.of (by decide +kernel) (Nat.le_of_ble_eq_true rfl) ?_
  show Fr g M_X12_picture (0, 0, 0, 0) [(0, .ref r0), (1, .int p0)] [] 0 σ post
  refine fr_iload_n (pc := 0) 1 rfl rfl dX12_picture_0 ?_
  refine fr_iconst (pc := 1) 0 (by decide) dX12_picture_1 ?_
  refine fr_iconst (pc := 2) 3 (by decide) dX12_picture_2 ?_
  refine fr_callS_I (pc := 3) (As := [.int p0, .int 0, .int 3]) (st := []) wd_X12_in w_1067 ok_X12_in (by decide) rfl (Nat.le_of_ble_eq_true rfl) dX12_picture_3 ⟨Nat.le_refl 0, Nat.le_refl 0⟩ hW (fun i2 s1 hW => ?_)
  refine fr_if_ne (pc := 6) (tgt := 12) (by decide) dX12_picture_6 hW (fun hW => ?_) (fun hW => ?_)
  · refine fr_iconst (pc := 12) 0 (by decide) dX12_picture_12 ?_
    refine fr_istore_n (pc := 13) (lv' := [(2, .int 0), (0, .ref r0), (1, .int p0)]) rfl (by decide) rfl dX12_picture_13 ?_
    refine fr_iconst (pc := 14) 0 (by decide) dX12_picture_14 ?_
    refine fr_istore_n (pc := 15) (lv' := [(3, .int 0), (2, .int 0), (0, .ref r0), (1, .int p0)]) rfl (by decide) rfl dX12_picture_15 ?_
    exact fr_sub [2, 3, 1, 0] rfl hW
  · refine fr_bipush (pc := 9) (-101) (by decide) dX12_picture_9 ?_
    exact fr_iret (pc := 11) dX12_picture_11 rfl ⟨Nat.le_refl 0, Nat.le_refl 0⟩ hW
set_option maxHeartbeats 4000000 in
set_option maxRecDepth 100000 in
theorem q_X12_picture_16 {g : GG} {σ : Hs} {post : Option Value → Hs → Prop} (a0 : Nat) (v1 : Int32) (v2 : Int32) (v3 : Int32) (hW : (64 ≤ v3 → J_X12_picture_114 g post σ a0 v1 v2 0 0 ) ∧ (¬ 64 ≤ v3 → FR σ a0 12 0 (fun r5 => AI g σ r5 1 v3 (fun i6 => (i6 = 0 → J_X12_picture_16 g post σ a0 v1 v2 ((v3 + 1)) ) ∧ (¬ i6 = 0 → J_X12_picture_34 g post σ a0 v1 v2 v3 v2 ))))) : J_X12_picture_16 g post σ a0 v1 v2 v3 := by
  show Fr g M_X12_picture (0, 0, 0, 0) [(0, .ref a0), (1, .int v1), (2, .int v2), (3, .int v3)] [] 16 σ post
  refine fr_iload_n (pc := 16) 3 rfl rfl dX12_picture_16 ?_
  refine fr_bipush (pc := 17) 64 (by decide) dX12_picture_17 ?_
  refine fr_icmp_ge (pc := 19) (tgt := 109) (by decide) dX12_picture_19 hW (fun hW => ?_) (fun hW => ?_)
  · refine fr_iconst (pc := 109) 0 (by decide) dX12_picture_109 ?_
    refine fr_istore_n (pc := 110) (lv' := [(3, .int 0), (0, .ref a0), (1, .int v1), (2, .int v2)]) rfl (by decide) rfl dX12_picture_110 ?_
    refine fr_iconst (pc := 111) 0 (by decide) dX12_picture_111 ?_
    refine fr_istore (pc := 112) (lv' := [(4, .int 0), (3, .int 0), (0, .ref a0), (1, .int v1), (2, .int v2)]) (by decide) rfl dX12_picture_112 ?_
    exact fr_sub [2, 3, 4, 1, 0] rfl hW
  · refine fr_aload_n (pc := 22) 0 rfl rfl dX12_picture_22 ?_
    refine fr_getR (pc := 23) (T := TX12) (k := 0) kc_X12 (by decide) w_1006 dX12_picture_23 hW (fun r5 hW => ?_)
    refine fr_iload_n (pc := 26) 3 rfl rfl dX12_picture_26 ?_
    refine fr_zald (pc := 27) dX12_picture_27 hW (fun i6 hW => ?_)
    refine fr_if_eq (pc := 28) (tgt := 103) (by decide) dX12_picture_28 hW (fun hW => ?_) (fun hW => ?_)
    · refine fr_iinc (pc := 103) (lv' := [(3, .int (v3 + 1)), (0, .ref a0), (1, .int v1), (2, .int v2)]) (v3 + 1) 3 rfl (congrArg (fun z => v3 + z) (by decide)) (by decide) rfl dX12_picture_103 ?_
      refine fr_goto (pc := 106) (tgt := 16) (by decide) dX12_picture_106 ?_
      exact fr_sub [1, 2, 3, 0] rfl hW
    · refine fr_iload_n (pc := 31) 2 rfl rfl dX12_picture_31 ?_
      refine fr_istore (pc := 32) (lv' := [(4, .int v2), (0, .ref a0), (1, .int v1), (2, .int v2), (3, .int v3)]) (by decide) rfl dX12_picture_32 ?_
      exact fr_sub [1, 2, 3, 4, 0] rfl hW
set_option maxHeartbeats 4000000 in
set_option maxRecDepth 100000 in
theorem q_X12_picture_114 {g : GG} {σ : Hs} {post : Option Value → Hs → Prop} (a0 : Nat) (v1 : Int32) (v2 : Int32) (v3 : Int32) (v4 : Int32) (hW : (4 ≤ v4 → FR σ a0 12 22 (fun r7 => SI g σ r7 1 v1 (vp_nar .boolean 1) (fun s8 => PF s8 a0 12 24 (.int v2) (fun s9 => post (some (.int v3)) s9)))) ∧ (¬ 4 ≤ v4 → FR σ a0 12 23 (fun r10 => SI g σ r10 0 ((12 * v1) + (3 * v4)) ((((v4 + 1) * v2) / 4) - ((v4 * v2) / 4)) (fun s11 => FR s11 a0 12 23 (fun r12 => ((((v4 + 1) * v2) / 4) ≤ ((v4 * v2) / 4) → J_X12_picture_187 g post s11 a0 v1 v2 v3 v4 (((v4 * v2) / 4)) ((((v4 + 1) * v2) / 4)) (((12 * v1) + (3 * v4))) (-1) ((((12 * v1) + (3 * v4)) + 1)) r12) ∧ (¬ (((v4 + 1) * v2) / 4) ≤ ((v4 * v2) / 4) → FR s11 a0 12 38 (fun r13 => AI g s11 r13 0 ((v4 * v2) / 4) (fun i14 => J_X12_picture_187 g post s11 a0 v1 v2 v3 v4 (((v4 * v2) / 4)) ((((v4 + 1) * v2) / 4)) (((12 * v1) + (3 * v4))) i14 ((((12 * v1) + (3 * v4)) + 1)) r12)))))))) : J_X12_picture_114 g post σ a0 v1 v2 v3 v4 := by
  show Fr g M_X12_picture (0, 0, 0, 0) [(0, .ref a0), (1, .int v1), (2, .int v2), (3, .int v3), (4, .int v4)] [] 114 σ post
  refine fr_iload (pc := 114) 4 rfl dX12_picture_114 ?_
  refine fr_iconst (pc := 116) 4 (by decide) dX12_picture_116 ?_
  refine fr_icmp_ge (pc := 117) (tgt := 238) (by decide) dX12_picture_117 hW (fun hW => ?_) (fun hW => ?_)
  · refine fr_aload_n (pc := 238) 0 rfl rfl dX12_picture_238 ?_
    refine fr_getR (pc := 239) (T := TX12) (k := 22) kc_X12 (by decide) w_1022 dX12_picture_239 hW (fun r7 hW => ?_)
    refine fr_iload_n (pc := 242) 1 rfl rfl dX12_picture_242 ?_
    refine fr_iconst (pc := 243) 1 (by decide) dX12_picture_243 ?_
    refine fr_zast (pc := 244) dX12_picture_244 hW (fun s8 hW => ?_)
    refine fr_aload_n (pc := 245) 0 rfl rfl dX12_picture_245 ?_
    refine fr_iload_n (pc := 246) 2 rfl rfl dX12_picture_246 ?_
    refine fr_put (pc := 247) (T := TX12) (k := 24) kc_X12 (by decide) w_1335 rfl rfl rfl dX12_picture_247 hW (fun s9 hW => ?_)
    refine fr_iload_n (pc := 250) 3 rfl rfl dX12_picture_250 ?_
    exact fr_iret (pc := 251) dX12_picture_251 rfl ⟨Nat.le_refl 0, Nat.le_refl 0⟩ hW
  · refine fr_iload (pc := 120) 4 rfl dX12_picture_120 ?_
    refine fr_iload_n (pc := 122) 2 rfl rfl dX12_picture_122 ?_
    refine fr_imul (pc := 123) dX12_picture_123 ?_
    refine fr_iconst (pc := 124) 4 (by decide) dX12_picture_124 ?_
    refine fr_idiv (pc := 125) (by decide) dX12_picture_125 ?_
    refine fr_istore (pc := 126) (lv' := [(5, .int ((v4 * v2) / 4)), (0, .ref a0), (1, .int v1), (2, .int v2), (3, .int v3), (4, .int v4)]) (by decide) rfl dX12_picture_126 ?_
    refine fr_iload (pc := 128) 5 rfl dX12_picture_128 ?_
    refine fr_iconst (pc := 130) 1 (by decide) dX12_picture_130 ?_
    refine fr_iadd (pc := 131) dX12_picture_131 ?_
    refine fr_iload_n (pc := 132) 3 rfl rfl dX12_picture_132 ?_
    refine fr_imul (pc := 133) dX12_picture_133 ?_
    refine fr_iconst (pc := 134) 4 (by decide) dX12_picture_134 ?_
    refine fr_idiv (pc := 135) (by decide) dX12_picture_135 ?_
    refine fr_istore (pc := 136) (lv' := [(6, .int (((v4 + 1) * v2) / 4)), (5, .int ((v4 * v2) / 4)), (0, .ref a0), (1, .int v1), (2, .int v2), (3, .int v3), (4, .int v4)]) (by decide) rfl dX12_picture_136 ?_
    refine fr_bipush (pc := 138) 12 (by decide) dX12_picture_138 ?_
    refine fr_iload_n (pc := 140) 3 rfl rfl dX12_picture_140 ?_
    refine fr_imul (pc := 141) dX12_picture_141 ?_
    refine fr_iconst (pc := 142) 3 (by decide) dX12_picture_142 ?_
    refine fr_iload (pc := 143) 6 rfl dX12_picture_143 ?_
    refine fr_imul (pc := 145) dX12_picture_145 ?_
    refine fr_iadd (pc := 146) dX12_picture_146 ?_
    refine fr_istore (pc := 147) (lv' := [(7, .int ((12 * v1) + (3 * v4))), (6, .int (((v4 + 1) * v2) / 4)), (5, .int ((v4 * v2) / 4)), (0, .ref a0), (1, .int v1), (2, .int v2), (3, .int v3), (4, .int v4)]) (by decide) rfl dX12_picture_147 ?_
    refine fr_aload_n (pc := 149) 3 rfl rfl dX12_picture_149 ?_
    refine fr_getR (pc := 150) (T := TX12) (k := 23) kc_X12 (by decide) w_1023 dX12_picture_150 hW (fun r10 hW => ?_)
    refine fr_iload (pc := 153) 0 rfl dX12_picture_153 ?_
    refine fr_iload (pc := 155) 1 rfl dX12_picture_155 ?_
    refine fr_iload (pc := 157) 2 rfl dX12_picture_157 ?_
    refine fr_isub (pc := 159) dX12_picture_159 ?_
    refine fr_iast (pc := 160) dX12_picture_160 hW (fun s11 hW => ?_)
    refine fr_aload_n (pc := 161) 3 rfl rfl dX12_picture_161 ?_
    refine fr_getR (pc := 162) (T := TX12) (k := 23) kc_X12 (by decide) w_1023 dX12_picture_162 hW (fun r12 hW => ?_)
    refine fr_iload (pc := 165) 0 rfl dX12_picture_165 ?_
    refine fr_iconst (pc := 167) 1 (by decide) dX12_picture_167 ?_
    refine fr_iadd (pc := 168) dX12_picture_168 ?_
    refine fr_iload (pc := 169) 1 rfl dX12_picture_169 ?_
    refine fr_iload (pc := 171) 2 rfl dX12_picture_171 ?_
    refine fr_icmp_le (pc := 173) (tgt := 186) (by decide) dX12_picture_173 hW (fun hW => ?_) (fun hW => ?_)
    · refine fr_iconst (pc := 186) (-1) (by decide) dX12_picture_186 ?_
      exact fr_sub [3, 4, 5, 6, 7, 2, 1, 0] rfl hW
    · refine fr_aload_n (pc := 176) 3 rfl rfl dX12_picture_176 ?_
      refine fr_getR (pc := 177) (T := TX12) (k := 38) kc_X12 (by decide) w_1029 dX12_picture_177 hW (fun r13 hW => ?_)
      refine fr_iload (pc := 180) 2 rfl dX12_picture_180 ?_
      refine fr_iald (pc := 182) dX12_picture_182 hW (fun i14 hW => ?_)
      refine fr_goto (pc := 183) (tgt := 187) (by decide) dX12_picture_183 ?_
      exact fr_sub [3, 4, 5, 6, 7, 2, 1, 0] rfl hW
set_option maxHeartbeats 4000000 in
set_option maxRecDepth 100000 in
theorem q_X12_picture_34 {g : GG} {σ : Hs} {post : Option Value → Hs → Prop} (a0 : Nat) (v1 : Int32) (v2 : Int32) (v3 : Int32) (v4 : Int32) (hW : (v4 ≤ 0 → J_X12_picture_83 g post σ a0 v1 v2 v3 v4 ) ∧ (¬ v4 ≤ 0 → FR σ a0 12 38 (fun r15 => AI g σ r15 0 (v4 - 1) (fun i16 => FR σ a0 12 1 (fun r17 => AI g σ r17 0 ((4 * v3) + v1) (fun i18 => (i16 ≤ i18 → J_X12_picture_83 g post σ a0 v1 v2 v3 v4 ) ∧ (¬ i16 ≤ i18 → FR σ a0 12 38 (fun r19 => FR σ a0 12 38 (fun r20 => AI g σ r20 0 (v4 - 1) (fun i21 => SI g σ r19 0 v4 i21 (fun s22 => J_X12_picture_34 g post s22 a0 v1 v2 v3 ((v4 + (-1))) ))))))))))) : J_X12_picture_34 g post σ a0 v1 v2 v3 v4 := by
  show Fr g M_X12_picture (0, 0, 0, 0) [(0, .ref a0), (1, .int v1), (2, .int v2), (3, .int v3), (4, .int v4)] [] 34 σ post
  refine fr_iload (pc := 34) 4 rfl dX12_picture_34 ?_
  refine fr_if_le (pc := 36) (tgt := 83) (by decide) dX12_picture_36 hW (fun hW => ?_) (fun hW => ?_)
  · exact fr_sub [0, 1, 2, 3, 4] rfl hW
  · refine fr_aload_n (pc := 39) 0 rfl rfl dX12_picture_39 ?_
    refine fr_getR (pc := 40) (T := TX12) (k := 38) kc_X12 (by decide) w_1029 dX12_picture_40 hW (fun r15 hW => ?_)
    refine fr_iload (pc := 43) 4 rfl dX12_picture_43 ?_
    refine fr_iconst (pc := 45) 1 (by decide) dX12_picture_45 ?_
    refine fr_isub (pc := 46) dX12_picture_46 ?_
    refine fr_iald (pc := 47) dX12_picture_47 hW (fun i16 hW => ?_)
    refine fr_aload_n (pc := 48) 0 rfl rfl dX12_picture_48 ?_
    refine fr_getR (pc := 49) (T := TX12) (k := 1) kc_X12 (by decide) w_1007 dX12_picture_49 hW (fun r17 hW => ?_)
    refine fr_iconst (pc := 52) 4 (by decide) dX12_picture_52 ?_
    refine fr_iload_n (pc := 53) 3 rfl rfl dX12_picture_53 ?_
    refine fr_imul (pc := 54) dX12_picture_54 ?_
    refine fr_iload_n (pc := 55) 1 rfl rfl dX12_picture_55 ?_
    refine fr_iadd (pc := 56) dX12_picture_56 ?_
    refine fr_iald (pc := 57) dX12_picture_57 hW (fun i18 hW => ?_)
    refine fr_icmp_le (pc := 58) (tgt := 83) (by decide) dX12_picture_58 hW (fun hW => ?_) (fun hW => ?_)
    · exact fr_sub [0, 1, 2, 3, 4] rfl hW
    · refine fr_aload_n (pc := 61) 0 rfl rfl dX12_picture_61 ?_
      refine fr_getR (pc := 62) (T := TX12) (k := 38) kc_X12 (by decide) w_1029 dX12_picture_62 hW (fun r19 hW => ?_)
      refine fr_iload (pc := 65) 4 rfl dX12_picture_65 ?_
      refine fr_aload_n (pc := 67) 0 rfl rfl dX12_picture_67 ?_
      refine fr_getR (pc := 68) (T := TX12) (k := 38) kc_X12 (by decide) w_1029 dX12_picture_68 hW (fun r20 hW => ?_)
      refine fr_iload (pc := 71) 4 rfl dX12_picture_71 ?_
      refine fr_iconst (pc := 73) 1 (by decide) dX12_picture_73 ?_
      refine fr_isub (pc := 74) dX12_picture_74 ?_
      refine fr_iald (pc := 75) dX12_picture_75 hW (fun i21 hW => ?_)
      refine fr_iast (pc := 76) dX12_picture_76 hW (fun s22 hW => ?_)
      refine fr_iinc (pc := 77) (lv' := [(4, .int (v4 + (-1))), (0, .ref a0), (1, .int v1), (2, .int v2), (3, .int v3)]) (v4 + (-1)) 4 rfl (congrArg (fun z => v4 + z) (by decide)) (by decide) rfl dX12_picture_77 ?_
      refine fr_goto (pc := 80) (tgt := 34) (by decide) dX12_picture_80 ?_
      exact fr_sub [1, 2, 3, 4, 0] rfl hW
set_option maxHeartbeats 4000000 in
set_option maxRecDepth 100000 in
theorem q_X12_picture_187 {g : GG} {σ : Hs} {post : Option Value → Hs → Prop} (a0 : Nat) (v1 : Int32) (v2 : Int32) (v3 : Int32) (v4 : Int32) (v5 : Int32) (v6 : Int32) (v7 : Int32) (t0 : Int32) (t1 : Int32) (t2 : Nat) (hW : SI g σ t2 0 t1 t0 (fun s23 => FR s23 a0 12 23 (fun r24 => (v6 ≤ v5 → J_X12_picture_216 g post s23 a0 v1 v2 v3 v4 v5 v6 (-1) ((v7 + 2)) r24) ∧ (¬ v6 ≤ v5 → FR s23 a0 12 38 (fun r25 => AI g s23 r25 0 (v6 - 1) (fun i26 => J_X12_picture_216 g post s23 a0 v1 v2 v3 v4 v5 v6 i26 ((v7 + 2)) r24)))))) : J_X12_picture_187 g post σ a0 v1 v2 v3 v4 v5 v6 v7 t0 t1 t2 := by
  show Fr g M_X12_picture (0, 0, 0, 0) [(0, .ref a0), (1, .int v1), (2, .int v2), (3, .int v3), (4, .int v4), (5, .int v5), (6, .int v6), (7, .int v7)] [.int t0, .int t1, .ref t2] 187 σ post
  refine fr_iast (pc := 187) dX12_picture_187 hW (fun s23 hW => ?_)
  refine fr_aload_n (pc := 188) 0 rfl rfl dX12_picture_188 ?_
  refine fr_getR (pc := 189) (T := TX12) (k := 23) kc_X12 (by decide) w_1023 dX12_picture_189 hW (fun r24 hW => ?_)
  refine fr_iload (pc := 192) 7 rfl dX12_picture_192 ?_
  refine fr_iconst (pc := 194) 2 (by decide) dX12_picture_194 ?_
  refine fr_iadd (pc := 195) dX12_picture_195 ?_
  refine fr_iload (pc := 196) 6 rfl dX12_picture_196 ?_
  refine fr_iload (pc := 198) 5 rfl dX12_picture_198 ?_
  refine fr_icmp_le (pc := 200) (tgt := 215) (by decide) dX12_picture_200 hW (fun hW => ?_) (fun hW => ?_)
  · refine fr_iconst (pc := 215) (-1) (by decide) dX12_picture_215 ?_
    exact fr_sub [0, 1, 2, 3, 4, 5, 6] rfl hW
  · refine fr_aload_n (pc := 203) 0 rfl rfl dX12_picture_203 ?_
    refine fr_getR (pc := 204) (T := TX12) (k := 38) kc_X12 (by decide) w_1029 dX12_picture_204 hW (fun r25 hW => ?_)
    refine fr_iload (pc := 207) 6 rfl dX12_picture_207 ?_
    refine fr_iconst (pc := 209) 1 (by decide) dX12_picture_209 ?_
    refine fr_isub (pc := 210) dX12_picture_210 ?_
    refine fr_iald (pc := 211) dX12_picture_211 hW (fun i26 hW => ?_)
    refine fr_goto (pc := 212) (tgt := 216) (by decide) dX12_picture_212 ?_
    exact fr_sub [0, 1, 2, 3, 4, 5, 6] rfl hW
set_option maxHeartbeats 4000000 in
set_option maxRecDepth 100000 in
theorem q_X12_picture_83 {g : GG} {σ : Hs} {post : Option Value → Hs → Prop} (a0 : Nat) (v1 : Int32) (v2 : Int32) (v3 : Int32) (v4 : Int32) (hW : FR σ a0 12 38 (fun r27 => FR σ a0 12 1 (fun r28 => AI g σ r28 0 ((4 * v3) + v1) (fun i29 => SI g σ r27 0 v4 i29 (fun s30 => J_X12_picture_16 g post s30 a0 v1 ((v2 + 1)) ((v3 + 1)) ))))) : J_X12_picture_83 g post σ a0 v1 v2 v3 v4 := by
  show Fr g M_X12_picture (0, 0, 0, 0) [(0, .ref a0), (1, .int v1), (2, .int v2), (3, .int v3), (4, .int v4)] [] 83 σ post
  refine fr_aload_n (pc := 83) 0 rfl rfl dX12_picture_83 ?_
  refine fr_getR (pc := 84) (T := TX12) (k := 38) kc_X12 (by decide) w_1029 dX12_picture_84 hW (fun r27 hW => ?_)
  refine fr_iload (pc := 87) 4 rfl dX12_picture_87 ?_
  refine fr_aload_n (pc := 89) 0 rfl rfl dX12_picture_89 ?_
  refine fr_getR (pc := 90) (T := TX12) (k := 1) kc_X12 (by decide) w_1007 dX12_picture_90 hW (fun r28 hW => ?_)
  refine fr_iconst (pc := 93) 4 (by decide) dX12_picture_93 ?_
  refine fr_iload_n (pc := 94) 3 rfl rfl dX12_picture_94 ?_
  refine fr_imul (pc := 95) dX12_picture_95 ?_
  refine fr_iload_n (pc := 96) 1 rfl rfl dX12_picture_96 ?_
  refine fr_iadd (pc := 97) dX12_picture_97 ?_
  refine fr_iald (pc := 98) dX12_picture_98 hW (fun i29 hW => ?_)
  refine fr_iast (pc := 99) dX12_picture_99 hW (fun s30 hW => ?_)
  refine fr_iinc (pc := 100) (lv' := [(2, .int (v2 + 1)), (0, .ref a0), (1, .int v1), (3, .int v3), (4, .int v4)]) (v2 + 1) 2 rfl (congrArg (fun z => v2 + z) (by decide)) (by decide) rfl dX12_picture_100 ?_
  refine fr_iinc (pc := 103) (lv' := [(3, .int (v3 + 1)), (2, .int (v2 + 1)), (0, .ref a0), (1, .int v1), (4, .int v4)]) (v3 + 1) 3 rfl (congrArg (fun z => v3 + z) (by decide)) (by decide) rfl dX12_picture_103 ?_
  refine fr_goto (pc := 106) (tgt := 16) (by decide) dX12_picture_106 ?_
  exact fr_sub [2, 3, 1, 0] rfl hW
set_option maxHeartbeats 4000000 in
set_option maxRecDepth 100000 in
theorem q_X12_picture_216 {g : GG} {σ : Hs} {post : Option Value → Hs → Prop} (a0 : Nat) (v1 : Int32) (v2 : Int32) (v3 : Int32) (v4 : Int32) (v5 : Int32) (v6 : Int32) (t0 : Int32) (t1 : Int32) (t2 : Nat) (hW : SI g σ t2 0 t1 t0 (fun s31 => (v6 ≤ v5 → J_X12_picture_114 g post s31 a0 v1 v2 ((v3 + 0)) ((v4 + 1)) ) ∧ (¬ v6 ≤ v5 → J_X12_picture_114 g post s31 a0 v1 v2 ((v3 + 1)) ((v4 + 1)) ))) : J_X12_picture_216 g post σ a0 v1 v2 v3 v4 v5 v6 t0 t1 t2 := by
  show Fr g M_X12_picture (0, 0, 0, 0) [(0, .ref a0), (1, .int v1), (2, .int v2), (3, .int v3), (4, .int v4), (5, .int v5), (6, .int v6)] [.int t0, .int t1, .ref t2] 216 σ post
  refine fr_iast (pc := 216) dX12_picture_216 hW (fun s31 hW => ?_)
  refine fr_iload_n (pc := 217) 3 rfl rfl dX12_picture_217 ?_
  refine fr_iload (pc := 218) 6 rfl dX12_picture_218 ?_
  refine fr_iload (pc := 220) 5 rfl dX12_picture_220 ?_
  refine fr_icmp_le (pc := 222) (tgt := 229) (by decide) dX12_picture_222 hW (fun hW => ?_) (fun hW => ?_)
  · refine fr_iconst (pc := 229) 0 (by decide) dX12_picture_229 ?_
    refine fr_iadd (pc := 230) dX12_picture_230 ?_
    refine fr_istore_n (pc := 231) (lv' := [(3, .int (v3 + 0)), (0, .ref a0), (1, .int v1), (2, .int v2), (4, .int v4), (5, .int v5), (6, .int v6)]) rfl (by decide) rfl dX12_picture_231 ?_
    refine fr_iinc (pc := 232) (lv' := [(4, .int (v4 + 1)), (3, .int (v3 + 0)), (0, .ref a0), (1, .int v1), (2, .int v2), (5, .int v5), (6, .int v6)]) (v4 + 1) 4 rfl (congrArg (fun z => v4 + z) (by decide)) (by decide) rfl dX12_picture_232 ?_
    refine fr_goto (pc := 235) (tgt := 114) (by decide) dX12_picture_235 ?_
    exact fr_sub [2, 3, 4, 1, 0] rfl hW
  · refine fr_iconst (pc := 225) 1 (by decide) dX12_picture_225 ?_
    refine fr_goto (pc := 226) (tgt := 230) (by decide) dX12_picture_226 ?_
    refine fr_iadd (pc := 230) dX12_picture_230 ?_
    refine fr_istore_n (pc := 231) (lv' := [(3, .int (v3 + 1)), (0, .ref a0), (1, .int v1), (2, .int v2), (4, .int v4), (5, .int v5), (6, .int v6)]) rfl (by decide) rfl dX12_picture_231 ?_
    refine fr_iinc (pc := 232) (lv' := [(4, .int (v4 + 1)), (3, .int (v3 + 1)), (0, .ref a0), (1, .int v1), (2, .int v2), (5, .int v5), (6, .int v6)]) (v4 + 1) 4 rfl (congrArg (fun z => v4 + z) (by decide)) (by decide) rfl dX12_picture_232 ?_
    refine fr_goto (pc := 235) (tgt := 114) (by decide) dX12_picture_235 ?_
    exact fr_sub [2, 3, 4, 1, 0] rfl hW
set_option maxHeartbeats 4000000 in
set_option maxRecDepth 100000 in
theorem q_X4_partCount {g : GG} {σ : Hs} {post : Option Value → Hs → Prop} (r0 : Nat) (p0 : Int32) (hW : FR σ r0 4 0 (fun r1 => Rc σ r1 1 ∧ Do g M_X1_at 0 0 [.ref r1, .int p0] σ (kI (fun i3 s2 => post (some (.int i3)) s2)))) : Do g M_X4_partCount 0 0 [.ref r0, .int p0] σ post := by
  refine Do.of (by decide +kernel) (Nat.le_of_ble_eq_true rfl) ?_
  show Fr g M_X4_partCount (0, 0, 0, 0) [(0, .ref r0), (1, .int p0)] [] 0 σ post
  refine fr_aload_n (pc := 0) 0 rfl rfl dX4_partCount_0 ?_
  refine fr_getR (pc := 1) (T := TX4) (k := 0) kc_X4 (by decide) w_965 dX4_partCount_1 hW (fun r1 hW => ?_)
  refine fr_iload_n (pc := 4) 1 rfl rfl dX4_partCount_4 ?_
  obtain ⟨hrc, hW⟩ := hW
  refine fr_callV_I (pc := 5) (As := [.int p0]) (st := []) wd_X1_at w_1326 ok_X1_at (by decide) rfl (Nat.le_of_ble_eq_true rfl) dX4_partCount_5 ⟨Nat.le_refl 0, Nat.le_refl 0⟩ kc_X1 hrc hW (fun i3 s2 hW => ?_)
  exact fr_iret (pc := 8) dX4_partCount_8 rfl ⟨Nat.le_refl 0, Nat.le_refl 0⟩ hW
set_option maxHeartbeats 4000000 in
set_option maxRecDepth 100000 in
theorem q_X4_partLeast {g : GG} {σ : Hs} {post : Option Value → Hs → Prop} (r0 : Nat) (p0 : Int32) (hW : FR σ r0 4 1 (fun r1 => Rc σ r1 1 ∧ Do g M_X1_at 0 0 [.ref r1, .int p0] σ (kI (fun i3 s2 => post (some (.int i3)) s2)))) : Do g M_X4_partLeast 0 0 [.ref r0, .int p0] σ post := by
  refine Do.of (by decide +kernel) (Nat.le_of_ble_eq_true rfl) ?_
  show Fr g M_X4_partLeast (0, 0, 0, 0) [(0, .ref r0), (1, .int p0)] [] 0 σ post
  refine fr_aload_n (pc := 0) 0 rfl rfl dX4_partLeast_0 ?_
  refine fr_getR (pc := 1) (T := TX4) (k := 1) kc_X4 (by decide) w_966 dX4_partLeast_1 hW (fun r1 hW => ?_)
  refine fr_iload_n (pc := 4) 1 rfl rfl dX4_partLeast_4 ?_
  obtain ⟨hrc, hW⟩ := hW
  refine fr_callV_I (pc := 5) (As := [.int p0]) (st := []) wd_X1_at w_1326 ok_X1_at (by decide) rfl (Nat.le_of_ble_eq_true rfl) dX4_partLeast_5 ⟨Nat.le_refl 0, Nat.le_refl 0⟩ kc_X1 hrc hW (fun i3 s2 hW => ?_)
  exact fr_iret (pc := 8) dX4_partLeast_8 rfl ⟨Nat.le_refl 0, Nat.le_refl 0⟩ hW
set_option maxHeartbeats 4000000 in
set_option maxRecDepth 100000 in
theorem q_X4_partGreatest {g : GG} {σ : Hs} {post : Option Value → Hs → Prop} (r0 : Nat) (p0 : Int32) (hW : FR σ r0 4 2 (fun r1 => Rc σ r1 1 ∧ Do g M_X1_at 0 0 [.ref r1, .int p0] σ (kI (fun i3 s2 => post (some (.int i3)) s2)))) : Do g M_X4_partGreatest 0 0 [.ref r0, .int p0] σ post := by
  refine Do.of (by decide +kernel) (Nat.le_of_ble_eq_true rfl) ?_
  show Fr g M_X4_partGreatest (0, 0, 0, 0) [(0, .ref r0), (1, .int p0)] [] 0 σ post
  refine fr_aload_n (pc := 0) 0 rfl rfl dX4_partGreatest_0 ?_
  refine fr_getR (pc := 1) (T := TX4) (k := 2) kc_X4 (by decide) w_967 dX4_partGreatest_1 hW (fun r1 hW => ?_)
  refine fr_iload_n (pc := 4) 1 rfl rfl dX4_partGreatest_4 ?_
  obtain ⟨hrc, hW⟩ := hW
  refine fr_callV_I (pc := 5) (As := [.int p0]) (st := []) wd_X1_at w_1326 ok_X1_at (by decide) rfl (Nat.le_of_ble_eq_true rfl) dX4_partGreatest_5 ⟨Nat.le_refl 0, Nat.le_refl 0⟩ kc_X1 hrc hW (fun i3 s2 hW => ?_)
  exact fr_iret (pc := 8) dX4_partGreatest_8 rfl ⟨Nat.le_refl 0, Nat.le_refl 0⟩ hW
