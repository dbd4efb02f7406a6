set_option maxHeartbeats 4000000 in
set_option maxRecDepth 100000 in
theorem q_X11_drop {g : GG} {σ : Hs} {post : Option Value → Hs → Prop} (r0 : Nat) (p0 : Int32) (hW : FR σ r0 11 0 (fun r1 => Rc σ r1 8 ∧ Do g M_X8_holds 0 0 [.ref r1, .int p0] σ (kI (fun i3 s2 => (¬ i3 = 0 → FR s2 r0 11 1 (fun r6 => Rc s2 r6 3 ∧ Do g M_X3_entriesGo 0 0 [.ref r6, .int p0] s2 (kV (fun s7 => FR s7 r0 11 0 (fun r8 => Rc s7 r8 8 ∧ Do g M_X8_release 0 0 [.ref r8, .int p0] s7 (kV (fun s9 => FR s9 r0 11 0 (fun r10 => Rc s9 r10 8 ∧ Do g M_X8_rows 0 0 [.ref r10] s9 (kI (fun i12 s11 => post (some (.int i12)) s11)))))))))) ∧ (i3 = 0 → post (some (.int (-101))) s2))))) : Do g M_X11_drop 0 0 [.ref r0, .int p0] σ post := by
  refine Do.of (by decide +kernel) (Nat.le_of_ble_eq_true rfl) ?_
  show Fr g M_X11_drop (0, 0, 0, 0) [(0, .ref r0), (1, .int p0)] [] 0 σ post
  refine fr_aload_n (pc := 0) 0 rfl rfl dX11_drop_0 ?_
  refine fr_getR (pc := 1) (T := TX11) (k := 0) kc_X11 (by decide) w_578 dX11_drop_1 hW (fun r1 hW => ?_)
  refine fr_iload_n (pc := 4) 1 rfl rfl dX11_drop_4 ?_
  obtain ⟨hrc, hW⟩ := hW
  refine fr_callV_I (pc := 5) (As := [.int p0]) (st := []) wd_X8_holds w_657 ok_X8_holds (by decide) rfl (Nat.le_of_ble_eq_true rfl) dX11_drop_5 ⟨Nat.le_refl 0, Nat.le_refl 0⟩ kc_X8 hrc hW (fun i3 s2 hW => ?_)
  refine fr_if_ne (pc := 8) (tgt := 14) (by decide) dX11_drop_8 hW (fun hW => ?_) (fun hW => ?_)
  · refine fr_aload_n (pc := 14) 0 rfl rfl dX11_drop_14 ?_
    refine fr_getR (pc := 15) (T := TX11) (k := 1) kc_X11 (by decide) w_579 dX11_drop_15 hW (fun r6 hW => ?_)
    refine fr_iload_n (pc := 18) 1 rfl rfl dX11_drop_18 ?_
    obtain ⟨hrc, hW⟩ := hW
    refine fr_callV_V (pc := 19) (As := [.int p0]) (st := []) wd_X3_entriesGo w_667 ok_X3_entriesGo (by decide) rfl (Nat.le_of_ble_eq_true rfl) dX11_drop_19 ⟨Nat.le_refl 0, Nat.le_refl 0⟩ kc_X3 hrc hW (fun s7 hW => ?_)
    refine fr_aload_n (pc := 22) 0 rfl rfl dX11_drop_22 ?_
    refine fr_getR (pc := 23) (T := TX11) (k := 0) kc_X11 (by decide) w_578 dX11_drop_23 hW (fun r8 hW => ?_)
    refine fr_iload_n (pc := 26) 1 rfl rfl dX11_drop_26 ?_
    obtain ⟨hrc, hW⟩ := hW
    refine fr_callV_V (pc := 27) (As := [.int p0]) (st := []) wd_X8_release w_668 ok_X8_release (by decide) rfl (Nat.le_of_ble_eq_true rfl) dX11_drop_27 ⟨Nat.le_refl 0, Nat.le_refl 0⟩ kc_X8 hrc hW (fun s9 hW => ?_)
    refine fr_aload_n (pc := 30) 0 rfl rfl dX11_drop_30 ?_
    refine fr_getR (pc := 31) (T := TX11) (k := 0) kc_X11 (by decide) w_578 dX11_drop_31 hW (fun r10 hW => ?_)
    obtain ⟨hrc, hW⟩ := hW
    refine fr_callV_I (pc := 34) (As := []) (st := []) wd_X8_rows w_669 ok_X8_rows (by decide) rfl (Nat.le_of_ble_eq_true rfl) dX11_drop_34 ⟨Nat.le_refl 0, Nat.le_refl 0⟩ kc_X8 hrc hW (fun i12 s11 hW => ?_)
    exact fr_iret (pc := 37) dX11_drop_37 rfl ⟨Nat.le_refl 0, Nat.le_refl 0⟩ hW
  · refine fr_bipush (pc := 11) (-101) (by decide) dX11_drop_11 ?_
    exact fr_iret (pc := 13) dX11_drop_13 rfl ⟨Nat.le_refl 0, Nat.le_refl 0⟩ hW
set_option maxHeartbeats 4000000 in
set_option maxRecDepth 100000 in
theorem q_X11_isNumber {g : GG} {σ : Hs} {post : Option Value → Hs → Prop} (p0 : Int32) (hW : (p0 < 0 → post (some (.int 0)) σ) ∧ (¬ p0 < 0 → (99 < p0 → post (some (.int 0)) σ) ∧ (¬ 99 < p0 → post (some (.int 1)) σ))) : Do g M_X11_isNumber 0 0 [.int p0] σ post := by
  refine Do.of (by decide +kernel) (Nat.le_of_ble_eq_true rfl) ?_
  show Fr g M_X11_isNumber (0, 0, 0, 0) [(0, .int p0)] [] 0 σ post
  refine fr_iload_n (pc := 0) 0 rfl rfl dX11_isNumber_0 ?_
  refine fr_if_lt (pc := 1) (tgt := 14) (by decide) dX11_isNumber_1 hW (fun hW => ?_) (fun hW => ?_)
  · refine fr_iconst (pc := 14) 0 (by decide) dX11_isNumber_14 ?_
    exact fr_zret (pc := 15) dX11_isNumber_15 rfl ⟨Nat.le_refl 0, Nat.le_refl 0⟩ ⟨rfl, hW⟩
  · refine fr_iload_n (pc := 4) 0 rfl rfl dX11_isNumber_4 ?_
    refine fr_bipush (pc := 5) 99 (by decide) dX11_isNumber_5 ?_
    refine fr_icmp_gt (pc := 7) (tgt := 14) (by decide) dX11_isNumber_7 hW (fun hW => ?_) (fun hW => ?_)
    · refine fr_iconst (pc := 14) 0 (by decide) dX11_isNumber_14 ?_
      exact fr_zret (pc := 15) dX11_isNumber_15 rfl ⟨Nat.le_refl 0, Nat.le_refl 0⟩ ⟨rfl, hW⟩
    · refine fr_iconst (pc := 10) 1 (by decide) dX11_isNumber_10 ?_
      refine fr_goto (pc := 11) (tgt := 15) (by decide) dX11_isNumber_11 ?_
      exact fr_zret (pc := 15) dX11_isNumber_15 rfl ⟨Nat.le_refl 0, Nat.le_refl 0⟩ ⟨rfl, hW⟩
set_option maxHeartbeats 4000000 in
set_option maxRecDepth 100000 in
theorem q_X11_row {g : GG} {σ : Hs} {post : Option Value → Hs → Prop} (r0 : Nat) (p0 : Int32) (p1 : Int32) (p2 : Int32) (p3 : Int32) (hW : Do g M_X11_isNumber 0 0 [.int p0] σ (kI (fun i2 s1 => (i2 = 0 → post (some (.int (-102))) s1) ∧ (¬ i2 = 0 → Do g M_X11_isNumber 0 0 [.int p1] s1 (kI (fun i6 s5 => (i6 = 0 → post (some (.int (-102))) s5) ∧ (¬ i6 = 0 → Do g M_X11_isNumber 0 0 [.int p2] s5 (kI (fun i10 s9 => (i10 = 0 → post (some (.int (-102))) s9) ∧ (¬ i10 = 0 → Do g M_X11_isNumber 0 0 [.int p3] s9 (kI (fun i14 s13 => (¬ i14 = 0 → FR s13 r0 11 0 (fun r17 => Rc s13 r17 8 ∧ Do g M_X8_emptySlot 0 0 [.ref r17] s13 (kI (fun i19 s18 => (¬ i19 = (-1) → FR s18 r0 11 0 (fun r22 => Rc s18 r22 8 ∧ Do g M_X8_put 0 0 [.ref r22, .int i19, .int 0, .int p0] s18 (kV (fun s23 => FR s23 r0 11 0 (fun r24 => Rc s23 r24 8 ∧ Do g M_X8_put 0 0 [.ref r24, .int i19, .int 1, .int p1] s23 (kV (fun s25 => FR s25 r0 11 0 (fun r26 => Rc s25 r26 8 ∧ Do g M_X8_put 0 0 [.ref r26, .int i19, .int 2, .int p2] s25 (kV (fun s27 => FR s27 r0 11 0 (fun r28 => Rc s27 r28 8 ∧ Do g M_X8_put 0 0 [.ref r28, .int i19, .int 3, .int p3] s27 (kV (fun s29 => Rc s29 r0 11 ∧ Do g M_X11_rowComes 0 0 [.ref r0, .int i19] s29 (kV (fun s30 => post (some (.int i19)) s30))))))))))))))) ∧ (i19 = (-1) → post (some (.int (-104))) s18))))) ∧ (i14 = 0 → post (some (.int (-102))) s13))))))))))))) : Do g M_X11_row 0 0 [.ref r0, .int p0, .int p1, .int p2, .int p3] σ post := by
  refine Do.of (by decide +kernel) (Nat.le_of_ble_eq_true rfl) ?_
  show Fr g M_X11_row (0, 0, 0, 0) [(0, .ref r0), (1, .int p0), (2, .int p1), (3, .int p2), (4, .int p3)] [] 0 σ post
  refine fr_iload_n (pc := 0) 1 rfl rfl dX11_row_0 ?_
  refine fr_callS_I (pc := 1) (As := [.int p0]) (st := []) wd_X11_isNumber w_670 ok_X11_isNumber (by decide) rfl (Nat.le_of_ble_eq_true rfl) dX11_row_1 ⟨Nat.le_refl 0, Nat.le_refl 0⟩ hW (fun i2 s1 hW => ?_)
  refine fr_if_eq (pc := 4) (tgt := 29) (by decide) dX11_row_4 hW (fun hW => ?_) (fun hW => ?_)
  · refine fr_bipush (pc := 29) (-102) (by decide) dX11_row_29 ?_
    exact fr_iret (pc := 31) dX11_row_31 rfl ⟨Nat.le_refl 0, Nat.le_refl 0⟩ hW
  · refine fr_iload_n (pc := 7) 2 rfl rfl dX11_row_7 ?_
    refine fr_callS_I (pc := 8) (As := [.int p1]) (st := []) wd_X11_isNumber w_670 ok_X11_isNumber (by decide) rfl (Nat.le_of_ble_eq_true rfl) dX11_row_8 ⟨Nat.le_refl 0, Nat.le_refl 0⟩ hW (fun i6 s5 hW => ?_)
    refine fr_if_eq (pc := 11) (tgt := 29) (by decide) dX11_row_11 hW (fun hW => ?_) (fun hW => ?_)
    · refine fr_bipush (pc := 29) (-102) (by decide) dX11_row_29 ?_
      exact fr_iret (pc := 31) dX11_row_31 rfl ⟨Nat.le_refl 0, Nat.le_refl 0⟩ hW
    · refine fr_iload_n (pc := 14) 3 rfl rfl dX11_row_14 ?_
      refine fr_callS_I (pc := 15) (As := [.int p2]) (st := []) wd_X11_isNumber w_670 ok_X11_isNumber (by decide) rfl (Nat.le_of_ble_eq_true rfl) dX11_row_15 ⟨Nat.le_refl 0, Nat.le_refl 0⟩ hW (fun i10 s9 hW => ?_)
      refine fr_if_eq (pc := 18) (tgt := 29) (by decide) dX11_row_18 hW (fun hW => ?_) (fun hW => ?_)
      · refine fr_bipush (pc := 29) (-102) (by decide) dX11_row_29 ?_
        exact fr_iret (pc := 31) dX11_row_31 rfl ⟨Nat.le_refl 0, Nat.le_refl 0⟩ hW
      · refine fr_iload (pc := 21) 4 rfl dX11_row_21 ?_
        refine fr_callS_I (pc := 23) (As := [.int p3]) (st := []) wd_X11_isNumber w_670 ok_X11_isNumber (by decide) rfl (Nat.le_of_ble_eq_true rfl) dX11_row_23 ⟨Nat.le_refl 0, Nat.le_refl 0⟩ hW (fun i14 s13 hW => ?_)
        refine fr_if_ne (pc := 26) (tgt := 32) (by decide) dX11_row_26 hW (fun hW => ?_) (fun hW => ?_)
        · refine fr_aload_n (pc := 32) 0 rfl rfl dX11_row_32 ?_
          refine fr_getR (pc := 33) (T := TX11) (k := 0) kc_X11 (by decide) w_578 dX11_row_33 hW (fun r17 hW => ?_)
          obtain ⟨hrc, hW⟩ := hW
          refine fr_callV_I (pc := 36) (As := []) (st := []) wd_X8_emptySlot w_632 ok_X8_emptySlot (by decide) rfl (Nat.le_of_ble_eq_true rfl) dX11_row_36 ⟨Nat.le_refl 0, Nat.le_refl 0⟩ kc_X8 hrc hW (fun i19 s18 hW => ?_)
          refine fr_istore (pc := 39) (lv' := [(5, .int i19), (0, .ref r0), (1, .int p0), (2, .int p1), (3, .int p2), (4, .int p3)]) (by decide) rfl dX11_row_39 ?_
          refine fr_iload (pc := 41) 0 rfl dX11_row_41 ?_
          refine fr_iconst (pc := 43) (-1) (by decide) dX11_row_43 ?_
          refine fr_icmp_ne (pc := 44) (tgt := 50) (by decide) dX11_row_44 hW (fun hW => ?_) (fun hW => ?_)
          · refine fr_aload_n (pc := 50) 1 rfl rfl dX11_row_50 ?_
            refine fr_getR (pc := 51) (T := TX11) (k := 0) kc_X11 (by decide) w_578 dX11_row_51 hW (fun r22 hW => ?_)
            refine fr_iload (pc := 54) 0 rfl dX11_row_54 ?_
            refine fr_iconst (pc := 56) 0 (by decide) dX11_row_56 ?_
            refine fr_iload_n (pc := 57) 2 rfl rfl dX11_row_57 ?_
            obtain ⟨hrc, hW⟩ := hW
            refine fr_callV_V (pc := 58) (As := [.int i19, .int 0, .int p0]) (st := []) wd_X8_put w_634 ok_X8_put (by decide) rfl (Nat.le_of_ble_eq_true rfl) dX11_row_58 ⟨Nat.le_refl 0, Nat.le_refl 0⟩ kc_X8 hrc hW (fun s23 hW => ?_)
            refine fr_aload_n (pc := 61) 1 rfl rfl dX11_row_61 ?_
            refine fr_getR (pc := 62) (T := TX11) (k := 0) kc_X11 (by decide) w_578 dX11_row_62 hW (fun r24 hW => ?_)
            refine fr_iload (pc := 65) 0 rfl dX11_row_65 ?_
            refine fr_iconst (pc := 67) 1 (by decide) dX11_row_67 ?_
            refine fr_iload_n (pc := 68) 3 rfl rfl dX11_row_68 ?_
            obtain ⟨hrc, hW⟩ := hW
            refine fr_callV_V (pc := 69) (As := [.int i19, .int 1, .int p1]) (st := []) wd_X8_put w_634 ok_X8_put (by decide) rfl (Nat.le_of_ble_eq_true rfl) dX11_row_69 ⟨Nat.le_refl 0, Nat.le_refl 0⟩ kc_X8 hrc hW (fun s25 hW => ?_)
            refine fr_aload_n (pc := 72) 1 rfl rfl dX11_row_72 ?_
            refine fr_getR (pc := 73) (T := TX11) (k := 0) kc_X11 (by decide) w_578 dX11_row_73 hW (fun r26 hW => ?_)
            refine fr_iload (pc := 76) 0 rfl dX11_row_76 ?_
            refine fr_iconst (pc := 78) 2 (by decide) dX11_row_78 ?_
            refine fr_iload_n (pc := 79) 4 rfl rfl dX11_row_79 ?_
            obtain ⟨hrc, hW⟩ := hW
            refine fr_callV_V (pc := 80) (As := [.int i19, .int 2, .int p2]) (st := []) wd_X8_put w_634 ok_X8_put (by decide) rfl (Nat.le_of_ble_eq_true rfl) dX11_row_80 ⟨Nat.le_refl 0, Nat.le_refl 0⟩ kc_X8 hrc hW (fun s27 hW => ?_)
            refine fr_aload_n (pc := 83) 1 rfl rfl dX11_row_83 ?_
            refine fr_getR (pc := 84) (T := TX11) (k := 0) kc_X11 (by decide) w_578 dX11_row_84 hW (fun r28 hW => ?_)
            refine fr_iload (pc := 87) 0 rfl dX11_row_87 ?_
            refine fr_iconst (pc := 89) 3 (by decide) dX11_row_89 ?_
            refine fr_iload (pc := 90) 5 rfl dX11_row_90 ?_
            obtain ⟨hrc, hW⟩ := hW
            refine fr_callV_V (pc := 92) (As := [.int i19, .int 3, .int p3]) (st := []) wd_X8_put w_634 ok_X8_put (by decide) rfl (Nat.le_of_ble_eq_true rfl) dX11_row_92 ⟨Nat.le_refl 0, Nat.le_refl 0⟩ kc_X8 hrc hW (fun s29 hW => ?_)
            refine fr_aload_n (pc := 95) 1 rfl rfl dX11_row_95 ?_
            refine fr_iload (pc := 96) 0 rfl dX11_row_96 ?_
            obtain ⟨hrc, hW⟩ := hW
            refine fr_callV_V (pc := 98) (As := [.int i19]) (st := []) wd_X11_rowComes w_635 ok_X11_rowComes (by decide) rfl (Nat.le_of_ble_eq_true rfl) dX11_row_98 ⟨Nat.le_refl 0, Nat.le_refl 0⟩ kc_X11 hrc hW (fun s30 hW => ?_)
            refine fr_iload (pc := 101) 0 rfl dX11_row_101 ?_
            exact fr_iret (pc := 103) dX11_row_103 rfl ⟨Nat.le_refl 0, Nat.le_refl 0⟩ hW
          · refine fr_bipush (pc := 47) (-104) (by decide) dX11_row_47 ?_
            exact fr_iret (pc := 49) dX11_row_49 rfl ⟨Nat.le_refl 0, Nat.le_refl 0⟩ hW
        · refine fr_bipush (pc := 29) (-102) (by decide) dX11_row_29 ?_
          exact fr_iret (pc := 31) dX11_row_31 rfl ⟨Nat.le_refl 0, Nat.le_refl 0⟩ hW
set_option maxHeartbeats 4000000 in
set_option maxRecDepth 100000 in
theorem q_X11_byteOf {g : GG} {σ : Hs} {post : Option Value → Hs → Prop} (p0 : Int64) (p1 : Int32) (hW : post (some (.int (((p0.toUInt64 >>> ((8 * p1).toInt64.toUInt64 &&& Int64.toUInt64 63)).toInt64) &&& 255).toInt32)) σ) : Do g M_X11_byteOf 0 0 [.long p0, .int p1] σ post := by
  refine Do.of (by decide +kernel) (Nat.le_of_ble_eq_true rfl) ?_
  show Fr g M_X11_byteOf (0, 0, 0, 0) [(0, .long p0), (2, .int p1)] [] 0 σ post
  refine fr_lload_n (pc := 0) 0 rfl rfl dX11_byteOf_0 ?_
  refine fr_bipush (pc := 1) 8 (by decide) dX11_byteOf_1 ?_
  refine fr_iload_n (pc := 3) 1 rfl rfl dX11_byteOf_3 ?_
  refine fr_imul (pc := 4) dX11_byteOf_4 ?_
  refine fr_lushr (pc := 5) dX11_byteOf_5 ?_
  refine fr_ldc2 (pc := 6) w_671 dX11_byteOf_6 ?_
  refine fr_land (pc := 9) dX11_byteOf_9 ?_
  refine fr_l2i (pc := 10) dX11_byteOf_10 ?_
  exact fr_iret (pc := 11) dX11_byteOf_11 rfl ⟨Nat.le_refl 0, Nat.le_refl 0⟩ hW
def J_X11_lettersIn_4 (g : GG) (post : Option Value → Hs → Prop) (σ : Hs) (w0 : Int64) (v2 : Int32) (v3 : Int32) : Prop := Fr g M_X11_lettersIn (0, 0, 0, 0) [(0, .long w0), (2, .int v2), (3, .int v3)] [] 4 σ post
set_option maxHeartbeats 4000000 in
set_option maxRecDepth 100000 in
theorem q_X11_lettersIn {g : GG} {σ : Hs} {post : Option Value → Hs → Prop} (p0 : Int64) (hW : J_X11_lettersIn_4 g post σ p0 0 0 ) : Do g M_X11_lettersIn 0 0 [.long p0] σ post := by
  refine Do.of (by decide +kernel) (Nat.le_of_ble_eq_true rfl) ?_
  show Fr g M_X11_lettersIn (0, 0, 0, 0) [(0, .long p0)] [] 0 σ post
  refine fr_iconst (pc := 0) 0 (by decide) dX11_lettersIn_0 ?_
  refine fr_istore_n (pc := 1) (lv' := [(2, .int 0), (0, .long p0)]) rfl (by decide) rfl dX11_lettersIn_1 ?_
  refine fr_iconst (pc := 2) 0 (by decide) dX11_lettersIn_2 ?_
  refine fr_istore_n (pc := 3) (lv' := [(3, .int 0), (2, .int 0), (0, .long p0)]) rfl (by decide) rfl dX11_lettersIn_3 ?_
  exact fr_sub [2, 1, 0] rfl hW
set_option maxHeartbeats 4000000 in
set_option maxRecDepth 100000 in
theorem q_X11_lettersIn_4 {g : GG} {σ : Hs} {post : Option Value → Hs → Prop} (w0 : Int64) (v2 : Int32) (v3 : Int32) (hW : (8 ≤ v3 → post (some (.int v2)) σ) ∧ (¬ 8 ≤ v3 → Do g M_X11_byteOf 0 0 [.long w0, .int v3] σ (kI (fun i2 s1 => (¬ i2 = 0 → (126 < i2 → post (some (.int (-1))) s1) ∧ (¬ 126 < i2 → (v3 ≤ v2 → J_X11_lettersIn_4 g post s1 w0 ((v2 + 1)) ((v3 + 1)) ) ∧ (¬ v3 ≤ v2 → post (some (.int (-1))) s1))) ∧ (i2 = 0 → J_X11_lettersIn_4 g post s1 w0 v2 ((v3 + 1)) ))))) : J_X11_lettersIn_4 g post σ w0 v2 v3 := by
  show Fr g M_X11_lettersIn (0, 0, 0, 0) [(0, .long w0), (2, .int v2), (3, .int v3)] [] 4 σ post
  refine fr_iload_n (pc := 4) 2 rfl rfl dX11_lettersIn_4 ?_
  refine fr_bipush (pc := 5) 8 (by decide) dX11_lettersIn_5 ?_
  refine fr_icmp_ge (pc := 7) (tgt := 48) (by decide) dX11_lettersIn_7 hW (fun hW => ?_) (fun hW => ?_)
  · refine fr_iload_n (pc := 48) 1 rfl rfl dX11_lettersIn_48 ?_
    exact fr_iret (pc := 49) dX11_lettersIn_49 rfl ⟨Nat.le_refl 0, Nat.le_refl 0⟩ hW
  · refine fr_lload_n (pc := 10) 0 rfl rfl dX11_lettersIn_10 ?_
    refine fr_iload_n (pc := 11) 2 rfl rfl dX11_lettersIn_11 ?_
    refine fr_callS_I (pc := 12) (As := [.long w0, .int v3]) (st := []) wd_X11_byteOf w_672 ok_X11_byteOf (by decide) rfl (Nat.le_of_ble_eq_true rfl) dX11_lettersIn_12 ⟨Nat.le_refl 0, Nat.le_refl 0⟩ hW (fun i2 s1 hW => ?_)
    refine fr_istore (pc := 15) (lv' := [(4, .int i2), (0, .long w0), (2, .int v2), (3, .int v3)]) (by decide) rfl dX11_lettersIn_15 ?_
    refine fr_iload (pc := 17) 0 rfl dX11_lettersIn_17 ?_
    refine fr_if_ne (pc := 19) (tgt := 25) (by decide) dX11_lettersIn_19 hW (fun hW => ?_) (fun hW => ?_)
    · refine fr_iload (pc := 25) 0 rfl dX11_lettersIn_25 ?_
      refine fr_bipush (pc := 27) 126 (by decide) dX11_lettersIn_27 ?_
      refine fr_icmp_gt (pc := 29) (tgt := 37) (by decide) dX11_lettersIn_29 hW (fun hW => ?_) (fun hW => ?_)
      · refine fr_iconst (pc := 37) (-1) (by decide) dX11_lettersIn_37 ?_
        exact fr_iret (pc := 38) dX11_lettersIn_38 rfl ⟨Nat.le_refl 0, Nat.le_refl 0⟩ hW
      · refine fr_iload_n (pc := 32) 2 rfl rfl dX11_lettersIn_32 ?_
        refine fr_iload_n (pc := 33) 3 rfl rfl dX11_lettersIn_33 ?_
        refine fr_icmp_ge (pc := 34) (tgt := 39) (by decide) dX11_lettersIn_34 hW (fun hW => ?_) (fun hW => ?_)
        · refine fr_iinc (pc := 39) (lv' := [(2, .int (v2 + 1)), (4, .int i2), (0, .long w0), (3, .int v3)]) (v2 + 1) 2 rfl (congrArg (fun z => v2 + z) (by decide)) (by decide) rfl dX11_lettersIn_39 ?_
          refine fr_iinc (pc := 42) (lv' := [(3, .int (v3 + 1)), (2, .int (v2 + 1)), (4, .int i2), (0, .long w0)]) (v3 + 1) 3 rfl (congrArg (fun z => v3 + z) (by decide)) (by decide) rfl dX11_lettersIn_42 ?_
          refine fr_goto (pc := 45) (tgt := 4) (by decide) dX11_lettersIn_45 ?_
          exact fr_sub [3, 1, 0] rfl hW
        · refine fr_iconst (pc := 37) (-1) (by decide) dX11_lettersIn_37 ?_
          exact fr_iret (pc := 38) dX11_lettersIn_38 rfl ⟨Nat.le_refl 0, Nat.le_refl 0⟩ hW
    · refine fr_goto (pc := 22) (tgt := 42) (by decide) dX11_lettersIn_22 ?_
      refine fr_iinc (pc := 42) (lv' := [(3, .int (v3 + 1)), (4, .int i2), (0, .long w0), (2, .int v2)]) (v3 + 1) 3 rfl (congrArg (fun z => v3 + z) (by decide)) (by decide) rfl dX11_lettersIn_42 ?_
      refine fr_goto (pc := 45) (tgt := 4) (by decide) dX11_lettersIn_45 ?_
      exact fr_sub [2, 3, 0] rfl hW
set_option maxHeartbeats 4000000 in
set_option maxRecDepth 100000 in
theorem q_X7_length {g : GG} {σ : Hs} {post : Option Value → Hs → Prop} (r0 : Nat) (hW : FI σ r0 7 1 (fun i1 => post (some (.int i1)) σ)) : Do g M_X7_length 0 0 [.ref r0] σ post := by
  refine Do.of (by decide +kernel) (Nat.le_of_ble_eq_true rfl) ?_
  show Fr g M_X7_length (0, 0, 0, 0) [(0, .ref r0)] [] 0 σ post
  refine fr_aload_n (pc := 0) 0 rfl rfl dX7_length_0 ?_
  refine fr_getI (pc := 1) (T := TX7) (k := 1) kc_X7 (by decide) w_673 dX7_length_1 hW (fun i1 hW => ?_)
  exact fr_iret (pc := 4) dX7_length_4 rfl ⟨Nat.le_refl 0, Nat.le_refl 0⟩ hW
set_option maxHeartbeats 4000000 in
set_option maxRecDepth 100000 in
theorem q_X7_write {g : GG} {σ : Hs} {post : Option Value → Hs → Prop} (r0 : Nat) (p0 : Int32) (hW : FR σ r0 7 0 (fun r1 => FI σ r0 7 1 (fun i2 => Rc σ r1 1 ∧ Do g M_X1_put 0 0 [.ref r1, .int i2, .int p0] σ (kV (fun s3 => FI s3 r0 7 1 (fun i4 => PF s3 r0 7 1 (.int (i4 + 1)) (fun s5 => post none s5))))))) : Do g M_X7_write 0 0 [.ref r0, .int p0] σ post := by
  refine Do.of (by decide +kernel) (Nat.le_of_ble_eq_true rfl) ?_
  show Fr g M_X7_write (0, 0, 0, 0) [(0, .ref r0), (1, .int p0)] [] 0 σ post
  refine fr_aload_n (pc := 0) 0 rfl rfl dX7_write_0 ?_
  refine fr_getR (pc := 1) (T := TX7) (k := 0) kc_X7 (by decide) w_512 dX7_write_1 hW (fun r1 hW => ?_)
  refine fr_aload_n (pc := 4) 0 rfl rfl dX7_write_4 ?_
  refine fr_getI (pc := 5) (T := TX7) (k := 1) kc_X7 (by decide) w_673 dX7_write_5 hW (fun i2 hW => ?_)
  refine fr_iload_n (pc := 8) 1 rfl rfl dX7_write_8 ?_
  obtain ⟨hrc, hW⟩ := hW
  refine fr_callV_V (pc := 9) (As := [.int i2, .int p0]) (st := []) wd_X1_put w_674 ok_X1_put (by decide) rfl (Nat.le_of_ble_eq_true rfl) dX7_write_9 ⟨Nat.le_refl 0, Nat.le_refl 0⟩ kc_X1 hrc hW (fun s3 hW => ?_)
  refine fr_aload_n (pc := 12) 0 rfl rfl dX7_write_12 ?_
  refine fr_dup (pc := 13) rfl dX7_write_13 ?_
  refine fr_getI (pc := 14) (T := TX7) (k := 1) kc_X7 (by decide) w_673 dX7_write_14 hW (fun i4 hW => ?_)
  refine fr_iconst (pc := 17) 1 (by decide) dX7_write_17 ?_
  refine fr_iadd (pc := 18) dX7_write_18 ?_
  refine fr_put (pc := 19) (T := TX7) (k := 1) kc_X7 (by decide) w_673 rfl rfl rfl dX7_write_19 hW (fun s5 hW => ?_)
  exact fr_ret (pc := 22) dX7_write_22 rfl ⟨Nat.le_refl 0, Nat.le_refl 0⟩ hW
def J_X11_letters_33 (g : GG) (post : Option Value → Hs → Prop) (σ : Hs) (a0 : Nat) (w1 : Int64) (v3 : Int32) (v4 : Int32) : Prop := Fr g M_X11_letters (0, 0, 0, 0) [(0, .ref a0), (1, .long w1), (3, .int v3), (4, .int v4)] [] 33 σ post
set_option maxHeartbeats 4000000 in
set_option maxRecDepth 100000 in
theorem q_X11_letters {g : GG} {σ : Hs} {post : Option Value → Hs → Prop} (r0 : Nat) (p0 : Int64) (hW : Do g M_X11_lettersIn 0 0 [.long p0] σ (kI (fun i2 s1 => (¬ i2 = (-1) → FR s1 r0 11 5 (fun r5 => Rc s1 r5 7 ∧ Do g M_X7_length 0 0 [.ref r5] s1 (kI (fun i7 s6 => ((i7 + i2) ≤ 60 → J_X11_letters_33 g post s6 r0 p0 i2 0 ) ∧ (¬ (i7 + i2) ≤ 60 → post (some (.int (-104))) s6))))) ∧ (i2 = (-1) → post (some (.int (-102))) s1)))) : Do g M_X11_letters 0 0 [.ref r0, .long p0] σ post := by
  refine Do.of (by decide +kernel) (Nat.le_of_ble_eq_true rfl) ?_
  show Fr g M_X11_letters (0, 0, 0, 0) [(0, .ref r0), (1, .long p0)] [] 0 σ post
  refine fr_lload_n (pc := 0) 1 rfl rfl dX11_letters_0 ?_
  refine fr_callS_I (pc := 1) (As := [.long p0]) (st := []) wd_X11_lettersIn w_675 ok_X11_lettersIn (by decide) rfl (Nat.le_of_ble_eq_true rfl) dX11_letters_1 ⟨Nat.le_refl 0, Nat.le_refl 0⟩ hW (fun i2 s1 hW => ?_)
  refine fr_istore_n (pc := 4) (lv' := [(3, .int i2), (0, .ref r0), (1, .long p0)]) rfl (by decide) rfl dX11_letters_4 ?_
  refine fr_iload_n (pc := 5) 0 rfl rfl dX11_letters_5 ?_
  refine fr_iconst (pc := 6) (-1) (by decide) dX11_letters_6 ?_
  refine fr_icmp_ne (pc := 7) (tgt := 13) (by decide) dX11_letters_7 hW (fun hW => ?_) (fun hW => ?_)
  · refine fr_aload_n (pc := 13) 1 rfl rfl dX11_letters_13 ?_
    refine fr_getR (pc := 14) (T := TX11) (k := 5) kc_X11 (by decide) w_569 dX11_letters_14 hW (fun r5 hW => ?_)
    obtain ⟨hrc, hW⟩ := hW
    refine fr_callV_I (pc := 17) (As := []) (st := []) wd_X7_length w_676 ok_X7_length (by decide) rfl (Nat.le_of_ble_eq_true rfl) dX11_letters_17 ⟨Nat.le_refl 0, Nat.le_refl 0⟩ kc_X7 hrc hW (fun i7 s6 hW => ?_)
    refine fr_iload_n (pc := 20) 0 rfl rfl dX11_letters_20 ?_
    refine fr_iadd (pc := 21) dX11_letters_21 ?_
    refine fr_bipush (pc := 22) 60 (by decide) dX11_letters_22 ?_
    refine fr_icmp_le (pc := 24) (tgt := 30) (by decide) dX11_letters_24 hW (fun hW => ?_) (fun hW => ?_)
    · refine fr_iconst (pc := 30) 0 (by decide) dX11_letters_30 ?_
      refine fr_istore (pc := 31) (lv' := [(4, .int 0), (3, .int i2), (0, .ref r0), (1, .long p0)]) (by decide) rfl dX11_letters_31 ?_
      exact fr_sub [2, 3, 1, 0] rfl hW
    · refine fr_bipush (pc := 27) (-104) (by decide) dX11_letters_27 ?_
      exact fr_iret (pc := 29) dX11_letters_29 rfl ⟨Nat.le_refl 0, Nat.le_refl 0⟩ hW
  · refine fr_bipush (pc := 10) (-102) (by decide) dX11_letters_10 ?_
    exact fr_iret (pc := 12) dX11_letters_12 rfl ⟨Nat.le_refl 0, Nat.le_refl 0⟩ hW
set_option maxHeartbeats 4000000 in
set_option maxRecDepth 100000 in
theorem q_X11_letters_33 {g : GG} {σ : Hs} {post : Option Value → Hs → Prop} (a0 : Nat) (w1 : Int64) (v3 : Int32) (v4 : Int32) (hW : (v3 ≤ v4 → FR σ a0 11 5 (fun r10 => Rc σ r10 7 ∧ Do g M_X7_length 0 0 [.ref r10] σ (kI (fun i12 s11 => post (some (.int i12)) s11)))) ∧ (¬ v3 ≤ v4 → FR σ a0 11 5 (fun r15 => Do g M_X11_byteOf 0 0 [.long w1, .int v4] σ (kI (fun i17 s16 => Rc s16 r15 7 ∧ Do g M_X7_write 0 0 [.ref r15, .int i17] s16 (kV (fun s20 => J_X11_letters_33 g post s20 a0 w1 v3 ((v4 + 1)) ))))))) : J_X11_letters_33 g post σ a0 w1 v3 v4 := by
  show Fr g M_X11_letters (0, 0, 0, 0) [(0, .ref a0), (1, .long w1), (3, .int v3), (4, .int v4)] [] 33 σ post
  refine fr_iload (pc := 33) 3 rfl dX11_letters_33 ?_
  refine fr_iload_n (pc := 35) 2 rfl rfl dX11_letters_35 ?_
  refine fr_icmp_ge (pc := 36) (tgt := 58) (by decide) dX11_letters_36 hW (fun hW => ?_) (fun hW => ?_)
  · refine fr_aload_n (pc := 58) 0 rfl rfl dX11_letters_58 ?_
    refine fr_getR (pc := 59) (T := TX11) (k := 5) kc_X11 (by decide) w_569 dX11_letters_59 hW (fun r10 hW => ?_)
    obtain ⟨hrc, hW⟩ := hW
    refine fr_callV_I (pc := 62) (As := []) (st := []) wd_X7_length w_676 ok_X7_length (by decide) rfl (Nat.le_of_ble_eq_true rfl) dX11_letters_62 ⟨Nat.le_refl 0, Nat.le_refl 0⟩ kc_X7 hrc hW (fun i12 s11 hW => ?_)
    exact fr_iret (pc := 65) dX11_letters_65 rfl ⟨Nat.le_refl 0, Nat.le_refl 0⟩ hW
  · refine fr_aload_n (pc := 39) 0 rfl rfl dX11_letters_39 ?_
    refine fr_getR (pc := 40) (T := TX11) (k := 5) kc_X11 (by decide) w_569 dX11_letters_40 hW (fun r15 hW => ?_)
    refine fr_lload_n (pc := 43) 1 rfl rfl dX11_letters_43 ?_
    refine fr_iload (pc := 44) 3 rfl dX11_letters_44 ?_
    refine fr_callS_I (pc := 46) (As := [.long w1, .int v4]) (st := [.ref r15]) wd_X11_byteOf w_672 ok_X11_byteOf (by decide) rfl (Nat.le_of_ble_eq_true rfl) dX11_letters_46 ⟨Nat.le_refl 0, Nat.le_refl 0⟩ hW (fun i17 s16 hW => ?_)
    obtain ⟨hrc, hW⟩ := hW
    refine fr_callV_V (pc := 49) (As := [.int i17]) (st := []) wd_X7_write w_677 ok_X7_write (by decide) rfl (Nat.le_of_ble_eq_true rfl) dX11_letters_49 ⟨Nat.le_refl 0, Nat.le_refl 0⟩ kc_X7 hrc hW (fun s20 hW => ?_)
    refine fr_iinc (pc := 52) (lv' := [(4, .int (v4 + 1)), (0, .ref a0), (1, .long w1), (3, .int v3)]) (v4 + 1) 3 rfl (congrArg (fun z => v4 + z) (by decide)) (by decide) rfl dX11_letters_52 ?_
    refine fr_goto (pc := 55) (tgt := 33) (by decide) dX11_letters_55 ?_
    exact fr_sub [1, 2, 3, 0] rfl hW
def J_X6_clear_2 (g : GG) (post : Option Value → Hs → Prop) (σ : Hs) (a0 : Nat) (v1 : Int32) : Prop := Fr g M_X6_clear (0, 0, 0, 0) [(0, .ref a0), (1, .int v1)] [] 2 σ post
set_option maxHeartbeats 4000000 in
set_option maxRecDepth 100000 in
theorem q_X6_clear {g : GG} {σ : Hs} {post : Option Value → Hs → Prop} (r0 : Nat) (hW : J_X6_clear_2 g post σ r0 0 ) : Do g M_X6_clear 0 0 [.ref r0] σ post := by
  refine Do.of (by decide +kernel) (Nat.le_of_ble_eq_true rfl) ?_
  show Fr g M_X6_clear (0, 0, 0, 0) [(0, .ref r0)] [] 0 σ post
  refine fr_iconst (pc := 0) 0 (by decide) dX6_clear_0 ?_
  refine fr_istore_n (pc := 1) (lv' := [(1, .int 0), (0, .ref r0)]) rfl (by decide) rfl dX6_clear_1 ?_
  exact fr_sub [1, 0] rfl hW
set_option maxHeartbeats 4000000 in
set_option maxRecDepth 100000 in
theorem q_X6_clear_2 {g : GG} {σ : Hs} {post : Option Value → Hs → Prop} (a0 : Nat) (v1 : Int32) (hW : (4 ≤ v1 → PF σ a0 6 2 (.int 0) (fun s1 => PF s1 a0 6 3 (.int 0) (fun s2 => PF s2 a0 6 4 (.int 0) (fun s3 => PF s3 a0 6 5 (.int (-1)) (fun s4 => PF s4 a0 6 6 (.int 1) (fun s5 => post none s5)))))) ∧ (¬ 4 ≤ v1 → FR σ a0 6 0 (fun r6 => Rc σ r6 1 ∧ Do g M_X1_put 0 0 [.ref r6, .int v1, .int 0] σ (kV (fun s7 => FR s7 a0 6 1 (fun r8 => Rc s7 r8 1 ∧ Do g M_X1_put 0 0 [.ref r8, .int v1, .int 99] s7 (kV (fun s9 => J_X6_clear_2 g post s9 a0 ((v1 + 1)) )))))))) : J_X6_clear_2 g post σ a0 v1 := by
  show Fr g M_X6_clear (0, 0, 0, 0) [(0, .ref a0), (1, .int v1)] [] 2 σ post
  refine fr_iload_n (pc := 2) 1 rfl rfl dX6_clear_2 ?_
  refine fr_iconst (pc := 3) 4 (by decide) dX6_clear_3 ?_
  refine fr_icmp_ge (pc := 4) (tgt := 32) (by decide) dX6_clear_4 hW (fun hW => ?_) (fun hW => ?_)
  · refine fr_aload_n (pc := 32) 0 rfl rfl dX6_clear_32 ?_
    refine fr_iconst (pc := 33) 0 (by decide) dX6_clear_33 ?_
    refine fr_put (pc := 34) (T := TX6) (k := 2) kc_X6 (by decide) w_679 rfl rfl rfl dX6_clear_34 hW (fun s1 hW => ?_)
    refine fr_aload_n (pc := 37) 0 rfl rfl dX6_clear_37 ?_
    refine fr_iconst (pc := 38) 0 (by decide) dX6_clear_38 ?_
    refine fr_put (pc := 39) (T := TX6) (k := 3) kc_X6 (by decide) w_680 rfl rfl rfl dX6_clear_39 hW (fun s2 hW => ?_)
    refine fr_aload_n (pc := 42) 0 rfl rfl dX6_clear_42 ?_
    refine fr_iconst (pc := 43) 0 (by decide) dX6_clear_43 ?_
    refine fr_put (pc := 44) (T := TX6) (k := 4) kc_X6 (by decide) w_681 rfl rfl rfl dX6_clear_44 hW (fun s3 hW => ?_)
    refine fr_aload_n (pc := 47) 0 rfl rfl dX6_clear_47 ?_
    refine fr_iconst (pc := 48) (-1) (by decide) dX6_clear_48 ?_
    refine fr_put (pc := 49) (T := TX6) (k := 5) kc_X6 (by decide) w_682 rfl rfl rfl dX6_clear_49 hW (fun s4 hW => ?_)
    refine fr_aload_n (pc := 52) 0 rfl rfl dX6_clear_52 ?_
    refine fr_iconst (pc := 53) 1 (by decide) dX6_clear_53 ?_
    refine fr_put (pc := 54) (T := TX6) (k := 6) kc_X6 (by decide) w_683 rfl rfl rfl dX6_clear_54 hW (fun s5 hW => ?_)
    exact fr_ret (pc := 57) dX6_clear_57 rfl ⟨Nat.le_refl 0, Nat.le_refl 0⟩ hW
  · refine fr_aload_n (pc := 7) 0 rfl rfl dX6_clear_7 ?_
    refine fr_getR (pc := 8) (T := TX6) (k := 0) kc_X6 (by decide) w_507 dX6_clear_8 hW (fun r6 hW => ?_)
    refine fr_iload_n (pc := 11) 1 rfl rfl dX6_clear_11 ?_
    refine fr_iconst (pc := 12) 0 (by decide) dX6_clear_12 ?_
    obtain ⟨hrc, hW⟩ := hW
    refine fr_callV_V (pc := 13) (As := [.int v1, .int 0]) (st := []) wd_X1_put w_684 ok_X1_put (by decide) rfl (Nat.le_of_ble_eq_true rfl) dX6_clear_13 ⟨Nat.le_refl 0, Nat.le_refl 0⟩ kc_X1 hrc hW (fun s7 hW => ?_)
    refine fr_aload_n (pc := 16) 0 rfl rfl dX6_clear_16 ?_
    refine fr_getR (pc := 17) (T := TX6) (k := 1) kc_X6 (by decide) w_508 dX6_clear_17 hW (fun r8 hW => ?_)
    refine fr_iload_n (pc := 20) 1 rfl rfl dX6_clear_20 ?_
    refine fr_bipush (pc := 21) 99 (by decide) dX6_clear_21 ?_
    obtain ⟨hrc, hW⟩ := hW
    refine fr_callV_V (pc := 23) (As := [.int v1, .int 99]) (st := []) wd_X1_put w_684 ok_X1_put (by decide) rfl (Nat.le_of_ble_eq_true rfl) dX6_clear_23 ⟨Nat.le_refl 0, Nat.le_refl 0⟩ kc_X1 hrc hW (fun s9 hW => ?_)
    refine fr_iinc (pc := 26) (lv' := [(1, .int (v1 + 1)), (0, .ref a0)]) (v1 + 1) 1 rfl (congrArg (fun z => v1 + z) (by decide)) (by decide) rfl dX6_clear_26 ?_
    refine fr_goto (pc := 29) (tgt := 2) (by decide) dX6_clear_29 ?_
    exact fr_sub [1, 0] rfl hW
set_option maxHeartbeats 4000000 in
set_option maxRecDepth 100000 in
theorem q_X7_moves {g : GG} {σ : Hs} {post : Option Value → Hs → Prop} (r0 : Nat) (p0 : Int32) (hW : PF σ r0 7 3 (.int p0) (fun s1 => post (some (.int 1)) s1)) : Do g M_X7_moves 0 0 [.ref r0, .int p0] σ post := by
  refine Do.of (by decide +kernel) (Nat.le_of_ble_eq_true rfl) ?_
  show Fr g M_X7_moves (0, 0, 0, 0) [(0, .ref r0), (1, .int p0)] [] 0 σ post
  refine fr_aload_n (pc := 0) 0 rfl rfl dX7_moves_0 ?_
  refine fr_iload_n (pc := 1) 1 rfl rfl dX7_moves_1 ?_
  refine fr_put (pc := 2) (T := TX7) (k := 3) kc_X7 (by decide) w_685 rfl rfl rfl dX7_moves_2 hW (fun s1 hW => ?_)
  refine fr_iconst (pc := 5) 1 (by decide) dX7_moves_5 ?_
  exact fr_zret (pc := 6) dX7_moves_6 rfl ⟨Nat.le_refl 0, Nat.le_refl 0⟩ ⟨rfl, hW⟩
set_option maxHeartbeats 4000000 in
set_option maxRecDepth 100000 in
theorem q_X7_isLetter {g : GG} {σ : Hs} {post : Option Value → Hs → Prop} (p0 : Int32) (hW : (p0 < 97 → post (some (.int 0)) σ) ∧ (¬ p0 < 97 → (100 < p0 → post (some (.int 0)) σ) ∧ (¬ 100 < p0 → post (some (.int 1)) σ))) : Do g M_X7_isLetter 0 0 [.int p0] σ post := by
  refine Do.of (by decide +kernel) (Nat.le_of_ble_eq_true rfl) ?_
  show Fr g M_X7_isLetter (0, 0, 0, 0) [(0, .int p0)] [] 0 σ post
  refine fr_iload_n (pc := 0) 0 rfl rfl dX7_isLetter_0 ?_
  refine fr_bipush (pc := 1) 97 (by decide) dX7_isLetter_1 ?_
  refine fr_icmp_lt (pc := 3) (tgt := 16) (by decide) dX7_isLetter_3 hW (fun hW => ?_) (fun hW => ?_)
  · refine fr_iconst (pc := 16) 0 (by decide) dX7_isLetter_16 ?_
    exact fr_zret (pc := 17) dX7_isLetter_17 rfl ⟨Nat.le_refl 0, Nat.le_refl 0⟩ ⟨rfl, hW⟩
  · refine fr_iload_n (pc := 6) 0 rfl rfl dX7_isLetter_6 ?_
    refine fr_bipush (pc := 7) 100 (by decide) dX7_isLetter_7 ?_
    refine fr_icmp_gt (pc := 9) (tgt := 16) (by decide) dX7_isLetter_9 hW (fun hW => ?_) (fun hW => ?_)
    · refine fr_iconst (pc := 16) 0 (by decide) dX7_isLetter_16 ?_
      exact fr_zret (pc := 17) dX7_isLetter_17 rfl ⟨Nat.le_refl 0, Nat.le_refl 0⟩ ⟨rfl, hW⟩
    · refine fr_iconst (pc := 12) 1 (by decide) dX7_isLetter_12 ?_
      refine fr_goto (pc := 13) (tgt := 17) (by decide) dX7_isLetter_13 ?_
      exact fr_zret (pc := 17) dX7_isLetter_17 rfl ⟨Nat.le_refl 0, Nat.le_refl 0⟩ ⟨rfl, hW⟩
set_option maxHeartbeats 4000000 in
set_option maxRecDepth 100000 in
theorem q_X7_takesColumn {g : GG} {σ : Hs} {post : Option Value → Hs → Prop} (r0 : Nat) (p0 : Int32) (hW : Do g M_X7_isLetter 0 0 [.int p0] σ (kI (fun i2 s1 => (¬ i2 = 0 → PF s1 r0 7 4 (.int (p0 - 97)) (fun s5 => Rc s5 r0 7 ∧ Do g M_X7_moves 0 0 [.ref r0, .int 2] s5 (kI (fun i7 s6 => (narrow .boolean (.int i7) = .int i7 ∧ post (some (.int i7)) s6))))) ∧ (i2 = 0 → post (some (.int 0)) s1)))) : Do g M_X7_takesColumn 0 0 [.ref r0, .int p0] σ post := by
  refine Do.of (by decide +kernel) (Nat.le_of_ble_eq_true rfl) ?_
  show Fr g M_X7_takesColumn (0, 0, 0, 0) [(0, .ref r0), (1, .int p0)] [] 0 σ post
  refine fr_iload_n (pc := 0) 1 rfl rfl dX7_takesColumn_0 ?_
  refine fr_callS_I (pc := 1) (As := [.int p0]) (st := []) wd_X7_isLetter w_687 ok_X7_isLetter (by decide) rfl (Nat.le_of_ble_eq_true rfl) dX7_takesColumn_1 ⟨Nat.le_refl 0, Nat.le_refl 0⟩ hW (fun i2 s1 hW => ?_)
  refine fr_if_ne (pc := 4) (tgt := 9) (by decide) dX7_takesColumn_4 hW (fun hW => ?_) (fun hW => ?_)
  · refine fr_aload_n (pc := 9) 0 rfl rfl dX7_takesColumn_9 ?_
    refine fr_iload_n (pc := 10) 1 rfl rfl dX7_takesColumn_10 ?_
    refine fr_bipush (pc := 11) 97 (by decide) dX7_takesColumn_11 ?_
    refine fr_isub (pc := 13) dX7_takesColumn_13 ?_
    refine fr_put (pc := 14) (T := TX7) (k := 4) kc_X7 (by decide) w_686 rfl rfl rfl dX7_takesColumn_14 hW (fun s5 hW => ?_)
    refine fr_aload_n (pc := 17) 0 rfl rfl dX7_takesColumn_17 ?_
    refine fr_iconst (pc := 18) 2 (by decide) dX7_takesColumn_18 ?_
    obtain ⟨hrc, hW⟩ := hW
    refine fr_callV_I (pc := 19) (As := [.int 2]) (st := []) wd_X7_moves w_688 ok_X7_moves (by decide) rfl (Nat.le_of_ble_eq_true rfl) dX7_takesColumn_19 ⟨Nat.le_refl 0, Nat.le_refl 0⟩ kc_X7 hrc hW (fun i7 s6 hW => ?_)
    exact fr_zret (pc := 22) dX7_takesColumn_22 rfl ⟨Nat.le_refl 0, Nat.le_refl 0⟩ hW
  · refine fr_iconst (pc := 7) 0 (by decide) dX7_takesColumn_7 ?_
    exact fr_zret (pc := 8) dX7_takesColumn_8 rfl ⟨Nat.le_refl 0, Nat.le_refl 0⟩ ⟨rfl, hW⟩
set_option maxHeartbeats 4000000 in
set_option maxRecDepth 100000 in
theorem q_X7_takesSign {g : GG} {σ : Hs} {post : Option Value → Hs → Prop} (r0 : Nat) (p0 : Int32) (hW : (p0 = 60 → PF σ r0 7 5 (.int p0) (fun s1 => Rc s1 r0 7 ∧ Do g M_X7_moves 0 0 [.ref r0, .int 3] s1 (kI (fun i3 s2 => (narrow .boolean (.int i3) = .int i3 ∧ post (some (.int i3)) s2))))) ∧ (¬ p0 = 60 → (p0 = 61 → PF σ r0 7 5 (.int p0) (fun s6 => Rc s6 r0 7 ∧ Do g M_X7_moves 0 0 [.ref r0, .int 3] s6 (kI (fun i8 s7 => (narrow .boolean (.int i8) = .int i8 ∧ post (some (.int i8)) s7))))) ∧ (¬ p0 = 61 → (p0 = 62 → PF σ r0 7 5 (.int p0) (fun s11 => Rc s11 r0 7 ∧ Do g M_X7_moves 0 0 [.ref r0, .int 3] s11 (kI (fun i13 s12 => (narrow .boolean (.int i13) = .int i13 ∧ post (some (.int i13)) s12))))) ∧ (¬ p0 = 62 → post (some (.int 0)) σ)))) : Do g M_X7_takesSign 0 0 [.ref r0, .int p0] σ post := by
  refine Do.of (by decide +kernel) (Nat.le_of_ble_eq_true rfl) ?_
  show Fr g M_X7_takesSign (0, 0, 0, 0) [(0, .ref r0), (1, .int p0)] [] 0 σ post
  refine fr_iload_n (pc := 0) 1 rfl rfl dX7_takesSign_0 ?_
  refine fr_bipush (pc := 1) 60 (by decide) dX7_takesSign_1 ?_
  refine fr_icmp_eq (pc := 3) (tgt := 20) (by decide) dX7_takesSign_3 hW (fun hW => ?_) (fun hW => ?_)
  · refine fr_aload_n (pc := 20) 0 rfl rfl dX7_takesSign_20 ?_
    refine fr_iload_n (pc := 21) 1 rfl rfl dX7_takesSign_21 ?_
    refine fr_put (pc := 22) (T := TX7) (k := 5) kc_X7 (by decide) w_689 rfl rfl rfl dX7_takesSign_22 hW (fun s1 hW => ?_)
    refine fr_aload_n (pc := 25) 0 rfl rfl dX7_takesSign_25 ?_
    refine fr_iconst (pc := 26) 3 (by decide) dX7_takesSign_26 ?_
    obtain ⟨hrc, hW⟩ := hW
    refine fr_callV_I (pc := 27) (As := [.int 3]) (st := []) wd_X7_moves w_688 ok_X7_moves (by decide) rfl (Nat.le_of_ble_eq_true rfl) dX7_takesSign_27 ⟨Nat.le_refl 0, Nat.le_refl 0⟩ kc_X7 hrc hW (fun i3 s2 hW => ?_)
    exact fr_zret (pc := 30) dX7_takesSign_30 rfl ⟨Nat.le_refl 0, Nat.le_refl 0⟩ hW
  · refine fr_iload_n (pc := 6) 1 rfl rfl dX7_takesSign_6 ?_
    refine fr_bipush (pc := 7) 61 (by decide) dX7_takesSign_7 ?_
    refine fr_icmp_eq (pc := 9) (tgt := 20) (by decide) dX7_takesSign_9 hW (fun hW => ?_) (fun hW => ?_)
    · refine fr_aload_n (pc := 20) 0 rfl rfl dX7_takesSign_20 ?_
      refine fr_iload_n (pc := 21) 1 rfl rfl dX7_takesSign_21 ?_
      refine fr_put (pc := 22) (T := TX7) (k := 5) kc_X7 (by decide) w_689 rfl rfl rfl dX7_takesSign_22 hW (fun s6 hW => ?_)
      refine fr_aload_n (pc := 25) 0 rfl rfl dX7_takesSign_25 ?_
      refine fr_iconst (pc := 26) 3 (by decide) dX7_takesSign_26 ?_
      obtain ⟨hrc, hW⟩ := hW
      refine fr_callV_I (pc := 27) (As := [.int 3]) (st := []) wd_X7_moves w_688 ok_X7_moves (by decide) rfl (Nat.le_of_ble_eq_true rfl) dX7_takesSign_27 ⟨Nat.le_refl 0, Nat.le_refl 0⟩ kc_X7 hrc hW (fun i8 s7 hW => ?_)
      exact fr_zret (pc := 30) dX7_takesSign_30 rfl ⟨Nat.le_refl 0, Nat.le_refl 0⟩ hW
    · refine fr_iload_n (pc := 12) 1 rfl rfl dX7_takesSign_12 ?_
      refine fr_bipush (pc := 13) 62 (by decide) dX7_takesSign_13 ?_
      refine fr_icmp_eq (pc := 15) (tgt := 20) (by decide) dX7_takesSign_15 hW (fun hW => ?_) (fun hW => ?_)
      · refine fr_aload_n (pc := 20) 0 rfl rfl dX7_takesSign_20 ?_
        refine fr_iload_n (pc := 21) 1 rfl rfl dX7_takesSign_21 ?_
        refine fr_put (pc := 22) (T := TX7) (k := 5) kc_X7 (by decide) w_689 rfl rfl rfl dX7_takesSign_22 hW (fun s11 hW => ?_)
        refine fr_aload_n (pc := 25) 0 rfl rfl dX7_takesSign_25 ?_
        refine fr_iconst (pc := 26) 3 (by decide) dX7_takesSign_26 ?_
        obtain ⟨hrc, hW⟩ := hW
        refine fr_callV_I (pc := 27) (As := [.int 3]) (st := []) wd_X7_moves w_688 ok_X7_moves (by decide) rfl (Nat.le_of_ble_eq_true rfl) dX7_takesSign_27 ⟨Nat.le_refl 0, Nat.le_refl 0⟩ kc_X7 hrc hW (fun i13 s12 hW => ?_)
        exact fr_zret (pc := 30) dX7_takesSign_30 rfl ⟨Nat.le_refl 0, Nat.le_refl 0⟩ hW
      · refine fr_iconst (pc := 18) 0 (by decide) dX7_takesSign_18 ?_
        exact fr_zret (pc := 19) dX7_takesSign_19 rfl ⟨Nat.le_refl 0, Nat.le_refl 0⟩ ⟨rfl, hW⟩
set_option maxHeartbeats 4000000 in
set_option maxRecDepth 100000 in
theorem q_X7_takesDigit {g : GG} {σ : Hs} {post : Option Value → Hs → Prop} (r0 : Nat) (p0 : Int32) (p1 : Int32) (p2 : Int32) (hW : (p0 < 48 → post (some (.int 0)) σ) ∧ (¬ p0 < 48 → (p0 ≤ 57 → PF σ r0 7 6 (.int ((p1 + p0) - 48)) (fun s1 => Rc s1 r0 7 ∧ Do g M_X7_moves 0 0 [.ref r0, .int p2] s1 (kI (fun i3 s2 => (narrow .boolean (.int i3) = .int i3 ∧ post (some (.int i3)) s2))))) ∧ (¬ p0 ≤ 57 → post (some (.int 0)) σ))) : Do g M_X7_takesDigit 0 0 [.ref r0, .int p0, .int p1, .int p2] σ post := by
  refine Do.of (by decide +kernel) (Nat.le_of_ble_eq_true rfl) ?_
  show Fr g M_X7_takesDigit (0, 0, 0, 0) [(0, .ref r0), (1, .int p0), (2, .int p1), (3, .int p2)] [] 0 σ post
  refine fr_iload_n (pc := 0) 1 rfl rfl dX7_takesDigit_0 ?_
  refine fr_bipush (pc := 1) 48 (by decide) dX7_takesDigit_1 ?_
  refine fr_icmp_lt (pc := 3) (tgt := 12) (by decide) dX7_takesDigit_3 hW (fun hW => ?_) (fun hW => ?_)
  · refine fr_iconst (pc := 12) 0 (by decide) dX7_takesDigit_12 ?_
    exact fr_zret (pc := 13) dX7_takesDigit_13 rfl ⟨Nat.le_refl 0, Nat.le_refl 0⟩ ⟨rfl, hW⟩
  · refine fr_iload_n (pc := 6) 1 rfl rfl dX7_takesDigit_6 ?_
    refine fr_bipush (pc := 7) 57 (by decide) dX7_takesDigit_7 ?_
    refine fr_icmp_le (pc := 9) (tgt := 14) (by decide) dX7_takesDigit_9 hW (fun hW => ?_) (fun hW => ?_)
    · refine fr_aload_n (pc := 14) 0 rfl rfl dX7_takesDigit_14 ?_
      refine fr_iload_n (pc := 15) 2 rfl rfl dX7_takesDigit_15 ?_
      refine fr_iload_n (pc := 16) 1 rfl rfl dX7_takesDigit_16 ?_
      refine fr_iadd (pc := 17) dX7_takesDigit_17 ?_
      refine fr_bipush (pc := 18) 48 (by decide) dX7_takesDigit_18 ?_
      refine fr_isub (pc := 20) dX7_takesDigit_20 ?_
      refine fr_put (pc := 21) (T := TX7) (k := 6) kc_X7 (by decide) w_690 rfl rfl rfl dX7_takesDigit_21 hW (fun s1 hW => ?_)
      refine fr_aload_n (pc := 24) 0 rfl rfl dX7_takesDigit_24 ?_
      refine fr_iload_n (pc := 25) 3 rfl rfl dX7_takesDigit_25 ?_
      obtain ⟨hrc, hW⟩ := hW
      refine fr_callV_I (pc := 26) (As := [.int p2]) (st := []) wd_X7_moves w_688 ok_X7_moves (by decide) rfl (Nat.le_of_ble_eq_true rfl) dX7_takesDigit_26 ⟨Nat.le_refl 0, Nat.le_refl 0⟩ kc_X7 hrc hW (fun i3 s2 hW => ?_)
      exact fr_zret (pc := 29) dX7_takesDigit_29 rfl ⟨Nat.le_refl 0, Nat.le_refl 0⟩ hW
    · refine fr_iconst (pc := 12) 0 (by decide) dX7_takesDigit_12 ?_
      exact fr_zret (pc := 13) dX7_takesDigit_13 rfl ⟨Nat.le_refl 0, Nat.le_refl 0⟩ ⟨rfl, hW⟩
set_option maxHeartbeats 4000000 in
set_option maxRecDepth 100000 in
theorem q_X11_without {g : GG} {σ : Hs} {post : Option Value → Hs → Prop} (p0 : Int32) (p1 : Int32) (hW : post (some (.int (p0 &&& (((1 : Int32) <<< (p1 &&& 31)) ^^^ (-1))))) σ) : Do g M_X11_without 0 0 [.int p0, .int p1] σ post := by
  refine Do.of (by decide +kernel) (Nat.le_of_ble_eq_true rfl) ?_
  show Fr g M_X11_without (0, 0, 0, 0) [(0, .int p0), (1, .int p1)] [] 0 σ post
  refine fr_iload_n (pc := 0) 0 rfl rfl dX11_without_0 ?_
  refine fr_iconst (pc := 1) 1 (by decide) dX11_without_1 ?_
  refine fr_iload_n (pc := 2) 1 rfl rfl dX11_without_2 ?_
  refine fr_ishl (pc := 3) dX11_without_3 ?_
  refine fr_iconst (pc := 4) (-1) (by decide) dX11_without_4 ?_
  refine fr_ixor (pc := 5) dX11_without_5 ?_
  refine fr_iand (pc := 6) dX11_without_6 ?_
  exact fr_iret (pc := 7) dX11_without_7 rfl ⟨Nat.le_refl 0, Nat.le_refl 0⟩ hW
def J_X6_narrow_80 (g : GG) (post : Option Value → Hs → Prop) (σ : Hs) (a0 : Nat) (v1 : Int32) (v4 : Int32) (v5 : Int32) (t0 : Int32) (t1 : Nat) : Prop := Fr g M_X6_narrow (0, 0, 0, 0) [(0, .ref a0), (1, .int v1), (4, .int v4), (5, .int v5)] [.int t0, .ref t1] 80 σ post
set_option maxHeartbeats 4000000 in
set_option maxRecDepth 100000 in
theorem q_X6_narrow {g : GG} {σ : Hs} {post : Option Value → Hs → Prop} (r0 : Nat) (p0 : Int32) (p1 : Int32) (p2 : Int32) (hW : FR σ r0 6 0 (fun r1 => Rc σ r1 1 ∧ Do g M_X1_at 0 0 [.ref r1, .int p0] σ (kI (fun i3 s2 => FR s2 r0 6 1 (fun r6 => Rc s2 r6 1 ∧ Do g M_X1_at 0 0 [.ref r6, .int p0] s2 (kI (fun i8 s7 => FR s7 r0 6 0 (fun r11 => Rc s7 r11 1 ∧ Do g M_X1_put 0 0 [.ref r11, .int p0, .int (if i3 < p1 then p1 else i3)] s7 (kV (fun s12 => FR s12 r0 6 1 (fun r13 => Rc s12 r13 1 ∧ Do g M_X1_put 0 0 [.ref r13, .int p0, .int (if p2 < i8 then p2 else i8)] s12 (kV (fun s14 => (¬ (if i3 < p1 then p1 else i3) = 0 → FI s14 r0 6 2 (fun i15 => Do g M_X11_with 0 0 [.int i15, .int p0] s14 (kI (fun i17 s16 => J_X6_narrow_80 g post s16 r0 p0 ((if i3 < p1 then p1 else i3)) ((if p2 < i8 then p2 else i8)) i17 r0)))) ∧ ((if i3 < p1 then p1 else i3) = 0 → ((if p2 < i8 then p2 else i8) = 99 → FI s14 r0 6 2 (fun i20 => Do g M_X11_without 0 0 [.int i20, .int p0] s14 (kI (fun i22 s21 => J_X6_narrow_80 g post s21 r0 p0 ((if i3 < p1 then p1 else i3)) ((if p2 < i8 then p2 else i8)) i22 r0)))) ∧ (¬ (if p2 < i8 then p2 else i8) = 99 → FI s14 r0 6 2 (fun i25 => Do g M_X11_with 0 0 [.int i25, .int p0] s14 (kI (fun i27 s26 => J_X6_narrow_80 g post s26 r0 p0 ((if i3 < p1 then p1 else i3)) ((if p2 < i8 then p2 else i8)) i27 r0)))))))))))))))))) : Do g M_X6_narrow 0 0 [.ref r0, .int p0, .int p1, .int p2] σ post := by
  refine Do.of (by decide +kernel) (Nat.le_of_ble_eq_true rfl) ?_
  show Fr g M_X6_narrow (0, 0, 0, 0) [(0, .ref r0), (1, .int p0), (2, .int p1), (3, .int p2)] [] 0 σ post
  refine fr_aload_n (pc := 0) 0 rfl rfl dX6_narrow_0 ?_
  refine fr_getR (pc := 1) (T := TX6) (k := 0) kc_X6 (by decide) w_507 dX6_narrow_1 hW (fun r1 hW => ?_)
  refine fr_iload_n (pc := 4) 1 rfl rfl dX6_narrow_4 ?_
  obtain ⟨hrc, hW⟩ := hW
  refine fr_callV_I (pc := 5) (As := [.int p0]) (st := []) wd_X1_at w_691 ok_X1_at (by decide) rfl (Nat.le_of_ble_eq_true rfl) dX6_narrow_5 ⟨Nat.le_refl 0, Nat.le_refl 0⟩ kc_X1 hrc hW (fun i3 s2 hW => ?_)
  refine fr_iload_n (pc := 8) 2 rfl rfl dX6_narrow_8 ?_
  refine fr_mmax (pc := 9) ⟨w_692, w_693, w_644, w_694⟩ (by decide) (Nat.le_of_ble_eq_true rfl) dX6_narrow_9 ⟨Nat.le_refl 0, Nat.le_refl 0⟩ ?_
  refine fr_istore (pc := 12) (lv' := [(4, .int (if i3 < p1 then p1 else i3)), (0, .ref r0), (1, .int p0), (2, .int p1), (3, .int p2)]) (by decide) rfl dX6_narrow_12 ?_
  refine fr_aload_n (pc := 14) 1 rfl rfl dX6_narrow_14 ?_
  refine fr_getR (pc := 15) (T := TX6) (k := 1) kc_X6 (by decide) w_508 dX6_narrow_15 hW (fun r6 hW => ?_)
  refine fr_iload_n (pc := 18) 2 rfl rfl dX6_narrow_18 ?_
  obtain ⟨hrc, hW⟩ := hW
  refine fr_callV_I (pc := 19) (As := [.int p0]) (st := []) wd_X1_at w_691 ok_X1_at (by decide) rfl (Nat.le_of_ble_eq_true rfl) dX6_narrow_19 ⟨Nat.le_refl 0, Nat.le_refl 0⟩ kc_X1 hrc hW (fun i8 s7 hW => ?_)
  refine fr_iload_n (pc := 22) 4 rfl rfl dX6_narrow_22 ?_
  refine fr_mmin (pc := 23) ⟨w_695, w_643, w_644, w_645⟩ (by decide) (Nat.le_of_ble_eq_true rfl) dX6_narrow_23 ⟨Nat.le_refl 0, Nat.le_refl 0⟩ ?_
  refine fr_istore (pc := 26) (lv' := [(5, .int (if p2 < i8 then p2 else i8)), (4, .int (if i3 < p1 then p1 else i3)), (0, .ref r0), (1, .int p0), (2, .int p1), (3, .int p2)]) (by decide) rfl dX6_narrow_26 ?_
  refine fr_aload_n (pc := 28) 2 rfl rfl dX6_narrow_28 ?_
  refine fr_getR (pc := 29) (T := TX6) (k := 0) kc_X6 (by decide) w_507 dX6_narrow_29 hW (fun r11 hW => ?_)
  refine fr_iload_n (pc := 32) 3 rfl rfl dX6_narrow_32 ?_
  refine fr_iload (pc := 33) 1 rfl dX6_narrow_33 ?_
  obtain ⟨hrc, hW⟩ := hW
  refine fr_callV_V (pc := 35) (As := [.int p0, .int (if i3 < p1 then p1 else i3)]) (st := []) wd_X1_put w_684 ok_X1_put (by decide) rfl (Nat.le_of_ble_eq_true rfl) dX6_narrow_35 ⟨Nat.le_refl 0, Nat.le_refl 0⟩ kc_X1 hrc hW (fun s12 hW => ?_)
  refine fr_aload_n (pc := 38) 2 rfl rfl dX6_narrow_38 ?_
  refine fr_getR (pc := 39) (T := TX6) (k := 1) kc_X6 (by decide) w_508 dX6_narrow_39 hW (fun r13 hW => ?_)
  refine fr_iload_n (pc := 42) 3 rfl rfl dX6_narrow_42 ?_
  refine fr_iload (pc := 43) 0 rfl dX6_narrow_43 ?_
  obtain ⟨hrc, hW⟩ := hW
  refine fr_callV_V (pc := 45) (As := [.int p0, .int (if p2 < i8 then p2 else i8)]) (st := []) wd_X1_put w_684 ok_X1_put (by decide) rfl (Nat.le_of_ble_eq_true rfl) dX6_narrow_45 ⟨Nat.le_refl 0, Nat.le_refl 0⟩ kc_X1 hrc hW (fun s14 hW => ?_)
  refine fr_aload_n (pc := 48) 2 rfl rfl dX6_narrow_48 ?_
  refine fr_iload (pc := 49) 1 rfl dX6_narrow_49 ?_
  refine fr_if_ne (pc := 51) (tgt := 61) (by decide) dX6_narrow_51 hW (fun hW => ?_) (fun hW => ?_)
  · refine fr_aload_n (pc := 61) 2 rfl rfl dX6_narrow_61 ?_
    refine fr_getI (pc := 62) (T := TX6) (k := 2) kc_X6 (by decide) w_679 dX6_narrow_62 hW (fun i15 hW => ?_)
    refine fr_iload_n (pc := 65) 3 rfl rfl dX6_narrow_65 ?_
    refine fr_callSN_I (pc := 66) (As := [.int i15, .int p0]) (st := [.ref r0]) wd_X11_with ⟨RX11, by decide +kernel⟩ ok_X11_with (by decide) rfl (Nat.le_of_ble_eq_true rfl) dX6_narrow_66 ⟨Nat.le_refl 0, Nat.le_refl 0⟩ hW (fun i17 s16 hW => ?_)
    refine fr_goto (pc := 69) (tgt := 80) (by decide) dX6_narrow_69 ?_
    exact fr_sub [2, 3, 1, 0] rfl hW
  · refine fr_iload (pc := 54) 0 rfl dX6_narrow_54 ?_
    refine fr_bipush (pc := 56) 99 (by decide) dX6_narrow_56 ?_
    refine fr_icmp_eq (pc := 58) (tgt := 72) (by decide) dX6_narrow_58 hW (fun hW => ?_) (fun hW => ?_)
    · refine fr_aload_n (pc := 72) 2 rfl rfl dX6_narrow_72 ?_
      refine fr_getI (pc := 73) (T := TX6) (k := 2) kc_X6 (by decide) w_679 dX6_narrow_73 hW (fun i20 hW => ?_)
      refine fr_iload_n (pc := 76) 3 rfl rfl dX6_narrow_76 ?_
      refine fr_callSN_I (pc := 77) (As := [.int i20, .int p0]) (st := [.ref r0]) wd_X11_without ⟨RX11, by decide +kernel⟩ ok_X11_without (by decide) rfl (Nat.le_of_ble_eq_true rfl) dX6_narrow_77 ⟨Nat.le_refl 0, Nat.le_refl 0⟩ hW (fun i22 s21 hW => ?_)
      exact fr_sub [2, 3, 1, 0] rfl hW
    · refine fr_aload_n (pc := 61) 2 rfl rfl dX6_narrow_61 ?_
      refine fr_getI (pc := 62) (T := TX6) (k := 2) kc_X6 (by decide) w_679 dX6_narrow_62 hW (fun i25 hW => ?_)
      refine fr_iload_n (pc := 65) 3 rfl rfl dX6_narrow_65 ?_
      refine fr_callSN_I (pc := 66) (As := [.int i25, .int p0]) (st := [.ref r0]) wd_X11_with ⟨RX11, by decide +kernel⟩ ok_X11_with (by decide) rfl (Nat.le_of_ble_eq_true rfl) dX6_narrow_66 ⟨Nat.le_refl 0, Nat.le_refl 0⟩ hW (fun i27 s26 hW => ?_)
      refine fr_goto (pc := 69) (tgt := 80) (by decide) dX6_narrow_69 ?_
      exact fr_sub [2, 3, 1, 0] rfl hW
set_option maxHeartbeats 4000000 in
set_option maxRecDepth 100000 in
theorem q_X6_narrow_80 {g : GG} {σ : Hs} {post : Option Value → Hs → Prop} (a0 : Nat) (v1 : Int32) (v4 : Int32) (v5 : Int32) (t0 : Int32) (t1 : Nat) (hW : PF σ t1 6 2 (.int t0) (fun s30 => (¬ v4 = v5 → FI s30 a0 6 3 (fun i31 => Do g M_X11_without 0 0 [.int i31, .int v1] s30 (kI (fun i33 s32 => PF s32 a0 6 3 (.int i33) (fun s36 => post none s36))))) ∧ (v4 = v5 → FI s30 a0 6 3 (fun i37 => Do g M_X11_with 0 0 [.int i37, .int v1] s30 (kI (fun i39 s38 => PF s38 a0 6 3 (.int i39) (fun s42 => post none s42))))))) : J_X6_narrow_80 g post σ a0 v1 v4 v5 t0 t1 := by
  show Fr g M_X6_narrow (0, 0, 0, 0) [(0, .ref a0), (1, .int v1), (4, .int v4), (5, .int v5)] [.int t0, .ref t1] 80 σ post
  refine fr_put (pc := 80) (T := TX6) (k := 2) kc_X6 (by decide) w_679 rfl rfl rfl dX6_narrow_80 hW (fun s30 hW => ?_)
  refine fr_aload_n (pc := 83) 0 rfl rfl dX6_narrow_83 ?_
  refine fr_iload (pc := 84) 2 rfl dX6_narrow_84 ?_
  refine fr_iload (pc := 86) 3 rfl dX6_narrow_86 ?_
  refine fr_icmp_ne (pc := 88) (tgt := 102) (by decide) dX6_narrow_88 hW (fun hW => ?_) (fun hW => ?_)
  · refine fr_aload_n (pc := 102) 0 rfl rfl dX6_narrow_102 ?_
    refine fr_getI (pc := 103) (T := TX6) (k := 3) kc_X6 (by decide) w_680 dX6_narrow_103 hW (fun i31 hW => ?_)
    refine fr_iload_n (pc := 106) 1 rfl rfl dX6_narrow_106 ?_
    refine fr_callSN_I (pc := 107) (As := [.int i31, .int v1]) (st := [.ref a0]) wd_X11_without ⟨RX11, by decide +kernel⟩ ok_X11_without (by decide) rfl (Nat.le_of_ble_eq_true rfl) dX6_narrow_107 ⟨Nat.le_refl 0, Nat.le_refl 0⟩ hW (fun i33 s32 hW => ?_)
    refine fr_put (pc := 110) (T := TX6) (k := 3) kc_X6 (by decide) w_680 rfl rfl rfl dX6_narrow_110 hW (fun s36 hW => ?_)
    exact fr_ret (pc := 113) dX6_narrow_113 rfl ⟨Nat.le_refl 0, Nat.le_refl 0⟩ hW
  · refine fr_aload_n (pc := 91) 0 rfl rfl dX6_narrow_91 ?_
    refine fr_getI (pc := 92) (T := TX6) (k := 3) kc_X6 (by decide) w_680 dX6_narrow_92 hW (fun i37 hW => ?_)
    refine fr_iload_n (pc := 95) 1 rfl rfl dX6_narrow_95 ?_
    refine fr_callSN_I (pc := 96) (As := [.int i37, .int v1]) (st := [.ref a0]) wd_X11_with ⟨RX11, by decide +kernel⟩ ok_X11_with (by decide) rfl (Nat.le_of_ble_eq_true rfl) dX6_narrow_96 ⟨Nat.le_refl 0, Nat.le_refl 0⟩ hW (fun i39 s38 hW => ?_)
    refine fr_goto (pc := 99) (tgt := 110) (by decide) dX6_narrow_99 ?_
    refine fr_put (pc := 110) (T := TX6) (k := 3) kc_X6 (by decide) w_680 rfl rfl rfl dX6_narrow_110 hW (fun s42 hW => ?_)
    exact fr_ret (pc := 113) dX6_narrow_113 rfl ⟨Nat.le_refl 0, Nat.le_refl 0⟩ hW
def J_X7_endsCondition_14 (g : GG) (post : Option Value → Hs → Prop) (σ : Hs) (a0 : Nat) (v1 : Int32) : Prop := Fr g M_X7_endsCondition (0, 0, 0, 0) [(0, .ref a0), (1, .int v1)] [] 14 σ post
set_option maxHeartbeats 4000000 in
set_option maxRecDepth 100000 in
theorem q_X7_endsCondition {g : GG} {σ : Hs} {post : Option Value → Hs → Prop} (r0 : Nat) (p0 : Int32) (hW : (p0 = 38 → J_X7_endsCondition_14 g post σ r0 p0 ) ∧ (¬ p0 = 38 → (p0 = 58 → J_X7_endsCondition_14 g post σ r0 p0 ) ∧ (¬ p0 = 58 → post (some (.int 0)) σ))) : Do g M_X7_endsCondition 0 0 [.ref r0, .int p0] σ post := by
  refine Do.of (by decide +kernel) (Nat.le_of_ble_eq_true rfl) ?_
  show Fr g M_X7_endsCondition (0, 0, 0, 0) [(0, .ref r0), (1, .int p0)] [] 0 σ post
  refine fr_iload_n (pc := 0) 1 rfl rfl dX7_endsCondition_0 ?_
  refine fr_bipush (pc := 1) 38 (by decide) dX7_endsCondition_1 ?_
  refine fr_icmp_eq (pc := 3) (tgt := 14) (by decide) dX7_endsCondition_3 hW (fun hW => ?_) (fun hW => ?_)
  · exact fr_sub [0, 1] rfl hW
  · refine fr_iload_n (pc := 6) 1 rfl rfl dX7_endsCondition_6 ?_
    refine fr_bipush (pc := 7) 58 (by decide) dX7_endsCondition_7 ?_
    refine fr_icmp_eq (pc := 9) (tgt := 14) (by decide) dX7_endsCondition_9 hW (fun hW => ?_) (fun hW => ?_)
    · exact fr_sub [0, 1] rfl hW
    · refine fr_iconst (pc := 12) 0 (by decide) dX7_endsCondition_12 ?_
      exact fr_zret (pc := 13) dX7_endsCondition_13 rfl ⟨Nat.le_refl 0, Nat.le_refl 0⟩ ⟨rfl, hW⟩
set_option maxHeartbeats 4000000 in
set_option maxRecDepth 100000 in
theorem q_X7_endsCondition_14 {g : GG} {σ : Hs} {post : Option Value → Hs → Prop} (a0 : Nat) (v1 : Int32) (hW : FI σ a0 7 5 (fun i1 => (¬ i1 = 60 → FI σ a0 7 5 (fun i2 => (¬ i2 = 62 → FR σ a0 7 2 (fun r3 => FI σ a0 7 4 (fun i4 => FI σ a0 7 6 (fun i5 => FI σ a0 7 6 (fun i6 => Rc σ r3 6 ∧ Do g M_X6_narrow 0 0 [.ref r3, .int i4, .int i5, .int i6] σ (kV (fun s7 => (¬ v1 = 38 → Rc s7 a0 7 ∧ Do g M_X7_moves 0 0 [.ref a0, .int 6] s7 (kI (fun i9 s8 => (narrow .boolean (.int i9) = .int i9 ∧ post (some (.int i9)) s8)))) ∧ (v1 = 38 → Rc s7 a0 7 ∧ Do g M_X7_moves 0 0 [.ref a0, .int 1] s7 (kI (fun i13 s12 => (narrow .boolean (.int i13) = .int i13 ∧ post (some (.int i13)) s12))))))))))) ∧ (i2 = 62 → FR σ a0 7 2 (fun r16 => FI σ a0 7 4 (fun i17 => FI σ a0 7 6 (fun i18 => Rc σ r16 6 ∧ Do g M_X6_narrow 0 0 [.ref r16, .int i17, .int (i18 + 1), .int 99] σ (kV (fun s19 => (¬ v1 = 38 → Rc s19 a0 7 ∧ Do g M_X7_moves 0 0 [.ref a0, .int 6] s19 (kI (fun i21 s20 => (narrow .boolean (.int i21) = .int i21 ∧ post (some (.int i21)) s20)))) ∧ (v1 = 38 → Rc s19 a0 7 ∧ Do g M_X7_moves 0 0 [.ref a0, .int 1] s19 (kI (fun i25 s24 => (narrow .boolean (.int i25) = .int i25 ∧ post (some (.int i25)) s24)))))))))))) ∧ (i1 = 60 → FR σ a0 7 2 (fun r28 => FI σ a0 7 4 (fun i29 => FI σ a0 7 6 (fun i30 => Rc σ r28 6 ∧ Do g M_X6_narrow 0 0 [.ref r28, .int i29, .int 0, .int (i30 - 1)] σ (kV (fun s31 => (¬ v1 = 38 → Rc s31 a0 7 ∧ Do g M_X7_moves 0 0 [.ref a0, .int 6] s31 (kI (fun i33 s32 => (narrow .boolean (.int i33) = .int i33 ∧ post (some (.int i33)) s32)))) ∧ (v1 = 38 → Rc s31 a0 7 ∧ Do g M_X7_moves 0 0 [.ref a0, .int 1] s31 (kI (fun i37 s36 => (narrow .boolean (.int i37) = .int i37 ∧ post (some (.int i37)) s36)))))))))))) : J_X7_endsCondition_14 g post σ a0 v1 := by
  show Fr g M_X7_endsCondition (0, 0, 0, 0) [(0, .ref a0), (1, .int v1)] [] 14 σ post
  refine fr_aload_n (pc := 14) 0 rfl rfl dX7_endsCondition_14 ?_
  refine fr_getI (pc := 15) (T := TX7) (k := 5) kc_X7 (by decide) w_689 dX7_endsCondition_15 hW (fun i1 hW => ?_)
  refine fr_bipush (pc := 18) 60 (by decide) dX7_endsCondition_18 ?_
  refine fr_icmp_ne (pc := 20) (tgt := 44) (by decide) dX7_endsCondition_20 hW (fun hW => ?_) (fun hW => ?_)
  · refine fr_aload_n (pc := 44) 0 rfl rfl dX7_endsCondition_44 ?_
    refine fr_getI (pc := 45) (T := TX7) (k := 5) kc_X7 (by decide) w_689 dX7_endsCondition_45 hW (fun i2 hW => ?_)
    refine fr_bipush (pc := 48) 62 (by decide) dX7_endsCondition_48 ?_
    refine fr_icmp_ne (pc := 50) (tgt := 75) (by decide) dX7_endsCondition_50 hW (fun hW => ?_) (fun hW => ?_)
    · refine fr_aload_n (pc := 75) 0 rfl rfl dX7_endsCondition_75 ?_
      refine fr_getR (pc := 76) (T := TX7) (k := 2) kc_X7 (by decide) w_515 dX7_endsCondition_76 hW (fun r3 hW => ?_)
      refine fr_aload_n (pc := 79) 0 rfl rfl dX7_endsCondition_79 ?_
      refine fr_getI (pc := 80) (T := TX7) (k := 4) kc_X7 (by decide) w_686 dX7_endsCondition_80 hW (fun i4 hW => ?_)
      refine fr_aload_n (pc := 83) 0 rfl rfl dX7_endsCondition_83 ?_
      refine fr_getI (pc := 84) (T := TX7) (k := 6) kc_X7 (by decide) w_690 dX7_endsCondition_84 hW (fun i5 hW => ?_)
      refine fr_aload_n (pc := 87) 0 rfl rfl dX7_endsCondition_87 ?_
      refine fr_getI (pc := 88) (T := TX7) (k := 6) kc_X7 (by decide) w_690 dX7_endsCondition_88 hW (fun i6 hW => ?_)
      obtain ⟨hrc, hW⟩ := hW
      refine fr_callV_V (pc := 91) (As := [.int i4, .int i5, .int i6]) (st := []) wd_X6_narrow w_696 ok_X6_narrow (by decide) rfl (Nat.le_of_ble_eq_true rfl) dX7_endsCondition_91 ⟨Nat.le_refl 0, Nat.le_refl 0⟩ kc_X6 hrc hW (fun s7 hW => ?_)
      refine fr_aload_n (pc := 94) 0 rfl rfl dX7_endsCondition_94 ?_
      refine fr_iload_n (pc := 95) 1 rfl rfl dX7_endsCondition_95 ?_
      refine fr_bipush (pc := 96) 38 (by decide) dX7_endsCondition_96 ?_
      refine fr_icmp_ne (pc := 98) (tgt := 105) (by decide) dX7_endsCondition_98 hW (fun hW => ?_) (fun hW => ?_)
      · refine fr_bipush (pc := 105) 6 (by decide) dX7_endsCondition_105 ?_
        obtain ⟨hrc, hW⟩ := hW
        refine fr_callV_I (pc := 107) (As := [.int 6]) (st := []) wd_X7_moves w_688 ok_X7_moves (by decide) rfl (Nat.le_of_ble_eq_true rfl) dX7_endsCondition_107 ⟨Nat.le_refl 0, Nat.le_refl 0⟩ kc_X7 hrc hW (fun i9 s8 hW => ?_)
        exact fr_zret (pc := 110) dX7_endsCondition_110 rfl ⟨Nat.le_refl 0, Nat.le_refl 0⟩ hW
      · refine fr_iconst (pc := 101) 1 (by decide) dX7_endsCondition_101 ?_
        refine fr_goto (pc := 102) (tgt := 107) (by decide) dX7_endsCondition_102 ?_
        obtain ⟨hrc, hW⟩ := hW
        refine fr_callV_I (pc := 107) (As := [.int 1]) (st := []) wd_X7_moves w_688 ok_X7_moves (by decide) rfl (Nat.le_of_ble_eq_true rfl) dX7_endsCondition_107 ⟨Nat.le_refl 0, Nat.le_refl 0⟩ kc_X7 hrc hW (fun i13 s12 hW => ?_)
        exact fr_zret (pc := 110) dX7_endsCondition_110 rfl ⟨Nat.le_refl 0, Nat.le_refl 0⟩ hW
    · refine fr_aload_n (pc := 53) 0 rfl rfl dX7_endsCondition_53 ?_
      refine fr_getR (pc := 54) (T := TX7) (k := 2) kc_X7 (by decide) w_515 dX7_endsCondition_54 hW (fun r16 hW => ?_)
      refine fr_aload_n (pc := 57) 0 rfl rfl dX7_endsCondition_57 ?_
      refine fr_getI (pc := 58) (T := TX7) (k := 4) kc_X7 (by decide) w_686 dX7_endsCondition_58 hW (fun i17 hW => ?_)
      refine fr_aload_n (pc := 61) 0 rfl rfl dX7_endsCondition_61 ?_
      refine fr_getI (pc := 62) (T := TX7) (k := 6) kc_X7 (by decide) w_690 dX7_endsCondition_62 hW (fun i18 hW => ?_)
      refine fr_iconst (pc := 65) 1 (by decide) dX7_endsCondition_65 ?_
      refine fr_iadd (pc := 66) dX7_endsCondition_66 ?_
      refine fr_bipush (pc := 67) 99 (by decide) dX7_endsCondition_67 ?_
      obtain ⟨hrc, hW⟩ := hW
      refine fr_callV_V (pc := 69) (As := [.int i17, .int (i18 + 1), .int 99]) (st := []) wd_X6_narrow w_696 ok_X6_narrow (by decide) rfl (Nat.le_of_ble_eq_true rfl) dX7_endsCondition_69 ⟨Nat.le_refl 0, Nat.le_refl 0⟩ kc_X6 hrc hW (fun s19 hW => ?_)
      refine fr_goto (pc := 72) (tgt := 94) (by decide) dX7_endsCondition_72 ?_
      refine fr_aload_n (pc := 94) 0 rfl rfl dX7_endsCondition_94 ?_
      refine fr_iload_n (pc := 95) 1 rfl rfl dX7_endsCondition_95 ?_
      refine fr_bipush (pc := 96) 38 (by decide) dX7_endsCondition_96 ?_
      refine fr_icmp_ne (pc := 98) (tgt := 105) (by decide) dX7_endsCondition_98 hW (fun hW => ?_) (fun hW => ?_)
      · refine fr_bipush (pc := 105) 6 (by decide) dX7_endsCondition_105 ?_
        obtain ⟨hrc, hW⟩ := hW
        refine fr_callV_I (pc := 107) (As := [.int 6]) (st := []) wd_X7_moves w_688 ok_X7_moves (by decide) rfl (Nat.le_of_ble_eq_true rfl) dX7_endsCondition_107 ⟨Nat.le_refl 0, Nat.le_refl 0⟩ kc_X7 hrc hW (fun i21 s20 hW => ?_)
        exact fr_zret (pc := 110) dX7_endsCondition_110 rfl ⟨Nat.le_refl 0, Nat.le_refl 0⟩ hW
      · refine fr_iconst (pc := 101) 1 (by decide) dX7_endsCondition_101 ?_
        refine fr_goto (pc := 102) (tgt := 107) (by decide) dX7_endsCondition_102 ?_
        obtain ⟨hrc, hW⟩ := hW
        refine fr_callV_I (pc := 107) (As := [.int 1]) (st := []) wd_X7_moves w_688 ok_X7_moves (by decide) rfl (Nat.le_of_ble_eq_true rfl) dX7_endsCondition_107 ⟨Nat.le_refl 0, Nat.le_refl 0⟩ kc_X7 hrc hW (fun i25 s24 hW => ?_)
        exact fr_zret (pc := 110) dX7_endsCondition_110 rfl ⟨Nat.le_refl 0, Nat.le_refl 0⟩ hW
  · refine fr_aload_n (pc := 23) 0 rfl rfl dX7_endsCondition_23 ?_
    refine fr_getR (pc := 24) (T := TX7) (k := 2) kc_X7 (by decide) w_515 dX7_endsCondition_24 hW (fun r28 hW => ?_)
    refine fr_aload_n (pc := 27) 0 rfl rfl dX7_endsCondition_27 ?_
    refine fr_getI (pc := 28) (T := TX7) (k := 4) kc_X7 (by decide) w_686 dX7_endsCondition_28 hW (fun i29 hW => ?_)
    refine fr_iconst (pc := 31) 0 (by decide) dX7_endsCondition_31 ?_
    refine fr_aload_n (pc := 32) 0 rfl rfl dX7_endsCondition_32 ?_
    refine fr_getI (pc := 33) (T := TX7) (k := 6) kc_X7 (by decide) w_690 dX7_endsCondition_33 hW (fun i30 hW => ?_)
    refine fr_iconst (pc := 36) 1 (by decide) dX7_endsCondition_36 ?_
    refine fr_isub (pc := 37) dX7_endsCondition_37 ?_
    obtain ⟨hrc, hW⟩ := hW
    refine fr_callV_V (pc := 38) (As := [.int i29, .int 0, .int (i30 - 1)]) (st := []) wd_X6_narrow w_696 ok_X6_narrow (by decide) rfl (Nat.le_of_ble_eq_true rfl) dX7_endsCondition_38 ⟨Nat.le_refl 0, Nat.le_refl 0⟩ kc_X6 hrc hW (fun s31 hW => ?_)
    refine fr_goto (pc := 41) (tgt := 94) (by decide) dX7_endsCondition_41 ?_
    refine fr_aload_n (pc := 94) 0 rfl rfl dX7_endsCondition_94 ?_
    refine fr_iload_n (pc := 95) 1 rfl rfl dX7_endsCondition_95 ?_
    refine fr_bipush (pc := 96) 38 (by decide) dX7_endsCondition_96 ?_
    refine fr_icmp_ne (pc := 98) (tgt := 105) (by decide) dX7_endsCondition_98 hW (fun hW => ?_) (fun hW => ?_)
    · refine fr_bipush (pc := 105) 6 (by decide) dX7_endsCondition_105 ?_
      obtain ⟨hrc, hW⟩ := hW
      refine fr_callV_I (pc := 107) (As := [.int 6]) (st := []) wd_X7_moves w_688 ok_X7_moves (by decide) rfl (Nat.le_of_ble_eq_true rfl) dX7_endsCondition_107 ⟨Nat.le_refl 0, Nat.le_refl 0⟩ kc_X7 hrc hW (fun i33 s32 hW => ?_)
      exact fr_zret (pc := 110) dX7_endsCondition_110 rfl ⟨Nat.le_refl 0, Nat.le_refl 0⟩ hW
    · refine fr_iconst (pc := 101) 1 (by decide) dX7_endsCondition_101 ?_
      refine fr_goto (pc := 102) (tgt := 107) (by decide) dX7_endsCondition_102 ?_
      obtain ⟨hrc, hW⟩ := hW
      refine fr_callV_I (pc := 107) (As := [.int 1]) (st := []) wd_X7_moves w_688 ok_X7_moves (by decide) rfl (Nat.le_of_ble_eq_true rfl) dX7_endsCondition_107 ⟨Nat.le_refl 0, Nat.le_refl 0⟩ kc_X7 hrc hW (fun i37 s36 hW => ?_)
      exact fr_zret (pc := 110) dX7_endsCondition_110 rfl ⟨Nat.le_refl 0, Nat.le_refl 0⟩ hW
set_option maxHeartbeats 4000000 in
set_option maxRecDepth 100000 in
theorem q_X6_shows {g : GG} {σ : Hs} {post : Option Value → Hs → Prop} (r0 : Nat) (p0 : Int32) (hW : FI σ r0 6 4 (fun i1 => Do g M_X11_has 0 0 [.int i1, .int p0] σ (kI (fun i3 s2 => (narrow .boolean (.int i3) = .int i3 ∧ post (some (.int i3)) s2))))) : Do g M_X6_shows 0 0 [.ref r0, .int p0] σ post := by
  refine Do.of (by decide +kernel) (Nat.le_of_ble_eq_true rfl) ?_
  show Fr g M_X6_shows (0, 0, 0, 0) [(0, .ref r0), (1, .int p0)] [] 0 σ post
  refine fr_aload_n (pc := 0) 0 rfl rfl dX6_shows_0 ?_
  refine fr_getI (pc := 1) (T := TX6) (k := 4) kc_X6 (by decide) w_681 dX6_shows_1 hW (fun i1 hW => ?_)
  refine fr_iload_n (pc := 4) 1 rfl rfl dX6_shows_4 ?_
  refine fr_callSN_I (pc := 5) (As := [.int i1, .int p0]) (st := []) wd_X11_has ⟨RX11, by decide +kernel⟩ ok_X11_has (by decide) rfl (Nat.le_of_ble_eq_true rfl) dX6_shows_5 ⟨Nat.le_refl 0, Nat.le_refl 0⟩ hW (fun i3 s2 hW => ?_)
  exact fr_zret (pc := 8) dX6_shows_8 rfl ⟨Nat.le_refl 0, Nat.le_refl 0⟩ hW
set_option maxHeartbeats 4000000 in
set_option maxRecDepth 100000 in
theorem q_X6_show {g : GG} {σ : Hs} {post : Option Value → Hs → Prop} (r0 : Nat) (p0 : Int32) (hW : FI σ r0 6 4 (fun i1 => Do g M_X11_with 0 0 [.int i1, .int p0] σ (kI (fun i3 s2 => PF s2 r0 6 4 (.int i3) (fun s6 => post none s6))))) : Do g M_X6_show 0 0 [.ref r0, .int p0] σ post := by
  refine Do.of (by decide +kernel) (Nat.le_of_ble_eq_true rfl) ?_
  show Fr g M_X6_show (0, 0, 0, 0) [(0, .ref r0), (1, .int p0)] [] 0 σ post
  refine fr_aload_n (pc := 0) 0 rfl rfl dX6_show_0 ?_
  refine fr_aload_n (pc := 1) 0 rfl rfl dX6_show_1 ?_
  refine fr_getI (pc := 2) (T := TX6) (k := 4) kc_X6 (by decide) w_681 dX6_show_2 hW (fun i1 hW => ?_)
  refine fr_iload_n (pc := 5) 1 rfl rfl dX6_show_5 ?_
  refine fr_callSN_I (pc := 6) (As := [.int i1, .int p0]) (st := [.ref r0]) wd_X11_with ⟨RX11, by decide +kernel⟩ ok_X11_with (by decide) rfl (Nat.le_of_ble_eq_true rfl) dX6_show_6 ⟨Nat.le_refl 0, Nat.le_refl 0⟩ hW (fun i3 s2 hW => ?_)
  refine fr_put (pc := 9) (T := TX6) (k := 4) kc_X6 (by decide) w_681 rfl rfl rfl dX6_show_9 hW (fun s6 hW => ?_)
  exact fr_ret (pc := 12) dX6_show_12 rfl ⟨Nat.le_refl 0, Nat.le_refl 0⟩ hW
set_option maxHeartbeats 4000000 in
set_option maxRecDepth 100000 in
theorem q_X7_takesShown {g : GG} {σ : Hs} {post : Option Value → Hs → Prop} (r0 : Nat) (p0 : Int32) (hW : Do g M_X7_isLetter 0 0 [.int p0] σ (kI (fun i2 s1 => (i2 = 0 → post (some (.int 0)) s1) ∧ (¬ i2 = 0 → FR s1 r0 7 2 (fun r5 => Rc s1 r5 6 ∧ Do g M_X6_shows 0 0 [.ref r5, .int (p0 - 97)] s1 (kI (fun i7 s6 => (i7 = 0 → FR s6 r0 7 2 (fun r10 => Rc s6 r10 6 ∧ Do g M_X6_show 0 0 [.ref r10, .int (p0 - 97)] s6 (kV (fun s11 => Rc s11 r0 7 ∧ Do g M_X7_moves 0 0 [.ref r0, .int 7] s11 (kI (fun i13 s12 => (narrow .boolean (.int i13) = .int i13 ∧ post (some (.int i13)) s12))))))) ∧ (¬ i7 = 0 → post (some (.int 0)) s6)))))))) : Do g M_X7_takesShown 0 0 [.ref r0, .int p0] σ post := by
  refine Do.of (by decide +kernel) (Nat.le_of_ble_eq_true rfl) ?_
  show Fr g M_X7_takesShown (0, 0, 0, 0) [(0, .ref r0), (1, .int p0)] [] 0 σ post
  refine fr_iload_n (pc := 0) 1 rfl rfl dX7_takesShown_0 ?_
  refine fr_callS_I (pc := 1) (As := [.int p0]) (st := []) wd_X7_isLetter w_687 ok_X7_isLetter (by decide) rfl (Nat.le_of_ble_eq_true rfl) dX7_takesShown_1 ⟨Nat.le_refl 0, Nat.le_refl 0⟩ hW (fun i2 s1 hW => ?_)
  refine fr_if_eq (pc := 4) (tgt := 21) (by decide) dX7_takesShown_4 hW (fun hW => ?_) (fun hW => ?_)
  · refine fr_iconst (pc := 21) 0 (by decide) dX7_takesShown_21 ?_
    exact fr_zret (pc := 22) dX7_takesShown_22 rfl ⟨Nat.le_refl 0, Nat.le_refl 0⟩ ⟨rfl, hW⟩
  · refine fr_aload_n (pc := 7) 0 rfl rfl dX7_takesShown_7 ?_
    refine fr_getR (pc := 8) (T := TX7) (k := 2) kc_X7 (by decide) w_515 dX7_takesShown_8 hW (fun r5 hW => ?_)
    refine fr_iload_n (pc := 11) 1 rfl rfl dX7_takesShown_11 ?_
    refine fr_bipush (pc := 12) 97 (by decide) dX7_takesShown_12 ?_
    refine fr_isub (pc := 14) dX7_takesShown_14 ?_
    obtain ⟨hrc, hW⟩ := hW
    refine fr_callV_I (pc := 15) (As := [.int (p0 - 97)]) (st := []) wd_X6_shows w_697 ok_X6_shows (by decide) rfl (Nat.le_of_ble_eq_true rfl) dX7_takesShown_15 ⟨Nat.le_refl 0, Nat.le_refl 0⟩ kc_X6 hrc hW (fun i7 s6 hW => ?_)
    refine fr_if_eq (pc := 18) (tgt := 23) (by decide) dX7_takesShown_18 hW (fun hW => ?_) (fun hW => ?_)
    · refine fr_aload_n (pc := 23) 0 rfl rfl dX7_takesShown_23 ?_
      refine fr_getR (pc := 24) (T := TX7) (k := 2) kc_X7 (by decide) w_515 dX7_takesShown_24 hW (fun r10 hW => ?_)
      refine fr_iload_n (pc := 27) 1 rfl rfl dX7_takesShown_27 ?_
      refine fr_bipush (pc := 28) 97 (by decide) dX7_takesShown_28 ?_
      refine fr_isub (pc := 30) dX7_takesShown_30 ?_
      obtain ⟨hrc, hW⟩ := hW
      refine fr_callV_V (pc := 31) (As := [.int (p0 - 97)]) (st := []) wd_X6_show w_698 ok_X6_show (by decide) rfl (Nat.le_of_ble_eq_true rfl) dX7_takesShown_31 ⟨Nat.le_refl 0, Nat.le_refl 0⟩ kc_X6 hrc hW (fun s11 hW => ?_)
      refine fr_aload_n (pc := 34) 0 rfl rfl dX7_takesShown_34 ?_
      refine fr_bipush (pc := 35) 7 (by decide) dX7_takesShown_35 ?_
      obtain ⟨hrc, hW⟩ := hW
      refine fr_callV_I (pc := 37) (As := [.int 7]) (st := []) wd_X7_moves w_688 ok_X7_moves (by decide) rfl (Nat.le_of_ble_eq_true rfl) dX7_takesShown_37 ⟨Nat.le_refl 0, Nat.le_refl 0⟩ kc_X7 hrc hW (fun i13 s12 hW => ?_)
      exact fr_zret (pc := 40) dX7_takesShown_40 rfl ⟨Nat.le_refl 0, Nat.le_refl 0⟩ hW
    · refine fr_iconst (pc := 21) 0 (by decide) dX7_takesShown_21 ?_
      exact fr_zret (pc := 22) dX7_takesShown_22 rfl ⟨Nat.le_refl 0, Nat.le_refl 0⟩ ⟨rfl, hW⟩
set_option maxHeartbeats 4000000 in
set_option maxRecDepth 100000 in
theorem q_X6_sortBy {g : GG} {σ : Hs} {post : Option Value → Hs → Prop} (r0 : Nat) (p0 : Int32) (hW : PF σ r0 6 5 (.int p0) (fun s1 => post none s1)) : Do g M_X6_sortBy 0 0 [.ref r0, .int p0] σ post := by
  refine Do.of (by decide +kernel) (Nat.le_of_ble_eq_true rfl) ?_
  show Fr g M_X6_sortBy (0, 0, 0, 0) [(0, .ref r0), (1, .int p0)] [] 0 σ post
  refine fr_aload_n (pc := 0) 0 rfl rfl dX6_sortBy_0 ?_
  refine fr_iload_n (pc := 1) 1 rfl rfl dX6_sortBy_1 ?_
  refine fr_put (pc := 2) (T := TX6) (k := 5) kc_X6 (by decide) w_682 rfl rfl rfl dX6_sortBy_2 hW (fun s1 hW => ?_)
  exact fr_ret (pc := 5) dX6_sortBy_5 rfl ⟨Nat.le_refl 0, Nat.le_refl 0⟩ hW
set_option maxHeartbeats 4000000 in
set_option maxRecDepth 100000 in
theorem q_X7_takesSort {g : GG} {σ : Hs} {post : Option Value → Hs → Prop} (r0 : Nat) (p0 : Int32) (hW : Do g M_X7_isLetter 0 0 [.int p0] σ (kI (fun i2 s1 => (¬ i2 = 0 → FR s1 r0 7 2 (fun r5 => Rc s1 r5 6 ∧ Do g M_X6_sortBy 0 0 [.ref r5, .int (p0 - 97)] s1 (kV (fun s6 => Rc s6 r0 7 ∧ Do g M_X7_moves 0 0 [.ref r0, .int 9] s6 (kI (fun i8 s7 => (narrow .boolean (.int i8) = .int i8 ∧ post (some (.int i8)) s7))))))) ∧ (i2 = 0 → post (some (.int 0)) s1)))) : Do g M_X7_takesSort 0 0 [.ref r0, .int p0] σ post := by
  refine Do.of (by decide +kernel) (Nat.le_of_ble_eq_true rfl) ?_
  show Fr g M_X7_takesSort (0, 0, 0, 0) [(0, .ref r0), (1, .int p0)] [] 0 σ post
  refine fr_iload_n (pc := 0) 1 rfl rfl dX7_takesSort_0 ?_
  refine fr_callS_I (pc := 1) (As := [.int p0]) (st := []) wd_X7_isLetter w_687 ok_X7_isLetter (by decide) rfl (Nat.le_of_ble_eq_true rfl) dX7_takesSort_1 ⟨Nat.le_refl 0, Nat.le_refl 0⟩ hW (fun i2 s1 hW => ?_)
  refine fr_if_ne (pc := 4) (tgt := 9) (by decide) dX7_takesSort_4 hW (fun hW => ?_) (fun hW => ?_)
  · refine fr_aload_n (pc := 9) 0 rfl rfl dX7_takesSort_9 ?_
    refine fr_getR (pc := 10) (T := TX7) (k := 2) kc_X7 (by decide) w_515 dX7_takesSort_10 hW (fun r5 hW => ?_)
    refine fr_iload_n (pc := 13) 1 rfl rfl dX7_takesSort_13 ?_
    refine fr_bipush (pc := 14) 97 (by decide) dX7_takesSort_14 ?_
    refine fr_isub (pc := 16) dX7_takesSort_16 ?_
    obtain ⟨hrc, hW⟩ := hW
    refine fr_callV_V (pc := 17) (As := [.int (p0 - 97)]) (st := []) wd_X6_sortBy w_699 ok_X6_sortBy (by decide) rfl (Nat.le_of_ble_eq_true rfl) dX7_takesSort_17 ⟨Nat.le_refl 0, Nat.le_refl 0⟩ kc_X6 hrc hW (fun s6 hW => ?_)
    refine fr_aload_n (pc := 20) 0 rfl rfl dX7_takesSort_20 ?_
    refine fr_bipush (pc := 21) 9 (by decide) dX7_takesSort_21 ?_
    obtain ⟨hrc, hW⟩ := hW
    refine fr_callV_I (pc := 23) (As := [.int 9]) (st := []) wd_X7_moves w_688 ok_X7_moves (by decide) rfl (Nat.le_of_ble_eq_true rfl) dX7_takesSort_23 ⟨Nat.le_refl 0, Nat.le_refl 0⟩ kc_X7 hrc hW (fun i8 s7 hW => ?_)
    exact fr_zret (pc := 26) dX7_takesSort_26 rfl ⟨Nat.le_refl 0, Nat.le_refl 0⟩ hW
  · refine fr_iconst (pc := 7) 0 (by decide) dX7_takesSort_7 ?_
    exact fr_zret (pc := 8) dX7_takesSort_8 rfl ⟨Nat.le_refl 0, Nat.le_refl 0⟩ ⟨rfl, hW⟩
set_option maxHeartbeats 4000000 in
set_option maxRecDepth 100000 in
theorem q_X7_takes {g : GG} {σ : Hs} {post : Option Value → Hs → Prop} (r0 : Nat) (p0 : Int32) (hW : FI σ r0 7 3 (fun i1 => (i1 = 0 → (¬ p0 = 58 → Rc σ r0 7 ∧ Do g M_X7_takesColumn 0 0 [.ref r0, .int p0] σ (kI (fun i3 s2 => (narrow .boolean (.int i3) = .int i3 ∧ post (some (.int i3)) s2)))) ∧ (p0 = 58 → Rc σ r0 7 ∧ Do g M_X7_moves 0 0 [.ref r0, .int 6] σ (kI (fun i7 s6 => (narrow .boolean (.int i7) = .int i7 ∧ post (some (.int i7)) s6))))) ∧ (i1 = 1 → Rc σ r0 7 ∧ Do g M_X7_takesColumn 0 0 [.ref r0, .int p0] σ (kI (fun i11 s10 => (narrow .boolean (.int i11) = .int i11 ∧ post (some (.int i11)) s10)))) ∧ (i1 = 2 → Rc σ r0 7 ∧ Do g M_X7_takesSign 0 0 [.ref r0, .int p0] σ (kI (fun i15 s14 => (narrow .boolean (.int i15) = .int i15 ∧ post (some (.int i15)) s14)))) ∧ (i1 = 3 → Rc σ r0 7 ∧ Do g M_X7_takesDigit 0 0 [.ref r0, .int p0, .int 0, .int 4] σ (kI (fun i19 s18 => (narrow .boolean (.int i19) = .int i19 ∧ post (some (.int i19)) s18)))) ∧ (i1 = 4 → FI σ r0 7 6 (fun i22 => Rc σ r0 7 ∧ Do g M_X7_takesDigit 0 0 [.ref r0, .int p0, .int (10 * i22), .int 5] σ (kI (fun i24 s23 => (¬ i24 = 0 → post (some (.int 1)) s23) ∧ (i24 = 0 → Rc s23 r0 7 ∧ Do g M_X7_endsCondition 0 0 [.ref r0, .int p0] s23 (kI (fun i28 s27 => (i28 = 0 → post (some (.int 0)) s27) ∧ (¬ i28 = 0 → post (some (.int 1)) s27)))))))) ∧ (i1 = 5 → Rc σ r0 7 ∧ Do g M_X7_endsCondition 0 0 [.ref r0, .int p0] σ (kI (fun i32 s31 => (narrow .boolean (.int i32) = .int i32 ∧ post (some (.int i32)) s31)))) ∧ (i1 = 6 → Rc σ r0 7 ∧ Do g M_X7_takesShown 0 0 [.ref r0, .int p0] σ (kI (fun i36 s35 => (narrow .boolean (.int i36) = .int i36 ∧ post (some (.int i36)) s35)))) ∧ (i1 = 7 → (¬ p0 = 47 → Rc σ r0 7 ∧ Do g M_X7_takesShown 0 0 [.ref r0, .int p0] σ (kI (fun i40 s39 => (narrow .boolean (.int i40) = .int i40 ∧ post (some (.int i40)) s39)))) ∧ (p0 = 47 → Rc σ r0 7 ∧ Do g M_X7_moves 0 0 [.ref r0, .int 8] σ (kI (fun i44 s43 => (narrow .boolean (.int i44) = .int i44 ∧ post (some (.int i44)) s43))))) ∧ (i1 = 8 → Rc σ r0 7 ∧ Do g M_X7_takesSort 0 0 [.ref r0, .int p0] σ (kI (fun i48 s47 => (narrow .boolean (.int i48) = .int i48 ∧ post (some (.int i48)) s47)))) ∧ (¬ i1 = 0 → ¬ i1 = 1 → ¬ i1 = 2 → ¬ i1 = 3 → ¬ i1 = 4 → ¬ i1 = 5 → ¬ i1 = 6 → ¬ i1 = 7 → ¬ i1 = 8 → post (some (.int 0)) σ))) : Do g M_X7_takes 0 0 [.ref r0, .int p0] σ post := by
  refine Do.of (by decide +kernel) (Nat.le_of_ble_eq_true rfl) ?_
  show Fr g M_X7_takes (0, 0, 0, 0) [(0, .ref r0), (1, .int p0)] [] 0 σ post
  refine fr_aload_n (pc := 0) 0 rfl rfl dX7_takes_0 ?_
  refine fr_getI (pc := 1) (T := TX7) (k := 3) kc_X7 (by decide) w_685 dX7_takes_1 hW (fun i1 hW => ?_)
  by_cases c0 : i1 = 0
  · have hW := hW.1 c0
    refine fr_switchIn (pc := 4) (off := 52) (tgt := 56) dX7_takes_4 (by rw [c0]; decide) (by rw [c0]; decide) (by rw [c0]; rfl) (by decide) ?_
    refine fr_iload_n (pc := 56) 1 rfl rfl dX7_takes_56 ?_
    refine fr_bipush (pc := 57) 58 (by decide) dX7_takes_57 ?_
    refine fr_icmp_ne (pc := 59) (tgt := 71) (by decide) dX7_takes_59 hW (fun hW => ?_) (fun hW => ?_)
    · refine fr_aload_n (pc := 71) 0 rfl rfl dX7_takes_71 ?_
      refine fr_iload_n (pc := 72) 1 rfl rfl dX7_takes_72 ?_
      obtain ⟨hrc, hW⟩ := hW
      refine fr_callV_I (pc := 73) (As := [.int p0]) (st := []) wd_X7_takesColumn w_700 ok_X7_takesColumn (by decide) rfl (Nat.le_of_ble_eq_true rfl) dX7_takes_73 ⟨Nat.le_refl 0, Nat.le_refl 0⟩ kc_X7 hrc hW (fun i3 s2 hW => ?_)
      exact fr_zret (pc := 76) dX7_takes_76 rfl ⟨Nat.le_refl 0, Nat.le_refl 0⟩ hW
    · refine fr_aload_n (pc := 62) 0 rfl rfl dX7_takes_62 ?_
      refine fr_bipush (pc := 63) 6 (by decide) dX7_takes_63 ?_
      obtain ⟨hrc, hW⟩ := hW
      refine fr_callV_I (pc := 65) (As := [.int 6]) (st := []) wd_X7_moves w_688 ok_X7_moves (by decide) rfl (Nat.le_of_ble_eq_true rfl) dX7_takes_65 ⟨Nat.le_refl 0, Nat.le_refl 0⟩ kc_X7 hrc hW (fun i7 s6 hW => ?_)
      refine fr_goto (pc := 68) (tgt := 76) (by decide) dX7_takes_68 ?_
      exact fr_zret (pc := 76) dX7_takes_76 rfl ⟨Nat.le_refl 0, Nat.le_refl 0⟩ hW
  have hW := hW.2
  by_cases c1 : i1 = 1
  · have hW := hW.1 c1
    refine fr_switchIn (pc := 4) (off := 73) (tgt := 77) dX7_takes_4 (by rw [c1]; decide) (by rw [c1]; decide) (by rw [c1]; rfl) (by decide) ?_
    refine fr_aload_n (pc := 77) 0 rfl rfl dX7_takes_77 ?_
    refine fr_iload_n (pc := 78) 1 rfl rfl dX7_takes_78 ?_
    obtain ⟨hrc, hW⟩ := hW
    refine fr_callV_I (pc := 79) (As := [.int p0]) (st := []) wd_X7_takesColumn w_700 ok_X7_takesColumn (by decide) rfl (Nat.le_of_ble_eq_true rfl) dX7_takes_79 ⟨Nat.le_refl 0, Nat.le_refl 0⟩ kc_X7 hrc hW (fun i11 s10 hW => ?_)
    exact fr_zret (pc := 82) dX7_takes_82 rfl ⟨Nat.le_refl 0, Nat.le_refl 0⟩ hW
  have hW := hW.2
  by_cases c2 : i1 = 2
  · have hW := hW.1 c2
    refine fr_switchIn (pc := 4) (off := 79) (tgt := 83) dX7_takes_4 (by rw [c2]; decide) (by rw [c2]; decide) (by rw [c2]; rfl) (by decide) ?_
    refine fr_aload_n (pc := 83) 0 rfl rfl dX7_takes_83 ?_
    refine fr_iload_n (pc := 84) 1 rfl rfl dX7_takes_84 ?_
    obtain ⟨hrc, hW⟩ := hW
    refine fr_callV_I (pc := 85) (As := [.int p0]) (st := []) wd_X7_takesSign w_701 ok_X7_takesSign (by decide) rfl (Nat.le_of_ble_eq_true rfl) dX7_takes_85 ⟨Nat.le_refl 0, Nat.le_refl 0⟩ kc_X7 hrc hW (fun i15 s14 hW => ?_)
    exact fr_zret (pc := 88) dX7_takes_88 rfl ⟨Nat.le_refl 0, Nat.le_refl 0⟩ hW
  have hW := hW.2
  by_cases c3 : i1 = 3
  · have hW := hW.1 c3
    refine fr_switchIn (pc := 4) (off := 85) (tgt := 89) dX7_takes_4 (by rw [c3]; decide) (by rw [c3]; decide) (by rw [c3]; rfl) (by decide) ?_
    refine fr_aload_n (pc := 89) 0 rfl rfl dX7_takes_89 ?_
    refine fr_iload_n (pc := 90) 1 rfl rfl dX7_takes_90 ?_
    refine fr_iconst (pc := 91) 0 (by decide) dX7_takes_91 ?_
    refine fr_iconst (pc := 92) 4 (by decide) dX7_takes_92 ?_
    obtain ⟨hrc, hW⟩ := hW
    refine fr_callV_I (pc := 93) (As := [.int p0, .int 0, .int 4]) (st := []) wd_X7_takesDigit w_702 ok_X7_takesDigit (by decide) rfl (Nat.le_of_ble_eq_true rfl) dX7_takes_93 ⟨Nat.le_refl 0, Nat.le_refl 0⟩ kc_X7 hrc hW (fun i19 s18 hW => ?_)
    exact fr_zret (pc := 96) dX7_takes_96 rfl ⟨Nat.le_refl 0, Nat.le_refl 0⟩ hW
  have hW := hW.2
  by_cases c4 : i1 = 4
  · have hW := hW.1 c4
    refine fr_switchIn (pc := 4) (off := 93) (tgt := 97) dX7_takes_4 (by rw [c4]; decide) (by rw [c4]; decide) (by rw [c4]; rfl) (by decide) ?_
    refine fr_aload_n (pc := 97) 0 rfl rfl dX7_takes_97 ?_
    refine fr_iload_n (pc := 98) 1 rfl rfl dX7_takes_98 ?_
    refine fr_bipush (pc := 99) 10 (by decide) dX7_takes_99 ?_
    refine fr_aload_n (pc := 101) 0 rfl rfl dX7_takes_101 ?_
    refine fr_getI (pc := 102) (T := TX7) (k := 6) kc_X7 (by decide) w_690 dX7_takes_102 hW (fun i22 hW => ?_)
    refine fr_imul (pc := 105) dX7_takes_105 ?_
    refine fr_iconst (pc := 106) 5 (by decide) dX7_takes_106 ?_
    obtain ⟨hrc, hW⟩ := hW
    refine fr_callV_I (pc := 107) (As := [.int p0, .int (10 * i22), .int 5]) (st := []) wd_X7_takesDigit w_702 ok_X7_takesDigit (by decide) rfl (Nat.le_of_ble_eq_true rfl) dX7_takes_107 ⟨Nat.le_refl 0, Nat.le_refl 0⟩ kc_X7 hrc hW (fun i24 s23 hW => ?_)
    refine fr_if_ne (pc := 110) (tgt := 121) (by decide) dX7_takes_110 hW (fun hW => ?_) (fun hW => ?_)
    · refine fr_iconst (pc := 121) 1 (by decide) dX7_takes_121 ?_
      refine fr_goto (pc := 122) (tgt := 126) (by decide) dX7_takes_122 ?_
      exact fr_zret (pc := 126) dX7_takes_126 rfl ⟨Nat.le_refl 0, Nat.le_refl 0⟩ ⟨rfl, hW⟩
    · refine fr_aload_n (pc := 113) 0 rfl rfl dX7_takes_113 ?_
      refine fr_iload_n (pc := 114) 1 rfl rfl dX7_takes_114 ?_
      obtain ⟨hrc, hW⟩ := hW
      refine fr_callV_I (pc := 115) (As := [.int p0]) (st := []) wd_X7_endsCondition w_703 ok_X7_endsCondition (by decide) rfl (Nat.le_of_ble_eq_true rfl) dX7_takes_115 ⟨Nat.le_refl 0, Nat.le_refl 0⟩ kc_X7 hrc hW (fun i28 s27 hW => ?_)
      refine fr_if_eq (pc := 118) (tgt := 125) (by decide) dX7_takes_118 hW (fun hW => ?_) (fun hW => ?_)
      · refine fr_iconst (pc := 125) 0 (by decide) dX7_takes_125 ?_
        exact fr_zret (pc := 126) dX7_takes_126 rfl ⟨Nat.le_refl 0, Nat.le_refl 0⟩ ⟨rfl, hW⟩
      · refine fr_iconst (pc := 121) 1 (by decide) dX7_takes_121 ?_
        refine fr_goto (pc := 122) (tgt := 126) (by decide) dX7_takes_122 ?_
        exact fr_zret (pc := 126) dX7_takes_126 rfl ⟨Nat.le_refl 0, Nat.le_refl 0⟩ ⟨rfl, hW⟩
  have hW := hW.2
  by_cases c5 : i1 = 5
  · have hW := hW.1 c5
    refine fr_switchIn (pc := 4) (off := 123) (tgt := 127) dX7_takes_4 (by rw [c5]; decide) (by rw [c5]; decide) (by rw [c5]; rfl) (by decide) ?_
    refine fr_aload_n (pc := 127) 0 rfl rfl dX7_takes_127 ?_
    refine fr_iload_n (pc := 128) 1 rfl rfl dX7_takes_128 ?_
    obtain ⟨hrc, hW⟩ := hW
    refine fr_callV_I (pc := 129) (As := [.int p0]) (st := []) wd_X7_endsCondition w_703 ok_X7_endsCondition (by decide) rfl (Nat.le_of_ble_eq_true rfl) dX7_takes_129 ⟨Nat.le_refl 0, Nat.le_refl 0⟩ kc_X7 hrc hW (fun i32 s31 hW => ?_)
    exact fr_zret (pc := 132) dX7_takes_132 rfl ⟨Nat.le_refl 0, Nat.le_refl 0⟩ hW
  have hW := hW.2
  by_cases c6 : i1 = 6
  · have hW := hW.1 c6
    refine fr_switchIn (pc := 4) (off := 129) (tgt := 133) dX7_takes_4 (by rw [c6]; decide) (by rw [c6]; decide) (by rw [c6]; rfl) (by decide) ?_
    refine fr_aload_n (pc := 133) 0 rfl rfl dX7_takes_133 ?_
    refine fr_iload_n (pc := 134) 1 rfl rfl dX7_takes_134 ?_
    obtain ⟨hrc, hW⟩ := hW
    refine fr_callV_I (pc := 135) (As := [.int p0]) (st := []) wd_X7_takesShown w_704 ok_X7_takesShown (by decide) rfl (Nat.le_of_ble_eq_true rfl) dX7_takes_135 ⟨Nat.le_refl 0, Nat.le_refl 0⟩ kc_X7 hrc hW (fun i36 s35 hW => ?_)
    exact fr_zret (pc := 138) dX7_takes_138 rfl ⟨Nat.le_refl 0, Nat.le_refl 0⟩ hW
  have hW := hW.2
  by_cases c7 : i1 = 7
  · have hW := hW.1 c7
    refine fr_switchIn (pc := 4) (off := 135) (tgt := 139) dX7_takes_4 (by rw [c7]; decide) (by rw [c7]; decide) (by rw [c7]; rfl) (by decide) ?_
    refine fr_iload_n (pc := 139) 1 rfl rfl dX7_takes_139 ?_
    refine fr_bipush (pc := 140) 47 (by decide) dX7_takes_140 ?_
    refine fr_icmp_ne (pc := 142) (tgt := 154) (by decide) dX7_takes_142 hW (fun hW => ?_) (fun hW => ?_)
    · refine fr_aload_n (pc := 154) 0 rfl rfl dX7_takes_154 ?_
      refine fr_iload_n (pc := 155) 1 rfl rfl dX7_takes_155 ?_
      obtain ⟨hrc, hW⟩ := hW
      refine fr_callV_I (pc := 156) (As := [.int p0]) (st := []) wd_X7_takesShown w_704 ok_X7_takesShown (by decide) rfl (Nat.le_of_ble_eq_true rfl) dX7_takes_156 ⟨Nat.le_refl 0, Nat.le_refl 0⟩ kc_X7 hrc hW (fun i40 s39 hW => ?_)
      exact fr_zret (pc := 159) dX7_takes_159 rfl ⟨Nat.le_refl 0, Nat.le_refl 0⟩ hW
    · refine fr_aload_n (pc := 145) 0 rfl rfl dX7_takes_145 ?_
      refine fr_bipush (pc := 146) 8 (by decide) dX7_takes_146 ?_
      obtain ⟨hrc, hW⟩ := hW
      refine fr_callV_I (pc := 148) (As := [.int 8]) (st := []) wd_X7_moves w_688 ok_X7_moves (by decide) rfl (Nat.le_of_ble_eq_true rfl) dX7_takes_148 ⟨Nat.le_refl 0, Nat.le_refl 0⟩ kc_X7 hrc hW (fun i44 s43 hW => ?_)
      refine fr_goto (pc := 151) (tgt := 159) (by decide) dX7_takes_151 ?_
      exact fr_zret (pc := 159) dX7_takes_159 rfl ⟨Nat.le_refl 0, Nat.le_refl 0⟩ hW
  have hW := hW.2
  by_cases c8 : i1 = 8
  · have hW := hW.1 c8
    refine fr_switchIn (pc := 4) (off := 156) (tgt := 160) dX7_takes_4 (by rw [c8]; decide) (by rw [c8]; decide) (by rw [c8]; rfl) (by decide) ?_
    refine fr_aload_n (pc := 160) 0 rfl rfl dX7_takes_160 ?_
    refine fr_iload_n (pc := 161) 1 rfl rfl dX7_takes_161 ?_
    obtain ⟨hrc, hW⟩ := hW
    refine fr_callV_I (pc := 162) (As := [.int p0]) (st := []) wd_X7_takesSort w_705 ok_X7_takesSort (by decide) rfl (Nat.le_of_ble_eq_true rfl) dX7_takes_162 ⟨Nat.le_refl 0, Nat.le_refl 0⟩ kc_X7 hrc hW (fun i48 s47 hW => ?_)
    exact fr_zret (pc := 165) dX7_takes_165 rfl ⟨Nat.le_refl 0, Nat.le_refl 0⟩ hW
  have hW := hW.2
  have hW := hW c0 c1 c2 c3 c4 c5 c6 c7 c8
  refine fr_switchOut (pc := 4) (tgt := 166) dX7_takes_4 (sw_out 8 (by decide) ((lt_s (lt_s (lt_s (lt_s (lt_s (lt_s (lt_s (lt_s (lt_s lt_0 c0) c1) c2) c3) c4) c5) c6) c7) c8))) (by decide) ?_
  refine fr_iconst (pc := 166) 0 (by decide) dX7_takes_166 ?_
  exact fr_zret (pc := 167) dX7_takes_167 rfl ⟨Nat.le_refl 0, Nat.le_refl 0⟩ ⟨rfl, hW⟩
def J_X7_read_14 (g : GG) (post : Option Value → Hs → Prop) (σ : Hs) (a0 : Nat) (v1 : Int32) : Prop := Fr g M_X7_read (0, 0, 0, 0) [(0, .ref a0), (1, .int v1)] [] 14 σ post
set_option maxHeartbeats 4000000 in
set_option maxRecDepth 100000 in
theorem q_X7_read {g : GG} {σ : Hs} {post : Option Value → Hs → Prop} (r0 : Nat) (hW : FR σ r0 7 2 (fun r1 => Rc σ r1 6 ∧ Do g M_X6_clear 0 0 [.ref r1] σ (kV (fun s2 => PF s2 r0 7 3 (.int 0) (fun s3 => J_X7_read_14 g post s3 r0 0 ))))) : Do g M_X7_read 0 0 [.ref r0] σ post := by
  refine Do.of (by decide +kernel) (Nat.le_of_ble_eq_true rfl) ?_
  show Fr g M_X7_read (0, 0, 0, 0) [(0, .ref r0)] [] 0 σ post
  refine fr_aload_n (pc := 0) 0 rfl rfl dX7_read_0 ?_
  refine fr_getR (pc := 1) (T := TX7) (k := 2) kc_X7 (by decide) w_515 dX7_read_1 hW (fun r1 hW => ?_)
  obtain ⟨hrc, hW⟩ := hW
  refine fr_callV_V (pc := 4) (As := []) (st := []) wd_X6_clear w_706 ok_X6_clear (by decide) rfl (Nat.le_of_ble_eq_true rfl) dX7_read_4 ⟨Nat.le_refl 0, Nat.le_refl 0⟩ kc_X6 hrc hW (fun s2 hW => ?_)
  refine fr_aload_n (pc := 7) 0 rfl rfl dX7_read_7 ?_
  refine fr_iconst (pc := 8) 0 (by decide) dX7_read_8 ?_
  refine fr_put (pc := 9) (T := TX7) (k := 3) kc_X7 (by decide) w_685 rfl rfl rfl dX7_read_9 hW (fun s3 hW => ?_)
  refine fr_iconst (pc := 12) 0 (by decide) dX7_read_12 ?_
  refine fr_istore_n (pc := 13) (lv' := [(1, .int 0), (0, .ref r0)]) rfl (by decide) rfl dX7_read_13 ?_
  exact fr_sub [1, 0] rfl hW
set_option maxHeartbeats 4000000 in
set_option maxRecDepth 100000 in
theorem q_X7_read_14 {g : GG} {σ : Hs} {post : Option Value → Hs → Prop} (a0 : Nat) (v1 : Int32) (hW : FI σ a0 7 1 (fun i4 => (i4 ≤ v1 → post (some (.int v1)) σ) ∧ (¬ i4 ≤ v1 → FR σ a0 7 0 (fun r5 => Rc σ r5 1 ∧ Do g M_X1_at 0 0 [.ref r5, .int v1] σ (kI (fun i7 s6 => Rc s6 a0 7 ∧ Do g M_X7_takes 0 0 [.ref a0, .int i7] s6 (kI (fun i11 s10 => (i11 = 0 → post (some (.int v1)) s10) ∧ (¬ i11 = 0 → J_X7_read_14 g post s10 a0 ((v1 + 1)) ))))))))) : J_X7_read_14 g post σ a0 v1 := by
  show Fr g M_X7_read (0, 0, 0, 0) [(0, .ref a0), (1, .int v1)] [] 14 σ post
  refine fr_iload_n (pc := 14) 1 rfl rfl dX7_read_14 ?_
  refine fr_aload_n (pc := 15) 0 rfl rfl dX7_read_15 ?_
  refine fr_getI (pc := 16) (T := TX7) (k := 1) kc_X7 (by decide) w_673 dX7_read_16 hW (fun i4 hW => ?_)
  refine fr_icmp_ge (pc := 19) (tgt := 43) (by decide) dX7_read_19 hW (fun hW => ?_) (fun hW => ?_)
  · refine fr_iload_n (pc := 43) 1 rfl rfl dX7_read_43 ?_
    exact fr_iret (pc := 44) dX7_read_44 rfl ⟨Nat.le_refl 0, Nat.le_refl 0⟩ hW
  · refine fr_aload_n (pc := 22) 0 rfl rfl dX7_read_22 ?_
    refine fr_aload_n (pc := 23) 0 rfl rfl dX7_read_23 ?_
    refine fr_getR (pc := 24) (T := TX7) (k := 0) kc_X7 (by decide) w_512 dX7_read_24 hW (fun r5 hW => ?_)
    refine fr_iload_n (pc := 27) 1 rfl rfl dX7_read_27 ?_
    obtain ⟨hrc, hW⟩ := hW
    refine fr_callV_I (pc := 28) (As := [.int v1]) (st := [.ref a0]) wd_X1_at w_707 ok_X1_at (by decide) rfl (Nat.le_of_ble_eq_true rfl) dX7_read_28 ⟨Nat.le_refl 0, Nat.le_refl 0⟩ kc_X1 hrc hW (fun i7 s6 hW => ?_)
    obtain ⟨hrc, hW⟩ := hW
    refine fr_callV_I (pc := 31) (As := [.int i7]) (st := []) wd_X7_takes w_708 ok_X7_takes (by decide) rfl (Nat.le_of_ble_eq_true rfl) dX7_read_31 ⟨Nat.le_refl 0, Nat.le_refl 0⟩ kc_X7 hrc hW (fun i11 s10 hW => ?_)
    refine fr_if_eq (pc := 34) (tgt := 43) (by decide) dX7_read_34 hW (fun hW => ?_) (fun hW => ?_)
    · refine fr_iload_n (pc := 43) 1 rfl rfl dX7_read_43 ?_
      exact fr_iret (pc := 44) dX7_read_44 rfl ⟨Nat.le_refl 0, Nat.le_refl 0⟩ hW
    · refine fr_iinc (pc := 37) (lv' := [(1, .int (v1 + 1)), (0, .ref a0)]) (v1 + 1) 1 rfl (congrArg (fun z => v1 + z) (by decide)) (by decide) rfl dX7_read_37 ?_
      refine fr_goto (pc := 40) (tgt := 14) (by decide) dX7_read_40 ?_
      exact fr_sub [1, 0] rfl hW
set_option maxHeartbeats 4000000 in
set_option maxRecDepth 100000 in
theorem q_X11_good {g : GG} {σ : Hs} {post : Option Value → Hs → Prop} (r0 : Nat) (hW : FR σ r0 11 5 (fun r1 => Rc σ r1 7 ∧ Do g M_X7_read 0 0 [.ref r1] σ (kI (fun i3 s2 => post (some (.int i3)) s2)))) : Do g M_X11_good 0 0 [.ref r0] σ post := by
  refine Do.of (by decide +kernel) (Nat.le_of_ble_eq_true rfl) ?_
  show Fr g M_X11_good (0, 0, 0, 0) [(0, .ref r0)] [] 0 σ post
  refine fr_aload_n (pc := 0) 0 rfl rfl dX11_good_0 ?_
  refine fr_getR (pc := 1) (T := TX11) (k := 5) kc_X11 (by decide) w_569 dX11_good_1 hW (fun r1 hW => ?_)
  obtain ⟨hrc, hW⟩ := hW
  refine fr_callV_I (pc := 4) (As := []) (st := []) wd_X7_read w_709 ok_X7_read (by decide) rfl (Nat.le_of_ble_eq_true rfl) dX11_good_4 ⟨Nat.le_refl 0, Nat.le_refl 0⟩ kc_X7 hrc hW (fun i3 s2 hW => ?_)
  exact fr_iret (pc := 7) dX11_good_7 rfl ⟨Nat.le_refl 0, Nat.le_refl 0⟩ hW
def J_X8_pagesOf_15 (g : GG) (post : Option Value → Hs → Prop) (σ : Hs) (a0 : Nat) (w1 : Int64) (w3 : Int64) (v5 : Int32) (v6 : Int32) : Prop := Fr g M_X8_pagesOf (0, 0, 0, 0) [(0, .ref a0), (1, .long w1), (3, .long w3), (5, .int v5), (6, .int v6)] [] 15 σ post
set_option maxHeartbeats 4000000 in
set_option maxRecDepth 100000 in
theorem q_X8_pagesOf {g : GG} {σ : Hs} {post : Option Value → Hs → Prop} (r0 : Nat) (p0 : Int64) (hW : FI σ r0 8 2 (fun i1 => J_X8_pagesOf_15 g post σ r0 p0 ((((1 : Int64) <<< (i1.toInt64 &&& 63)) - 1)) 0 0 )) : Do g M_X8_pagesOf 0 0 [.ref r0, .long p0] σ post := by
  refine Do.of (by decide +kernel) (Nat.le_of_ble_eq_true rfl) ?_
  show Fr g M_X8_pagesOf (0, 0, 0, 0) [(0, .ref r0), (1, .long p0)] [] 0 σ post
  refine fr_lconst (pc := 0) 1 (by decide) dX8_pagesOf_0 ?_
  refine fr_aload_n (pc := 1) 0 rfl rfl dX8_pagesOf_1 ?_
  refine fr_getI (pc := 2) (T := TX8) (k := 2) kc_X8 (by decide) w_520 dX8_pagesOf_2 hW (fun i1 hW => ?_)
  refine fr_lshl (pc := 5) dX8_pagesOf_5 ?_
  refine fr_lconst (pc := 6) 1 (by decide) dX8_pagesOf_6 ?_
  refine fr_lsub (pc := 7) dX8_pagesOf_7 ?_
  refine fr_lstore_n (pc := 8) (lv' := [(3, .long (((1 : Int64) <<< (i1.toInt64 &&& 63)) - 1)), (0, .ref r0), (1, .long p0)]) rfl (by decide) rfl dX8_pagesOf_8 ?_
  refine fr_iconst (pc := 9) 0 (by decide) dX8_pagesOf_9 ?_
  refine fr_istore (pc := 10) (lv' := [(5, .int 0), (3, .long (((1 : Int64) <<< (i1.toInt64 &&& 63)) - 1)), (0, .ref r0), (1, .long p0)]) (by decide) rfl dX8_pagesOf_10 ?_
  refine fr_iconst (pc := 12) 0 (by decide) dX8_pagesOf_12 ?_
  refine fr_istore (pc := 13) (lv' := [(6, .int 0), (5, .int 0), (3, .long (((1 : Int64) <<< (i1.toInt64 &&& 63)) - 1)), (0, .ref r0), (1, .long p0)]) (by decide) rfl dX8_pagesOf_13 ?_
  exact fr_sub [3, 4, 2, 1, 0] rfl hW
set_option maxHeartbeats 4000000 in
set_option maxRecDepth 100000 in
theorem q_X8_pagesOf_15 {g : GG} {σ : Hs} {post : Option Value → Hs → Prop} (a0 : Nat) (w1 : Int64) (w3 : Int64) (v5 : Int32) (v6 : Int32) (hW : (64 ≤ v6 → post (some (.int v5)) σ) ∧ (¬ 64 ≤ v6 → FI σ a0 8 2 (fun i2 => ((v6 * i2) < 64 → ((lg_cmp (((w1.toUInt64 >>> ((v6 * i2).toInt64.toUInt64 &&& Int64.toUInt64 63)).toInt64) &&& w3) 0) = 0 → J_X8_pagesOf_15 g post σ a0 w1 w3 v5 ((v6 + 1)) ) ∧ (¬ (lg_cmp (((w1.toUInt64 >>> ((v6 * i2).toInt64.toUInt64 &&& Int64.toUInt64 63)).toInt64) &&& w3) 0) = 0 → J_X8_pagesOf_15 g post σ a0 w1 w3 ((v5 + 1)) ((v6 + 1)) )) ∧ (¬ (v6 * i2) < 64 → post (some (.int v5)) σ)))) : J_X8_pagesOf_15 g post σ a0 w1 w3 v5 v6 := by
  show Fr g M_X8_pagesOf (0, 0, 0, 0) [(0, .ref a0), (1, .long w1), (3, .long w3), (5, .int v5), (6, .int v6)] [] 15 σ post
  refine fr_iload (pc := 15) 4 rfl dX8_pagesOf_15 ?_
  refine fr_bipush (pc := 17) 64 (by decide) dX8_pagesOf_17 ?_
  refine fr_icmp_ge (pc := 19) (tgt := 61) (by decide) dX8_pagesOf_19 hW (fun hW => ?_) (fun hW => ?_)
  · refine fr_iload (pc := 61) 3 rfl dX8_pagesOf_61 ?_
    exact fr_iret (pc := 63) dX8_pagesOf_63 rfl ⟨Nat.le_refl 0, Nat.le_refl 0⟩ hW
  · refine fr_iload (pc := 22) 4 rfl dX8_pagesOf_22 ?_
    refine fr_aload_n (pc := 24) 0 rfl rfl dX8_pagesOf_24 ?_
    refine fr_getI (pc := 25) (T := TX8) (k := 2) kc_X8 (by decide) w_520 dX8_pagesOf_25 hW (fun i2 hW => ?_)
    refine fr_imul (pc := 28) dX8_pagesOf_28 ?_
    refine fr_istore (pc := 29) (lv' := [(7, .int (v6 * i2)), (0, .ref a0), (1, .long w1), (3, .long w3), (5, .int v5), (6, .int v6)]) (by decide) rfl dX8_pagesOf_29 ?_
    refine fr_iload (pc := 31) 0 rfl dX8_pagesOf_31 ?_
    refine fr_bipush (pc := 33) 64 (by decide) dX8_pagesOf_33 ?_
    refine fr_icmp_lt (pc := 35) (tgt := 41) (by decide) dX8_pagesOf_35 hW (fun hW => ?_) (fun hW => ?_)
    · refine fr_lload_n (pc := 41) 2 rfl rfl dX8_pagesOf_41 ?_
      refine fr_iload (pc := 42) 0 rfl dX8_pagesOf_42 ?_
      refine fr_lushr (pc := 44) dX8_pagesOf_44 ?_
      refine fr_lload_n (pc := 45) 3 rfl rfl dX8_pagesOf_45 ?_
      refine fr_land (pc := 46) dX8_pagesOf_46 ?_
      refine fr_lconst (pc := 47) 0 (by decide) dX8_pagesOf_47 ?_
      refine fr_lcmp (pc := 48) dX8_pagesOf_48 ?_
      refine fr_if_eq (pc := 49) (tgt := 55) (by decide) dX8_pagesOf_49 hW (fun hW => ?_) (fun hW => ?_)
      · refine fr_iinc (pc := 55) (lv' := [(6, .int (v6 + 1)), (7, .int (v6 * i2)), (0, .ref a0), (1, .long w1), (3, .long w3), (5, .int v5)]) (v6 + 1) 5 rfl (congrArg (fun z => v6 + z) (by decide)) (by decide) rfl dX8_pagesOf_55 ?_
        refine fr_goto (pc := 58) (tgt := 15) (by decide) dX8_pagesOf_58 ?_
        exact fr_sub [2, 3, 4, 5, 0] rfl hW
      · refine fr_iinc (pc := 52) (lv' := [(5, .int (v5 + 1)), (7, .int (v6 * i2)), (0, .ref a0), (1, .long w1), (3, .long w3), (6, .int v6)]) (v5 + 1) 4 rfl (congrArg (fun z => v5 + z) (by decide)) (by decide) rfl dX8_pagesOf_52 ?_
        refine fr_iinc (pc := 55) (lv' := [(6, .int (v6 + 1)), (5, .int (v5 + 1)), (7, .int (v6 * i2)), (0, .ref a0), (1, .long w1), (3, .long w3)]) (v6 + 1) 5 rfl (congrArg (fun z => v6 + z) (by decide)) (by decide) rfl dX8_pagesOf_55 ?_
        refine fr_goto (pc := 58) (tgt := 15) (by decide) dX8_pagesOf_58 ?_
        exact fr_sub [3, 4, 5, 1, 0] rfl hW
    · refine fr_goto (pc := 38) (tgt := 61) (by decide) dX8_pagesOf_38 ?_
      refine fr_iload (pc := 61) 4 rfl dX8_pagesOf_61 ?_
      exact fr_iret (pc := 63) dX8_pagesOf_63 rfl ⟨Nat.le_refl 0, Nat.le_refl 0⟩ hW
set_option maxHeartbeats 4000000 in
set_option maxRecDepth 100000 in
theorem q_X8_fullPages {g : GG} {σ : Hs} {post : Option Value → Hs → Prop} (r0 : Nat) (hW : FL σ r0 8 1 (fun l1 => Rc σ r0 8 ∧ Do g M_X8_pagesOf 0 0 [.ref r0, .long l1] σ (kI (fun i3 s2 => post (some (.int i3)) s2)))) : Do g M_X8_fullPages 0 0 [.ref r0] σ post := by
  refine Do.of (by decide +kernel) (Nat.le_of_ble_eq_true rfl) ?_
  show Fr g M_X8_fullPages (0, 0, 0, 0) [(0, .ref r0)] [] 0 σ post
  refine fr_aload_n (pc := 0) 0 rfl rfl dX8_fullPages_0 ?_
  refine fr_aload_n (pc := 1) 0 rfl rfl dX8_fullPages_1 ?_
  refine fr_getL (pc := 2) (T := TX8) (k := 1) kc_X8 (by decide) w_596 dX8_fullPages_2 hW (fun l1 hW => ?_)
  obtain ⟨hrc, hW⟩ := hW
  refine fr_callV_I (pc := 5) (As := [.long l1]) (st := []) wd_X8_pagesOf w_710 ok_X8_pagesOf (by decide) rfl (Nat.le_of_ble_eq_true rfl) dX8_fullPages_5 ⟨Nat.le_refl 0, Nat.le_refl 0⟩ kc_X8 hrc hW (fun i3 s2 hW => ?_)
  exact fr_iret (pc := 8) dX8_fullPages_8 rfl ⟨Nat.le_refl 0, Nat.le_refl 0⟩ hW
def J_X3_keptSet_4 (g : GG) (post : Option Value → Hs → Prop) (σ : Hs) (a0 : Nat) (v1 : Int32) (v2 : Int32) : Prop := Fr g M_X3_keptSet (0, 0, 0, 0) [(0, .ref a0), (1, .int v1), (2, .int v2)] [] 4 σ post
set_option maxHeartbeats 4000000 in
set_option maxRecDepth 100000 in
theorem q_X3_keptSet {g : GG} {σ : Hs} {post : Option Value → Hs → Prop} (r0 : Nat) (hW : J_X3_keptSet_4 g post σ r0 0 0 ) : Do g M_X3_keptSet 0 0 [.ref r0] σ post := by
  refine Do.of (by decide +kernel) (Nat.le_of_ble_eq_true rfl) ?_
  show Fr g M_X3_keptSet (0, 0, 0, 0) [(0, .ref r0)] [] 0 σ post
  refine fr_iconst (pc := 0) 0 (by decide) dX3_keptSet_0 ?_
  refine fr_istore_n (pc := 1) (lv' := [(1, .int 0), (0, .ref r0)]) rfl (by decide) rfl dX3_keptSet_1 ?_
  refine fr_iconst (pc := 2) 0 (by decide) dX3_keptSet_2 ?_
  refine fr_istore_n (pc := 3) (lv' := [(2, .int 0), (1, .int 0), (0, .ref r0)]) rfl (by decide) rfl dX3_keptSet_3 ?_
  exact fr_sub [2, 1, 0] rfl hW
set_option maxHeartbeats 4000000 in
set_option maxRecDepth 100000 in
theorem q_X3_keptSet_4 {g : GG} {σ : Hs} {post : Option Value → Hs → Prop} (a0 : Nat) (v1 : Int32) (v2 : Int32) (hW : FI σ a0 3 2 (fun i1 => (i1 ≤ v2 → post (some (.int v1)) σ) ∧ (¬ i1 ≤ v2 → Rc σ a0 3 ∧ Do g M_X3_kept 0 0 [.ref a0, .int v2] σ (kA (fun s2 => J_X3_keptSet_4 g post s2 a0 v1 ((v2 + 1)) ) (fun r5 s2 => Do g M_X11_with 0 0 [.int v1, .int v2] s2 (kI (fun i7 s6 => J_X3_keptSet_4 g post s6 a0 i7 ((v2 + 1)) ))))))) : J_X3_keptSet_4 g post σ a0 v1 v2 := by
  show Fr g M_X3_keptSet (0, 0, 0, 0) [(0, .ref a0), (1, .int v1), (2, .int v2)] [] 4 σ post
  refine fr_iload_n (pc := 4) 2 rfl rfl dX3_keptSet_4 ?_
  refine fr_aload_n (pc := 5) 0 rfl rfl dX3_keptSet_5 ?_
  refine fr_getI (pc := 6) (T := TX3) (k := 2) kc_X3 (by decide) w_623 dX3_keptSet_6 hW (fun i1 hW => ?_)
  refine fr_icmp_ge (pc := 9) (tgt := 32) (by decide) dX3_keptSet_9 hW (fun hW => ?_) (fun hW => ?_)
  · refine fr_iload_n (pc := 32) 1 rfl rfl dX3_keptSet_32 ?_
    exact fr_iret (pc := 33) dX3_keptSet_33 rfl ⟨Nat.le_refl 0, Nat.le_refl 0⟩ hW
  · refine fr_aload_n (pc := 12) 0 rfl rfl dX3_keptSet_12 ?_
    refine fr_iload_n (pc := 13) 2 rfl rfl dX3_keptSet_13 ?_
    obtain ⟨hrc, hW⟩ := hW
    refine fr_callV_A (pc := 14) (As := [.int v2]) (st := []) wd_X3_kept w_624 ok_X3_kept (by decide) rfl (Nat.le_of_ble_eq_true rfl) dX3_keptSet_14 ⟨Nat.le_refl 0, Nat.le_refl 0⟩ kc_X3 hrc hW (fun s2 hW => ?_) (fun r5 s2 hW => ?_)
    · refine fr_ifnullN (pc := 17) (tgt := 26) (by decide) dX3_keptSet_17 ?_
      refine fr_iinc (pc := 26) (lv' := [(2, .int (v2 + 1)), (0, .ref a0), (1, .int v1)]) (v2 + 1) 2 rfl (congrArg (fun z => v2 + z) (by decide)) (by decide) rfl dX3_keptSet_26 ?_
      refine fr_goto (pc := 29) (tgt := 4) (by decide) dX3_keptSet_29 ?_
      exact fr_sub [1, 2, 0] rfl hW
    · refine fr_ifnull (pc := 17) dX3_keptSet_17 ?_
      refine fr_iload_n (pc := 20) 1 rfl rfl dX3_keptSet_20 ?_
      refine fr_iload_n (pc := 21) 2 rfl rfl dX3_keptSet_21 ?_
      refine fr_callSN_I (pc := 22) (As := [.int v1, .int v2]) (st := []) wd_X11_with ⟨RX11, by decide +kernel⟩ ok_X11_with (by decide) rfl (Nat.le_of_ble_eq_true rfl) dX3_keptSet_22 ⟨Nat.le_refl 0, Nat.le_refl 0⟩ hW (fun i7 s6 hW => ?_)
      refine fr_istore_n (pc := 25) (lv' := [(1, .int i7), (0, .ref a0), (2, .int v2)]) rfl (by decide) rfl dX3_keptSet_25 ?_
      refine fr_iinc (pc := 26) (lv' := [(2, .int (v2 + 1)), (1, .int i7), (0, .ref a0)]) (v2 + 1) 2 rfl (congrArg (fun z => v2 + z) (by decide)) (by decide) rfl dX3_keptSet_26 ?_
      refine fr_goto (pc := 29) (tgt := 4) (by decide) dX3_keptSet_29 ?_
      exact fr_sub [2, 1, 0] rfl hW
set_option maxHeartbeats 4000000 in
set_option maxRecDepth 100000 in
theorem q_J6_bitCount_0f7a4 {g : GG} {σ : Hs} {post : Option Value → Hs → Prop} (p0 : Int32) (hW : post (some (.int ((((((((p0 - (((p0.toUInt32 >>> ((1 : Int32).toUInt32 &&& Int32.toUInt32 31)).toInt32) &&& 1431655765)) &&& 858993459) + ((((p0 - (((p0.toUInt32 >>> ((1 : Int32).toUInt32 &&& Int32.toUInt32 31)).toInt32) &&& 1431655765)).toUInt32 >>> ((2 : Int32).toUInt32 &&& Int32.toUInt32 31)).toInt32) &&& 858993459)) + (((((p0 - (((p0.toUInt32 >>> ((1 : Int32).toUInt32 &&& Int32.toUInt32 31)).toInt32) &&& 1431655765)) &&& 858993459) + ((((p0 - (((p0.toUInt32 >>> ((1 : Int32).toUInt32 &&& Int32.toUInt32 31)).toInt32) &&& 1431655765)).toUInt32 >>> ((2 : Int32).toUInt32 &&& Int32.toUInt32 31)).toInt32) &&& 858993459)).toUInt32 >>> ((4 : Int32).toUInt32 &&& Int32.toUInt32 31)).toInt32)) &&& 252645135) + (((((((p0 - (((p0.toUInt32 >>> ((1 : Int32).toUInt32 &&& Int32.toUInt32 31)).toInt32) &&& 1431655765)) &&& 858993459) + ((((p0 - (((p0.toUInt32 >>> ((1 : Int32).toUInt32 &&& Int32.toUInt32 31)).toInt32) &&& 1431655765)).toUInt32 >>> ((2 : Int32).toUInt32 &&& Int32.toUInt32 31)).toInt32) &&& 858993459)) + (((((p0 - (((p0.toUInt32 >>> ((1 : Int32).toUInt32 &&& Int32.toUInt32 31)).toInt32) &&& 1431655765)) &&& 858993459) + ((((p0 - (((p0.toUInt32 >>> ((1 : Int32).toUInt32 &&& Int32.toUInt32 31)).toInt32) &&& 1431655765)).toUInt32 >>> ((2 : Int32).toUInt32 &&& Int32.toUInt32 31)).toInt32) &&& 858993459)).toUInt32 >>> ((4 : Int32).toUInt32 &&& Int32.toUInt32 31)).toInt32)) &&& 252645135).toUInt32 >>> ((8 : Int32).toUInt32 &&& Int32.toUInt32 31)).toInt32)) + ((((((((p0 - (((p0.toUInt32 >>> ((1 : Int32).toUInt32 &&& Int32.toUInt32 31)).toInt32) &&& 1431655765)) &&& 858993459) + ((((p0 - (((p0.toUInt32 >>> ((1 : Int32).toUInt32 &&& Int32.toUInt32 31)).toInt32) &&& 1431655765)).toUInt32 >>> ((2 : Int32).toUInt32 &&& Int32.toUInt32 31)).toInt32) &&& 858993459)) + (((((p0 - (((p0.toUInt32 >>> ((1 : Int32).toUInt32 &&& Int32.toUInt32 31)).toInt32) &&& 1431655765)) &&& 858993459) + ((((p0 - (((p0.toUInt32 >>> ((1 : Int32).toUInt32 &&& Int32.toUInt32 31)).toInt32) &&& 1431655765)).toUInt32 >>> ((2 : Int32).toUInt32 &&& Int32.toUInt32 31)).toInt32) &&& 858993459)).toUInt32 >>> ((4 : Int32).toUInt32 &&& Int32.toUInt32 31)).toInt32)) &&& 252645135) + (((((((p0 - (((p0.toUInt32 >>> ((1 : Int32).toUInt32 &&& Int32.toUInt32 31)).toInt32) &&& 1431655765)) &&& 858993459) + ((((p0 - (((p0.toUInt32 >>> ((1 : Int32).toUInt32 &&& Int32.toUInt32 31)).toInt32) &&& 1431655765)).toUInt32 >>> ((2 : Int32).toUInt32 &&& Int32.toUInt32 31)).toInt32) &&& 858993459)) + (((((p0 - (((p0.toUInt32 >>> ((1 : Int32).toUInt32 &&& Int32.toUInt32 31)).toInt32) &&& 1431655765)) &&& 858993459) + ((((p0 - (((p0.toUInt32 >>> ((1 : Int32).toUInt32 &&& Int32.toUInt32 31)).toInt32) &&& 1431655765)).toUInt32 >>> ((2 : Int32).toUInt32 &&& Int32.toUInt32 31)).toInt32) &&& 858993459)).toUInt32 >>> ((4 : Int32).toUInt32 &&& Int32.toUInt32 31)).toInt32)) &&& 252645135).toUInt32 >>> ((8 : Int32).toUInt32 &&& Int32.toUInt32 31)).toInt32)).toUInt32 >>> ((16 : Int32).toUInt32 &&& Int32.toUInt32 31)).toInt32)) &&& 63))) σ) : Do g M_J6_bitCount_0f7a4 0 0 [.int p0] σ post := by
  refine Do.of (by decide +kernel) (Nat.le_of_ble_eq_true rfl) ?_
  show Fr g M_J6_bitCount_0f7a4 (0, 0, 0, 0) [(0, .int p0)] [] 0 σ post
  refine fr_iload_n (pc := 0) 0 rfl rfl dJ6_bitCount_0f7a4_0 ?_
  refine fr_iload_n (pc := 1) 0 rfl rfl dJ6_bitCount_0f7a4_1 ?_
  refine fr_iconst (pc := 2) 1 (by decide) dJ6_bitCount_0f7a4_2 ?_
  refine fr_iushr (pc := 3) dJ6_bitCount_0f7a4_3 ?_
  refine fr_ldcw (pc := 4) w_711 dJ6_bitCount_0f7a4_4 ?_
  refine fr_iand (pc := 7) dJ6_bitCount_0f7a4_7 ?_
  refine fr_isub (pc := 8) dJ6_bitCount_0f7a4_8 ?_
  refine fr_istore_n (pc := 9) (lv' := [(0, .int (p0 - (((p0.toUInt32 >>> ((1 : Int32).toUInt32 &&& Int32.toUInt32 31)).toInt32) &&& 1431655765)))]) rfl (by decide) rfl dJ6_bitCount_0f7a4_9 ?_
  refine fr_iload_n (pc := 10) 0 rfl rfl dJ6_bitCount_0f7a4_10 ?_
  refine fr_ldcw (pc := 11) w_712 dJ6_bitCount_0f7a4_11 ?_
  refine fr_iand (pc := 14) dJ6_bitCount_0f7a4_14 ?_
  refine fr_iload_n (pc := 15) 0 rfl rfl dJ6_bitCount_0f7a4_15 ?_
  refine fr_iconst (pc := 16) 2 (by decide) dJ6_bitCount_0f7a4_16 ?_
  refine fr_iushr (pc := 17) dJ6_bitCount_0f7a4_17 ?_
  refine fr_ldcw (pc := 18) w_712 dJ6_bitCount_0f7a4_18 ?_
  refine fr_iand (pc := 21) dJ6_bitCount_0f7a4_21 ?_
  refine fr_iadd (pc := 22) dJ6_bitCount_0f7a4_22 ?_
  refine fr_istore_n (pc := 23) (lv' := [(0, .int (((p0 - (((p0.toUInt32 >>> ((1 : Int32).toUInt32 &&& Int32.toUInt32 31)).toInt32) &&& 1431655765)) &&& 858993459) + ((((p0 - (((p0.toUInt32 >>> ((1 : Int32).toUInt32 &&& Int32.toUInt32 31)).toInt32) &&& 1431655765)).toUInt32 >>> ((2 : Int32).toUInt32 &&& Int32.toUInt32 31)).toInt32) &&& 858993459)))]) rfl (by decide) rfl dJ6_bitCount_0f7a4_23 ?_
  refine fr_iload_n (pc := 24) 0 rfl rfl dJ6_bitCount_0f7a4_24 ?_
  refine fr_iload_n (pc := 25) 0 rfl rfl dJ6_bitCount_0f7a4_25 ?_
  refine fr_iconst (pc := 26) 4 (by decide) dJ6_bitCount_0f7a4_26 ?_
  refine fr_iushr (pc := 27) dJ6_bitCount_0f7a4_27 ?_
  refine fr_iadd (pc := 28) dJ6_bitCount_0f7a4_28 ?_
  refine fr_ldcw (pc := 29) w_713 dJ6_bitCount_0f7a4_29 ?_
  refine fr_iand (pc := 32) dJ6_bitCount_0f7a4_32 ?_
  refine fr_istore_n (pc := 33) (lv' := [(0, .int (((((p0 - (((p0.toUInt32 >>> ((1 : Int32).toUInt32 &&& Int32.toUInt32 31)).toInt32) &&& 1431655765)) &&& 858993459) + ((((p0 - (((p0.toUInt32 >>> ((1 : Int32).toUInt32 &&& Int32.toUInt32 31)).toInt32) &&& 1431655765)).toUInt32 >>> ((2 : Int32).toUInt32 &&& Int32.toUInt32 31)).toInt32) &&& 858993459)) + (((((p0 - (((p0.toUInt32 >>> ((1 : Int32).toUInt32 &&& Int32.toUInt32 31)).toInt32) &&& 1431655765)) &&& 858993459) + ((((p0 - (((p0.toUInt32 >>> ((1 : Int32).toUInt32 &&& Int32.toUInt32 31)).toInt32) &&& 1431655765)).toUInt32 >>> ((2 : Int32).toUInt32 &&& Int32.toUInt32 31)).toInt32) &&& 858993459)).toUInt32 >>> ((4 : Int32).toUInt32 &&& Int32.toUInt32 31)).toInt32)) &&& 252645135))]) rfl (by decide) rfl dJ6_bitCount_0f7a4_33 ?_
  refine fr_iload_n (pc := 34) 0 rfl rfl dJ6_bitCount_0f7a4_34 ?_
  refine fr_iload_n (pc := 35) 0 rfl rfl dJ6_bitCount_0f7a4_35 ?_
  refine fr_bipush (pc := 36) 8 (by decide) dJ6_bitCount_0f7a4_36 ?_
  refine fr_iushr (pc := 38) dJ6_bitCount_0f7a4_38 ?_
  refine fr_iadd (pc := 39) dJ6_bitCount_0f7a4_39 ?_
  refine fr_istore_n (pc := 40) (lv' := [(0, .int ((((((p0 - (((p0.toUInt32 >>> ((1 : Int32).toUInt32 &&& Int32.toUInt32 31)).toInt32) &&& 1431655765)) &&& 858993459) + ((((p0 - (((p0.toUInt32 >>> ((1 : Int32).toUInt32 &&& Int32.toUInt32 31)).toInt32) &&& 1431655765)).toUInt32 >>> ((2 : Int32).toUInt32 &&& Int32.toUInt32 31)).toInt32) &&& 858993459)) + (((((p0 - (((p0.toUInt32 >>> ((1 : Int32).toUInt32 &&& Int32.toUInt32 31)).toInt32) &&& 1431655765)) &&& 858993459) + ((((p0 - (((p0.toUInt32 >>> ((1 : Int32).toUInt32 &&& Int32.toUInt32 31)).toInt32) &&& 1431655765)).toUInt32 >>> ((2 : Int32).toUInt32 &&& Int32.toUInt32 31)).toInt32) &&& 858993459)).toUInt32 >>> ((4 : Int32).toUInt32 &&& Int32.toUInt32 31)).toInt32)) &&& 252645135) + (((((((p0 - (((p0.toUInt32 >>> ((1 : Int32).toUInt32 &&& Int32.toUInt32 31)).toInt32) &&& 1431655765)) &&& 858993459) + ((((p0 - (((p0.toUInt32 >>> ((1 : Int32).toUInt32 &&& Int32.toUInt32 31)).toInt32) &&& 1431655765)).toUInt32 >>> ((2 : Int32).toUInt32 &&& Int32.toUInt32 31)).toInt32) &&& 858993459)) + (((((p0 - (((p0.toUInt32 >>> ((1 : Int32).toUInt32 &&& Int32.toUInt32 31)).toInt32) &&& 1431655765)) &&& 858993459) + ((((p0 - (((p0.toUInt32 >>> ((1 : Int32).toUInt32 &&& Int32.toUInt32 31)).toInt32) &&& 1431655765)).toUInt32 >>> ((2 : Int32).toUInt32 &&& Int32.toUInt32 31)).toInt32) &&& 858993459)).toUInt32 >>> ((4 : Int32).toUInt32 &&& Int32.toUInt32 31)).toInt32)) &&& 252645135).toUInt32 >>> ((8 : Int32).toUInt32 &&& Int32.toUInt32 31)).toInt32)))]) rfl (by decide) rfl dJ6_bitCount_0f7a4_40 ?_
  refine fr_iload_n (pc := 41) 0 rfl rfl dJ6_bitCount_0f7a4_41 ?_
  refine fr_iload_n (pc := 42) 0 rfl rfl dJ6_bitCount_0f7a4_42 ?_
  refine fr_bipush (pc := 43) 16 (by decide) dJ6_bitCount_0f7a4_43 ?_
  refine fr_iushr (pc := 45) dJ6_bitCount_0f7a4_45 ?_
  refine fr_iadd (pc := 46) dJ6_bitCount_0f7a4_46 ?_
  refine fr_istore_n (pc := 47) (lv' := [(0, .int (((((((p0 - (((p0.toUInt32 >>> ((1 : Int32).toUInt32 &&& Int32.toUInt32 31)).toInt32) &&& 1431655765)) &&& 858993459) + ((((p0 - (((p0.toUInt32 >>> ((1 : Int32).toUInt32 &&& Int32.toUInt32 31)).toInt32) &&& 1431655765)).toUInt32 >>> ((2 : Int32).toUInt32 &&& Int32.toUInt32 31)).toInt32) &&& 858993459)) + (((((p0 - (((p0.toUInt32 >>> ((1 : Int32).toUInt32 &&& Int32.toUInt32 31)).toInt32) &&& 1431655765)) &&& 858993459) + ((((p0 - (((p0.toUInt32 >>> ((1 : Int32).toUInt32 &&& Int32.toUInt32 31)).toInt32) &&& 1431655765)).toUInt32 >>> ((2 : Int32).toUInt32 &&& Int32.toUInt32 31)).toInt32) &&& 858993459)).toUInt32 >>> ((4 : Int32).toUInt32 &&& Int32.toUInt32 31)).toInt32)) &&& 252645135) + (((((((p0 - (((p0.toUInt32 >>> ((1 : Int32).toUInt32 &&& Int32.toUInt32 31)).toInt32) &&& 1431655765)) &&& 858993459) + ((((p0 - (((p0.toUInt32 >>> ((1 : Int32).toUInt32 &&& Int32.toUInt32 31)).toInt32) &&& 1431655765)).toUInt32 >>> ((2 : Int32).toUInt32 &&& Int32.toUInt32 31)).toInt32) &&& 858993459)) + (((((p0 - (((p0.toUInt32 >>> ((1 : Int32).toUInt32 &&& Int32.toUInt32 31)).toInt32) &&& 1431655765)) &&& 858993459) + ((((p0 - (((p0.toUInt32 >>> ((1 : Int32).toUInt32 &&& Int32.toUInt32 31)).toInt32) &&& 1431655765)).toUInt32 >>> ((2 : Int32).toUInt32 &&& Int32.toUInt32 31)).toInt32) &&& 858993459)).toUInt32 >>> ((4 : Int32).toUInt32 &&& Int32.toUInt32 31)).toInt32)) &&& 252645135).toUInt32 >>> ((8 : Int32).toUInt32 &&& Int32.toUInt32 31)).toInt32)) + ((((((((p0 - (((p0.toUInt32 >>> ((1 : Int32).toUInt32 &&& Int32.toUInt32 31)).toInt32) &&& 1431655765)) &&& 858993459) + ((((p0 - (((p0.toUInt32 >>> ((1 : Int32).toUInt32 &&& Int32.toUInt32 31)).toInt32) &&& 1431655765)).toUInt32 >>> ((2 : Int32).toUInt32 &&& Int32.toUInt32 31)).toInt32) &&& 858993459)) + (((((p0 - (((p0.toUInt32 >>> ((1 : Int32).toUInt32 &&& Int32.toUInt32 31)).toInt32) &&& 1431655765)) &&& 858993459) + ((((p0 - (((p0.toUInt32 >>> ((1 : Int32).toUInt32 &&& Int32.toUInt32 31)).toInt32) &&& 1431655765)).toUInt32 >>> ((2 : Int32).toUInt32 &&& Int32.toUInt32 31)).toInt32) &&& 858993459)).toUInt32 >>> ((4 : Int32).toUInt32 &&& Int32.toUInt32 31)).toInt32)) &&& 252645135) + (((((((p0 - (((p0.toUInt32 >>> ((1 : Int32).toUInt32 &&& Int32.toUInt32 31)).toInt32) &&& 1431655765)) &&& 858993459) + ((((p0 - (((p0.toUInt32 >>> ((1 : Int32).toUInt32 &&& Int32.toUInt32 31)).toInt32) &&& 1431655765)).toUInt32 >>> ((2 : Int32).toUInt32 &&& Int32.toUInt32 31)).toInt32) &&& 858993459)) + (((((p0 - (((p0.toUInt32 >>> ((1 : Int32).toUInt32 &&& Int32.toUInt32 31)).toInt32) &&& 1431655765)) &&& 858993459) + ((((p0 - (((p0.toUInt32 >>> ((1 : Int32).toUInt32 &&& Int32.toUInt32 31)).toInt32) &&& 1431655765)).toUInt32 >>> ((2 : Int32).toUInt32 &&& Int32.toUInt32 31)).toInt32) &&& 858993459)).toUInt32 >>> ((4 : Int32).toUInt32 &&& Int32.toUInt32 31)).toInt32)) &&& 252645135).toUInt32 >>> ((8 : Int32).toUInt32 &&& Int32.toUInt32 31)).toInt32)).toUInt32 >>> ((16 : Int32).toUInt32 &&& Int32.toUInt32 31)).toInt32)))]) rfl (by decide) rfl dJ6_bitCount_0f7a4_47 ?_
  refine fr_iload_n (pc := 48) 0 rfl rfl dJ6_bitCount_0f7a4_48 ?_
  refine fr_bipush (pc := 49) 63 (by decide) dJ6_bitCount_0f7a4_49 ?_
  refine fr_iand (pc := 51) dJ6_bitCount_0f7a4_51 ?_
  exact fr_iret (pc := 52) dJ6_bitCount_0f7a4_52 rfl ⟨Nat.le_refl 0, Nat.le_refl 0⟩ hW
set_option maxHeartbeats 4000000 in
set_option maxRecDepth 100000 in
theorem q_X10_asked {g : GG} {σ : Hs} {post : Option Value → Hs → Prop} (r0 : Nat) (hW : FI σ r0 10 6 (fun i1 => post (some (.int i1)) σ)) : Do g M_X10_asked 0 0 [.ref r0] σ post := by
  refine Do.of (by decide +kernel) (Nat.le_of_ble_eq_true rfl) ?_
  show Fr g M_X10_asked (0, 0, 0, 0) [(0, .ref r0)] [] 0 σ post
  refine fr_aload_n (pc := 0) 0 rfl rfl dX10_asked_0 ?_
  refine fr_getI (pc := 1) (T := TX10) (k := 6) kc_X10 (by decide) w_714 dX10_asked_1 hW (fun i1 hW => ?_)
  exact fr_iret (pc := 4) dX10_asked_4 rfl ⟨Nat.le_refl 0, Nat.le_refl 0⟩ hW
