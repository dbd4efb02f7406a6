def J_X3_entriesCome_2 (g : GG) (post : Option Value → Hs → Prop) (σ : Hs) (a0 : Nat) (v1 : Int32) (v2 : Int32) : Prop := Fr g M_X3_entriesCome (0, 0, 0, 0) [(0, .ref a0), (1, .int v1), (2, .int v2)] [] 2 σ post
set_option maxHeartbeats 4000000 in
set_option maxRecDepth 100000 in
theorem q_X3_entriesCome {g : GG} {σ : Hs} {post : Option Value → Hs → Prop} (r0 : Nat) (p0 : Int32) (hW : J_X3_entriesCome_2 g post σ r0 p0 0 ) : Do g M_X3_entriesCome 0 0 [.ref r0, .int p0] σ post := by
  refine Do.of (by decide +kernel) (Nat.le_of_ble_eq_true rfl) ?_
  show Fr g M_X3_entriesCome (0, 0, 0, 0) [(0, .ref r0), (1, .int p0)] [] 0 σ post
  refine fr_iconst (pc := 0) 0 (by decide) dX3_entriesCome_0 ?_
  refine fr_istore_n (pc := 1) (lv' := [(2, .int 0), (0, .ref r0), (1, .int p0)]) rfl (by decide) rfl dX3_entriesCome_1 ?_
  exact fr_sub [1, 2, 0] rfl hW
set_option maxHeartbeats 4000000 in
set_option maxRecDepth 100000 in
theorem q_X3_entriesCome_2 {g : GG} {σ : Hs} {post : Option Value → Hs → Prop} (a0 : Nat) (v1 : Int32) (v2 : Int32) (hW : FI σ a0 3 2 (fun i1 => (i1 ≤ v2 → post none σ) ∧ (¬ i1 ≤ v2 → Rc σ a0 3 ∧ Do g M_X3_kept 0 0 [.ref a0, .int v2] σ (kA (fun s2 => J_X3_entriesCome_2 g post s2 a0 v1 ((v2 + 1)) ) (fun r5 s2 => Rc s2 r5 2 ∧ Do g M_X2_entryComes 0 0 [.ref r5, .int v1] s2 (kV (fun s6 => J_X3_entriesCome_2 g post s6 a0 v1 ((v2 + 1)) ))))))) : J_X3_entriesCome_2 g post σ a0 v1 v2 := by
  show Fr g M_X3_entriesCome (0, 0, 0, 0) [(0, .ref a0), (1, .int v1), (2, .int v2)] [] 2 σ post
  refine fr_iload_n (pc := 2) 2 rfl rfl dX3_entriesCome_2 ?_
  refine fr_aload_n (pc := 3) 0 rfl rfl dX3_entriesCome_3 ?_
  refine fr_getI (pc := 4) (T := TX3) (k := 2) kc_X3 (by decide) w_1058 dX3_entriesCome_4 hW (fun i1 hW => ?_)
  refine fr_icmp_ge (pc := 7) (tgt := 31) (by decide) dX3_entriesCome_7 hW (fun hW => ?_) (fun hW => ?_)
  · exact fr_ret (pc := 31) dX3_entriesCome_31 rfl ⟨Nat.le_refl 0, Nat.le_refl 0⟩ hW
  · refine fr_aload_n (pc := 10) 0 rfl rfl dX3_entriesCome_10 ?_
    refine fr_iload_n (pc := 11) 2 rfl rfl dX3_entriesCome_11 ?_
    obtain ⟨hrc, hW⟩ := hW
    refine fr_callV_A (pc := 12) (As := [.int v2]) (st := []) wd_X3_kept w_1059 ok_X3_kept (by decide) rfl (Nat.le_of_ble_eq_true rfl) dX3_entriesCome_12 ⟨Nat.le_refl 0, Nat.le_refl 0⟩ kc_X3 hrc hW (fun s2 hW => ?_) (fun r5 s2 hW => ?_)
    · refine fr_astore_nN (pc := 15) (lv' := [(3, .null), (0, .ref a0), (1, .int v1), (2, .int v2)]) rfl (by decide) rfl dX3_entriesCome_15 ?_
      refine fr_aload_nN (pc := 16) 0 rfl rfl dX3_entriesCome_16 ?_
      refine fr_ifnullN (pc := 17) (tgt := 25) (by decide) dX3_entriesCome_17 ?_
      refine fr_iinc (pc := 25) (lv' := [(2, .int (v2 + 1)), (3, .null), (0, .ref a0), (1, .int v1)]) (v2 + 1) 3 rfl (congrArg (fun z => v2 + z) (by decide)) (by decide) rfl dX3_entriesCome_25 ?_
      refine fr_goto (pc := 28) (tgt := 2) (by decide) dX3_entriesCome_28 ?_
      exact fr_sub [2, 3, 0] rfl hW
    · refine fr_astore_n (pc := 15) (lv' := [(3, .ref r5), (0, .ref a0), (1, .int v1), (2, .int v2)]) rfl (by decide) rfl dX3_entriesCome_15 ?_
      refine fr_aload_n (pc := 16) 0 rfl rfl dX3_entriesCome_16 ?_
      refine fr_ifnull (pc := 17) dX3_entriesCome_17 ?_
      refine fr_aload_n (pc := 20) 0 rfl rfl dX3_entriesCome_20 ?_
      refine fr_iload_n (pc := 21) 2 rfl rfl dX3_entriesCome_21 ?_
      obtain ⟨hrc, hW⟩ := hW
      refine fr_callV_V (pc := 22) (As := [.int v1]) (st := []) wd_X2_entryComes w_1060 ok_X2_entryComes (by decide) rfl (Nat.le_of_ble_eq_true rfl) dX3_entriesCome_22 ⟨Nat.le_refl 0, Nat.le_refl 0⟩ kc_X2 hrc hW (fun s6 hW => ?_)
      refine fr_iinc (pc := 25) (lv' := [(2, .int (v2 + 1)), (3, .ref r5), (0, .ref a0), (1, .int v1)]) (v2 + 1) 3 rfl (congrArg (fun z => v2 + z) (by decide)) (by decide) rfl dX3_entriesCome_25 ?_
      refine fr_goto (pc := 28) (tgt := 2) (by decide) dX3_entriesCome_28 ?_
      exact fr_sub [2, 3, 0] rfl hW
set_option maxHeartbeats 4000000 in
set_option maxRecDepth 100000 in
theorem q_X11_rowComes {g : GG} {σ : Hs} {post : Option Value → Hs → Prop} (r0 : Nat) (p0 : Int32) (hW : FR σ r0 11 0 (fun r1 => Rc σ r1 8 ∧ Do g M_X8_hold 0 0 [.ref r1, .int p0] σ (kV (fun s2 => FR s2 r0 11 1 (fun r3 => Rc s2 r3 3 ∧ Do g M_X3_entriesCome 0 0 [.ref r3, .int p0] s2 (kV (fun s4 => post none s4))))))) : Do g M_X11_rowComes 0 0 [.ref r0, .int p0] σ post := by
  refine Do.of (by decide +kernel) (Nat.le_of_ble_eq_true rfl) ?_
  show Fr g M_X11_rowComes (0, 0, 0, 0) [(0, .ref r0), (1, .int p0)] [] 0 σ post
  refine fr_aload_n (pc := 0) 0 rfl rfl dX11_rowComes_0 ?_
  refine fr_getR (pc := 1) (T := TX11) (k := 0) kc_X11 (by decide) w_990 dX11_rowComes_1 hW (fun r1 hW => ?_)
  refine fr_iload_n (pc := 4) 1 rfl rfl dX11_rowComes_4 ?_
  obtain ⟨hrc, hW⟩ := hW
  refine fr_callV_V (pc := 5) (As := [.int p0]) (st := []) wd_X8_hold w_1061 ok_X8_hold (by decide) rfl (Nat.le_of_ble_eq_true rfl) dX11_rowComes_5 ⟨Nat.le_refl 0, Nat.le_refl 0⟩ kc_X8 hrc hW (fun s2 hW => ?_)
  refine fr_aload_n (pc := 8) 0 rfl rfl dX11_rowComes_8 ?_
  refine fr_getR (pc := 9) (T := TX11) (k := 1) kc_X11 (by decide) w_991 dX11_rowComes_9 hW (fun r3 hW => ?_)
  refine fr_iload_n (pc := 12) 1 rfl rfl dX11_rowComes_12 ?_
  obtain ⟨hrc, hW⟩ := hW
  refine fr_callV_V (pc := 13) (As := [.int p0]) (st := []) wd_X3_entriesCome w_1062 ok_X3_entriesCome (by decide) rfl (Nat.le_of_ble_eq_true rfl) dX11_rowComes_13 ⟨Nat.le_refl 0, Nat.le_refl 0⟩ kc_X3 hrc hW (fun s4 hW => ?_)
  exact fr_ret (pc := 16) dX11_rowComes_16 rfl ⟨Nat.le_refl 0, Nat.le_refl 0⟩ hW
set_option maxHeartbeats 4000000 in
set_option maxRecDepth 100000 in
theorem q_X11_row {g : GG} {σ : Hs} {post : Option Value → Hs → Prop} (r0 : Nat) (p0 : Int32) (p1 : Int32) (p2 : Int32) (p3 : Int32) (hW : Do g M_X11_isNumber 0 0 [.int p0] σ (kI (fun i2 s1 => (i2 = 0 → post (some (.int (-102))) s1) ∧ (¬ i2 = 0 → Do g M_X11_isNumber 0 0 [.int p1] s1 (kI (fun i6 s5 => (i6 = 0 → post (some (.int (-102))) s5) ∧ (¬ i6 = 0 → Do g M_X11_isNumber 0 0 [.int p2] s5 (kI (fun i10 s9 => (i10 = 0 → post (some (.int (-102))) s9) ∧ (¬ i10 = 0 → Do g M_X11_isNumber 0 0 [.int p3] s9 (kI (fun i14 s13 => (¬ i14 = 0 → FR s13 r0 11 0 (fun r17 => Rc s13 r17 8 ∧ Do g M_X8_emptySlot 0 0 [.ref r17] s13 (kI (fun i19 s18 => (¬ i19 = (-1) → FR s18 r0 11 0 (fun r22 => Rc s18 r22 8 ∧ Do g M_X8_put 0 0 [.ref r22, .int i19, .int 0, .int p0] s18 (kV (fun s23 => FR s23 r0 11 0 (fun r24 => Rc s23 r24 8 ∧ Do g M_X8_put 0 0 [.ref r24, .int i19, .int 1, .int p1] s23 (kV (fun s25 => FR s25 r0 11 0 (fun r26 => Rc s25 r26 8 ∧ Do g M_X8_put 0 0 [.ref r26, .int i19, .int 2, .int p2] s25 (kV (fun s27 => FR s27 r0 11 0 (fun r28 => Rc s27 r28 8 ∧ Do g M_X8_put 0 0 [.ref r28, .int i19, .int 3, .int p3] s27 (kV (fun s29 => Rc s29 r0 11 ∧ Do g M_X11_rowComes 0 0 [.ref r0, .int i19] s29 (kV (fun s30 => post (some (.int i19)) s30))))))))))))))) ∧ (i19 = (-1) → post (some (.int (-104))) s18))))) ∧ (i14 = 0 → post (some (.int (-102))) s13))))))))))))) : Do g M_X11_row 0 0 [.ref r0, .int p0, .int p1, .int p2, .int p3] σ post := by
  refine Do.of (by decide +kernel) (Nat.le_of_ble_eq_true rfl) ?_
  show Fr g M_X11_row (0, 0, 0, 0) [(0, .ref r0), (1, .int p0), (2, .int p1), (3, .int p2), (4, .int p3)] [] 0 σ post
  refine fr_iload_n (pc := 0) 1 rfl rfl dX11_row_0 ?_
  refine fr_callS_I (pc := 1) (As := [.int p0]) (st := []) wd_X11_isNumber w_1063 ok_X11_isNumber (by decide) rfl (Nat.le_of_ble_eq_true rfl) dX11_row_1 ⟨Nat.le_refl 0, Nat.le_refl 0⟩ hW (fun i2 s1 hW => ?_)
  refine fr_if_eq (pc := 4) (tgt := 29) (by decide) dX11_row_4 hW (fun hW => ?_) (fun hW => ?_)
  · refine fr_bipush (pc := 29) (-102) (by decide) dX11_row_29 ?_
    exact fr_iret (pc := 31) dX11_row_31 rfl ⟨Nat.le_refl 0, Nat.le_refl 0⟩ hW
  · refine fr_iload_n (pc := 7) 2 rfl rfl dX11_row_7 ?_
    refine fr_callS_I (pc := 8) (As := [.int p1]) (st := []) wd_X11_isNumber w_1063 ok_X11_isNumber (by decide) rfl (Nat.le_of_ble_eq_true rfl) dX11_row_8 ⟨Nat.le_refl 0, Nat.le_refl 0⟩ hW (fun i6 s5 hW => ?_)
    refine fr_if_eq (pc := 11) (tgt := 29) (by decide) dX11_row_11 hW (fun hW => ?_) (fun hW => ?_)
    · refine fr_bipush (pc := 29) (-102) (by decide) dX11_row_29 ?_
      exact fr_iret (pc := 31) dX11_row_31 rfl ⟨Nat.le_refl 0, Nat.le_refl 0⟩ hW
    · refine fr_iload_n (pc := 14) 3 rfl rfl dX11_row_14 ?_
      refine fr_callS_I (pc := 15) (As := [.int p2]) (st := []) wd_X11_isNumber w_1063 ok_X11_isNumber (by decide) rfl (Nat.le_of_ble_eq_true rfl) dX11_row_15 ⟨Nat.le_refl 0, Nat.le_refl 0⟩ hW (fun i10 s9 hW => ?_)
      refine fr_if_eq (pc := 18) (tgt := 29) (by decide) dX11_row_18 hW (fun hW => ?_) (fun hW => ?_)
      · refine fr_bipush (pc := 29) (-102) (by decide) dX11_row_29 ?_
        exact fr_iret (pc := 31) dX11_row_31 rfl ⟨Nat.le_refl 0, Nat.le_refl 0⟩ hW
      · refine fr_iload (pc := 21) 4 rfl dX11_row_21 ?_
        refine fr_callS_I (pc := 23) (As := [.int p3]) (st := []) wd_X11_isNumber w_1063 ok_X11_isNumber (by decide) rfl (Nat.le_of_ble_eq_true rfl) dX11_row_23 ⟨Nat.le_refl 0, Nat.le_refl 0⟩ hW (fun i14 s13 hW => ?_)
        refine fr_if_ne (pc := 26) (tgt := 32) (by decide) dX11_row_26 hW (fun hW => ?_) (fun hW => ?_)
        · refine fr_aload_n (pc := 32) 0 rfl rfl dX11_row_32 ?_
          refine fr_getR (pc := 33) (T := TX11) (k := 0) kc_X11 (by decide) w_990 dX11_row_33 hW (fun r17 hW => ?_)
          obtain ⟨hrc, hW⟩ := hW
          refine fr_callV_I (pc := 36) (As := []) (st := []) wd_X8_emptySlot w_1064 ok_X8_emptySlot (by decide) rfl (Nat.le_of_ble_eq_true rfl) dX11_row_36 ⟨Nat.le_refl 0, Nat.le_refl 0⟩ kc_X8 hrc hW (fun i19 s18 hW => ?_)
          refine fr_istore (pc := 39) (lv' := [(5, .int i19), (0, .ref r0), (1, .int p0), (2, .int p1), (3, .int p2), (4, .int p3)]) (by decide) rfl dX11_row_39 ?_
          refine fr_iload (pc := 41) 0 rfl dX11_row_41 ?_
          refine fr_iconst (pc := 43) (-1) (by decide) dX11_row_43 ?_
          refine fr_icmp_ne (pc := 44) (tgt := 50) (by decide) dX11_row_44 hW (fun hW => ?_) (fun hW => ?_)
          · refine fr_aload_n (pc := 50) 1 rfl rfl dX11_row_50 ?_
            refine fr_getR (pc := 51) (T := TX11) (k := 0) kc_X11 (by decide) w_990 dX11_row_51 hW (fun r22 hW => ?_)
            refine fr_iload (pc := 54) 0 rfl dX11_row_54 ?_
            refine fr_iconst (pc := 56) 0 (by decide) dX11_row_56 ?_
            refine fr_iload_n (pc := 57) 2 rfl rfl dX11_row_57 ?_
            obtain ⟨hrc, hW⟩ := hW
            refine fr_callV_V (pc := 58) (As := [.int i19, .int 0, .int p0]) (st := []) wd_X8_put w_1065 ok_X8_put (by decide) rfl (Nat.le_of_ble_eq_true rfl) dX11_row_58 ⟨Nat.le_refl 0, Nat.le_refl 0⟩ kc_X8 hrc hW (fun s23 hW => ?_)
            refine fr_aload_n (pc := 61) 1 rfl rfl dX11_row_61 ?_
            refine fr_getR (pc := 62) (T := TX11) (k := 0) kc_X11 (by decide) w_990 dX11_row_62 hW (fun r24 hW => ?_)
            refine fr_iload (pc := 65) 0 rfl dX11_row_65 ?_
            refine fr_iconst (pc := 67) 1 (by decide) dX11_row_67 ?_
            refine fr_iload_n (pc := 68) 3 rfl rfl dX11_row_68 ?_
            obtain ⟨hrc, hW⟩ := hW
            refine fr_callV_V (pc := 69) (As := [.int i19, .int 1, .int p1]) (st := []) wd_X8_put w_1065 ok_X8_put (by decide) rfl (Nat.le_of_ble_eq_true rfl) dX11_row_69 ⟨Nat.le_refl 0, Nat.le_refl 0⟩ kc_X8 hrc hW (fun s25 hW => ?_)
            refine fr_aload_n (pc := 72) 1 rfl rfl dX11_row_72 ?_
            refine fr_getR (pc := 73) (T := TX11) (k := 0) kc_X11 (by decide) w_990 dX11_row_73 hW (fun r26 hW => ?_)
            refine fr_iload (pc := 76) 0 rfl dX11_row_76 ?_
            refine fr_iconst (pc := 78) 2 (by decide) dX11_row_78 ?_
            refine fr_iload_n (pc := 79) 4 rfl rfl dX11_row_79 ?_
            obtain ⟨hrc, hW⟩ := hW
            refine fr_callV_V (pc := 80) (As := [.int i19, .int 2, .int p2]) (st := []) wd_X8_put w_1065 ok_X8_put (by decide) rfl (Nat.le_of_ble_eq_true rfl) dX11_row_80 ⟨Nat.le_refl 0, Nat.le_refl 0⟩ kc_X8 hrc hW (fun s27 hW => ?_)
            refine fr_aload_n (pc := 83) 1 rfl rfl dX11_row_83 ?_
            refine fr_getR (pc := 84) (T := TX11) (k := 0) kc_X11 (by decide) w_990 dX11_row_84 hW (fun r28 hW => ?_)
            refine fr_iload (pc := 87) 0 rfl dX11_row_87 ?_
            refine fr_iconst (pc := 89) 3 (by decide) dX11_row_89 ?_
            refine fr_iload (pc := 90) 5 rfl dX11_row_90 ?_
            obtain ⟨hrc, hW⟩ := hW
            refine fr_callV_V (pc := 92) (As := [.int i19, .int 3, .int p3]) (st := []) wd_X8_put w_1065 ok_X8_put (by decide) rfl (Nat.le_of_ble_eq_true rfl) dX11_row_92 ⟨Nat.le_refl 0, Nat.le_refl 0⟩ kc_X8 hrc hW (fun s29 hW => ?_)
            refine fr_aload_n (pc := 95) 1 rfl rfl dX11_row_95 ?_
            refine fr_iload (pc := 96) 0 rfl dX11_row_96 ?_
            obtain ⟨hrc, hW⟩ := hW
            refine fr_callV_V (pc := 98) (As := [.int i19]) (st := []) wd_X11_rowComes w_1066 ok_X11_rowComes (by decide) rfl (Nat.le_of_ble_eq_true rfl) dX11_row_98 ⟨Nat.le_refl 0, Nat.le_refl 0⟩ kc_X11 hrc hW (fun s30 hW => ?_)
            refine fr_iload (pc := 101) 0 rfl dX11_row_101 ?_
            exact fr_iret (pc := 103) dX11_row_103 rfl ⟨Nat.le_refl 0, Nat.le_refl 0⟩ hW
          · refine fr_bipush (pc := 47) (-104) (by decide) dX11_row_47 ?_
            exact fr_iret (pc := 49) dX11_row_49 rfl ⟨Nat.le_refl 0, Nat.le_refl 0⟩ hW
        · refine fr_bipush (pc := 29) (-102) (by decide) dX11_row_29 ?_
          exact fr_iret (pc := 31) dX11_row_31 rfl ⟨Nat.le_refl 0, Nat.le_refl 0⟩ hW
set_option maxHeartbeats 4000000 in
set_option maxRecDepth 100000 in
theorem q_X12_in {g : GG} {σ : Hs} {post : Option Value → Hs → Prop} (p0 : Int32) (p1 : Int32) (p2 : Int32) (hW : (p0 < p1 → post (some (.int 0)) σ) ∧ (¬ p0 < p1 → (p2 < p0 → post (some (.int 0)) σ) ∧ (¬ p2 < p0 → post (some (.int 1)) σ))) : Do g M_X12_in 0 0 [.int p0, .int p1, .int p2] σ post := by
  refine Do.of (by decide +kernel) (Nat.le_of_ble_eq_true rfl) ?_
  show Fr g M_X12_in (0, 0, 0, 0) [(0, .int p0), (1, .int p1), (2, .int p2)] [] 0 σ post
  refine fr_iload_n (pc := 0) 0 rfl rfl dX12_in_0 ?_
  refine fr_iload_n (pc := 1) 1 rfl rfl dX12_in_1 ?_
  refine fr_icmp_lt (pc := 2) (tgt := 14) (by decide) dX12_in_2 hW (fun hW => ?_) (fun hW => ?_)
  · refine fr_iconst (pc := 14) 0 (by decide) dX12_in_14 ?_
    exact fr_zret (pc := 15) dX12_in_15 rfl ⟨Nat.le_refl 0, Nat.le_refl 0⟩ ⟨rfl, hW⟩
  · refine fr_iload_n (pc := 5) 0 rfl rfl dX12_in_5 ?_
    refine fr_iload_n (pc := 6) 2 rfl rfl dX12_in_6 ?_
    refine fr_icmp_gt (pc := 7) (tgt := 14) (by decide) dX12_in_7 hW (fun hW => ?_) (fun hW => ?_)
    · refine fr_iconst (pc := 14) 0 (by decide) dX12_in_14 ?_
      exact fr_zret (pc := 15) dX12_in_15 rfl ⟨Nat.le_refl 0, Nat.le_refl 0⟩ ⟨rfl, hW⟩
    · refine fr_iconst (pc := 10) 1 (by decide) dX12_in_10 ?_
      refine fr_goto (pc := 11) (tgt := 15) (by decide) dX12_in_11 ?_
      exact fr_zret (pc := 15) dX12_in_15 rfl ⟨Nat.le_refl 0, Nat.le_refl 0⟩ ⟨rfl, hW⟩
set_option maxHeartbeats 4000000 in
set_option maxRecDepth 100000 in
theorem q_X12_isNumber {g : GG} {σ : Hs} {post : Option Value → Hs → Prop} (p0 : Int32) (hW : Do g M_X12_in 0 0 [.int p0, .int 0, .int 99] σ (kI (fun i2 s1 => (narrow .boolean (.int i2) = .int i2 ∧ post (some (.int i2)) s1)))) : Do g M_X12_isNumber 0 0 [.int p0] σ post := by
  refine Do.of (by decide +kernel) (Nat.le_of_ble_eq_true rfl) ?_
  show Fr g M_X12_isNumber (0, 0, 0, 0) [(0, .int p0)] [] 0 σ post
  refine fr_iload_n (pc := 0) 0 rfl rfl dX12_isNumber_0 ?_
  refine fr_iconst (pc := 1) 0 (by decide) dX12_isNumber_1 ?_
  refine fr_bipush (pc := 2) 99 (by decide) dX12_isNumber_2 ?_
  refine fr_callS_I (pc := 4) (As := [.int p0, .int 0, .int 99]) (st := []) wd_X12_in w_1067 ok_X12_in (by decide) rfl (Nat.le_of_ble_eq_true rfl) dX12_isNumber_4 ⟨Nat.le_refl 0, Nat.le_refl 0⟩ hW (fun i2 s1 hW => ?_)
  exact fr_zret (pc := 7) dX12_isNumber_7 rfl ⟨Nat.le_refl 0, Nat.le_refl 0⟩ hW
def J_X12_emptySlot_2 (g : GG) (post : Option Value → Hs → Prop) (σ : Hs) (a0 : Nat) (v1 : Int32) : Prop := Fr g M_X12_emptySlot (0, 0, 0, 0) [(0, .ref a0), (1, .int v1)] [] 2 σ post
set_option maxHeartbeats 4000000 in
set_option maxRecDepth 100000 in
theorem q_X12_emptySlot {g : GG} {σ : Hs} {post : Option Value → Hs → Prop} (r0 : Nat) (hW : J_X12_emptySlot_2 g post σ r0 0 ) : Do g M_X12_emptySlot 0 0 [.ref r0] σ post := by
  refine Do.of (by decide +kernel) (Nat.le_of_ble_eq_true rfl) ?_
  show Fr g M_X12_emptySlot (0, 0, 0, 0) [(0, .ref r0)] [] 0 σ post
  refine fr_iconst (pc := 0) 0 (by decide) dX12_emptySlot_0 ?_
  refine fr_istore_n (pc := 1) (lv' := [(1, .int 0), (0, .ref r0)]) rfl (by decide) rfl dX12_emptySlot_1 ?_
  exact fr_sub [1, 0] rfl hW
set_option maxHeartbeats 4000000 in
set_option maxRecDepth 100000 in
theorem q_X12_emptySlot_2 {g : GG} {σ : Hs} {post : Option Value → Hs → Prop} (a0 : Nat) (v1 : Int32) (hW : FR σ a0 12 0 (fun r1 => AI g σ r1 1 v1 (fun i2 => (i2 = 0 → post (some (.int v1)) σ) ∧ (¬ i2 = 0 → J_X12_emptySlot_2 g post σ a0 ((v1 + 1)) )))) : J_X12_emptySlot_2 g post σ a0 v1 := by
  show Fr g M_X12_emptySlot (0, 0, 0, 0) [(0, .ref a0), (1, .int v1)] [] 2 σ post
  refine fr_aload_n (pc := 2) 0 rfl rfl dX12_emptySlot_2 ?_
  refine fr_getR (pc := 3) (T := TX12) (k := 0) kc_X12 (by decide) w_1006 dX12_emptySlot_3 hW (fun r1 hW => ?_)
  refine fr_iload_n (pc := 6) 1 rfl rfl dX12_emptySlot_6 ?_
  refine fr_zald (pc := 7) dX12_emptySlot_7 hW (fun i2 hW => ?_)
  refine fr_if_eq (pc := 8) (tgt := 17) (by decide) dX12_emptySlot_8 hW (fun hW => ?_) (fun hW => ?_)
  · refine fr_iload_n (pc := 17) 1 rfl rfl dX12_emptySlot_17 ?_
    exact fr_iret (pc := 18) dX12_emptySlot_18 rfl ⟨Nat.le_refl 0, Nat.le_refl 0⟩ hW
  · refine fr_iinc (pc := 11) (lv' := [(1, .int (v1 + 1)), (0, .ref a0)]) (v1 + 1) 1 rfl (congrArg (fun z => v1 + z) (by decide)) (by decide) rfl dX12_emptySlot_11 ?_
    refine fr_goto (pc := 14) (tgt := 2) (by decide) dX12_emptySlot_14 ?_
    exact fr_sub [1, 0] rfl hW
set_option maxHeartbeats 4000000 in
set_option maxRecDepth 100000 in
theorem q_X12_keySize {g : GG} {σ : Hs} {post : Option Value → Hs → Prop} (p0 : Int32) (hW : (5 ≤ p0 → (25 ≤ p0 → post (some (.int 3)) σ) ∧ (¬ 25 ≤ p0 → post (some (.int 2)) σ)) ∧ (¬ 5 ≤ p0 → post (some (.int 1)) σ)) : Do g M_X12_keySize 0 0 [.int p0] σ post := by
  refine Do.of (by decide +kernel) (Nat.le_of_ble_eq_true rfl) ?_
  show Fr g M_X12_keySize (0, 0, 0, 0) [(0, .int p0)] [] 0 σ post
  refine fr_iload_n (pc := 0) 0 rfl rfl dX12_keySize_0 ?_
  refine fr_iconst (pc := 1) 5 (by decide) dX12_keySize_1 ?_
  refine fr_icmp_ge (pc := 2) (tgt := 9) (by decide) dX12_keySize_2 hW (fun hW => ?_) (fun hW => ?_)
  · refine fr_iload_n (pc := 9) 0 rfl rfl dX12_keySize_9 ?_
    refine fr_bipush (pc := 10) 25 (by decide) dX12_keySize_10 ?_
    refine fr_icmp_ge (pc := 12) (tgt := 19) (by decide) dX12_keySize_12 hW (fun hW => ?_) (fun hW => ?_)
    · refine fr_iconst (pc := 19) 3 (by decide) dX12_keySize_19 ?_
      exact fr_iret (pc := 20) dX12_keySize_20 rfl ⟨Nat.le_refl 0, Nat.le_refl 0⟩ hW
    · refine fr_iconst (pc := 15) 2 (by decide) dX12_keySize_15 ?_
      refine fr_goto (pc := 16) (tgt := 20) (by decide) dX12_keySize_16 ?_
      exact fr_iret (pc := 20) dX12_keySize_20 rfl ⟨Nat.le_refl 0, Nat.le_refl 0⟩ hW
  · refine fr_iconst (pc := 5) 1 (by decide) dX12_keySize_5 ?_
    refine fr_goto (pc := 6) (tgt := 20) (by decide) dX12_keySize_6 ?_
    exact fr_iret (pc := 20) dX12_keySize_20 rfl ⟨Nat.le_refl 0, Nat.le_refl 0⟩ hW
def J_X12_keyAt_9 (g : GG) (post : Option Value → Hs → Prop) (σ : Hs) (v1 : Int32) (v2 : Int32) (v3 : Int32) : Prop := Fr g M_X12_keyAt (0, 0, 0, 0) [(1, .int v1), (2, .int v2), (3, .int v3)] [] 9 σ post
set_option maxHeartbeats 4000000 in
set_option maxRecDepth 100000 in
theorem q_X12_keyAt {g : GG} {σ : Hs} {post : Option Value → Hs → Prop} (p0 : Int32) (p1 : Int32) (hW : Do g M_X12_keySize 0 0 [.int p0] σ (kI (fun i2 s1 => J_X12_keyAt_9 g post s1 p1 p0 ((i2 - 1)) ))) : Do g M_X12_keyAt 0 0 [.int p0, .int p1] σ post := by
  refine Do.of (by decide +kernel) (Nat.le_of_ble_eq_true rfl) ?_
  show Fr g M_X12_keyAt (0, 0, 0, 0) [(0, .int p0), (1, .int p1)] [] 0 σ post
  refine fr_iload_n (pc := 0) 0 rfl rfl dX12_keyAt_0 ?_
  refine fr_istore_n (pc := 1) (lv' := [(2, .int p0), (0, .int p0), (1, .int p1)]) rfl (by decide) rfl dX12_keyAt_1 ?_
  refine fr_iload_n (pc := 2) 1 rfl rfl dX12_keyAt_2 ?_
  refine fr_callS_I (pc := 3) (As := [.int p0]) (st := []) wd_X12_keySize w_1068 ok_X12_keySize (by decide) rfl (Nat.le_of_ble_eq_true rfl) dX12_keyAt_3 ⟨Nat.le_refl 0, Nat.le_refl 0⟩ hW (fun i2 s1 hW => ?_)
  refine fr_iconst (pc := 6) 1 (by decide) dX12_keyAt_6 ?_
  refine fr_isub (pc := 7) dX12_keyAt_7 ?_
  refine fr_istore_n (pc := 8) (lv' := [(3, .int (i2 - 1)), (2, .int p0), (0, .int p0), (1, .int p1)]) rfl (by decide) rfl dX12_keyAt_8 ?_
  exact fr_sub [3, 1, 0] rfl hW
set_option maxHeartbeats 4000000 in
set_option maxRecDepth 100000 in
theorem q_X12_keyAt_9 {g : GG} {σ : Hs} {post : Option Value → Hs → Prop} (v1 : Int32) (v2 : Int32) (v3 : Int32) (hW : (v3 ≤ v1 → post (some (.int ((v2 - v2 / 5 * 5) - 1))) σ) ∧ (¬ v3 ≤ v1 → J_X12_keyAt_9 g post σ v1 ((v2 / 5)) ((v3 + (-1))) )) : J_X12_keyAt_9 g post σ v1 v2 v3 := by
  show Fr g M_X12_keyAt (0, 0, 0, 0) [(1, .int v1), (2, .int v2), (3, .int v3)] [] 9 σ post
  refine fr_iload_n (pc := 9) 2 rfl rfl dX12_keyAt_9 ?_
  refine fr_iload_n (pc := 10) 0 rfl rfl dX12_keyAt_10 ?_
  refine fr_icmp_le (pc := 11) (tgt := 24) (by decide) dX12_keyAt_11 hW (fun hW => ?_) (fun hW => ?_)
  · refine fr_iload_n (pc := 24) 1 rfl rfl dX12_keyAt_24 ?_
    refine fr_iconst (pc := 25) 5 (by decide) dX12_keyAt_25 ?_
    refine fr_irem (pc := 26) (by decide) dX12_keyAt_26 ?_
    refine fr_iconst (pc := 27) 1 (by decide) dX12_keyAt_27 ?_
    refine fr_isub (pc := 28) dX12_keyAt_28 ?_
    exact fr_iret (pc := 29) dX12_keyAt_29 rfl ⟨Nat.le_refl 0, Nat.le_refl 0⟩ hW
  · refine fr_iload_n (pc := 14) 1 rfl rfl dX12_keyAt_14 ?_
    refine fr_iconst (pc := 15) 5 (by decide) dX12_keyAt_15 ?_
    refine fr_idiv (pc := 16) (by decide) dX12_keyAt_16 ?_
    refine fr_istore_n (pc := 17) (lv' := [(2, .int (v2 / 5)), (1, .int v1), (3, .int v3)]) rfl (by decide) rfl dX12_keyAt_17 ?_
    refine fr_iinc (pc := 18) (lv' := [(3, .int (v3 + (-1))), (2, .int (v2 / 5)), (1, .int v1)]) (v3 + (-1)) 2 rfl (congrArg (fun z => v3 + z) (by decide)) (by decide) rfl dX12_keyAt_18 ?_
    refine fr_goto (pc := 21) (tgt := 9) (by decide) dX12_keyAt_21 ?_
    exact fr_sub [2, 1, 0] rfl hW
def J_X12_isAhead_3 (g : GG) (post : Option Value → Hs → Prop) (σ : Hs) (a0 : Nat) (v1 : Int32) (v2 : Int32) (v3 : Int32) (v4 : Int32) : Prop := Fr g M_X12_isAhead (0, 0, 0, 0) [(0, .ref a0), (1, .int v1), (2, .int v2), (3, .int v3), (4, .int v4)] [] 3 σ post
set_option maxHeartbeats 4000000 in
set_option maxRecDepth 100000 in
theorem q_X12_isAhead {g : GG} {σ : Hs} {post : Option Value → Hs → Prop} (r0 : Nat) (p0 : Int32) (p1 : Int32) (p2 : Int32) (hW : J_X12_isAhead_3 g post σ r0 p0 p1 p2 0 ) : Do g M_X12_isAhead 0 0 [.ref r0, .int p0, .int p1, .int p2] σ post := by
  refine Do.of (by decide +kernel) (Nat.le_of_ble_eq_true rfl) ?_
  show Fr g M_X12_isAhead (0, 0, 0, 0) [(0, .ref r0), (1, .int p0), (2, .int p1), (3, .int p2)] [] 0 σ post
  refine fr_iconst (pc := 0) 0 (by decide) dX12_isAhead_0 ?_
  refine fr_istore (pc := 1) (lv' := [(4, .int 0), (0, .ref r0), (1, .int p0), (2, .int p1), (3, .int p2)]) (by decide) rfl dX12_isAhead_1 ?_
  exact fr_sub [1, 2, 3, 4, 0] rfl hW
set_option maxHeartbeats 4000000 in
set_option maxRecDepth 100000 in
theorem q_X12_isAhead_3 {g : GG} {σ : Hs} {post : Option Value → Hs → Prop} (a0 : Nat) (v1 : Int32) (v2 : Int32) (v3 : Int32) (v4 : Int32) (hW : Do g M_X12_keySize 0 0 [.int v1] σ (kI (fun i2 s1 => (i2 ≤ v4 → (v3 ≤ v2 → post (some (.int 0)) s1) ∧ (¬ v3 ≤ v2 → post (some (.int 1)) s1)) ∧ (¬ i2 ≤ v4 → FR s1 a0 12 1 (fun r5 => Do g M_X12_keyAt 0 0 [.int v1, .int v4] s1 (kI (fun i7 s6 => AI g s6 r5 0 ((4 * v2) + i7) (fun i10 => FR s6 a0 12 1 (fun r11 => Do g M_X12_keyAt 0 0 [.int v1, .int v4] s6 (kI (fun i13 s12 => AI g s12 r11 0 ((4 * v3) + i13) (fun i16 => (i10 = i16 → J_X12_isAhead_3 g post s12 a0 v1 v2 v3 ((v4 + 1)) ) ∧ (¬ i10 = i16 → (i16 ≤ i10 → post (some (.int 0)) s12) ∧ (¬ i16 ≤ i10 → post (some (.int 1)) s12)))))))))))))) : J_X12_isAhead_3 g post σ a0 v1 v2 v3 v4 := by
  show Fr g M_X12_isAhead (0, 0, 0, 0) [(0, .ref a0), (1, .int v1), (2, .int v2), (3, .int v3), (4, .int v4)] [] 3 σ post
  refine fr_iload (pc := 3) 4 rfl dX12_isAhead_3 ?_
  refine fr_iload_n (pc := 5) 1 rfl rfl dX12_isAhead_5 ?_
  refine fr_callS_I (pc := 6) (As := [.int v1]) (st := [.int v4]) wd_X12_keySize w_1068 ok_X12_keySize (by decide) rfl (Nat.le_of_ble_eq_true rfl) dX12_isAhead_6 ⟨Nat.le_refl 0, Nat.le_refl 0⟩ hW (fun i2 s1 hW => ?_)
  refine fr_icmp_ge (pc := 9) (tgt := 72) (by decide) dX12_isAhead_9 hW (fun hW => ?_) (fun hW => ?_)
  · refine fr_iload_n (pc := 72) 2 rfl rfl dX12_isAhead_72 ?_
    refine fr_iload_n (pc := 73) 3 rfl rfl dX12_isAhead_73 ?_
    refine fr_icmp_ge (pc := 74) (tgt := 81) (by decide) dX12_isAhead_74 hW (fun hW => ?_) (fun hW => ?_)
    · refine fr_iconst (pc := 81) 0 (by decide) dX12_isAhead_81 ?_
      exact fr_zret (pc := 82) dX12_isAhead_82 rfl ⟨Nat.le_refl 0, Nat.le_refl 0⟩ ⟨rfl, hW⟩
    · refine fr_iconst (pc := 77) 1 (by decide) dX12_isAhead_77 ?_
      refine fr_goto (pc := 78) (tgt := 82) (by decide) dX12_isAhead_78 ?_
      exact fr_zret (pc := 82) dX12_isAhead_82 rfl ⟨Nat.le_refl 0, Nat.le_refl 0⟩ ⟨rfl, hW⟩
  · refine fr_aload_n (pc := 12) 0 rfl rfl dX12_isAhead_12 ?_
    refine fr_getR (pc := 13) (T := TX12) (k := 1) kc_X12 (by decide) w_1007 dX12_isAhead_13 hW (fun r5 hW => ?_)
    refine fr_iconst (pc := 16) 4 (by decide) dX12_isAhead_16 ?_
    refine fr_iload_n (pc := 17) 2 rfl rfl dX12_isAhead_17 ?_
    refine fr_imul (pc := 18) dX12_isAhead_18 ?_
    refine fr_iload_n (pc := 19) 1 rfl rfl dX12_isAhead_19 ?_
    refine fr_iload (pc := 20) 4 rfl dX12_isAhead_20 ?_
    refine fr_callS_I (pc := 22) (As := [.int v1, .int v4]) (st := [.int (4 * v2), .ref r5]) wd_X12_keyAt w_1069 ok_X12_keyAt (by decide) rfl (Nat.le_of_ble_eq_true rfl) dX12_isAhead_22 ⟨Nat.le_refl 0, Nat.le_refl 0⟩ hW (fun i7 s6 hW => ?_)
    refine fr_iadd (pc := 25) dX12_isAhead_25 ?_
    refine fr_iald (pc := 26) dX12_isAhead_26 hW (fun i10 hW => ?_)
    refine fr_istore (pc := 27) (lv' := [(5, .int i10), (0, .ref a0), (1, .int v1), (2, .int v2), (3, .int v3), (4, .int v4)]) (by decide) rfl dX12_isAhead_27 ?_
    refine fr_aload_n (pc := 29) 1 rfl rfl dX12_isAhead_29 ?_
    refine fr_getR (pc := 30) (T := TX12) (k := 1) kc_X12 (by decide) w_1007 dX12_isAhead_30 hW (fun r11 hW => ?_)
    refine fr_iconst (pc := 33) 4 (by decide) dX12_isAhead_33 ?_
    refine fr_iload_n (pc := 34) 4 rfl rfl dX12_isAhead_34 ?_
    refine fr_imul (pc := 35) dX12_isAhead_35 ?_
    refine fr_iload_n (pc := 36) 2 rfl rfl dX12_isAhead_36 ?_
    refine fr_iload (pc := 37) 5 rfl dX12_isAhead_37 ?_
    refine fr_callS_I (pc := 39) (As := [.int v1, .int v4]) (st := [.int (4 * v3), .ref r11]) wd_X12_keyAt w_1069 ok_X12_keyAt (by decide) rfl (Nat.le_of_ble_eq_true rfl) dX12_isAhead_39 ⟨Nat.le_refl 0, Nat.le_refl 0⟩ hW (fun i13 s12 hW => ?_)
    refine fr_iadd (pc := 42) dX12_isAhead_42 ?_
    refine fr_iald (pc := 43) dX12_isAhead_43 hW (fun i16 hW => ?_)
    refine fr_istore (pc := 44) (lv' := [(6, .int i16), (5, .int i10), (0, .ref a0), (1, .int v1), (2, .int v2), (3, .int v3), (4, .int v4)]) (by decide) rfl dX12_isAhead_44 ?_
    refine fr_iload (pc := 46) 1 rfl dX12_isAhead_46 ?_
    refine fr_iload (pc := 48) 0 rfl dX12_isAhead_48 ?_
    refine fr_icmp_eq (pc := 50) (tgt := 66) (by decide) dX12_isAhead_50 hW (fun hW => ?_) (fun hW => ?_)
    · refine fr_iinc (pc := 66) (lv' := [(4, .int (v4 + 1)), (6, .int i16), (5, .int i10), (0, .ref a0), (1, .int v1), (2, .int v2), (3, .int v3)]) (v4 + 1) 6 rfl (congrArg (fun z => v4 + z) (by decide)) (by decide) rfl dX12_isAhead_66 ?_
      refine fr_goto (pc := 69) (tgt := 3) (by decide) dX12_isAhead_69 ?_
      exact fr_sub [3, 4, 5, 6, 0] rfl hW
    · refine fr_iload (pc := 53) 1 rfl dX12_isAhead_53 ?_
      refine fr_iload (pc := 55) 0 rfl dX12_isAhead_55 ?_
      refine fr_icmp_ge (pc := 57) (tgt := 64) (by decide) dX12_isAhead_57 hW (fun hW => ?_) (fun hW => ?_)
      · refine fr_iconst (pc := 64) 0 (by decide) dX12_isAhead_64 ?_
        exact fr_zret (pc := 65) dX12_isAhead_65 rfl ⟨Nat.le_refl 0, Nat.le_refl 0⟩ ⟨rfl, hW⟩
      · refine fr_iconst (pc := 60) 1 (by decide) dX12_isAhead_60 ?_
        refine fr_goto (pc := 61) (tgt := 65) (by decide) dX12_isAhead_61 ?_
        exact fr_zret (pc := 65) dX12_isAhead_65 rfl ⟨Nat.le_refl 0, Nat.le_refl 0⟩ ⟨rfl, hW⟩
set_option maxHeartbeats 4000000 in
set_option maxRecDepth 100000 in
theorem q_X12_roomOf {g : GG} {σ : Hs} {post : Option Value → Hs → Prop} (p0 : Int32) (hW : Do g M_X12_keySize 0 0 [.int p0] σ (kI (fun i2 s1 => (¬ i2 = 1 → Do g M_X12_keySize 0 0 [.int p0] s1 (kI (fun i6 s5 => (¬ i6 = 2 → post (some (.int 3)) s5) ∧ (i6 = 2 → post (some (.int 4)) s5)))) ∧ (i2 = 1 → post (some (.int 6)) s1)))) : Do g M_X12_roomOf 0 0 [.int p0] σ post := by
  refine Do.of (by decide +kernel) (Nat.le_of_ble_eq_true rfl) ?_
  show Fr g M_X12_roomOf (0, 0, 0, 0) [(0, .int p0)] [] 0 σ post
  refine fr_iload_n (pc := 0) 0 rfl rfl dX12_roomOf_0 ?_
  refine fr_callS_I (pc := 1) (As := [.int p0]) (st := []) wd_X12_keySize w_1068 ok_X12_keySize (by decide) rfl (Nat.le_of_ble_eq_true rfl) dX12_roomOf_1 ⟨Nat.le_refl 0, Nat.le_refl 0⟩ hW (fun i2 s1 hW => ?_)
  refine fr_iconst (pc := 4) 1 (by decide) dX12_roomOf_4 ?_
  refine fr_icmp_ne (pc := 5) (tgt := 13) (by decide) dX12_roomOf_5 hW (fun hW => ?_) (fun hW => ?_)
  · refine fr_iload_n (pc := 13) 0 rfl rfl dX12_roomOf_13 ?_
    refine fr_callS_I (pc := 14) (As := [.int p0]) (st := []) wd_X12_keySize w_1068 ok_X12_keySize (by decide) rfl (Nat.le_of_ble_eq_true rfl) dX12_roomOf_14 ⟨Nat.le_refl 0, Nat.le_refl 0⟩ hW (fun i6 s5 hW => ?_)
    refine fr_iconst (pc := 17) 2 (by decide) dX12_roomOf_17 ?_
    refine fr_icmp_ne (pc := 18) (tgt := 25) (by decide) dX12_roomOf_18 hW (fun hW => ?_) (fun hW => ?_)
    · refine fr_iconst (pc := 25) 3 (by decide) dX12_roomOf_25 ?_
      exact fr_iret (pc := 26) dX12_roomOf_26 rfl ⟨Nat.le_refl 0, Nat.le_refl 0⟩ hW
    · refine fr_iconst (pc := 21) 4 (by decide) dX12_roomOf_21 ?_
      refine fr_goto (pc := 22) (tgt := 26) (by decide) dX12_roomOf_22 ?_
      exact fr_iret (pc := 26) dX12_roomOf_26 rfl ⟨Nat.le_refl 0, Nat.le_refl 0⟩ hW
  · refine fr_bipush (pc := 8) 6 (by decide) dX12_roomOf_8 ?_
    refine fr_goto (pc := 10) (tgt := 26) (by decide) dX12_roomOf_10 ?_
    exact fr_iret (pc := 26) dX12_roomOf_26 rfl ⟨Nat.le_refl 0, Nat.le_refl 0⟩ hW
def J_X12_cut_7 (g : GG) (post : Option Value → Hs → Prop) (σ : Hs) (a0 : Nat) (v1 : Int32) (v2 : Int32) (v3 : Int32) : Prop := Fr g M_X12_cut (0, 0, 0, 0) [(0, .ref a0), (1, .int v1), (2, .int v2), (3, .int v3)] [] 7 σ post
set_option maxHeartbeats 4000000 in
set_option maxRecDepth 100000 in
theorem q_X12_cut {g : GG} {σ : Hs} {post : Option Value → Hs → Prop} (r0 : Nat) (p0 : Int32) (p1 : Int32) (hW : FR σ r0 12 11 (fun r1 => AI g σ r1 0 p0 (fun i2 => J_X12_cut_7 g post σ r0 p0 p1 i2 ))) : Do g M_X12_cut 0 0 [.ref r0, .int p0, .int p1] σ post := by
  refine Do.of (by decide +kernel) (Nat.le_of_ble_eq_true rfl) ?_
  show Fr g M_X12_cut (0, 0, 0, 0) [(0, .ref r0), (1, .int p0), (2, .int p1)] [] 0 σ post
  refine fr_aload_n (pc := 0) 0 rfl rfl dX12_cut_0 ?_
  refine fr_getR (pc := 1) (T := TX12) (k := 11) kc_X12 (by decide) w_1015 dX12_cut_1 hW (fun r1 hW => ?_)
  refine fr_iload_n (pc := 4) 1 rfl rfl dX12_cut_4 ?_
  refine fr_iald (pc := 5) dX12_cut_5 hW (fun i2 hW => ?_)
  refine fr_istore_n (pc := 6) (lv' := [(3, .int i2), (0, .ref r0), (1, .int p0), (2, .int p1)]) rfl (by decide) rfl dX12_cut_6 ?_
  exact fr_sub [1, 2, 3, 0] rfl hW
set_option maxHeartbeats 4000000 in
set_option maxRecDepth 100000 in
theorem q_X12_cut_7 {g : GG} {σ : Hs} {post : Option Value → Hs → Prop} (a0 : Nat) (v1 : Int32) (v2 : Int32) (v3 : Int32) (hW : (v3 ≤ (v2 + 1) → FR σ a0 12 10 (fun r3 => AI g σ r3 0 ((64 * v1) + v2) (fun i4 => FR σ a0 12 10 (fun r5 => SI g σ r5 0 ((64 * v1) + v2) ((i4 + 1) / 2) (fun s6 => FR s6 a0 12 10 (fun r7 => SI g s6 r7 0 (((64 * v1) + v2) + 1) (i4 / 2) (fun s8 => FR s8 a0 12 11 (fun r9 => AI g s8 r9 0 v1 (fun i10 => SI g s8 r9 0 v1 (i10 + 1) (fun s11 => FR s11 a0 12 7 (fun r12 => AI g s11 r12 0 v1 (fun i13 => SI g s11 r12 0 v1 (i13 + 1) (fun s14 => post none s14))))))))))))) ∧ (¬ v3 ≤ (v2 + 1) → FR σ a0 12 10 (fun r15 => FR σ a0 12 10 (fun r16 => AI g σ r16 0 (((64 * v1) + v3) - 1) (fun i17 => SI g σ r15 0 ((64 * v1) + v3) i17 (fun s18 => J_X12_cut_7 g post s18 a0 v1 v2 ((v3 + (-1))) )))))) : J_X12_cut_7 g post σ a0 v1 v2 v3 := by
  show Fr g M_X12_cut (0, 0, 0, 0) [(0, .ref a0), (1, .int v1), (2, .int v2), (3, .int v3)] [] 7 σ post
  refine fr_iload_n (pc := 7) 3 rfl rfl dX12_cut_7 ?_
  refine fr_iload_n (pc := 8) 2 rfl rfl dX12_cut_8 ?_
  refine fr_iconst (pc := 9) 1 (by decide) dX12_cut_9 ?_
  refine fr_iadd (pc := 10) dX12_cut_10 ?_
  refine fr_icmp_le (pc := 11) (tgt := 44) (by decide) dX12_cut_11 hW (fun hW => ?_) (fun hW => ?_)
  · refine fr_aload_n (pc := 44) 0 rfl rfl dX12_cut_44 ?_
    refine fr_getR (pc := 45) (T := TX12) (k := 10) kc_X12 (by decide) w_1014 dX12_cut_45 hW (fun r3 hW => ?_)
    refine fr_bipush (pc := 48) 64 (by decide) dX12_cut_48 ?_
    refine fr_iload_n (pc := 50) 1 rfl rfl dX12_cut_50 ?_
    refine fr_imul (pc := 51) dX12_cut_51 ?_
    refine fr_iload_n (pc := 52) 2 rfl rfl dX12_cut_52 ?_
    refine fr_iadd (pc := 53) dX12_cut_53 ?_
    refine fr_iald (pc := 54) dX12_cut_54 hW (fun i4 hW => ?_)
    refine fr_istore_n (pc := 55) (lv' := [(3, .int i4), (0, .ref a0), (1, .int v1), (2, .int v2)]) rfl (by decide) rfl dX12_cut_55 ?_
    refine fr_aload_n (pc := 56) 1 rfl rfl dX12_cut_56 ?_
    refine fr_getR (pc := 57) (T := TX12) (k := 10) kc_X12 (by decide) w_1014 dX12_cut_57 hW (fun r5 hW => ?_)
    refine fr_bipush (pc := 60) 64 (by decide) dX12_cut_60 ?_
    refine fr_iload_n (pc := 62) 2 rfl rfl dX12_cut_62 ?_
    refine fr_imul (pc := 63) dX12_cut_63 ?_
    refine fr_iload_n (pc := 64) 3 rfl rfl dX12_cut_64 ?_
    refine fr_iadd (pc := 65) dX12_cut_65 ?_
    refine fr_iload_n (pc := 66) 0 rfl rfl dX12_cut_66 ?_
    refine fr_iconst (pc := 67) 1 (by decide) dX12_cut_67 ?_
    refine fr_iadd (pc := 68) dX12_cut_68 ?_
    refine fr_iconst (pc := 69) 2 (by decide) dX12_cut_69 ?_
    refine fr_idiv (pc := 70) (by decide) dX12_cut_70 ?_
    refine fr_iast (pc := 71) dX12_cut_71 hW (fun s6 hW => ?_)
    refine fr_aload_n (pc := 72) 1 rfl rfl dX12_cut_72 ?_
    refine fr_getR (pc := 73) (T := TX12) (k := 10) kc_X12 (by decide) w_1014 dX12_cut_73 hW (fun r7 hW => ?_)
    refine fr_bipush (pc := 76) 64 (by decide) dX12_cut_76 ?_
    refine fr_iload_n (pc := 78) 2 rfl rfl dX12_cut_78 ?_
    refine fr_imul (pc := 79) dX12_cut_79 ?_
    refine fr_iload_n (pc := 80) 3 rfl rfl dX12_cut_80 ?_
    refine fr_iadd (pc := 81) dX12_cut_81 ?_
    refine fr_iconst (pc := 82) 1 (by decide) dX12_cut_82 ?_
    refine fr_iadd (pc := 83) dX12_cut_83 ?_
    refine fr_iload_n (pc := 84) 0 rfl rfl dX12_cut_84 ?_
    refine fr_iconst (pc := 85) 2 (by decide) dX12_cut_85 ?_
    refine fr_idiv (pc := 86) (by decide) dX12_cut_86 ?_
    refine fr_iast (pc := 87) dX12_cut_87 hW (fun s8 hW => ?_)
    refine fr_aload_n (pc := 88) 1 rfl rfl dX12_cut_88 ?_
    refine fr_getR (pc := 89) (T := TX12) (k := 11) kc_X12 (by decide) w_1015 dX12_cut_89 hW (fun r9 hW => ?_)
    refine fr_iload_n (pc := 92) 2 rfl rfl dX12_cut_92 ?_
    refine fr_dup2 (pc := 93) rfl rfl dX12_cut_93 ?_
    refine fr_iald (pc := 94) dX12_cut_94 hW (fun i10 hW => ?_)
    refine fr_iconst (pc := 95) 1 (by decide) dX12_cut_95 ?_
    refine fr_iadd (pc := 96) dX12_cut_96 ?_
    refine fr_iast (pc := 97) dX12_cut_97 hW (fun s11 hW => ?_)
    refine fr_aload_n (pc := 98) 1 rfl rfl dX12_cut_98 ?_
    refine fr_getR (pc := 99) (T := TX12) (k := 7) kc_X12 (by decide) w_1011 dX12_cut_99 hW (fun r12 hW => ?_)
    refine fr_iload_n (pc := 102) 2 rfl rfl dX12_cut_102 ?_
    refine fr_dup2 (pc := 103) rfl rfl dX12_cut_103 ?_
    refine fr_iald (pc := 104) dX12_cut_104 hW (fun i13 hW => ?_)
    refine fr_iconst (pc := 105) 1 (by decide) dX12_cut_105 ?_
    refine fr_iadd (pc := 106) dX12_cut_106 ?_
    refine fr_iast (pc := 107) dX12_cut_107 hW (fun s14 hW => ?_)
    exact fr_ret (pc := 108) dX12_cut_108 rfl ⟨Nat.le_refl 0, Nat.le_refl 0⟩ hW
  · refine fr_aload_n (pc := 14) 0 rfl rfl dX12_cut_14 ?_
    refine fr_getR (pc := 15) (T := TX12) (k := 10) kc_X12 (by decide) w_1014 dX12_cut_15 hW (fun r15 hW => ?_)
    refine fr_bipush (pc := 18) 64 (by decide) dX12_cut_18 ?_
    refine fr_iload_n (pc := 20) 1 rfl rfl dX12_cut_20 ?_
    refine fr_imul (pc := 21) dX12_cut_21 ?_
    refine fr_iload_n (pc := 22) 3 rfl rfl dX12_cut_22 ?_
    refine fr_iadd (pc := 23) dX12_cut_23 ?_
    refine fr_aload_n (pc := 24) 0 rfl rfl dX12_cut_24 ?_
    refine fr_getR (pc := 25) (T := TX12) (k := 10) kc_X12 (by decide) w_1014 dX12_cut_25 hW (fun r16 hW => ?_)
    refine fr_bipush (pc := 28) 64 (by decide) dX12_cut_28 ?_
    refine fr_iload_n (pc := 30) 1 rfl rfl dX12_cut_30 ?_
    refine fr_imul (pc := 31) dX12_cut_31 ?_
    refine fr_iload_n (pc := 32) 3 rfl rfl dX12_cut_32 ?_
    refine fr_iadd (pc := 33) dX12_cut_33 ?_
    refine fr_iconst (pc := 34) 1 (by decide) dX12_cut_34 ?_
    refine fr_isub (pc := 35) dX12_cut_35 ?_
    refine fr_iald (pc := 36) dX12_cut_36 hW (fun i17 hW => ?_)
    refine fr_iast (pc := 37) dX12_cut_37 hW (fun s18 hW => ?_)
    refine fr_iinc (pc := 38) (lv' := [(3, .int (v3 + (-1))), (0, .ref a0), (1, .int v1), (2, .int v2)]) (v3 + (-1)) 3 rfl (congrArg (fun z => v3 + z) (by decide)) (by decide) rfl dX12_cut_38 ?_
    refine fr_goto (pc := 41) (tgt := 7) (by decide) dX12_cut_41 ?_
    exact fr_sub [1, 2, 3, 0] rfl hW
def J_X12_comeInto_11 (g : GG) (post : Option Value → Hs → Prop) (σ : Hs) (a0 : Nat) (v1 : Int32) (v2 : Int32) (v3 : Int32) (v4 : Int32) (v5 : Int32) (v6 : Int32) : Prop := Fr g M_X12_comeInto (0, 0, 0, 0) [(0, .ref a0), (1, .int v1), (2, .int v2), (3, .int v3), (4, .int v4), (5, .int v5), (6, .int v6)] [] 11 σ post
def J_X12_comeInto_108 (g : GG) (post : Option Value → Hs → Prop) (σ : Hs) (a0 : Nat) (v1 : Int32) (v2 : Int32) (v3 : Int32) (v4 : Int32) (v6 : Int32) : Prop := Fr g M_X12_comeInto (0, 0, 0, 0) [(0, .ref a0), (1, .int v1), (2, .int v2), (3, .int v3), (4, .int v4), (6, .int v6)] [] 108 σ post
def J_X12_comeInto_167 (g : GG) (post : Option Value → Hs → Prop) (σ : Hs) (a0 : Nat) (v1 : Int32) (v2 : Int32) (v3 : Int32) (v6 : Int32) (v7 : Int32) : Prop := Fr g M_X12_comeInto (0, 0, 0, 0) [(0, .ref a0), (1, .int v1), (2, .int v2), (3, .int v3), (6, .int v6), (7, .int v7)] [] 167 σ post
set_option maxHeartbeats 4000000 in
set_option maxRecDepth 100000 in
theorem q_X12_comeInto {g : GG} {σ : Hs} {post : Option Value → Hs → Prop} (r0 : Nat) (p0 : Int32) (p1 : Int32) (hW : J_X12_comeInto_11 g post σ r0 p0 p1 0 0 0 0 ) : Do g M_X12_comeInto 0 0 [.ref r0, .int p0, .int p1] σ post := by
  refine Do.of (by decide +kernel) (Nat.le_of_ble_eq_true rfl) ?_
  show Fr g M_X12_comeInto (0, 0, 0, 0) [(0, .ref r0), (1, .int p0), (2, .int p1)] [] 0 σ post
  refine fr_iconst (pc := 0) 0 (by decide) dX12_comeInto_0 ?_
  refine fr_istore_n (pc := 1) (lv' := [(3, .int 0), (0, .ref r0), (1, .int p0), (2, .int p1)]) rfl (by decide) rfl dX12_comeInto_1 ?_
  refine fr_iconst (pc := 2) 0 (by decide) dX12_comeInto_2 ?_
  refine fr_istore (pc := 3) (lv' := [(4, .int 0), (3, .int 0), (0, .ref r0), (1, .int p0), (2, .int p1)]) (by decide) rfl dX12_comeInto_3 ?_
  refine fr_iconst (pc := 5) 0 (by decide) dX12_comeInto_5 ?_
  refine fr_istore (pc := 6) (lv' := [(5, .int 0), (4, .int 0), (3, .int 0), (0, .ref r0), (1, .int p0), (2, .int p1)]) (by decide) rfl dX12_comeInto_6 ?_
  refine fr_iconst (pc := 8) 0 (by decide) dX12_comeInto_8 ?_
  refine fr_istore (pc := 9) (lv' := [(6, .int 0), (5, .int 0), (4, .int 0), (3, .int 0), (0, .ref r0), (1, .int p0), (2, .int p1)]) (by decide) rfl dX12_comeInto_9 ?_
  exact fr_sub [4, 5, 6, 3, 2, 1, 0] rfl hW
set_option maxHeartbeats 4000000 in
set_option maxRecDepth 100000 in
theorem q_X12_comeInto_11 {g : GG} {σ : Hs} {post : Option Value → Hs → Prop} (a0 : Nat) (v1 : Int32) (v2 : Int32) (v3 : Int32) (v4 : Int32) (v5 : Int32) (v6 : Int32) (hW : FR σ a0 12 11 (fun r1 => AI g σ r1 0 v1 (fun i2 => (i2 ≤ v6 → FR σ a0 12 11 (fun r3 => AI g σ r3 0 v1 (fun i4 => (¬ i4 = 0 → J_X12_comeInto_108 g post σ a0 v1 v2 v3 v4 v4 ) ∧ (i4 = 0 → FR σ a0 12 11 (fun r5 => SI g σ r5 0 v1 1 (fun s6 => FR s6 a0 12 10 (fun r7 => SI g s6 r7 0 (64 * v1) 0 (fun s8 => J_X12_comeInto_108 g post s8 a0 v1 v2 v3 v4 v4 )))))))) ∧ (¬ i2 ≤ v6 → FR σ a0 12 5 (fun r9 => AI g σ r9 0 v1 (fun i10 => FR σ a0 12 8 (fun r11 => AI g σ r11 0 ((64 * v1) + v5) (fun i12 => Rc σ a0 12 ∧ Do g M_X12_isAhead 0 0 [.ref a0, .int i10, .int i12, .int v2] σ (kI (fun i14 s13 => (i14 = 0 → FR s13 a0 12 10 (fun r17 => AI g s13 r17 0 ((64 * v1) + v6) (fun i18 => J_X12_comeInto_11 g post s13 a0 v1 v2 v3 v4 ((v5 + i18)) ((v6 + 1)) ))) ∧ (¬ i14 = 0 → FR s13 a0 12 10 (fun r19 => AI g s13 r19 0 ((64 * v1) + v6) (fun i20 => J_X12_comeInto_11 g post s13 a0 v1 v2 v6 v5 ((v5 + i20)) ((v6 + 1)) ))))))))))))) : J_X12_comeInto_11 g post σ a0 v1 v2 v3 v4 v5 v6 := by
  show Fr g M_X12_comeInto (0, 0, 0, 0) [(0, .ref a0), (1, .int v1), (2, .int v2), (3, .int v3), (4, .int v4), (5, .int v5), (6, .int v6)] [] 11 σ post
  refine fr_iload (pc := 11) 6 rfl dX12_comeInto_11 ?_
  refine fr_aload_n (pc := 13) 0 rfl rfl dX12_comeInto_13 ?_
  refine fr_getR (pc := 14) (T := TX12) (k := 11) kc_X12 (by decide) w_1015 dX12_comeInto_14 hW (fun r1 hW => ?_)
  refine fr_iload_n (pc := 17) 1 rfl rfl dX12_comeInto_17 ?_
  refine fr_iald (pc := 18) dX12_comeInto_18 hW (fun i2 hW => ?_)
  refine fr_icmp_ge (pc := 19) (tgt := 78) (by decide) dX12_comeInto_19 hW (fun hW => ?_) (fun hW => ?_)
  · refine fr_aload_n (pc := 78) 0 rfl rfl dX12_comeInto_78 ?_
    refine fr_getR (pc := 79) (T := TX12) (k := 11) kc_X12 (by decide) w_1015 dX12_comeInto_79 hW (fun r3 hW => ?_)
    refine fr_iload_n (pc := 82) 1 rfl rfl dX12_comeInto_82 ?_
    refine fr_iald (pc := 83) dX12_comeInto_83 hW (fun i4 hW => ?_)
    refine fr_if_ne (pc := 84) (tgt := 104) (by decide) dX12_comeInto_84 hW (fun hW => ?_) (fun hW => ?_)
    · refine fr_iload (pc := 104) 4 rfl dX12_comeInto_104 ?_
      refine fr_istore (pc := 106) (lv' := [(6, .int v4), (0, .ref a0), (1, .int v1), (2, .int v2), (3, .int v3), (4, .int v4), (5, .int v5)]) (by decide) rfl dX12_comeInto_106 ?_
      exact fr_sub [1, 2, 3, 4, 5, 0] rfl hW
    · refine fr_aload_n (pc := 87) 0 rfl rfl dX12_comeInto_87 ?_
      refine fr_getR (pc := 88) (T := TX12) (k := 11) kc_X12 (by decide) w_1015 dX12_comeInto_88 hW (fun r5 hW => ?_)
      refine fr_iload_n (pc := 91) 1 rfl rfl dX12_comeInto_91 ?_
      refine fr_iconst (pc := 92) 1 (by decide) dX12_comeInto_92 ?_
      refine fr_iast (pc := 93) dX12_comeInto_93 hW (fun s6 hW => ?_)
      refine fr_aload_n (pc := 94) 0 rfl rfl dX12_comeInto_94 ?_
      refine fr_getR (pc := 95) (T := TX12) (k := 10) kc_X12 (by decide) w_1014 dX12_comeInto_95 hW (fun r7 hW => ?_)
      refine fr_bipush (pc := 98) 64 (by decide) dX12_comeInto_98 ?_
      refine fr_iload_n (pc := 100) 1 rfl rfl dX12_comeInto_100 ?_
      refine fr_imul (pc := 101) dX12_comeInto_101 ?_
      refine fr_iconst (pc := 102) 0 (by decide) dX12_comeInto_102 ?_
      refine fr_iast (pc := 103) dX12_comeInto_103 hW (fun s8 hW => ?_)
      refine fr_iload (pc := 104) 4 rfl dX12_comeInto_104 ?_
      refine fr_istore (pc := 106) (lv' := [(6, .int v4), (0, .ref a0), (1, .int v1), (2, .int v2), (3, .int v3), (4, .int v4), (5, .int v5)]) (by decide) rfl dX12_comeInto_106 ?_
      exact fr_sub [1, 2, 3, 4, 5, 0] rfl hW
  · refine fr_aload_n (pc := 22) 0 rfl rfl dX12_comeInto_22 ?_
    refine fr_aload_n (pc := 23) 0 rfl rfl dX12_comeInto_23 ?_
    refine fr_getR (pc := 24) (T := TX12) (k := 5) kc_X12 (by decide) w_1009 dX12_comeInto_24 hW (fun r9 hW => ?_)
    refine fr_iload_n (pc := 27) 1 rfl rfl dX12_comeInto_27 ?_
    refine fr_iald (pc := 28) dX12_comeInto_28 hW (fun i10 hW => ?_)
    refine fr_aload_n (pc := 29) 0 rfl rfl dX12_comeInto_29 ?_
    refine fr_getR (pc := 30) (T := TX12) (k := 8) kc_X12 (by decide) w_1012 dX12_comeInto_30 hW (fun r11 hW => ?_)
    refine fr_bipush (pc := 33) 64 (by decide) dX12_comeInto_33 ?_
    refine fr_iload_n (pc := 35) 1 rfl rfl dX12_comeInto_35 ?_
    refine fr_imul (pc := 36) dX12_comeInto_36 ?_
    refine fr_iload (pc := 37) 5 rfl dX12_comeInto_37 ?_
    refine fr_iadd (pc := 39) dX12_comeInto_39 ?_
    refine fr_iald (pc := 40) dX12_comeInto_40 hW (fun i12 hW => ?_)
    refine fr_iload_n (pc := 41) 2 rfl rfl dX12_comeInto_41 ?_
    obtain ⟨hrc, hW⟩ := hW
    refine fr_callV_I (pc := 42) (As := [.int i10, .int i12, .int v2]) (st := []) wd_X12_isAhead w_1070 ok_X12_isAhead (by decide) rfl (Nat.le_of_ble_eq_true rfl) dX12_comeInto_42 ⟨Nat.le_refl 0, Nat.le_refl 0⟩ kc_X12 hrc hW (fun i14 s13 hW => ?_)
    refine fr_if_eq (pc := 45) (tgt := 55) (by decide) dX12_comeInto_45 hW (fun hW => ?_) (fun hW => ?_)
    · refine fr_iload (pc := 55) 5 rfl dX12_comeInto_55 ?_
      refine fr_aload_n (pc := 57) 0 rfl rfl dX12_comeInto_57 ?_
      refine fr_getR (pc := 58) (T := TX12) (k := 10) kc_X12 (by decide) w_1014 dX12_comeInto_58 hW (fun r17 hW => ?_)
      refine fr_bipush (pc := 61) 64 (by decide) dX12_comeInto_61 ?_
      refine fr_iload_n (pc := 63) 1 rfl rfl dX12_comeInto_63 ?_
      refine fr_imul (pc := 64) dX12_comeInto_64 ?_
      refine fr_iload (pc := 65) 6 rfl dX12_comeInto_65 ?_
      refine fr_iadd (pc := 67) dX12_comeInto_67 ?_
      refine fr_iald (pc := 68) dX12_comeInto_68 hW (fun i18 hW => ?_)
      refine fr_iadd (pc := 69) dX12_comeInto_69 ?_
      refine fr_istore (pc := 70) (lv' := [(5, .int (v5 + i18)), (0, .ref a0), (1, .int v1), (2, .int v2), (3, .int v3), (4, .int v4), (6, .int v6)]) (by decide) rfl dX12_comeInto_70 ?_
      refine fr_iinc (pc := 72) (lv' := [(6, .int (v6 + 1)), (5, .int (v5 + i18)), (0, .ref a0), (1, .int v1), (2, .int v2), (3, .int v3), (4, .int v4)]) (v6 + 1) 6 rfl (congrArg (fun z => v6 + z) (by decide)) (by decide) rfl dX12_comeInto_72 ?_
      refine fr_goto (pc := 75) (tgt := 11) (by decide) dX12_comeInto_75 ?_
      exact fr_sub [2, 3, 4, 5, 6, 1, 0] rfl hW
    · refine fr_iload (pc := 48) 6 rfl dX12_comeInto_48 ?_
      refine fr_istore_n (pc := 50) (lv' := [(3, .int v6), (0, .ref a0), (1, .int v1), (2, .int v2), (4, .int v4), (5, .int v5), (6, .int v6)]) rfl (by decide) rfl dX12_comeInto_50 ?_
      refine fr_iload (pc := 51) 5 rfl dX12_comeInto_51 ?_
      refine fr_istore (pc := 53) (lv' := [(4, .int v5), (3, .int v6), (0, .ref a0), (1, .int v1), (2, .int v2), (5, .int v5), (6, .int v6)]) (by decide) rfl dX12_comeInto_53 ?_
      refine fr_iload (pc := 55) 5 rfl dX12_comeInto_55 ?_
      refine fr_aload_n (pc := 57) 2 rfl rfl dX12_comeInto_57 ?_
      refine fr_getR (pc := 58) (T := TX12) (k := 10) kc_X12 (by decide) w_1014 dX12_comeInto_58 hW (fun r19 hW => ?_)
      refine fr_bipush (pc := 61) 64 (by decide) dX12_comeInto_61 ?_
      refine fr_iload_n (pc := 63) 3 rfl rfl dX12_comeInto_63 ?_
      refine fr_imul (pc := 64) dX12_comeInto_64 ?_
      refine fr_iload (pc := 65) 6 rfl dX12_comeInto_65 ?_
      refine fr_iadd (pc := 67) dX12_comeInto_67 ?_
      refine fr_iald (pc := 68) dX12_comeInto_68 hW (fun i20 hW => ?_)
      refine fr_iadd (pc := 69) dX12_comeInto_69 ?_
      refine fr_istore (pc := 70) (lv' := [(5, .int (v5 + i20)), (4, .int v5), (3, .int v6), (0, .ref a0), (1, .int v1), (2, .int v2), (6, .int v6)]) (by decide) rfl dX12_comeInto_70 ?_
      refine fr_iinc (pc := 72) (lv' := [(6, .int (v6 + 1)), (5, .int (v5 + i20)), (4, .int v5), (3, .int v6), (0, .ref a0), (1, .int v1), (2, .int v2)]) (v6 + 1) 6 rfl (congrArg (fun z => v6 + z) (by decide)) (by decide) rfl dX12_comeInto_72 ?_
      refine fr_goto (pc := 75) (tgt := 11) (by decide) dX12_comeInto_75 ?_
      exact fr_sub [4, 5, 6, 3, 2, 1, 0] rfl hW
set_option maxHeartbeats 4000000 in
set_option maxRecDepth 100000 in
theorem q_X12_comeInto_108 {g : GG} {σ : Hs} {post : Option Value → Hs → Prop} (a0 : Nat) (v1 : Int32) (v2 : Int32) (v3 : Int32) (v4 : Int32) (v6 : Int32) (hW : FR σ a0 12 10 (fun r21 => AI g σ r21 0 ((64 * v1) + v3) (fun i22 => ((v4 + i22) ≤ v6 → FR σ a0 12 9 (fun r23 => AI g σ r23 0 v1 (fun i24 => J_X12_comeInto_167 g post σ a0 v1 v2 v3 v6 i24 ))) ∧ (¬ (v4 + i22) ≤ v6 → FR σ a0 12 5 (fun r25 => AI g σ r25 0 v1 (fun i26 => FR σ a0 12 8 (fun r27 => AI g σ r27 0 ((64 * v1) + v6) (fun i28 => Rc σ a0 12 ∧ Do g M_X12_isAhead 0 0 [.ref a0, .int i26, .int i28, .int v2] σ (kI (fun i30 s29 => (i30 = 0 → FR s29 a0 12 9 (fun r33 => AI g s29 r33 0 v1 (fun i34 => J_X12_comeInto_167 g post s29 a0 v1 v2 v3 v6 i34 ))) ∧ (¬ i30 = 0 → J_X12_comeInto_108 g post s29 a0 v1 v2 v3 v4 ((v6 + 1)) ))))))))))) : J_X12_comeInto_108 g post σ a0 v1 v2 v3 v4 v6 := by
  show Fr g M_X12_comeInto (0, 0, 0, 0) [(0, .ref a0), (1, .int v1), (2, .int v2), (3, .int v3), (4, .int v4), (6, .int v6)] [] 108 σ post
  refine fr_iload (pc := 108) 5 rfl dX12_comeInto_108 ?_
  refine fr_iload (pc := 110) 4 rfl dX12_comeInto_110 ?_
  refine fr_aload_n (pc := 112) 0 rfl rfl dX12_comeInto_112 ?_
  refine fr_getR (pc := 113) (T := TX12) (k := 10) kc_X12 (by decide) w_1014 dX12_comeInto_113 hW (fun r21 hW => ?_)
  refine fr_bipush (pc := 116) 64 (by decide) dX12_comeInto_116 ?_
  refine fr_iload_n (pc := 118) 1 rfl rfl dX12_comeInto_118 ?_
  refine fr_imul (pc := 119) dX12_comeInto_119 ?_
  refine fr_iload_n (pc := 120) 3 rfl rfl dX12_comeInto_120 ?_
  refine fr_iadd (pc := 121) dX12_comeInto_121 ?_
  refine fr_iald (pc := 122) dX12_comeInto_122 hW (fun i22 hW => ?_)
  refine fr_iadd (pc := 123) dX12_comeInto_123 ?_
  refine fr_icmp_ge (pc := 124) (tgt := 159) (by decide) dX12_comeInto_124 hW (fun hW => ?_) (fun hW => ?_)
  · refine fr_aload_n (pc := 159) 0 rfl rfl dX12_comeInto_159 ?_
    refine fr_getR (pc := 160) (T := TX12) (k := 9) kc_X12 (by decide) w_1013 dX12_comeInto_160 hW (fun r23 hW => ?_)
    refine fr_iload_n (pc := 163) 1 rfl rfl dX12_comeInto_163 ?_
    refine fr_iald (pc := 164) dX12_comeInto_164 hW (fun i24 hW => ?_)
    refine fr_istore (pc := 165) (lv' := [(7, .int i24), (0, .ref a0), (1, .int v1), (2, .int v2), (3, .int v3), (4, .int v4), (6, .int v6)]) (by decide) rfl dX12_comeInto_165 ?_
    exact fr_sub [1, 2, 3, 4, 6, 0] rfl hW
  · refine fr_aload_n (pc := 127) 0 rfl rfl dX12_comeInto_127 ?_
    refine fr_aload_n (pc := 128) 0 rfl rfl dX12_comeInto_128 ?_
    refine fr_getR (pc := 129) (T := TX12) (k := 5) kc_X12 (by decide) w_1009 dX12_comeInto_129 hW (fun r25 hW => ?_)
    refine fr_iload_n (pc := 132) 1 rfl rfl dX12_comeInto_132 ?_
    refine fr_iald (pc := 133) dX12_comeInto_133 hW (fun i26 hW => ?_)
    refine fr_aload_n (pc := 134) 0 rfl rfl dX12_comeInto_134 ?_
    refine fr_getR (pc := 135) (T := TX12) (k := 8) kc_X12 (by decide) w_1012 dX12_comeInto_135 hW (fun r27 hW => ?_)
    refine fr_bipush (pc := 138) 64 (by decide) dX12_comeInto_138 ?_
    refine fr_iload_n (pc := 140) 1 rfl rfl dX12_comeInto_140 ?_
    refine fr_imul (pc := 141) dX12_comeInto_141 ?_
    refine fr_iload (pc := 142) 5 rfl dX12_comeInto_142 ?_
    refine fr_iadd (pc := 144) dX12_comeInto_144 ?_
    refine fr_iald (pc := 145) dX12_comeInto_145 hW (fun i28 hW => ?_)
    refine fr_iload_n (pc := 146) 2 rfl rfl dX12_comeInto_146 ?_
    obtain ⟨hrc, hW⟩ := hW
    refine fr_callV_I (pc := 147) (As := [.int i26, .int i28, .int v2]) (st := []) wd_X12_isAhead w_1070 ok_X12_isAhead (by decide) rfl (Nat.le_of_ble_eq_true rfl) dX12_comeInto_147 ⟨Nat.le_refl 0, Nat.le_refl 0⟩ kc_X12 hrc hW (fun i30 s29 hW => ?_)
    refine fr_if_eq (pc := 150) (tgt := 159) (by decide) dX12_comeInto_150 hW (fun hW => ?_) (fun hW => ?_)
    · refine fr_aload_n (pc := 159) 0 rfl rfl dX12_comeInto_159 ?_
      refine fr_getR (pc := 160) (T := TX12) (k := 9) kc_X12 (by decide) w_1013 dX12_comeInto_160 hW (fun r33 hW => ?_)
      refine fr_iload_n (pc := 163) 1 rfl rfl dX12_comeInto_163 ?_
      refine fr_iald (pc := 164) dX12_comeInto_164 hW (fun i34 hW => ?_)
      refine fr_istore (pc := 165) (lv' := [(7, .int i34), (0, .ref a0), (1, .int v1), (2, .int v2), (3, .int v3), (4, .int v4), (6, .int v6)]) (by decide) rfl dX12_comeInto_165 ?_
      exact fr_sub [1, 2, 3, 4, 6, 0] rfl hW
    · refine fr_iinc (pc := 153) (lv' := [(6, .int (v6 + 1)), (0, .ref a0), (1, .int v1), (2, .int v2), (3, .int v3), (4, .int v4)]) (v6 + 1) 5 rfl (congrArg (fun z => v6 + z) (by decide)) (by decide) rfl dX12_comeInto_153 ?_
      refine fr_goto (pc := 156) (tgt := 108) (by decide) dX12_comeInto_156 ?_
      exact fr_sub [1, 2, 3, 4, 5, 0] rfl hW
set_option maxHeartbeats 4000000 in
set_option maxRecDepth 100000 in
theorem q_X12_comeInto_167 {g : GG} {σ : Hs} {post : Option Value → Hs → Prop} (a0 : Nat) (v1 : Int32) (v2 : Int32) (v3 : Int32) (v6 : Int32) (v7 : Int32) (hW : (v7 ≤ v6 → FR σ a0 12 8 (fun r35 => SI g σ r35 0 ((64 * v1) + v6) v2 (fun s36 => FR s36 a0 12 9 (fun r37 => AI g s36 r37 0 v1 (fun i38 => SI g s36 r37 0 v1 (i38 + 1) (fun s39 => FR s39 a0 12 10 (fun r40 => AI g s39 r40 0 ((64 * v1) + v3) (fun i41 => SI g s39 r40 0 ((64 * v1) + v3) (i41 + 1) (fun s42 => FR s42 a0 12 10 (fun r43 => AI g s42 r43 0 ((64 * v1) + v3) (fun i44 => FR s42 a0 12 5 (fun r45 => AI g s42 r45 0 v1 (fun i46 => Do g M_X12_roomOf 0 0 [.int i46] s42 (kI (fun i48 s47 => (i44 ≤ i48 → post none s47) ∧ (¬ i44 ≤ i48 → Rc s47 a0 12 ∧ Do g M_X12_cut 0 0 [.ref a0, .int v1, .int v3] s47 (kV (fun s51 => post none s51)))))))))))))))))) ∧ (¬ v7 ≤ v6 → FR σ a0 12 8 (fun r52 => FR σ a0 12 8 (fun r53 => AI g σ r53 0 (((64 * v1) + v7) - 1) (fun i54 => SI g σ r52 0 ((64 * v1) + v7) i54 (fun s55 => J_X12_comeInto_167 g post s55 a0 v1 v2 v3 v6 ((v7 + (-1))) )))))) : J_X12_comeInto_167 g post σ a0 v1 v2 v3 v6 v7 := by
  show Fr g M_X12_comeInto (0, 0, 0, 0) [(0, .ref a0), (1, .int v1), (2, .int v2), (3, .int v3), (6, .int v6), (7, .int v7)] [] 167 σ post
  refine fr_iload (pc := 167) 5 rfl dX12_comeInto_167 ?_
  refine fr_iload (pc := 169) 4 rfl dX12_comeInto_169 ?_
  refine fr_icmp_le (pc := 171) (tgt := 206) (by decide) dX12_comeInto_171 hW (fun hW => ?_) (fun hW => ?_)
  · refine fr_aload_n (pc := 206) 0 rfl rfl dX12_comeInto_206 ?_
    refine fr_getR (pc := 207) (T := TX12) (k := 8) kc_X12 (by decide) w_1012 dX12_comeInto_207 hW (fun r35 hW => ?_)
    refine fr_bipush (pc := 210) 64 (by decide) dX12_comeInto_210 ?_
    refine fr_iload_n (pc := 212) 1 rfl rfl dX12_comeInto_212 ?_
    refine fr_imul (pc := 213) dX12_comeInto_213 ?_
    refine fr_iload (pc := 214) 4 rfl dX12_comeInto_214 ?_
    refine fr_iadd (pc := 216) dX12_comeInto_216 ?_
    refine fr_iload_n (pc := 217) 2 rfl rfl dX12_comeInto_217 ?_
    refine fr_iast (pc := 218) dX12_comeInto_218 hW (fun s36 hW => ?_)
    refine fr_aload_n (pc := 219) 0 rfl rfl dX12_comeInto_219 ?_
    refine fr_getR (pc := 220) (T := TX12) (k := 9) kc_X12 (by decide) w_1013 dX12_comeInto_220 hW (fun r37 hW => ?_)
    refine fr_iload_n (pc := 223) 1 rfl rfl dX12_comeInto_223 ?_
    refine fr_dup2 (pc := 224) rfl rfl dX12_comeInto_224 ?_
    refine fr_iald (pc := 225) dX12_comeInto_225 hW (fun i38 hW => ?_)
    refine fr_iconst (pc := 226) 1 (by decide) dX12_comeInto_226 ?_
    refine fr_iadd (pc := 227) dX12_comeInto_227 ?_
    refine fr_iast (pc := 228) dX12_comeInto_228 hW (fun s39 hW => ?_)
    refine fr_aload_n (pc := 229) 0 rfl rfl dX12_comeInto_229 ?_
    refine fr_getR (pc := 230) (T := TX12) (k := 10) kc_X12 (by decide) w_1014 dX12_comeInto_230 hW (fun r40 hW => ?_)
    refine fr_bipush (pc := 233) 64 (by decide) dX12_comeInto_233 ?_
    refine fr_iload_n (pc := 235) 1 rfl rfl dX12_comeInto_235 ?_
    refine fr_imul (pc := 236) dX12_comeInto_236 ?_
    refine fr_iload_n (pc := 237) 3 rfl rfl dX12_comeInto_237 ?_
    refine fr_iadd (pc := 238) dX12_comeInto_238 ?_
    refine fr_dup2 (pc := 239) rfl rfl dX12_comeInto_239 ?_
    refine fr_iald (pc := 240) dX12_comeInto_240 hW (fun i41 hW => ?_)
    refine fr_iconst (pc := 241) 1 (by decide) dX12_comeInto_241 ?_
    refine fr_iadd (pc := 242) dX12_comeInto_242 ?_
    refine fr_iast (pc := 243) dX12_comeInto_243 hW (fun s42 hW => ?_)
    refine fr_aload_n (pc := 244) 0 rfl rfl dX12_comeInto_244 ?_
    refine fr_getR (pc := 245) (T := TX12) (k := 10) kc_X12 (by decide) w_1014 dX12_comeInto_245 hW (fun r43 hW => ?_)
    refine fr_bipush (pc := 248) 64 (by decide) dX12_comeInto_248 ?_
    refine fr_iload_n (pc := 250) 1 rfl rfl dX12_comeInto_250 ?_
    refine fr_imul (pc := 251) dX12_comeInto_251 ?_
    refine fr_iload_n (pc := 252) 3 rfl rfl dX12_comeInto_252 ?_
    refine fr_iadd (pc := 253) dX12_comeInto_253 ?_
    refine fr_iald (pc := 254) dX12_comeInto_254 hW (fun i44 hW => ?_)
    refine fr_aload_n (pc := 255) 0 rfl rfl dX12_comeInto_255 ?_
    refine fr_getR (pc := 256) (T := TX12) (k := 5) kc_X12 (by decide) w_1009 dX12_comeInto_256 hW (fun r45 hW => ?_)
    refine fr_iload_n (pc := 259) 1 rfl rfl dX12_comeInto_259 ?_
    refine fr_iald (pc := 260) dX12_comeInto_260 hW (fun i46 hW => ?_)
    refine fr_callS_I (pc := 261) (As := [.int i46]) (st := [.int i44]) wd_X12_roomOf w_1071 ok_X12_roomOf (by decide) rfl (Nat.le_of_ble_eq_true rfl) dX12_comeInto_261 ⟨Nat.le_refl 0, Nat.le_refl 0⟩ hW (fun i48 s47 hW => ?_)
    refine fr_icmp_le (pc := 264) (tgt := 273) (by decide) dX12_comeInto_264 hW (fun hW => ?_) (fun hW => ?_)
    · exact fr_ret (pc := 273) dX12_comeInto_273 rfl ⟨Nat.le_refl 0, Nat.le_refl 0⟩ hW
    · refine fr_aload_n (pc := 267) 0 rfl rfl dX12_comeInto_267 ?_
      refine fr_iload_n (pc := 268) 1 rfl rfl dX12_comeInto_268 ?_
      refine fr_iload_n (pc := 269) 3 rfl rfl dX12_comeInto_269 ?_
      obtain ⟨hrc, hW⟩ := hW
      refine fr_callV_V (pc := 270) (As := [.int v1, .int v3]) (st := []) wd_X12_cut w_1072 ok_X12_cut (by decide) rfl (Nat.le_of_ble_eq_true rfl) dX12_comeInto_270 ⟨Nat.le_refl 0, Nat.le_refl 0⟩ kc_X12 hrc hW (fun s51 hW => ?_)
      exact fr_ret (pc := 273) dX12_comeInto_273 rfl ⟨Nat.le_refl 0, Nat.le_refl 0⟩ hW
  · refine fr_aload_n (pc := 174) 0 rfl rfl dX12_comeInto_174 ?_
    refine fr_getR (pc := 175) (T := TX12) (k := 8) kc_X12 (by decide) w_1012 dX12_comeInto_175 hW (fun r52 hW => ?_)
    refine fr_bipush (pc := 178) 64 (by decide) dX12_comeInto_178 ?_
    refine fr_iload_n (pc := 180) 1 rfl rfl dX12_comeInto_180 ?_
    refine fr_imul (pc := 181) dX12_comeInto_181 ?_
    refine fr_iload (pc := 182) 5 rfl dX12_comeInto_182 ?_
    refine fr_iadd (pc := 184) dX12_comeInto_184 ?_
    refine fr_aload_n (pc := 185) 0 rfl rfl dX12_comeInto_185 ?_
    refine fr_getR (pc := 186) (T := TX12) (k := 8) kc_X12 (by decide) w_1012 dX12_comeInto_186 hW (fun r53 hW => ?_)
    refine fr_bipush (pc := 189) 64 (by decide) dX12_comeInto_189 ?_
    refine fr_iload_n (pc := 191) 1 rfl rfl dX12_comeInto_191 ?_
    refine fr_imul (pc := 192) dX12_comeInto_192 ?_
    refine fr_iload (pc := 193) 5 rfl dX12_comeInto_193 ?_
    refine fr_iadd (pc := 195) dX12_comeInto_195 ?_
    refine fr_iconst (pc := 196) 1 (by decide) dX12_comeInto_196 ?_
    refine fr_isub (pc := 197) dX12_comeInto_197 ?_
    refine fr_iald (pc := 198) dX12_comeInto_198 hW (fun i54 hW => ?_)
    refine fr_iast (pc := 199) dX12_comeInto_199 hW (fun s55 hW => ?_)
    refine fr_iinc (pc := 200) (lv' := [(7, .int (v7 + (-1))), (0, .ref a0), (1, .int v1), (2, .int v2), (3, .int v3), (6, .int v6)]) (v7 + (-1)) 5 rfl (congrArg (fun z => v7 + z) (by decide)) (by decide) rfl dX12_comeInto_200 ?_
    refine fr_goto (pc := 203) (tgt := 167) (by decide) dX12_comeInto_203 ?_
    exact fr_sub [1, 2, 3, 4, 5, 0] rfl hW
def J_X12_comeIntoAll_2 (g : GG) (post : Option Value → Hs → Prop) (σ : Hs) (a0 : Nat) (v1 : Int32) (v2 : Int32) : Prop := Fr g M_X12_comeIntoAll (0, 0, 0, 0) [(0, .ref a0), (1, .int v1), (2, .int v2)] [] 2 σ post
set_option maxHeartbeats 4000000 in
set_option maxRecDepth 100000 in
theorem q_X12_comeIntoAll {g : GG} {σ : Hs} {post : Option Value → Hs → Prop} (r0 : Nat) (p0 : Int32) (hW : J_X12_comeIntoAll_2 g post σ r0 p0 0 ) : Do g M_X12_comeIntoAll 0 0 [.ref r0, .int p0] σ post := by
  refine Do.of (by decide +kernel) (Nat.le_of_ble_eq_true rfl) ?_
  show Fr g M_X12_comeIntoAll (0, 0, 0, 0) [(0, .ref r0), (1, .int p0)] [] 0 σ post
  refine fr_iconst (pc := 0) 0 (by decide) dX12_comeIntoAll_0 ?_
  refine fr_istore_n (pc := 1) (lv' := [(2, .int 0), (0, .ref r0), (1, .int p0)]) rfl (by decide) rfl dX12_comeIntoAll_1 ?_
  exact fr_sub [1, 2, 0] rfl hW
set_option maxHeartbeats 4000000 in
set_option maxRecDepth 100000 in
theorem q_X12_comeIntoAll_2 {g : GG} {σ : Hs} {post : Option Value → Hs → Prop} (a0 : Nat) (v1 : Int32) (v2 : Int32) (hW : FI σ a0 12 4 (fun i1 => (i1 ≤ v2 → post none σ) ∧ (¬ i1 ≤ v2 → FR σ a0 12 6 (fun r2 => AI g σ r2 1 v2 (fun i3 => (¬ i3 = 0 → J_X12_comeIntoAll_2 g post σ a0 v1 ((v2 + 1)) ) ∧ (i3 = 0 → Rc σ a0 12 ∧ Do g M_X12_comeInto 0 0 [.ref a0, .int v2, .int v1] σ (kV (fun s4 => J_X12_comeIntoAll_2 g post s4 a0 v1 ((v2 + 1)) )))))))) : J_X12_comeIntoAll_2 g post σ a0 v1 v2 := by
  show Fr g M_X12_comeIntoAll (0, 0, 0, 0) [(0, .ref a0), (1, .int v1), (2, .int v2)] [] 2 σ post
  refine fr_iload_n (pc := 2) 2 rfl rfl dX12_comeIntoAll_2 ?_
  refine fr_aload_n (pc := 3) 0 rfl rfl dX12_comeIntoAll_3 ?_
  refine fr_getI (pc := 4) (T := TX12) (k := 4) kc_X12 (by decide) w_1073 dX12_comeIntoAll_4 hW (fun i1 hW => ?_)
  refine fr_icmp_ge (pc := 7) (tgt := 31) (by decide) dX12_comeIntoAll_7 hW (fun hW => ?_) (fun hW => ?_)
  · exact fr_ret (pc := 31) dX12_comeIntoAll_31 rfl ⟨Nat.le_refl 0, Nat.le_refl 0⟩ hW
  · refine fr_aload_n (pc := 10) 0 rfl rfl dX12_comeIntoAll_10 ?_
    refine fr_getR (pc := 11) (T := TX12) (k := 6) kc_X12 (by decide) w_1010 dX12_comeIntoAll_11 hW (fun r2 hW => ?_)
    refine fr_iload_n (pc := 14) 2 rfl rfl dX12_comeIntoAll_14 ?_
    refine fr_zald (pc := 15) dX12_comeIntoAll_15 hW (fun i3 hW => ?_)
    refine fr_if_ne (pc := 16) (tgt := 25) (by decide) dX12_comeIntoAll_16 hW (fun hW => ?_) (fun hW => ?_)
    · refine fr_iinc (pc := 25) (lv' := [(2, .int (v2 + 1)), (0, .ref a0), (1, .int v1)]) (v2 + 1) 2 rfl (congrArg (fun z => v2 + z) (by decide)) (by decide) rfl dX12_comeIntoAll_25 ?_
      refine fr_goto (pc := 28) (tgt := 2) (by decide) dX12_comeIntoAll_28 ?_
      exact fr_sub [1, 2, 0] rfl hW
    · refine fr_aload_n (pc := 19) 0 rfl rfl dX12_comeIntoAll_19 ?_
      refine fr_iload_n (pc := 20) 2 rfl rfl dX12_comeIntoAll_20 ?_
      refine fr_iload_n (pc := 21) 1 rfl rfl dX12_comeIntoAll_21 ?_
      obtain ⟨hrc, hW⟩ := hW
      refine fr_callV_V (pc := 22) (As := [.int v2, .int v1]) (st := []) wd_X12_comeInto w_1074 ok_X12_comeInto (by decide) rfl (Nat.le_of_ble_eq_true rfl) dX12_comeIntoAll_22 ⟨Nat.le_refl 0, Nat.le_refl 0⟩ kc_X12 hrc hW (fun s4 hW => ?_)
      refine fr_iinc (pc := 25) (lv' := [(2, .int (v2 + 1)), (0, .ref a0), (1, .int v1)]) (v2 + 1) 2 rfl (congrArg (fun z => v2 + z) (by decide)) (by decide) rfl dX12_comeIntoAll_25 ?_
      refine fr_goto (pc := 28) (tgt := 2) (by decide) dX12_comeIntoAll_28 ?_
      exact fr_sub [1, 2, 0] rfl hW
set_option maxHeartbeats 4000000 in
set_option maxRecDepth 100000 in
theorem q_X12_lay {g : GG} {σ : Hs} {post : Option Value → Hs → Prop} (r0 : Nat) (p0 : Int32) (p1 : Int32) (p2 : Int32) (p3 : Int32) (p4 : Int32) (hW : FR σ r0 12 0 (fun r1 => SI g σ r1 1 p0 (vp_nar .boolean 1) (fun s2 => FR s2 r0 12 1 (fun r3 => SI g s2 r3 0 (4 * p0) p1 (fun s4 => FR s4 r0 12 1 (fun r5 => SI g s4 r5 0 ((4 * p0) + 1) p2 (fun s6 => FR s6 r0 12 1 (fun r7 => SI g s6 r7 0 ((4 * p0) + 2) p3 (fun s8 => FR s8 r0 12 1 (fun r9 => SI g s8 r9 0 ((4 * p0) + 3) p4 (fun s10 => FI s10 r0 12 2 (fun i11 => PF s10 r0 12 2 (.int (i11 + 1)) (fun s12 => Rc s12 r0 12 ∧ Do g M_X12_comeIntoAll 0 0 [.ref r0, .int p0] s12 (kV (fun s13 => post none s13))))))))))))))) : Do g M_X12_lay 0 0 [.ref r0, .int p0, .int p1, .int p2, .int p3, .int p4] σ post := by
  refine Do.of (by decide +kernel) (Nat.le_of_ble_eq_true rfl) ?_
  show Fr g M_X12_lay (0, 0, 0, 0) [(0, .ref r0), (1, .int p0), (2, .int p1), (3, .int p2), (4, .int p3), (5, .int p4)] [] 0 σ post
  refine fr_aload_n (pc := 0) 0 rfl rfl dX12_lay_0 ?_
  refine fr_getR (pc := 1) (T := TX12) (k := 0) kc_X12 (by decide) w_1006 dX12_lay_1 hW (fun r1 hW => ?_)
  refine fr_iload_n (pc := 4) 1 rfl rfl dX12_lay_4 ?_
  refine fr_iconst (pc := 5) 1 (by decide) dX12_lay_5 ?_
  refine fr_zast (pc := 6) dX12_lay_6 hW (fun s2 hW => ?_)
  refine fr_aload_n (pc := 7) 0 rfl rfl dX12_lay_7 ?_
  refine fr_getR (pc := 8) (T := TX12) (k := 1) kc_X12 (by decide) w_1007 dX12_lay_8 hW (fun r3 hW => ?_)
  refine fr_iconst (pc := 11) 4 (by decide) dX12_lay_11 ?_
  refine fr_iload_n (pc := 12) 1 rfl rfl dX12_lay_12 ?_
  refine fr_imul (pc := 13) dX12_lay_13 ?_
  refine fr_iload_n (pc := 14) 2 rfl rfl dX12_lay_14 ?_
  refine fr_iast (pc := 15) dX12_lay_15 hW (fun s4 hW => ?_)
  refine fr_aload_n (pc := 16) 0 rfl rfl dX12_lay_16 ?_
  refine fr_getR (pc := 17) (T := TX12) (k := 1) kc_X12 (by decide) w_1007 dX12_lay_17 hW (fun r5 hW => ?_)
  refine fr_iconst (pc := 20) 4 (by decide) dX12_lay_20 ?_
  refine fr_iload_n (pc := 21) 1 rfl rfl dX12_lay_21 ?_
  refine fr_imul (pc := 22) dX12_lay_22 ?_
  refine fr_iconst (pc := 23) 1 (by decide) dX12_lay_23 ?_
  refine fr_iadd (pc := 24) dX12_lay_24 ?_
  refine fr_iload_n (pc := 25) 3 rfl rfl dX12_lay_25 ?_
  refine fr_iast (pc := 26) dX12_lay_26 hW (fun s6 hW => ?_)
  refine fr_aload_n (pc := 27) 0 rfl rfl dX12_lay_27 ?_
  refine fr_getR (pc := 28) (T := TX12) (k := 1) kc_X12 (by decide) w_1007 dX12_lay_28 hW (fun r7 hW => ?_)
  refine fr_iconst (pc := 31) 4 (by decide) dX12_lay_31 ?_
  refine fr_iload_n (pc := 32) 1 rfl rfl dX12_lay_32 ?_
  refine fr_imul (pc := 33) dX12_lay_33 ?_
  refine fr_iconst (pc := 34) 2 (by decide) dX12_lay_34 ?_
  refine fr_iadd (pc := 35) dX12_lay_35 ?_
  refine fr_iload (pc := 36) 4 rfl dX12_lay_36 ?_
  refine fr_iast (pc := 38) dX12_lay_38 hW (fun s8 hW => ?_)
  refine fr_aload_n (pc := 39) 0 rfl rfl dX12_lay_39 ?_
  refine fr_getR (pc := 40) (T := TX12) (k := 1) kc_X12 (by decide) w_1007 dX12_lay_40 hW (fun r9 hW => ?_)
  refine fr_iconst (pc := 43) 4 (by decide) dX12_lay_43 ?_
  refine fr_iload_n (pc := 44) 1 rfl rfl dX12_lay_44 ?_
  refine fr_imul (pc := 45) dX12_lay_45 ?_
  refine fr_iconst (pc := 46) 3 (by decide) dX12_lay_46 ?_
  refine fr_iadd (pc := 47) dX12_lay_47 ?_
  refine fr_iload (pc := 48) 5 rfl dX12_lay_48 ?_
  refine fr_iast (pc := 50) dX12_lay_50 hW (fun s10 hW => ?_)
  refine fr_aload_n (pc := 51) 0 rfl rfl dX12_lay_51 ?_
  refine fr_dup (pc := 52) rfl dX12_lay_52 ?_
  refine fr_getI (pc := 53) (T := TX12) (k := 2) kc_X12 (by decide) w_1075 dX12_lay_53 hW (fun i11 hW => ?_)
  refine fr_iconst (pc := 56) 1 (by decide) dX12_lay_56 ?_
  refine fr_iadd (pc := 57) dX12_lay_57 ?_
  refine fr_put (pc := 58) (T := TX12) (k := 2) kc_X12 (by decide) w_1075 rfl rfl rfl dX12_lay_58 hW (fun s12 hW => ?_)
  refine fr_aload_n (pc := 61) 0 rfl rfl dX12_lay_61 ?_
  refine fr_iload_n (pc := 62) 1 rfl rfl dX12_lay_62 ?_
  obtain ⟨hrc, hW⟩ := hW
  refine fr_callV_V (pc := 63) (As := [.int p0]) (st := []) wd_X12_comeIntoAll w_1076 ok_X12_comeIntoAll (by decide) rfl (Nat.le_of_ble_eq_true rfl) dX12_lay_63 ⟨Nat.le_refl 0, Nat.le_refl 0⟩ kc_X12 hrc hW (fun s13 hW => ?_)
  exact fr_ret (pc := 66) dX12_lay_66 rfl ⟨Nat.le_refl 0, Nat.le_refl 0⟩ hW
set_option maxHeartbeats 4000000 in
set_option maxRecDepth 100000 in
theorem q_X12_row {g : GG} {σ : Hs} {post : Option Value → Hs → Prop} (r0 : Nat) (p0 : Int32) (p1 : Int32) (p2 : Int32) (p3 : Int32) (hW : Do g M_X12_isNumber 0 0 [.int p0] σ (kI (fun i2 s1 => (i2 = 0 → post (some (.int (-102))) s1) ∧ (¬ i2 = 0 → Do g M_X12_isNumber 0 0 [.int p1] s1 (kI (fun i6 s5 => (i6 = 0 → post (some (.int (-102))) s5) ∧ (¬ i6 = 0 → Do g M_X12_isNumber 0 0 [.int p2] s5 (kI (fun i10 s9 => (i10 = 0 → post (some (.int (-102))) s9) ∧ (¬ i10 = 0 → Do g M_X12_isNumber 0 0 [.int p3] s9 (kI (fun i14 s13 => (¬ i14 = 0 → FI s13 r0 12 2 (fun i17 => (¬ i17 = 64 → Rc s13 r0 12 ∧ Do g M_X12_emptySlot 0 0 [.ref r0] s13 (kI (fun i19 s18 => Rc s18 r0 12 ∧ Do g M_X12_lay 0 0 [.ref r0, .int i19, .int p0, .int p1, .int p2, .int p3] s18 (kV (fun s22 => post (some (.int i19)) s22))))) ∧ (i17 = 64 → post (some (.int (-104))) s13))) ∧ (i14 = 0 → post (some (.int (-102))) s13))))))))))))) : Do g M_X12_row 0 0 [.ref r0, .int p0, .int p1, .int p2, .int p3] σ post := by
  refine Do.of (by decide +kernel) (Nat.le_of_ble_eq_true rfl) ?_
  show Fr g M_X12_row (0, 0, 0, 0) [(0, .ref r0), (1, .int p0), (2, .int p1), (3, .int p2), (4, .int p3)] [] 0 σ post
  refine fr_iload_n (pc := 0) 1 rfl rfl dX12_row_0 ?_
  refine fr_callS_I (pc := 1) (As := [.int p0]) (st := []) wd_X12_isNumber w_1077 ok_X12_isNumber (by decide) rfl (Nat.le_of_ble_eq_true rfl) dX12_row_1 ⟨Nat.le_refl 0, Nat.le_refl 0⟩ hW (fun i2 s1 hW => ?_)
  refine fr_if_eq (pc := 4) (tgt := 29) (by decide) dX12_row_4 hW (fun hW => ?_) (fun hW => ?_)
  · refine fr_bipush (pc := 29) (-102) (by decide) dX12_row_29 ?_
    exact fr_iret (pc := 31) dX12_row_31 rfl ⟨Nat.le_refl 0, Nat.le_refl 0⟩ hW
  · refine fr_iload_n (pc := 7) 2 rfl rfl dX12_row_7 ?_
    refine fr_callS_I (pc := 8) (As := [.int p1]) (st := []) wd_X12_isNumber w_1077 ok_X12_isNumber (by decide) rfl (Nat.le_of_ble_eq_true rfl) dX12_row_8 ⟨Nat.le_refl 0, Nat.le_refl 0⟩ hW (fun i6 s5 hW => ?_)
    refine fr_if_eq (pc := 11) (tgt := 29) (by decide) dX12_row_11 hW (fun hW => ?_) (fun hW => ?_)
    · refine fr_bipush (pc := 29) (-102) (by decide) dX12_row_29 ?_
      exact fr_iret (pc := 31) dX12_row_31 rfl ⟨Nat.le_refl 0, Nat.le_refl 0⟩ hW
    · refine fr_iload_n (pc := 14) 3 rfl rfl dX12_row_14 ?_
      refine fr_callS_I (pc := 15) (As := [.int p2]) (st := []) wd_X12_isNumber w_1077 ok_X12_isNumber (by decide) rfl (Nat.le_of_ble_eq_true rfl) dX12_row_15 ⟨Nat.le_refl 0, Nat.le_refl 0⟩ hW (fun i10 s9 hW => ?_)
      refine fr_if_eq (pc := 18) (tgt := 29) (by decide) dX12_row_18 hW (fun hW => ?_) (fun hW => ?_)
      · refine fr_bipush (pc := 29) (-102) (by decide) dX12_row_29 ?_
        exact fr_iret (pc := 31) dX12_row_31 rfl ⟨Nat.le_refl 0, Nat.le_refl 0⟩ hW
      · refine fr_iload (pc := 21) 4 rfl dX12_row_21 ?_
        refine fr_callS_I (pc := 23) (As := [.int p3]) (st := []) wd_X12_isNumber w_1077 ok_X12_isNumber (by decide) rfl (Nat.le_of_ble_eq_true rfl) dX12_row_23 ⟨Nat.le_refl 0, Nat.le_refl 0⟩ hW (fun i14 s13 hW => ?_)
        refine fr_if_ne (pc := 26) (tgt := 32) (by decide) dX12_row_26 hW (fun hW => ?_) (fun hW => ?_)
        · refine fr_aload_n (pc := 32) 0 rfl rfl dX12_row_32 ?_
          refine fr_getI (pc := 33) (T := TX12) (k := 2) kc_X12 (by decide) w_1075 dX12_row_33 hW (fun i17 hW => ?_)
          refine fr_bipush (pc := 36) 64 (by decide) dX12_row_36 ?_
          refine fr_icmp_ne (pc := 38) (tgt := 44) (by decide) dX12_row_38 hW (fun hW => ?_) (fun hW => ?_)
          · refine fr_aload_n (pc := 44) 0 rfl rfl dX12_row_44 ?_
            obtain ⟨hrc, hW⟩ := hW
            refine fr_callV_I (pc := 45) (As := []) (st := []) wd_X12_emptySlot w_1078 ok_X12_emptySlot (by decide) rfl (Nat.le_of_ble_eq_true rfl) dX12_row_45 ⟨Nat.le_refl 0, Nat.le_refl 0⟩ kc_X12 hrc hW (fun i19 s18 hW => ?_)
            refine fr_istore (pc := 48) (lv' := [(5, .int i19), (0, .ref r0), (1, .int p0), (2, .int p1), (3, .int p2), (4, .int p3)]) (by decide) rfl dX12_row_48 ?_
            refine fr_aload_n (pc := 50) 1 rfl rfl dX12_row_50 ?_
            refine fr_iload (pc := 51) 0 rfl dX12_row_51 ?_
            refine fr_iload_n (pc := 53) 2 rfl rfl dX12_row_53 ?_
            refine fr_iload_n (pc := 54) 3 rfl rfl dX12_row_54 ?_
            refine fr_iload_n (pc := 55) 4 rfl rfl dX12_row_55 ?_
            refine fr_iload (pc := 56) 5 rfl dX12_row_56 ?_
            obtain ⟨hrc, hW⟩ := hW
            refine fr_callV_V (pc := 58) (As := [.int i19, .int p0, .int p1, .int p2, .int p3]) (st := []) wd_X12_lay w_1079 ok_X12_lay (by decide) rfl (Nat.le_of_ble_eq_true rfl) dX12_row_58 ⟨Nat.le_refl 0, Nat.le_refl 0⟩ kc_X12 hrc hW (fun s22 hW => ?_)
            refine fr_iload (pc := 61) 0 rfl dX12_row_61 ?_
            exact fr_iret (pc := 63) dX12_row_63 rfl ⟨Nat.le_refl 0, Nat.le_refl 0⟩ hW
          · refine fr_bipush (pc := 41) (-104) (by decide) dX12_row_41 ?_
            exact fr_iret (pc := 43) dX12_row_43 rfl ⟨Nat.le_refl 0, Nat.le_refl 0⟩ hW
        · refine fr_bipush (pc := 29) (-102) (by decide) dX12_row_29 ?_
          exact fr_iret (pc := 31) dX12_row_31 rfl ⟨Nat.le_refl 0, Nat.le_refl 0⟩ hW
set_option maxHeartbeats 4000000 in
set_option maxRecDepth 100000 in
theorem q_X11_isSlot {g : GG} {σ : Hs} {post : Option Value → Hs → Prop} (p0 : Int32) (hW : (p0 < 0 → post (some (.int 0)) σ) ∧ (¬ p0 < 0 → (64 ≤ p0 → post (some (.int 0)) σ) ∧ (¬ 64 ≤ p0 → post (some (.int 1)) σ))) : Do g M_X11_isSlot 0 0 [.int p0] σ post := by
  refine Do.of (by decide +kernel) (Nat.le_of_ble_eq_true rfl) ?_
  show Fr g M_X11_isSlot (0, 0, 0, 0) [(0, .int p0)] [] 0 σ post
  refine fr_iload_n (pc := 0) 0 rfl rfl dX11_isSlot_0 ?_
  refine fr_if_lt (pc := 1) (tgt := 14) (by decide) dX11_isSlot_1 hW (fun hW => ?_) (fun hW => ?_)
  · refine fr_iconst (pc := 14) 0 (by decide) dX11_isSlot_14 ?_
    exact fr_zret (pc := 15) dX11_isSlot_15 rfl ⟨Nat.le_refl 0, Nat.le_refl 0⟩ ⟨rfl, hW⟩
  · refine fr_iload_n (pc := 4) 0 rfl rfl dX11_isSlot_4 ?_
    refine fr_bipush (pc := 5) 64 (by decide) dX11_isSlot_5 ?_
    refine fr_icmp_ge (pc := 7) (tgt := 14) (by decide) dX11_isSlot_7 hW (fun hW => ?_) (fun hW => ?_)
    · refine fr_iconst (pc := 14) 0 (by decide) dX11_isSlot_14 ?_
      exact fr_zret (pc := 15) dX11_isSlot_15 rfl ⟨Nat.le_refl 0, Nat.le_refl 0⟩ ⟨rfl, hW⟩
    · refine fr_iconst (pc := 10) 1 (by decide) dX11_isSlot_10 ?_
      refine fr_goto (pc := 11) (tgt := 15) (by decide) dX11_isSlot_11 ?_
      exact fr_zret (pc := 15) dX11_isSlot_15 rfl ⟨Nat.le_refl 0, Nat.le_refl 0⟩ ⟨rfl, hW⟩
set_option maxHeartbeats 4000000 in
set_option maxRecDepth 100000 in
theorem q_X8_holds {g : GG} {σ : Hs} {post : Option Value → Hs → Prop} (r0 : Nat) (p0 : Int32) (hW : Do g M_X11_isSlot 0 0 [.int p0] σ (kI (fun i2 s1 => (i2 = 0 → post (some (.int 0)) s1) ∧ (¬ i2 = 0 → FL s1 r0 8 1 (fun l5 => Do g M_X11_hasSlot 0 0 [.long l5, .int p0] s1 (kI (fun i7 s6 => (i7 = 0 → post (some (.int 0)) s6) ∧ (¬ i7 = 0 → post (some (.int 1)) s6)))))))) : Do g M_X8_holds 0 0 [.ref r0, .int p0] σ post := by
  refine Do.of (by decide +kernel) (Nat.le_of_ble_eq_true rfl) ?_
  show Fr g M_X8_holds (0, 0, 0, 0) [(0, .ref r0), (1, .int p0)] [] 0 σ post
  refine fr_iload_n (pc := 0) 1 rfl rfl dX8_holds_0 ?_
  refine fr_callSN_I (pc := 1) (As := [.int p0]) (st := []) wd_X11_isSlot ⟨RX11, by decide +kernel⟩ ok_X11_isSlot (by decide) rfl (Nat.le_of_ble_eq_true rfl) dX8_holds_1 ⟨Nat.le_refl 0, Nat.le_refl 0⟩ hW (fun i2 s1 hW => ?_)
  refine fr_if_eq (pc := 4) (tgt := 22) (by decide) dX8_holds_4 hW (fun hW => ?_) (fun hW => ?_)
  · refine fr_iconst (pc := 22) 0 (by decide) dX8_holds_22 ?_
    exact fr_zret (pc := 23) dX8_holds_23 rfl ⟨Nat.le_refl 0, Nat.le_refl 0⟩ ⟨rfl, hW⟩
  · refine fr_aload_n (pc := 7) 0 rfl rfl dX8_holds_7 ?_
    refine fr_getL (pc := 8) (T := TX8) (k := 1) kc_X8 (by decide) w_1031 dX8_holds_8 hW (fun l5 hW => ?_)
    refine fr_iload_n (pc := 11) 1 rfl rfl dX8_holds_11 ?_
    refine fr_callSN_I (pc := 12) (As := [.long l5, .int p0]) (st := []) wd_X11_hasSlot ⟨RX11, by decide +kernel⟩ ok_X11_hasSlot (by decide) rfl (Nat.le_of_ble_eq_true rfl) dX8_holds_12 ⟨Nat.le_refl 0, Nat.le_refl 0⟩ hW (fun i7 s6 hW => ?_)
    refine fr_if_eq (pc := 15) (tgt := 22) (by decide) dX8_holds_15 hW (fun hW => ?_) (fun hW => ?_)
    · refine fr_iconst (pc := 22) 0 (by decide) dX8_holds_22 ?_
      exact fr_zret (pc := 23) dX8_holds_23 rfl ⟨Nat.le_refl 0, Nat.le_refl 0⟩ ⟨rfl, hW⟩
    · refine fr_iconst (pc := 18) 1 (by decide) dX8_holds_18 ?_
      refine fr_goto (pc := 19) (tgt := 23) (by decide) dX8_holds_19 ?_
      exact fr_zret (pc := 23) dX8_holds_23 rfl ⟨Nat.le_refl 0, Nat.le_refl 0⟩ ⟨rfl, hW⟩
set_option maxHeartbeats 4000000 in
set_option maxRecDepth 100000 in
theorem q_X11_isColumn {g : GG} {σ : Hs} {post : Option Value → Hs → Prop} (p0 : Int32) (hW : (p0 < 0 → post (some (.int 0)) σ) ∧ (¬ p0 < 0 → (4 ≤ p0 → post (some (.int 0)) σ) ∧ (¬ 4 ≤ p0 → post (some (.int 1)) σ))) : Do g M_X11_isColumn 0 0 [.int p0] σ post := by
  refine Do.of (by decide +kernel) (Nat.le_of_ble_eq_true rfl) ?_
  show Fr g M_X11_isColumn (0, 0, 0, 0) [(0, .int p0)] [] 0 σ post
  refine fr_iload_n (pc := 0) 0 rfl rfl dX11_isColumn_0 ?_
  refine fr_if_lt (pc := 1) (tgt := 13) (by decide) dX11_isColumn_1 hW (fun hW => ?_) (fun hW => ?_)
  · refine fr_iconst (pc := 13) 0 (by decide) dX11_isColumn_13 ?_
    exact fr_zret (pc := 14) dX11_isColumn_14 rfl ⟨Nat.le_refl 0, Nat.le_refl 0⟩ ⟨rfl, hW⟩
  · refine fr_iload_n (pc := 4) 0 rfl rfl dX11_isColumn_4 ?_
    refine fr_iconst (pc := 5) 4 (by decide) dX11_isColumn_5 ?_
    refine fr_icmp_ge (pc := 6) (tgt := 13) (by decide) dX11_isColumn_6 hW (fun hW => ?_) (fun hW => ?_)
    · refine fr_iconst (pc := 13) 0 (by decide) dX11_isColumn_13 ?_
      exact fr_zret (pc := 14) dX11_isColumn_14 rfl ⟨Nat.le_refl 0, Nat.le_refl 0⟩ ⟨rfl, hW⟩
    · refine fr_iconst (pc := 9) 1 (by decide) dX11_isColumn_9 ?_
      refine fr_goto (pc := 10) (tgt := 14) (by decide) dX11_isColumn_10 ?_
      exact fr_zret (pc := 14) dX11_isColumn_14 rfl ⟨Nat.le_refl 0, Nat.le_refl 0⟩ ⟨rfl, hW⟩
def J_X1_placeOf_2 (g : GG) (post : Option Value → Hs → Prop) (σ : Hs) (a0 : Nat) (v1 : Int32) (v2 : Int32) (v3 : Int32) : Prop := Fr g M_X1_placeOf (0, 0, 0, 0) [(0, .ref a0), (1, .int v1), (2, .int v2), (3, .int v3)] [] 2 σ post
set_option maxHeartbeats 4000000 in
set_option maxRecDepth 100000 in
theorem q_X1_placeOf {g : GG} {σ : Hs} {post : Option Value → Hs → Prop} (r0 : Nat) (p0 : Int32) (p1 : Int32) (hW : J_X1_placeOf_2 g post σ r0 p0 p1 0 ) : Do g M_X1_placeOf 0 0 [.ref r0, .int p0, .int p1] σ post := by
  refine Do.of (by decide +kernel) (Nat.le_of_ble_eq_true rfl) ?_
  show Fr g M_X1_placeOf (0, 0, 0, 0) [(0, .ref r0), (1, .int p0), (2, .int p1)] [] 0 σ post
  refine fr_iconst (pc := 0) 0 (by decide) dX1_placeOf_0 ?_
  refine fr_istore_n (pc := 1) (lv' := [(3, .int 0), (0, .ref r0), (1, .int p0), (2, .int p1)]) rfl (by decide) rfl dX1_placeOf_1 ?_
  exact fr_sub [1, 2, 3, 0] rfl hW
set_option maxHeartbeats 4000000 in
set_option maxRecDepth 100000 in
theorem q_X1_placeOf_2 {g : GG} {σ : Hs} {post : Option Value → Hs → Prop} (a0 : Nat) (v1 : Int32) (v2 : Int32) (v3 : Int32) (hW : (v2 ≤ v3 → post (some (.int (-1))) σ) ∧ (¬ v2 ≤ v3 → Rc σ a0 1 ∧ Do g M_X1_at 0 0 [.ref a0, .int v3] σ (kI (fun i2 s1 => (¬ i2 = v1 → J_X1_placeOf_2 g post s1 a0 v1 v2 ((v3 + 1)) ) ∧ (i2 = v1 → post (some (.int v3)) s1))))) : J_X1_placeOf_2 g post σ a0 v1 v2 v3 := by
  show Fr g M_X1_placeOf (0, 0, 0, 0) [(0, .ref a0), (1, .int v1), (2, .int v2), (3, .int v3)] [] 2 σ post
  refine fr_iload_n (pc := 2) 3 rfl rfl dX1_placeOf_2 ?_
  refine fr_iload_n (pc := 3) 2 rfl rfl dX1_placeOf_3 ?_
  refine fr_icmp_ge (pc := 4) (tgt := 24) (by decide) dX1_placeOf_4 hW (fun hW => ?_) (fun hW => ?_)
  · refine fr_iconst (pc := 24) (-1) (by decide) dX1_placeOf_24 ?_
    exact fr_iret (pc := 25) dX1_placeOf_25 rfl ⟨Nat.le_refl 0, Nat.le_refl 0⟩ hW
  · refine fr_aload_n (pc := 7) 0 rfl rfl dX1_placeOf_7 ?_
    refine fr_iload_n (pc := 8) 3 rfl rfl dX1_placeOf_8 ?_
    obtain ⟨hrc, hW⟩ := hW
    refine fr_callV_I (pc := 9) (As := [.int v3]) (st := []) wd_X1_at w_1047 ok_X1_at (by decide) rfl (Nat.le_of_ble_eq_true rfl) dX1_placeOf_9 ⟨Nat.le_refl 0, Nat.le_refl 0⟩ kc_X1 hrc hW (fun i2 s1 hW => ?_)
    refine fr_iload_n (pc := 12) 1 rfl rfl dX1_placeOf_12 ?_
    refine fr_icmp_ne (pc := 13) (tgt := 18) (by decide) dX1_placeOf_13 hW (fun hW => ?_) (fun hW => ?_)
    · refine fr_iinc (pc := 18) (lv' := [(3, .int (v3 + 1)), (0, .ref a0), (1, .int v1), (2, .int v2)]) (v3 + 1) 3 rfl (congrArg (fun z => v3 + z) (by decide)) (by decide) rfl dX1_placeOf_18 ?_
      refine fr_goto (pc := 21) (tgt := 2) (by decide) dX1_placeOf_21 ?_
      exact fr_sub [1, 2, 3, 0] rfl hW
    · refine fr_iload_n (pc := 16) 3 rfl rfl dX1_placeOf_16 ?_
      exact fr_iret (pc := 17) dX1_placeOf_17 rfl ⟨Nat.le_refl 0, Nat.le_refl 0⟩ hW
def J_X1_remove_2 (g : GG) (post : Option Value → Hs → Prop) (σ : Hs) (a0 : Nat) (v2 : Int32) (v3 : Int32) : Prop := Fr g M_X1_remove (0, 0, 0, 0) [(0, .ref a0), (2, .int v2), (3, .int v3)] [] 2 σ post
set_option maxHeartbeats 4000000 in
set_option maxRecDepth 100000 in
theorem q_X1_remove {g : GG} {σ : Hs} {post : Option Value → Hs → Prop} (r0 : Nat) (p0 : Int32) (p1 : Int32) (hW : J_X1_remove_2 g post σ r0 p1 p0 ) : Do g M_X1_remove 0 0 [.ref r0, .int p0, .int p1] σ post := by
  refine Do.of (by decide +kernel) (Nat.le_of_ble_eq_true rfl) ?_
  show Fr g M_X1_remove (0, 0, 0, 0) [(0, .ref r0), (1, .int p0), (2, .int p1)] [] 0 σ post
  refine fr_iload_n (pc := 0) 1 rfl rfl dX1_remove_0 ?_
  refine fr_istore_n (pc := 1) (lv' := [(3, .int p0), (0, .ref r0), (1, .int p0), (2, .int p1)]) rfl (by decide) rfl dX1_remove_1 ?_
  exact fr_sub [1, 3, 0] rfl hW
set_option maxHeartbeats 4000000 in
set_option maxRecDepth 100000 in
theorem q_X1_remove_2 {g : GG} {σ : Hs} {post : Option Value → Hs → Prop} (a0 : Nat) (v2 : Int32) (v3 : Int32) (hW : ((v2 - 1) ≤ v3 → post none σ) ∧ (¬ (v2 - 1) ≤ v3 → Rc σ a0 1 ∧ Do g M_X1_at 0 0 [.ref a0, .int (v3 + 1)] σ (kI (fun i2 s1 => Rc s1 a0 1 ∧ Do g M_X1_put 0 0 [.ref a0, .int v3, .int i2] s1 (kV (fun s5 => J_X1_remove_2 g post s5 a0 v2 ((v3 + 1)) )))))) : J_X1_remove_2 g post σ a0 v2 v3 := by
  show Fr g M_X1_remove (0, 0, 0, 0) [(0, .ref a0), (2, .int v2), (3, .int v3)] [] 2 σ post
  refine fr_iload_n (pc := 2) 2 rfl rfl dX1_remove_2 ?_
  refine fr_iload_n (pc := 3) 1 rfl rfl dX1_remove_3 ?_
  refine fr_iconst (pc := 4) 1 (by decide) dX1_remove_4 ?_
  refine fr_isub (pc := 5) dX1_remove_5 ?_
  refine fr_icmp_ge (pc := 6) (tgt := 27) (by decide) dX1_remove_6 hW (fun hW => ?_) (fun hW => ?_)
  · exact fr_ret (pc := 27) dX1_remove_27 rfl ⟨Nat.le_refl 0, Nat.le_refl 0⟩ hW
  · refine fr_aload_n (pc := 9) 0 rfl rfl dX1_remove_9 ?_
    refine fr_iload_n (pc := 10) 2 rfl rfl dX1_remove_10 ?_
    refine fr_aload_n (pc := 11) 0 rfl rfl dX1_remove_11 ?_
    refine fr_iload_n (pc := 12) 2 rfl rfl dX1_remove_12 ?_
    refine fr_iconst (pc := 13) 1 (by decide) dX1_remove_13 ?_
    refine fr_iadd (pc := 14) dX1_remove_14 ?_
    obtain ⟨hrc, hW⟩ := hW
    refine fr_callV_I (pc := 15) (As := [.int (v3 + 1)]) (st := [.int v3, .ref a0]) wd_X1_at w_1047 ok_X1_at (by decide) rfl (Nat.le_of_ble_eq_true rfl) dX1_remove_15 ⟨Nat.le_refl 0, Nat.le_refl 0⟩ kc_X1 hrc hW (fun i2 s1 hW => ?_)
    obtain ⟨hrc, hW⟩ := hW
    refine fr_callV_V (pc := 18) (As := [.int v3, .int i2]) (st := []) wd_X1_put w_1048 ok_X1_put (by decide) rfl (Nat.le_of_ble_eq_true rfl) dX1_remove_18 ⟨Nat.le_refl 0, Nat.le_refl 0⟩ kc_X1 hrc hW (fun s5 hW => ?_)
    refine fr_iinc (pc := 21) (lv' := [(3, .int (v3 + 1)), (0, .ref a0), (2, .int v2)]) (v3 + 1) 2 rfl (congrArg (fun z => v3 + z) (by decide)) (by decide) rfl dX1_remove_21 ?_
    refine fr_goto (pc := 24) (tgt := 2) (by decide) dX1_remove_24 ?_
    exact fr_sub [1, 2, 0] rfl hW
set_option maxHeartbeats 4000000 in
set_option maxRecDepth 100000 in
theorem q_X2_entryGoes {g : GG} {σ : Hs} {post : Option Value → Hs → Prop} (r0 : Nat) (p0 : Int32) (hW : FR σ r0 2 6 (fun r1 => FI σ r0 2 8 (fun i2 => Rc σ r1 1 ∧ Do g M_X1_placeOf 0 0 [.ref r1, .int p0, .int i2] σ (kI (fun i4 s3 => (¬ i4 = (-1) → Rc s3 r0 2 ∧ Do g M_X2_leafAt 0 0 [.ref r0, .int i4] s3 (kI (fun i8 s7 => FR s7 r0 2 6 (fun r11 => FI s7 r0 2 8 (fun i12 => Rc s7 r11 1 ∧ Do g M_X1_remove 0 0 [.ref r11, .int i4, .int i12] s7 (kV (fun s13 => FI s13 r0 2 8 (fun i14 => PF s13 r0 2 8 (.int (i14 - 1)) (fun s15 => FR s15 r0 2 7 (fun r16 => Rc s15 r16 1 ∧ Do g M_X1_raise 0 0 [.ref r16, .int i8, .int (-1)] s15 (kV (fun s17 => FR s17 r0 2 7 (fun r18 => Rc s17 r18 1 ∧ Do g M_X1_at 0 0 [.ref r18, .int i8] s17 (kI (fun i20 s19 => (¬ i20 = 0 → post none s19) ∧ (i20 = 0 → FR s19 r0 2 7 (fun r23 => FI s19 r0 2 9 (fun i24 => Rc s19 r23 1 ∧ Do g M_X1_remove 0 0 [.ref r23, .int i8, .int i24] s19 (kV (fun s25 => FI s25 r0 2 9 (fun i26 => PF s25 r0 2 9 (.int (i26 - 1)) (fun s27 => post none s27)))))))))))))))))))))) ∧ (i4 = (-1) → post none s3)))))) : Do g M_X2_entryGoes 0 0 [.ref r0, .int p0] σ post := by
  refine Do.of (by decide +kernel) (Nat.le_of_ble_eq_true rfl) ?_
  show Fr g M_X2_entryGoes (0, 0, 0, 0) [(0, .ref r0), (1, .int p0)] [] 0 σ post
  refine fr_aload_n (pc := 0) 0 rfl rfl dX2_entryGoes_0 ?_
  refine fr_getR (pc := 1) (T := TX2) (k := 6) kc_X2 (by decide) w_1042 dX2_entryGoes_1 hW (fun r1 hW => ?_)
  refine fr_iload_n (pc := 4) 1 rfl rfl dX2_entryGoes_4 ?_
  refine fr_aload_n (pc := 5) 0 rfl rfl dX2_entryGoes_5 ?_
  refine fr_getI (pc := 6) (T := TX2) (k := 8) kc_X2 (by decide) w_1041 dX2_entryGoes_6 hW (fun i2 hW => ?_)
  obtain ⟨hrc, hW⟩ := hW
  refine fr_callV_I (pc := 9) (As := [.int p0, .int i2]) (st := []) wd_X1_placeOf w_1080 ok_X1_placeOf (by decide) rfl (Nat.le_of_ble_eq_true rfl) dX2_entryGoes_9 ⟨Nat.le_refl 0, Nat.le_refl 0⟩ kc_X1 hrc hW (fun i4 s3 hW => ?_)
  refine fr_istore_n (pc := 12) (lv' := [(2, .int i4), (0, .ref r0), (1, .int p0)]) rfl (by decide) rfl dX2_entryGoes_12 ?_
  refine fr_iload_n (pc := 13) 0 rfl rfl dX2_entryGoes_13 ?_
  refine fr_iconst (pc := 14) (-1) (by decide) dX2_entryGoes_14 ?_
  refine fr_icmp_ne (pc := 15) (tgt := 19) (by decide) dX2_entryGoes_15 hW (fun hW => ?_) (fun hW => ?_)
  · refine fr_aload_n (pc := 19) 1 rfl rfl dX2_entryGoes_19 ?_
    refine fr_iload_n (pc := 20) 0 rfl rfl dX2_entryGoes_20 ?_
    obtain ⟨hrc, hW⟩ := hW
    refine fr_callV_I (pc := 21) (As := [.int i4]) (st := []) wd_X2_leafAt w_1046 ok_X2_leafAt (by decide) rfl (Nat.le_of_ble_eq_true rfl) dX2_entryGoes_21 ⟨Nat.le_refl 0, Nat.le_refl 0⟩ kc_X2 hrc hW (fun i8 s7 hW => ?_)
    refine fr_istore_n (pc := 24) (lv' := [(3, .int i8), (2, .int i4), (0, .ref r0), (1, .int p0)]) rfl (by decide) rfl dX2_entryGoes_24 ?_
    refine fr_aload_n (pc := 25) 2 rfl rfl dX2_entryGoes_25 ?_
    refine fr_getR (pc := 26) (T := TX2) (k := 6) kc_X2 (by decide) w_1042 dX2_entryGoes_26 hW (fun r11 hW => ?_)
    refine fr_iload_n (pc := 29) 1 rfl rfl dX2_entryGoes_29 ?_
    refine fr_aload_n (pc := 30) 2 rfl rfl dX2_entryGoes_30 ?_
    refine fr_getI (pc := 31) (T := TX2) (k := 8) kc_X2 (by decide) w_1041 dX2_entryGoes_31 hW (fun i12 hW => ?_)
    obtain ⟨hrc, hW⟩ := hW
    refine fr_callV_V (pc := 34) (As := [.int i4, .int i12]) (st := []) wd_X1_remove w_1081 ok_X1_remove (by decide) rfl (Nat.le_of_ble_eq_true rfl) dX2_entryGoes_34 ⟨Nat.le_refl 0, Nat.le_refl 0⟩ kc_X1 hrc hW (fun s13 hW => ?_)
    refine fr_aload_n (pc := 37) 2 rfl rfl dX2_entryGoes_37 ?_
    refine fr_dup (pc := 38) rfl dX2_entryGoes_38 ?_
    refine fr_getI (pc := 39) (T := TX2) (k := 8) kc_X2 (by decide) w_1041 dX2_entryGoes_39 hW (fun i14 hW => ?_)
    refine fr_iconst (pc := 42) 1 (by decide) dX2_entryGoes_42 ?_
    refine fr_isub (pc := 43) dX2_entryGoes_43 ?_
    refine fr_put (pc := 44) (T := TX2) (k := 8) kc_X2 (by decide) w_1041 rfl rfl rfl dX2_entryGoes_44 hW (fun s15 hW => ?_)
    refine fr_aload_n (pc := 47) 2 rfl rfl dX2_entryGoes_47 ?_
    refine fr_getR (pc := 48) (T := TX2) (k := 7) kc_X2 (by decide) w_1045 dX2_entryGoes_48 hW (fun r16 hW => ?_)
    refine fr_iload_n (pc := 51) 0 rfl rfl dX2_entryGoes_51 ?_
    refine fr_iconst (pc := 52) (-1) (by decide) dX2_entryGoes_52 ?_
    obtain ⟨hrc, hW⟩ := hW
    refine fr_callV_V (pc := 53) (As := [.int i8, .int (-1)]) (st := []) wd_X1_raise w_1056 ok_X1_raise (by decide) rfl (Nat.le_of_ble_eq_true rfl) dX2_entryGoes_53 ⟨Nat.le_refl 0, Nat.le_refl 0⟩ kc_X1 hrc hW (fun s17 hW => ?_)
    refine fr_aload_n (pc := 56) 2 rfl rfl dX2_entryGoes_56 ?_
    refine fr_getR (pc := 57) (T := TX2) (k := 7) kc_X2 (by decide) w_1045 dX2_entryGoes_57 hW (fun r18 hW => ?_)
    refine fr_iload_n (pc := 60) 0 rfl rfl dX2_entryGoes_60 ?_
    obtain ⟨hrc, hW⟩ := hW
    refine fr_callV_I (pc := 61) (As := [.int i8]) (st := []) wd_X1_at w_1039 ok_X1_at (by decide) rfl (Nat.le_of_ble_eq_true rfl) dX2_entryGoes_61 ⟨Nat.le_refl 0, Nat.le_refl 0⟩ kc_X1 hrc hW (fun i20 s19 hW => ?_)
    refine fr_if_ne (pc := 64) (tgt := 89) (by decide) dX2_entryGoes_64 hW (fun hW => ?_) (fun hW => ?_)
    · exact fr_ret (pc := 89) dX2_entryGoes_89 rfl ⟨Nat.le_refl 0, Nat.le_refl 0⟩ hW
    · refine fr_aload_n (pc := 67) 2 rfl rfl dX2_entryGoes_67 ?_
      refine fr_getR (pc := 68) (T := TX2) (k := 7) kc_X2 (by decide) w_1045 dX2_entryGoes_68 hW (fun r23 hW => ?_)
      refine fr_iload_n (pc := 71) 0 rfl rfl dX2_entryGoes_71 ?_
      refine fr_aload_n (pc := 72) 2 rfl rfl dX2_entryGoes_72 ?_
      refine fr_getI (pc := 73) (T := TX2) (k := 9) kc_X2 (by decide) w_1044 dX2_entryGoes_73 hW (fun i24 hW => ?_)
      obtain ⟨hrc, hW⟩ := hW
      refine fr_callV_V (pc := 76) (As := [.int i8, .int i24]) (st := []) wd_X1_remove w_1081 ok_X1_remove (by decide) rfl (Nat.le_of_ble_eq_true rfl) dX2_entryGoes_76 ⟨Nat.le_refl 0, Nat.le_refl 0⟩ kc_X1 hrc hW (fun s25 hW => ?_)
      refine fr_aload_n (pc := 79) 2 rfl rfl dX2_entryGoes_79 ?_
      refine fr_dup (pc := 80) rfl dX2_entryGoes_80 ?_
      refine fr_getI (pc := 81) (T := TX2) (k := 9) kc_X2 (by decide) w_1044 dX2_entryGoes_81 hW (fun i26 hW => ?_)
      refine fr_iconst (pc := 84) 1 (by decide) dX2_entryGoes_84 ?_
      refine fr_isub (pc := 85) dX2_entryGoes_85 ?_
      refine fr_put (pc := 86) (T := TX2) (k := 9) kc_X2 (by decide) w_1044 rfl rfl rfl dX2_entryGoes_86 hW (fun s27 hW => ?_)
      exact fr_ret (pc := 89) dX2_entryGoes_89 rfl ⟨Nat.le_refl 0, Nat.le_refl 0⟩ hW
  · exact fr_ret (pc := 18) dX2_entryGoes_18 rfl ⟨Nat.le_refl 0, Nat.le_refl 0⟩ hW
def J_X3_entriesGo_2 (g : GG) (post : Option Value → Hs → Prop) (σ : Hs) (a0 : Nat) (v1 : Int32) (v2 : Int32) : Prop := Fr g M_X3_entriesGo (0, 0, 0, 0) [(0, .ref a0), (1, .int v1), (2, .int v2)] [] 2 σ post
set_option maxHeartbeats 4000000 in
set_option maxRecDepth 100000 in
theorem q_X3_entriesGo {g : GG} {σ : Hs} {post : Option Value → Hs → Prop} (r0 : Nat) (p0 : Int32) (hW : J_X3_entriesGo_2 g post σ r0 p0 0 ) : Do g M_X3_entriesGo 0 0 [.ref r0, .int p0] σ post := by
  refine Do.of (by decide +kernel) (Nat.le_of_ble_eq_true rfl) ?_
  show Fr g M_X3_entriesGo (0, 0, 0, 0) [(0, .ref r0), (1, .int p0)] [] 0 σ post
  refine fr_iconst (pc := 0) 0 (by decide) dX3_entriesGo_0 ?_
  refine fr_istore_n (pc := 1) (lv' := [(2, .int 0), (0, .ref r0), (1, .int p0)]) rfl (by decide) rfl dX3_entriesGo_1 ?_
  exact fr_sub [1, 2, 0] rfl hW
set_option maxHeartbeats 4000000 in
set_option maxRecDepth 100000 in
theorem q_X3_entriesGo_2 {g : GG} {σ : Hs} {post : Option Value → Hs → Prop} (a0 : Nat) (v1 : Int32) (v2 : Int32) (hW : FI σ a0 3 2 (fun i1 => (i1 ≤ v2 → post none σ) ∧ (¬ i1 ≤ v2 → Rc σ a0 3 ∧ Do g M_X3_kept 0 0 [.ref a0, .int v2] σ (kA (fun s2 => J_X3_entriesGo_2 g post s2 a0 v1 ((v2 + 1)) ) (fun r5 s2 => Rc s2 r5 2 ∧ Do g M_X2_entryGoes 0 0 [.ref r5, .int v1] s2 (kV (fun s6 => J_X3_entriesGo_2 g post s6 a0 v1 ((v2 + 1)) ))))))) : J_X3_entriesGo_2 g post σ a0 v1 v2 := by
  show Fr g M_X3_entriesGo (0, 0, 0, 0) [(0, .ref a0), (1, .int v1), (2, .int v2)] [] 2 σ post
  refine fr_iload_n (pc := 2) 2 rfl rfl dX3_entriesGo_2 ?_
  refine fr_aload_n (pc := 3) 0 rfl rfl dX3_entriesGo_3 ?_
  refine fr_getI (pc := 4) (T := TX3) (k := 2) kc_X3 (by decide) w_1058 dX3_entriesGo_4 hW (fun i1 hW => ?_)
  refine fr_icmp_ge (pc := 7) (tgt := 31) (by decide) dX3_entriesGo_7 hW (fun hW => ?_) (fun hW => ?_)
  · exact fr_ret (pc := 31) dX3_entriesGo_31 rfl ⟨Nat.le_refl 0, Nat.le_refl 0⟩ hW
  · refine fr_aload_n (pc := 10) 0 rfl rfl dX3_entriesGo_10 ?_
    refine fr_iload_n (pc := 11) 2 rfl rfl dX3_entriesGo_11 ?_
    obtain ⟨hrc, hW⟩ := hW
    refine fr_callV_A (pc := 12) (As := [.int v2]) (st := []) wd_X3_kept w_1059 ok_X3_kept (by decide) rfl (Nat.le_of_ble_eq_true rfl) dX3_entriesGo_12 ⟨Nat.le_refl 0, Nat.le_refl 0⟩ kc_X3 hrc hW (fun s2 hW => ?_) (fun r5 s2 hW => ?_)
    · refine fr_astore_nN (pc := 15) (lv' := [(3, .null), (0, .ref a0), (1, .int v1), (2, .int v2)]) rfl (by decide) rfl dX3_entriesGo_15 ?_
      refine fr_aload_nN (pc := 16) 0 rfl rfl dX3_entriesGo_16 ?_
      refine fr_ifnullN (pc := 17) (tgt := 25) (by decide) dX3_entriesGo_17 ?_
      refine fr_iinc (pc := 25) (lv' := [(2, .int (v2 + 1)), (3, .null), (0, .ref a0), (1, .int v1)]) (v2 + 1) 3 rfl (congrArg (fun z => v2 + z) (by decide)) (by decide) rfl dX3_entriesGo_25 ?_
      refine fr_goto (pc := 28) (tgt := 2) (by decide) dX3_entriesGo_28 ?_
      exact fr_sub [2, 3, 0] rfl hW
    · refine fr_astore_n (pc := 15) (lv' := [(3, .ref r5), (0, .ref a0), (1, .int v1), (2, .int v2)]) rfl (by decide) rfl dX3_entriesGo_15 ?_
      refine fr_aload_n (pc := 16) 0 rfl rfl dX3_entriesGo_16 ?_
      refine fr_ifnull (pc := 17) dX3_entriesGo_17 ?_
      refine fr_aload_n (pc := 20) 0 rfl rfl dX3_entriesGo_20 ?_
      refine fr_iload_n (pc := 21) 2 rfl rfl dX3_entriesGo_21 ?_
      obtain ⟨hrc, hW⟩ := hW
      refine fr_callV_V (pc := 22) (As := [.int v1]) (st := []) wd_X2_entryGoes w_1082 ok_X2_entryGoes (by decide) rfl (Nat.le_of_ble_eq_true rfl) dX3_entriesGo_22 ⟨Nat.le_refl 0, Nat.le_refl 0⟩ kc_X2 hrc hW (fun s6 hW => ?_)
      refine fr_iinc (pc := 25) (lv' := [(2, .int (v2 + 1)), (3, .ref r5), (0, .ref a0), (1, .int v1)]) (v2 + 1) 3 rfl (congrArg (fun z => v2 + z) (by decide)) (by decide) rfl dX3_entriesGo_25 ?_
      refine fr_goto (pc := 28) (tgt := 2) (by decide) dX3_entriesGo_28 ?_
      exact fr_sub [2, 3, 0] rfl hW
set_option maxHeartbeats 4000000 in
set_option maxRecDepth 100000 in
theorem q_X11_set {g : GG} {σ : Hs} {post : Option Value → Hs → Prop} (r0 : Nat) (p0 : Int32) (p1 : Int32) (p2 : Int32) (hW : FR σ r0 11 0 (fun r1 => Rc σ r1 8 ∧ Do g M_X8_holds 0 0 [.ref r1, .int p0] σ (kI (fun i3 s2 => (i3 = 0 → post (some (.int (-101))) s2) ∧ (¬ i3 = 0 → Do g M_X11_isColumn 0 0 [.int p1] s2 (kI (fun i7 s6 => (¬ i7 = 0 → Do g M_X11_isNumber 0 0 [.int p2] s6 (kI (fun i11 s10 => (¬ i11 = 0 → FR s10 r0 11 0 (fun r14 => Rc s10 r14 8 ∧ Do g M_X8_number 0 0 [.ref r14, .int p0, .int p1] s10 (kI (fun i16 s15 => FR s15 r0 11 1 (fun r19 => Rc s15 r19 3 ∧ Do g M_X3_entriesGo 0 0 [.ref r19, .int p0] s15 (kV (fun s20 => FR s20 r0 11 0 (fun r21 => Rc s20 r21 8 ∧ Do g M_X8_put 0 0 [.ref r21, .int p0, .int p1, .int p2] s20 (kV (fun s22 => FR s22 r0 11 1 (fun r23 => Rc s22 r23 3 ∧ Do g M_X3_entriesCome 0 0 [.ref r23, .int p0] s22 (kV (fun s24 => post (some (.int i16)) s24))))))))))))) ∧ (i11 = 0 → post (some (.int (-102))) s10)))) ∧ (i7 = 0 → post (some (.int (-101))) s6)))))))) : Do g M_X11_set 0 0 [.ref r0, .int p0, .int p1, .int p2] σ post := by
  refine Do.of (by decide +kernel) (Nat.le_of_ble_eq_true rfl) ?_
  show Fr g M_X11_set (0, 0, 0, 0) [(0, .ref r0), (1, .int p0), (2, .int p1), (3, .int p2)] [] 0 σ post
  refine fr_aload_n (pc := 0) 0 rfl rfl dX11_set_0 ?_
  refine fr_getR (pc := 1) (T := TX11) (k := 0) kc_X11 (by decide) w_990 dX11_set_1 hW (fun r1 hW => ?_)
  refine fr_iload_n (pc := 4) 1 rfl rfl dX11_set_4 ?_
  obtain ⟨hrc, hW⟩ := hW
  refine fr_callV_I (pc := 5) (As := [.int p0]) (st := []) wd_X8_holds w_1083 ok_X8_holds (by decide) rfl (Nat.le_of_ble_eq_true rfl) dX11_set_5 ⟨Nat.le_refl 0, Nat.le_refl 0⟩ kc_X8 hrc hW (fun i3 s2 hW => ?_)
  refine fr_if_eq (pc := 8) (tgt := 18) (by decide) dX11_set_8 hW (fun hW => ?_) (fun hW => ?_)
  · refine fr_bipush (pc := 18) (-101) (by decide) dX11_set_18 ?_
    exact fr_iret (pc := 20) dX11_set_20 rfl ⟨Nat.le_refl 0, Nat.le_refl 0⟩ hW
  · refine fr_iload_n (pc := 11) 2 rfl rfl dX11_set_11 ?_
    refine fr_callS_I (pc := 12) (As := [.int p1]) (st := []) wd_X11_isColumn w_1084 ok_X11_isColumn (by decide) rfl (Nat.le_of_ble_eq_true rfl) dX11_set_12 ⟨Nat.le_refl 0, Nat.le_refl 0⟩ hW (fun i7 s6 hW => ?_)
    refine fr_if_ne (pc := 15) (tgt := 21) (by decide) dX11_set_15 hW (fun hW => ?_) (fun hW => ?_)
    · refine fr_iload_n (pc := 21) 3 rfl rfl dX11_set_21 ?_
      refine fr_callS_I (pc := 22) (As := [.int p2]) (st := []) wd_X11_isNumber w_1063 ok_X11_isNumber (by decide) rfl (Nat.le_of_ble_eq_true rfl) dX11_set_22 ⟨Nat.le_refl 0, Nat.le_refl 0⟩ hW (fun i11 s10 hW => ?_)
      refine fr_if_ne (pc := 25) (tgt := 31) (by decide) dX11_set_25 hW (fun hW => ?_) (fun hW => ?_)
      · refine fr_aload_n (pc := 31) 0 rfl rfl dX11_set_31 ?_
        refine fr_getR (pc := 32) (T := TX11) (k := 0) kc_X11 (by decide) w_990 dX11_set_32 hW (fun r14 hW => ?_)
        refine fr_iload_n (pc := 35) 1 rfl rfl dX11_set_35 ?_
        refine fr_iload_n (pc := 36) 2 rfl rfl dX11_set_36 ?_
        obtain ⟨hrc, hW⟩ := hW
        refine fr_callV_I (pc := 37) (As := [.int p0, .int p1]) (st := []) wd_X8_number w_1085 ok_X8_number (by decide) rfl (Nat.le_of_ble_eq_true rfl) dX11_set_37 ⟨Nat.le_refl 0, Nat.le_refl 0⟩ kc_X8 hrc hW (fun i16 s15 hW => ?_)
        refine fr_istore (pc := 40) (lv' := [(4, .int i16), (0, .ref r0), (1, .int p0), (2, .int p1), (3, .int p2)]) (by decide) rfl dX11_set_40 ?_
        refine fr_aload_n (pc := 42) 1 rfl rfl dX11_set_42 ?_
        refine fr_getR (pc := 43) (T := TX11) (k := 1) kc_X11 (by decide) w_991 dX11_set_43 hW (fun r19 hW => ?_)
        refine fr_iload_n (pc := 46) 2 rfl rfl dX11_set_46 ?_
        obtain ⟨hrc, hW⟩ := hW
        refine fr_callV_V (pc := 47) (As := [.int p0]) (st := []) wd_X3_entriesGo w_1086 ok_X3_entriesGo (by decide) rfl (Nat.le_of_ble_eq_true rfl) dX11_set_47 ⟨Nat.le_refl 0, Nat.le_refl 0⟩ kc_X3 hrc hW (fun s20 hW => ?_)
        refine fr_aload_n (pc := 50) 1 rfl rfl dX11_set_50 ?_
        refine fr_getR (pc := 51) (T := TX11) (k := 0) kc_X11 (by decide) w_990 dX11_set_51 hW (fun r21 hW => ?_)
        refine fr_iload_n (pc := 54) 2 rfl rfl dX11_set_54 ?_
        refine fr_iload_n (pc := 55) 3 rfl rfl dX11_set_55 ?_
        refine fr_iload_n (pc := 56) 4 rfl rfl dX11_set_56 ?_
        obtain ⟨hrc, hW⟩ := hW
        refine fr_callV_V (pc := 57) (As := [.int p0, .int p1, .int p2]) (st := []) wd_X8_put w_1065 ok_X8_put (by decide) rfl (Nat.le_of_ble_eq_true rfl) dX11_set_57 ⟨Nat.le_refl 0, Nat.le_refl 0⟩ kc_X8 hrc hW (fun s22 hW => ?_)
        refine fr_aload_n (pc := 60) 1 rfl rfl dX11_set_60 ?_
        refine fr_getR (pc := 61) (T := TX11) (k := 1) kc_X11 (by decide) w_991 dX11_set_61 hW (fun r23 hW => ?_)
        refine fr_iload_n (pc := 64) 2 rfl rfl dX11_set_64 ?_
        obtain ⟨hrc, hW⟩ := hW
        refine fr_callV_V (pc := 65) (As := [.int p0]) (st := []) wd_X3_entriesCome w_1062 ok_X3_entriesCome (by decide) rfl (Nat.le_of_ble_eq_true rfl) dX11_set_65 ⟨Nat.le_refl 0, Nat.le_refl 0⟩ kc_X3 hrc hW (fun s24 hW => ?_)
        refine fr_iload (pc := 68) 0 rfl dX11_set_68 ?_
        exact fr_iret (pc := 70) dX11_set_70 rfl ⟨Nat.le_refl 0, Nat.le_refl 0⟩ hW
      · refine fr_bipush (pc := 28) (-102) (by decide) dX11_set_28 ?_
        exact fr_iret (pc := 30) dX11_set_30 rfl ⟨Nat.le_refl 0, Nat.le_refl 0⟩ hW
    · refine fr_bipush (pc := 18) (-101) (by decide) dX11_set_18 ?_
      exact fr_iret (pc := 20) dX11_set_20 rfl ⟨Nat.le_refl 0, Nat.le_refl 0⟩ hW
set_option maxHeartbeats 4000000 in
set_option maxRecDepth 100000 in
theorem q_X12_isSlot {g : GG} {σ : Hs} {post : Option Value → Hs → Prop} (r0 : Nat) (p0 : Int32) (hW : Do g M_X12_in 0 0 [.int p0, .int 0, .int 63] σ (kI (fun i2 s1 => (i2 = 0 → post (some (.int 0)) s1) ∧ (¬ i2 = 0 → FR s1 r0 12 0 (fun r5 => AI g s1 r5 1 p0 (fun i6 => (i6 = 0 → post (some (.int 0)) s1) ∧ (¬ i6 = 0 → post (some (.int 1)) s1))))))) : Do g M_X12_isSlot 0 0 [.ref r0, .int p0] σ post := by
  refine Do.of (by decide +kernel) (Nat.le_of_ble_eq_true rfl) ?_
  show Fr g M_X12_isSlot (0, 0, 0, 0) [(0, .ref r0), (1, .int p0)] [] 0 σ post
  refine fr_iload_n (pc := 0) 1 rfl rfl dX12_isSlot_0 ?_
  refine fr_iconst (pc := 1) 0 (by decide) dX12_isSlot_1 ?_
  refine fr_bipush (pc := 2) 63 (by decide) dX12_isSlot_2 ?_
  refine fr_callS_I (pc := 4) (As := [.int p0, .int 0, .int 63]) (st := []) wd_X12_in w_1067 ok_X12_in (by decide) rfl (Nat.le_of_ble_eq_true rfl) dX12_isSlot_4 ⟨Nat.le_refl 0, Nat.le_refl 0⟩ hW (fun i2 s1 hW => ?_)
  refine fr_if_eq (pc := 7) (tgt := 23) (by decide) dX12_isSlot_7 hW (fun hW => ?_) (fun hW => ?_)
  · refine fr_iconst (pc := 23) 0 (by decide) dX12_isSlot_23 ?_
    exact fr_zret (pc := 24) dX12_isSlot_24 rfl ⟨Nat.le_refl 0, Nat.le_refl 0⟩ ⟨rfl, hW⟩
  · refine fr_aload_n (pc := 10) 0 rfl rfl dX12_isSlot_10 ?_
    refine fr_getR (pc := 11) (T := TX12) (k := 0) kc_X12 (by decide) w_1006 dX12_isSlot_11 hW (fun r5 hW => ?_)
    refine fr_iload_n (pc := 14) 1 rfl rfl dX12_isSlot_14 ?_
    refine fr_zald (pc := 15) dX12_isSlot_15 hW (fun i6 hW => ?_)
    refine fr_if_eq (pc := 16) (tgt := 23) (by decide) dX12_isSlot_16 hW (fun hW => ?_) (fun hW => ?_)
    · refine fr_iconst (pc := 23) 0 (by decide) dX12_isSlot_23 ?_
      exact fr_zret (pc := 24) dX12_isSlot_24 rfl ⟨Nat.le_refl 0, Nat.le_refl 0⟩ ⟨rfl, hW⟩
    · refine fr_iconst (pc := 19) 1 (by decide) dX12_isSlot_19 ?_
      refine fr_goto (pc := 20) (tgt := 24) (by decide) dX12_isSlot_20 ?_
      exact fr_zret (pc := 24) dX12_isSlot_24 rfl ⟨Nat.le_refl 0, Nat.le_refl 0⟩ ⟨rfl, hW⟩
