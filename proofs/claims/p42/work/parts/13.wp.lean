set_option maxHeartbeats 4000000 in
set_option maxRecDepth 100000 in
theorem q_X0_marked {g : GG} {σ : Hs} {post : Option Value → Hs → Prop} (r0 : Nat) (hW : FI σ r0 0 1 (fun i1 => post (some (.int i1)) σ)) : Do g M_X0_marked 0 0 [.ref r0] σ post := by
  refine Do.of (by decide +kernel) (Nat.le_of_ble_eq_true rfl) ?_
  show Fr g M_X0_marked (0, 0, 0, 0) [(0, .ref r0)] [] 0 σ post
  refine fr_aload_n (pc := 0) 0 rfl rfl dX0_marked_0 ?_
  refine fr_getI (pc := 1) (T := TX0) (k := 1) kc_X0 (by decide) w_715 dX0_marked_1 hW (fun i1 hW => ?_)
  exact fr_iret (pc := 4) dX0_marked_4 rfl ⟨Nat.le_refl 0, Nat.le_refl 0⟩ hW
set_option maxHeartbeats 4000000 in
set_option maxRecDepth 100000 in
theorem q_X11_count {g : GG} {σ : Hs} {post : Option Value → Hs → Prop} (r0 : Nat) (p0 : Int32) (hW : (p0 = 0 → FR σ r0 11 0 (fun r1 => Rc σ r1 8 ∧ Do g M_X8_rows 0 0 [.ref r1] σ (kI (fun i3 s2 => post (some (.int i3)) s2)))) ∧ (p0 = 1 → FR σ r0 11 0 (fun r6 => Rc σ r6 8 ∧ Do g M_X8_fullPages 0 0 [.ref r6] σ (kI (fun i8 s7 => post (some (.int i8)) s7)))) ∧ (p0 = 2 → FR σ r0 11 1 (fun r11 => Rc σ r11 3 ∧ Do g M_X3_keptSet 0 0 [.ref r11] σ (kI (fun i13 s12 => Do g M_J6_bitCount_0f7a4 0 0 [.int i13] s12 (kI (fun i17 s16 => post (some (.int i17)) s16)))))) ∧ (p0 = 3 → FR σ r0 11 1 (fun r20 => Rc σ r20 3 ∧ Do g M_X3_told 0 0 [.ref r20] σ (kI (fun i22 s21 => post (some (.int i22)) s21)))) ∧ (p0 = 4 → FR σ r0 11 3 (fun r25 => Rc σ r25 10 ∧ Do g M_X10_asked 0 0 [.ref r25] σ (kI (fun i27 s26 => post (some (.int i27)) s26)))) ∧ (p0 = 5 → FR σ r0 11 6 (fun r30 => Rc σ r30 0 ∧ Do g M_X0_marked 0 0 [.ref r30] σ (kI (fun i32 s31 => post (some (.int i32)) s31)))) ∧ (p0 = 6 → FR σ r0 11 5 (fun r35 => Rc σ r35 7 ∧ Do g M_X7_length 0 0 [.ref r35] σ (kI (fun i37 s36 => post (some (.int i37)) s36)))) ∧ (p0 = 7 → FI σ r0 11 7 (fun i40 => post (some (.int i40)) σ)) ∧ (p0 = 8 → FI σ r0 11 8 (fun i41 => post (some (.int i41)) σ)) ∧ (¬ p0 = 0 → ¬ p0 = 1 → ¬ p0 = 2 → ¬ p0 = 3 → ¬ p0 = 4 → ¬ p0 = 5 → ¬ p0 = 6 → ¬ p0 = 7 → ¬ p0 = 8 → post (some (.int (-102))) σ)) : Do g M_X11_count 0 0 [.ref r0, .int p0] σ post := by
  refine Do.of (by decide +kernel) (Nat.le_of_ble_eq_true rfl) ?_
  show Fr g M_X11_count (0, 0, 0, 0) [(0, .ref r0), (1, .int p0)] [] 0 σ post
  refine fr_iload_n (pc := 0) 1 rfl rfl dX11_count_0 ?_
  by_cases c0 : p0 = 0
  · have hW := hW.1 c0
    refine fr_switchIn (pc := 1) (off := 51) (tgt := 52) dX11_count_1 (by rw [c0]; decide) (by rw [c0]; decide) (by rw [c0]; rfl) (by decide) ?_
    refine fr_aload_n (pc := 52) 0 rfl rfl dX11_count_52 ?_
    refine fr_getR (pc := 53) (T := TX11) (k := 0) kc_X11 (by decide) w_578 dX11_count_53 hW (fun r1 hW => ?_)
    obtain ⟨hrc, hW⟩ := hW
    refine fr_callV_I (pc := 56) (As := []) (st := []) wd_X8_rows w_669 ok_X8_rows (by decide) rfl (Nat.le_of_ble_eq_true rfl) dX11_count_56 ⟨Nat.le_refl 0, Nat.le_refl 0⟩ kc_X8 hrc hW (fun i3 s2 hW => ?_)
    exact fr_iret (pc := 59) dX11_count_59 rfl ⟨Nat.le_refl 0, Nat.le_refl 0⟩ hW
  have hW := hW.2
  by_cases c1 : p0 = 1
  · have hW := hW.1 c1
    refine fr_switchIn (pc := 1) (off := 59) (tgt := 60) dX11_count_1 (by rw [c1]; decide) (by rw [c1]; decide) (by rw [c1]; rfl) (by decide) ?_
    refine fr_aload_n (pc := 60) 0 rfl rfl dX11_count_60 ?_
    refine fr_getR (pc := 61) (T := TX11) (k := 0) kc_X11 (by decide) w_578 dX11_count_61 hW (fun r6 hW => ?_)
    obtain ⟨hrc, hW⟩ := hW
    refine fr_callV_I (pc := 64) (As := []) (st := []) wd_X8_fullPages w_718 ok_X8_fullPages (by decide) rfl (Nat.le_of_ble_eq_true rfl) dX11_count_64 ⟨Nat.le_refl 0, Nat.le_refl 0⟩ kc_X8 hrc hW (fun i8 s7 hW => ?_)
    exact fr_iret (pc := 67) dX11_count_67 rfl ⟨Nat.le_refl 0, Nat.le_refl 0⟩ hW
  have hW := hW.2
  by_cases c2 : p0 = 2
  · have hW := hW.1 c2
    refine fr_switchIn (pc := 1) (off := 67) (tgt := 68) dX11_count_1 (by rw [c2]; decide) (by rw [c2]; decide) (by rw [c2]; rfl) (by decide) ?_
    refine fr_aload_n (pc := 68) 0 rfl rfl dX11_count_68 ?_
    refine fr_getR (pc := 69) (T := TX11) (k := 1) kc_X11 (by decide) w_579 dX11_count_69 hW (fun r11 hW => ?_)
    obtain ⟨hrc, hW⟩ := hW
    refine fr_callV_I (pc := 72) (As := []) (st := []) wd_X3_keptSet w_719 ok_X3_keptSet (by decide) rfl (Nat.le_of_ble_eq_true rfl) dX11_count_72 ⟨Nat.le_refl 0, Nat.le_refl 0⟩ kc_X3 hrc hW (fun i13 s12 hW => ?_)
    refine fr_callS_I (pc := 75) (As := [.int i13]) (st := []) wd_J6_bitCount_0f7a4 w_720 ok_J6_bitCount_0f7a4 (by decide) rfl (Nat.le_of_ble_eq_true rfl) dX11_count_75 ⟨Nat.le_refl 0, Nat.le_refl 0⟩ hW (fun i17 s16 hW => ?_)
    exact fr_iret (pc := 78) dX11_count_78 rfl ⟨Nat.le_refl 0, Nat.le_refl 0⟩ hW
  have hW := hW.2
  by_cases c3 : p0 = 3
  · have hW := hW.1 c3
    refine fr_switchIn (pc := 1) (off := 78) (tgt := 79) dX11_count_1 (by rw [c3]; decide) (by rw [c3]; decide) (by rw [c3]; rfl) (by decide) ?_
    refine fr_aload_n (pc := 79) 0 rfl rfl dX11_count_79 ?_
    refine fr_getR (pc := 80) (T := TX11) (k := 1) kc_X11 (by decide) w_579 dX11_count_80 hW (fun r20 hW => ?_)
    obtain ⟨hrc, hW⟩ := hW
    refine fr_callV_I (pc := 83) (As := []) (st := []) wd_X3_told w_653 ok_X3_told (by decide) rfl (Nat.le_of_ble_eq_true rfl) dX11_count_83 ⟨Nat.le_refl 0, Nat.le_refl 0⟩ kc_X3 hrc hW (fun i22 s21 hW => ?_)
    exact fr_iret (pc := 86) dX11_count_86 rfl ⟨Nat.le_refl 0, Nat.le_refl 0⟩ hW
  have hW := hW.2
  by_cases c4 : p0 = 4
  · have hW := hW.1 c4
    refine fr_switchIn (pc := 1) (off := 86) (tgt := 87) dX11_count_1 (by rw [c4]; decide) (by rw [c4]; decide) (by rw [c4]; rfl) (by decide) ?_
    refine fr_aload_n (pc := 87) 0 rfl rfl dX11_count_87 ?_
    refine fr_getR (pc := 88) (T := TX11) (k := 3) kc_X11 (by decide) w_583 dX11_count_88 hW (fun r25 hW => ?_)
    obtain ⟨hrc, hW⟩ := hW
    refine fr_callV_I (pc := 91) (As := []) (st := []) wd_X10_asked w_721 ok_X10_asked (by decide) rfl (Nat.le_of_ble_eq_true rfl) dX11_count_91 ⟨Nat.le_refl 0, Nat.le_refl 0⟩ kc_X10 hrc hW (fun i27 s26 hW => ?_)
    exact fr_iret (pc := 94) dX11_count_94 rfl ⟨Nat.le_refl 0, Nat.le_refl 0⟩ hW
  have hW := hW.2
  by_cases c5 : p0 = 5
  · have hW := hW.1 c5
    refine fr_switchIn (pc := 1) (off := 94) (tgt := 95) dX11_count_1 (by rw [c5]; decide) (by rw [c5]; decide) (by rw [c5]; rfl) (by decide) ?_
    refine fr_aload_n (pc := 95) 0 rfl rfl dX11_count_95 ?_
    refine fr_getR (pc := 96) (T := TX11) (k := 6) kc_X11 (by decide) w_572 dX11_count_96 hW (fun r30 hW => ?_)
    obtain ⟨hrc, hW⟩ := hW
    refine fr_callV_I (pc := 99) (As := []) (st := []) wd_X0_marked w_722 ok_X0_marked (by decide) rfl (Nat.le_of_ble_eq_true rfl) dX11_count_99 ⟨Nat.le_refl 0, Nat.le_refl 0⟩ kc_X0 hrc hW (fun i32 s31 hW => ?_)
    exact fr_iret (pc := 102) dX11_count_102 rfl ⟨Nat.le_refl 0, Nat.le_refl 0⟩ hW
  have hW := hW.2
  by_cases c6 : p0 = 6
  · have hW := hW.1 c6
    refine fr_switchIn (pc := 1) (off := 102) (tgt := 103) dX11_count_1 (by rw [c6]; decide) (by rw [c6]; decide) (by rw [c6]; rfl) (by decide) ?_
    refine fr_aload_n (pc := 103) 0 rfl rfl dX11_count_103 ?_
    refine fr_getR (pc := 104) (T := TX11) (k := 5) kc_X11 (by decide) w_569 dX11_count_104 hW (fun r35 hW => ?_)
    obtain ⟨hrc, hW⟩ := hW
    refine fr_callV_I (pc := 107) (As := []) (st := []) wd_X7_length w_676 ok_X7_length (by decide) rfl (Nat.le_of_ble_eq_true rfl) dX11_count_107 ⟨Nat.le_refl 0, Nat.le_refl 0⟩ kc_X7 hrc hW (fun i37 s36 hW => ?_)
    exact fr_iret (pc := 110) dX11_count_110 rfl ⟨Nat.le_refl 0, Nat.le_refl 0⟩ hW
  have hW := hW.2
  by_cases c7 : p0 = 7
  · have hW := hW.1 c7
    refine fr_switchIn (pc := 1) (off := 110) (tgt := 111) dX11_count_1 (by rw [c7]; decide) (by rw [c7]; decide) (by rw [c7]; rfl) (by decide) ?_
    refine fr_aload_n (pc := 111) 0 rfl rfl dX11_count_111 ?_
    refine fr_getI (pc := 112) (T := TX11) (k := 7) kc_X11 (by decide) w_716 dX11_count_112 hW (fun i40 hW => ?_)
    exact fr_iret (pc := 115) dX11_count_115 rfl ⟨Nat.le_refl 0, Nat.le_refl 0⟩ hW
  have hW := hW.2
  by_cases c8 : p0 = 8
  · have hW := hW.1 c8
    refine fr_switchIn (pc := 1) (off := 115) (tgt := 116) dX11_count_1 (by rw [c8]; decide) (by rw [c8]; decide) (by rw [c8]; rfl) (by decide) ?_
    refine fr_aload_n (pc := 116) 0 rfl rfl dX11_count_116 ?_
    refine fr_getI (pc := 117) (T := TX11) (k := 8) kc_X11 (by decide) w_717 dX11_count_117 hW (fun i41 hW => ?_)
    exact fr_iret (pc := 120) dX11_count_120 rfl ⟨Nat.le_refl 0, Nat.le_refl 0⟩ hW
  have hW := hW.2
  have hW := hW c0 c1 c2 c3 c4 c5 c6 c7 c8
  refine fr_switchOut (pc := 1) (tgt := 121) dX11_count_1 (sw_out 8 (by decide) ((lt_s (lt_s (lt_s (lt_s (lt_s (lt_s (lt_s (lt_s (lt_s lt_0 c0) c1) c2) c3) c4) c5) c6) c7) c8))) (by decide) ?_
  refine fr_bipush (pc := 121) (-102) (by decide) dX11_count_121 ?_
  exact fr_iret (pc := 123) dX11_count_123 rfl ⟨Nat.le_refl 0, Nat.le_refl 0⟩ hW
set_option maxHeartbeats 4000000 in
set_option maxRecDepth 100000 in
theorem q_X7_isWhole {g : GG} {σ : Hs} {post : Option Value → Hs → Prop} (r0 : Nat) (hW : FI σ r0 7 3 (fun i1 => (i1 = 7 → post (some (.int 1)) σ) ∧ (¬ i1 = 7 → FI σ r0 7 3 (fun i2 => (¬ i2 = 9 → post (some (.int 0)) σ) ∧ (i2 = 9 → post (some (.int 1)) σ))))) : Do g M_X7_isWhole 0 0 [.ref r0] σ post := by
  refine Do.of (by decide +kernel) (Nat.le_of_ble_eq_true rfl) ?_
  show Fr g M_X7_isWhole (0, 0, 0, 0) [(0, .ref r0)] [] 0 σ post
  refine fr_aload_n (pc := 0) 0 rfl rfl dX7_isWhole_0 ?_
  refine fr_getI (pc := 1) (T := TX7) (k := 3) kc_X7 (by decide) w_685 dX7_isWhole_1 hW (fun i1 hW => ?_)
  refine fr_bipush (pc := 4) 7 (by decide) dX7_isWhole_4 ?_
  refine fr_icmp_eq (pc := 6) (tgt := 18) (by decide) dX7_isWhole_6 hW (fun hW => ?_) (fun hW => ?_)
  · refine fr_iconst (pc := 18) 1 (by decide) dX7_isWhole_18 ?_
    refine fr_goto (pc := 19) (tgt := 23) (by decide) dX7_isWhole_19 ?_
    exact fr_zret (pc := 23) dX7_isWhole_23 rfl ⟨Nat.le_refl 0, Nat.le_refl 0⟩ ⟨rfl, hW⟩
  · refine fr_aload_n (pc := 9) 0 rfl rfl dX7_isWhole_9 ?_
    refine fr_getI (pc := 10) (T := TX7) (k := 3) kc_X7 (by decide) w_685 dX7_isWhole_10 hW (fun i2 hW => ?_)
    refine fr_bipush (pc := 13) 9 (by decide) dX7_isWhole_13 ?_
    refine fr_icmp_ne (pc := 15) (tgt := 22) (by decide) dX7_isWhole_15 hW (fun hW => ?_) (fun hW => ?_)
    · refine fr_iconst (pc := 22) 0 (by decide) dX7_isWhole_22 ?_
      exact fr_zret (pc := 23) dX7_isWhole_23 rfl ⟨Nat.le_refl 0, Nat.le_refl 0⟩ ⟨rfl, hW⟩
    · refine fr_iconst (pc := 18) 1 (by decide) dX7_isWhole_18 ?_
      refine fr_goto (pc := 19) (tgt := 23) (by decide) dX7_isWhole_19 ?_
      exact fr_zret (pc := 23) dX7_isWhole_23 rfl ⟨Nat.le_refl 0, Nat.le_refl 0⟩ ⟨rfl, hW⟩
set_option maxHeartbeats 4000000 in
set_option maxRecDepth 100000 in
theorem q_X7_handOver {g : GG} {σ : Hs} {post : Option Value → Hs → Prop} (cM sM : Nat) (r0 : Nat) (hW : FR σ r0 7 2 (fun r1 => ((0) + 1 ≤ cM ∧ (0) + 7 ≤ sM) ∧ NW σ 6 [.null, .null, .int 0, .int 0, .int 0, .int 0, .int 0] (fun r2 s3 => ∃ mc5 ms6 : Nat, ((1) + mc5 ≤ cM ∧ (7) + ms6 ≤ sM) ∧ Do g M_X6_init mc5 ms6 [.ref r2] s3 (kV (fun s4 => PF s4 r0 7 2 (.ref r2) (fun s7 => ((1 + mc5) ≤ cM ∧ (7 + ms6) ≤ sM) ∧ post (some (.ref r1)) s7)))))) : Do g M_X7_handOver cM sM [.ref r0] σ post := by
  refine Do.of (by decide +kernel) (Nat.le_of_ble_eq_true rfl) ?_
  show Fr g M_X7_handOver (cM, sM, 0, 0) [(0, .ref r0)] [] 0 σ post
  refine fr_aload_n (pc := 0) 0 rfl rfl dX7_handOver_0 ?_
  refine fr_getR (pc := 1) (T := TX7) (k := 2) kc_X7 (by decide) w_515 dX7_handOver_1 hW (fun r1 hW => ?_)
  refine fr_astore_n (pc := 4) (lv' := [(1, .ref r1), (0, .ref r0)]) rfl (by decide) rfl dX7_handOver_4 ?_
  refine fr_aload_n (pc := 5) 1 rfl rfl dX7_handOver_5 ?_
  obtain ⟨hz, hW⟩ := hW
  refine fr_new (pc := 6) [.null, .null, .int 0, .int 0, .int 0, .int 0, .int 0] kc_X6 df_X6 ⟨w_513, w_514, w_4⟩ dX7_handOver_6 hz (Z' := (cM, sM, 1, 7)) rfl hW (fun r2 s3 hW => ?_)
  refine fr_dup (pc := 9) rfl dX7_handOver_9 ?_
  obtain ⟨mc5, ms6, hz, hW⟩ := hW
  refine fr_callIN_Va (pc := 10) (As := []) (st := [.ref r2, .ref r0]) wd_X6_init ⟨RX11, by decide +kernel⟩ ok_X6_init (by decide) rfl (Nat.le_of_ble_eq_true rfl) dX7_handOver_10 hz (Z' := (cM, sM, 1 + mc5, 7 + ms6)) rfl rfl rfl hW (fun s4 hW => ?_)
  refine fr_put (pc := 13) (T := TX7) (k := 2) kc_X7 (by decide) w_515 rfl rfl rfl dX7_handOver_13 hW (fun s7 hW => ?_)
  refine fr_aload_n (pc := 16) 0 rfl rfl dX7_handOver_16 ?_
  obtain ⟨hz, hW⟩ := hW
  exact fr_aret (pc := 17) dX7_handOver_17 rfl (Or.inr ⟨_, rfl⟩) hz hW
set_option maxHeartbeats 4000000 in
set_option maxRecDepth 100000 in
theorem q_X10_add {g : GG} {σ : Hs} {post : Option Value → Hs → Prop} (r0 : Nat) (p0 : Nat) (hW : FI σ r0 10 6 (fun i1 => (i1 < 0 → post (some (.int (-104))) σ) ∧ (¬ i1 < 0 → FR σ r0 10 2 (fun r2 => AN g σ r2 6 (fun i3 => (i1 < i3 → FR σ r0 10 2 (fun r4 => SR g σ r4 6 6 i1 p0 (fun s5 => FI s5 r0 10 6 (fun i6 => PF s5 r0 10 6 (.int (i6 + 1)) (fun s7 => post (some (.int i1)) s7))))) ∧ (¬ i1 < i3 → post (some (.int (-104))) σ)))))) : Do g M_X10_add 0 0 [.ref r0, .ref p0] σ post := by
  refine Do.of (by decide +kernel) (Nat.le_of_ble_eq_true rfl) ?_
  show Fr g M_X10_add (0, 0, 0, 0) [(0, .ref r0), (1, .ref p0)] [] 0 σ post
  refine fr_aload_n (pc := 0) 0 rfl rfl dX10_add_0 ?_
  refine fr_getI (pc := 1) (T := TX10) (k := 6) kc_X10 (by decide) w_714 dX10_add_1 hW (fun i1 hW => ?_)
  refine fr_istore_n (pc := 4) (lv' := [(2, .int i1), (0, .ref r0), (1, .ref p0)]) rfl (by decide) rfl dX10_add_4 ?_
  refine fr_iload_n (pc := 5) 0 rfl rfl dX10_add_5 ?_
  refine fr_if_lt (pc := 6) (tgt := 18) (by decide) dX10_add_6 hW (fun hW => ?_) (fun hW => ?_)
  · refine fr_bipush (pc := 18) (-104) (by decide) dX10_add_18 ?_
    exact fr_iret (pc := 20) dX10_add_20 rfl ⟨Nat.le_refl 0, Nat.le_refl 0⟩ hW
  · refine fr_iload_n (pc := 9) 0 rfl rfl dX10_add_9 ?_
    refine fr_aload_n (pc := 10) 1 rfl rfl dX10_add_10 ?_
    refine fr_getR (pc := 11) (T := TX10) (k := 2) kc_X10 (by decide) w_543 dX10_add_11 hW (fun r2 hW => ?_)
    refine fr_alen (pc := 14) 6 (fun _ => rfl) dX10_add_14 hW (fun i3 hW => ?_)
    refine fr_icmp_lt (pc := 15) (tgt := 21) (by decide) dX10_add_15 hW (fun hW => ?_) (fun hW => ?_)
    · refine fr_aload_n (pc := 21) 1 rfl rfl dX10_add_21 ?_
      refine fr_getR (pc := 22) (T := TX10) (k := 2) kc_X10 (by decide) w_543 dX10_add_22 hW (fun r4 hW => ?_)
      refine fr_iload_n (pc := 25) 0 rfl rfl dX10_add_25 ?_
      refine fr_aload_n (pc := 26) 2 rfl rfl dX10_add_26 ?_
      refine fr_aast (pc := 27) 6 kc_X6 (fun _ => rfl) dX10_add_27 hW (fun s5 hW => ?_)
      refine fr_aload_n (pc := 28) 1 rfl rfl dX10_add_28 ?_
      refine fr_dup (pc := 29) rfl dX10_add_29 ?_
      refine fr_getI (pc := 30) (T := TX10) (k := 6) kc_X10 (by decide) w_714 dX10_add_30 hW (fun i6 hW => ?_)
      refine fr_iconst (pc := 33) 1 (by decide) dX10_add_33 ?_
      refine fr_iadd (pc := 34) dX10_add_34 ?_
      refine fr_put (pc := 35) (T := TX10) (k := 6) kc_X10 (by decide) w_714 rfl rfl rfl dX10_add_35 hW (fun s7 hW => ?_)
      refine fr_iload_n (pc := 38) 0 rfl rfl dX10_add_38 ?_
      exact fr_iret (pc := 39) dX10_add_39 rfl ⟨Nat.le_refl 0, Nat.le_refl 0⟩ hW
    · refine fr_bipush (pc := 18) (-104) (by decide) dX10_add_18 ?_
      exact fr_iret (pc := 20) dX10_add_20 rfl ⟨Nat.le_refl 0, Nat.le_refl 0⟩ hW
set_option maxHeartbeats 4000000 in
set_option maxRecDepth 100000 in
theorem q_X7_clear {g : GG} {σ : Hs} {post : Option Value → Hs → Prop} (r0 : Nat) (hW : PF σ r0 7 1 (.int 0) (fun s1 => post none s1)) : Do g M_X7_clear 0 0 [.ref r0] σ post := by
  refine Do.of (by decide +kernel) (Nat.le_of_ble_eq_true rfl) ?_
  show Fr g M_X7_clear (0, 0, 0, 0) [(0, .ref r0)] [] 0 σ post
  refine fr_aload_n (pc := 0) 0 rfl rfl dX7_clear_0 ?_
  refine fr_iconst (pc := 1) 0 (by decide) dX7_clear_1 ?_
  refine fr_put (pc := 2) (T := TX7) (k := 1) kc_X7 (by decide) w_673 rfl rfl rfl dX7_clear_2 hW (fun s1 hW => ?_)
  exact fr_ret (pc := 5) dX7_clear_5 rfl ⟨Nat.le_refl 0, Nat.le_refl 0⟩ hW
set_option maxHeartbeats 4000000 in
set_option maxRecDepth 100000 in
theorem q_X11_ask {g : GG} {σ : Hs} {post : Option Value → Hs → Prop} (cM sM : Nat) (r0 : Nat) (hW : FR σ r0 11 5 (fun r1 => ((0) ≤ cM ∧ (0) ≤ sM) ∧ Rc σ r1 7 ∧ Do g M_X7_read 0 0 [.ref r1] σ (kI (fun i3 s2 => FR s2 r0 11 5 (fun r6 => ((0) ≤ cM ∧ (0) ≤ sM) ∧ Rc s2 r6 7 ∧ Do g M_X7_length 0 0 [.ref r6] s2 (kI (fun i8 s7 => (i3 < i8 → ((0) ≤ cM ∧ (0) ≤ sM) ∧ post (some (.int (-103))) s7) ∧ (¬ i3 < i8 → FR s7 r0 11 5 (fun r11 => ((0) ≤ cM ∧ (0) ≤ sM) ∧ Rc s7 r11 7 ∧ Do g M_X7_isWhole 0 0 [.ref r11] s7 (kI (fun i13 s12 => (¬ i13 = 0 → FR s12 r0 11 3 (fun r16 => ((0) ≤ cM ∧ (0) ≤ sM) ∧ Rc s12 r16 10 ∧ Do g M_X10_asked 0 0 [.ref r16] s12 (kI (fun i18 s17 => (i18 < 8 → FR s17 r0 11 3 (fun r21 => FR s17 r0 11 5 (fun r22 => ∃ mc27 ms28 : Nat, ((0) + mc27 ≤ cM ∧ (0) + ms28 ≤ sM) ∧ Rc s17 r22 7 ∧ Do g M_X7_handOver mc27 ms28 [.ref r22] s17 (kA (fun s23 => ((0 + mc27) ≤ cM ∧ (0 + ms28) ≤ sM) ∧ Rc s23 r21 10 ∧ Do g M_X10_add 0 0 [.ref r21, .null] s23 (kI (fun i30 s29 => FR s29 r0 11 5 (fun r33 => ((0 + mc27) ≤ cM ∧ (0 + ms28) ≤ sM) ∧ Rc s29 r33 7 ∧ Do g M_X7_clear 0 0 [.ref r33] s29 (kV (fun s34 => ((0 + mc27) ≤ cM ∧ (0 + ms28) ≤ sM) ∧ post (some (.int i30)) s34)))))) (fun r26 s23 => ((0 + mc27) ≤ cM ∧ (0 + ms28) ≤ sM) ∧ Rc s23 r21 10 ∧ Do g M_X10_add 0 0 [.ref r21, .ref r26] s23 (kI (fun i36 s35 => FR s35 r0 11 5 (fun r39 => ((0 + mc27) ≤ cM ∧ (0 + ms28) ≤ sM) ∧ Rc s35 r39 7 ∧ Do g M_X7_clear 0 0 [.ref r39] s35 (kV (fun s40 => ((0 + mc27) ≤ cM ∧ (0 + ms28) ≤ sM) ∧ post (some (.int i36)) s40)))))))))) ∧ (¬ i18 < 8 → ((0) ≤ cM ∧ (0) ≤ sM) ∧ post (some (.int (-104))) s17))))) ∧ (i13 = 0 → ((0) ≤ cM ∧ (0) ≤ sM) ∧ post (some (.int (-103))) s12)))))))))))) : Do g M_X11_ask cM sM [.ref r0] σ post := by
  refine Do.of (by decide +kernel) (Nat.le_of_ble_eq_true rfl) ?_
  show Fr g M_X11_ask (cM, sM, 0, 0) [(0, .ref r0)] [] 0 σ post
  refine fr_aload_n (pc := 0) 0 rfl rfl dX11_ask_0 ?_
  refine fr_getR (pc := 1) (T := TX11) (k := 5) kc_X11 (by decide) w_569 dX11_ask_1 hW (fun r1 hW => ?_)
  obtain ⟨hz, hrc, hW⟩ := hW
  refine fr_callV_I (pc := 4) (As := []) (st := []) wd_X7_read w_709 ok_X7_read (by decide) rfl (Nat.le_of_ble_eq_true rfl) dX11_ask_4 hz kc_X7 hrc hW (fun i3 s2 hW => ?_)
  refine fr_aload_n (pc := 7) 0 rfl rfl dX11_ask_7 ?_
  refine fr_getR (pc := 8) (T := TX11) (k := 5) kc_X11 (by decide) w_569 dX11_ask_8 hW (fun r6 hW => ?_)
  obtain ⟨hz, hrc, hW⟩ := hW
  refine fr_callV_I (pc := 11) (As := []) (st := [.int i3]) wd_X7_length w_676 ok_X7_length (by decide) rfl (Nat.le_of_ble_eq_true rfl) dX11_ask_11 hz kc_X7 hrc hW (fun i8 s7 hW => ?_)
  refine fr_icmp_lt (pc := 14) (tgt := 27) (by decide) dX11_ask_14 hW (fun hW => ?_) (fun hW => ?_)
  · refine fr_bipush (pc := 27) (-103) (by decide) dX11_ask_27 ?_
    obtain ⟨hz, hW⟩ := hW
    exact fr_iret (pc := 29) dX11_ask_29 rfl hz hW
  · refine fr_aload_n (pc := 17) 0 rfl rfl dX11_ask_17 ?_
    refine fr_getR (pc := 18) (T := TX11) (k := 5) kc_X11 (by decide) w_569 dX11_ask_18 hW (fun r11 hW => ?_)
    obtain ⟨hz, hrc, hW⟩ := hW
    refine fr_callV_I (pc := 21) (As := []) (st := []) wd_X7_isWhole w_723 ok_X7_isWhole (by decide) rfl (Nat.le_of_ble_eq_true rfl) dX11_ask_21 hz kc_X7 hrc hW (fun i13 s12 hW => ?_)
    refine fr_if_ne (pc := 24) (tgt := 30) (by decide) dX11_ask_24 hW (fun hW => ?_) (fun hW => ?_)
    · refine fr_aload_n (pc := 30) 0 rfl rfl dX11_ask_30 ?_
      refine fr_getR (pc := 31) (T := TX11) (k := 3) kc_X11 (by decide) w_583 dX11_ask_31 hW (fun r16 hW => ?_)
      obtain ⟨hz, hrc, hW⟩ := hW
      refine fr_callV_I (pc := 34) (As := []) (st := []) wd_X10_asked w_721 ok_X10_asked (by decide) rfl (Nat.le_of_ble_eq_true rfl) dX11_ask_34 hz kc_X10 hrc hW (fun i18 s17 hW => ?_)
      refine fr_bipush (pc := 37) 8 (by decide) dX11_ask_37 ?_
      refine fr_icmp_lt (pc := 39) (tgt := 45) (by decide) dX11_ask_39 hW (fun hW => ?_) (fun hW => ?_)
      · refine fr_aload_n (pc := 45) 0 rfl rfl dX11_ask_45 ?_
        refine fr_getR (pc := 46) (T := TX11) (k := 3) kc_X11 (by decide) w_583 dX11_ask_46 hW (fun r21 hW => ?_)
        refine fr_aload_n (pc := 49) 0 rfl rfl dX11_ask_49 ?_
        refine fr_getR (pc := 50) (T := TX11) (k := 5) kc_X11 (by decide) w_569 dX11_ask_50 hW (fun r22 hW => ?_)
        obtain ⟨mc27, ms28, hz, hrc, hW⟩ := hW
        refine fr_callV_Aa (pc := 53) (As := []) (st := [.ref r21]) wd_X7_handOver w_724 ok_X7_handOver (by decide) rfl (Nat.le_of_ble_eq_true rfl) dX11_ask_53 hz (Z' := (cM, sM, 0 + mc27, 0 + ms28)) rfl kc_X7 hrc hW (fun s23 hW => ?_) (fun r26 s23 hW => ?_)
        · obtain ⟨hz, hrc, hW⟩ := hW
          refine fr_callV_I (pc := 56) (As := [.null]) (st := []) wd_X10_add w_725 ok_X10_add (by decide) rfl (Nat.le_of_ble_eq_true rfl) dX11_ask_56 hz kc_X10 hrc hW (fun i30 s29 hW => ?_)
          refine fr_istore_n (pc := 59) (lv' := [(1, .int i30), (0, .ref r0)]) rfl (by decide) rfl dX11_ask_59 ?_
          refine fr_aload_n (pc := 60) 1 rfl rfl dX11_ask_60 ?_
          refine fr_getR (pc := 61) (T := TX11) (k := 5) kc_X11 (by decide) w_569 dX11_ask_61 hW (fun r33 hW => ?_)
          obtain ⟨hz, hrc, hW⟩ := hW
          refine fr_callV_V (pc := 64) (As := []) (st := []) wd_X7_clear w_726 ok_X7_clear (by decide) rfl (Nat.le_of_ble_eq_true rfl) dX11_ask_64 hz kc_X7 hrc hW (fun s34 hW => ?_)
          refine fr_iload_n (pc := 67) 0 rfl rfl dX11_ask_67 ?_
          obtain ⟨hz, hW⟩ := hW
          exact fr_iret (pc := 68) dX11_ask_68 rfl hz hW
        · obtain ⟨hz, hrc, hW⟩ := hW
          refine fr_callV_I (pc := 56) (As := [.ref r26]) (st := []) wd_X10_add w_725 ok_X10_add (by decide) rfl (Nat.le_of_ble_eq_true rfl) dX11_ask_56 hz kc_X10 hrc hW (fun i36 s35 hW => ?_)
          refine fr_istore_n (pc := 59) (lv' := [(1, .int i36), (0, .ref r0)]) rfl (by decide) rfl dX11_ask_59 ?_
          refine fr_aload_n (pc := 60) 1 rfl rfl dX11_ask_60 ?_
          refine fr_getR (pc := 61) (T := TX11) (k := 5) kc_X11 (by decide) w_569 dX11_ask_61 hW (fun r39 hW => ?_)
          obtain ⟨hz, hrc, hW⟩ := hW
          refine fr_callV_V (pc := 64) (As := []) (st := []) wd_X7_clear w_726 ok_X7_clear (by decide) rfl (Nat.le_of_ble_eq_true rfl) dX11_ask_64 hz kc_X7 hrc hW (fun s40 hW => ?_)
          refine fr_iload_n (pc := 67) 0 rfl rfl dX11_ask_67 ?_
          obtain ⟨hz, hW⟩ := hW
          exact fr_iret (pc := 68) dX11_ask_68 rfl hz hW
      · refine fr_bipush (pc := 42) (-104) (by decide) dX11_ask_42 ?_
        obtain ⟨hz, hW⟩ := hW
        exact fr_iret (pc := 44) dX11_ask_44 rfl hz hW
    · refine fr_bipush (pc := 27) (-103) (by decide) dX11_ask_27 ?_
      obtain ⟨hz, hW⟩ := hW
      exact fr_iret (pc := 29) dX11_ask_29 rfl hz hW
set_option maxHeartbeats 4000000 in
set_option maxRecDepth 100000 in
theorem q_X10_question {g : GG} {σ : Hs} {post : Option Value → Hs → Prop} (r0 : Nat) (p0 : Int32) (hW : (p0 < 0 → post (some (.null)) σ) ∧ (¬ p0 < 0 → FR σ r0 10 2 (fun r1 => AN g σ r1 6 (fun i2 => (i2 ≤ p0 → post (some (.null)) σ) ∧ (¬ i2 ≤ p0 → FR σ r0 10 2 (fun r3 => AR g σ r3 6 p0 (post (some (.null)) σ) (fun r4 => post (some (.ref r4)) σ))))))) : Do g M_X10_question 0 0 [.ref r0, .int p0] σ post := by
  refine Do.of (by decide +kernel) (Nat.le_of_ble_eq_true rfl) ?_
  show Fr g M_X10_question (0, 0, 0, 0) [(0, .ref r0), (1, .int p0)] [] 0 σ post
  refine fr_iload_n (pc := 0) 1 rfl rfl dX10_question_0 ?_
  refine fr_if_lt (pc := 1) (tgt := 22) (by decide) dX10_question_1 hW (fun hW => ?_) (fun hW => ?_)
  · refine fr_null (pc := 22) dX10_question_22 ?_
    exact fr_aret (pc := 23) dX10_question_23 rfl (Or.inl rfl) ⟨Nat.le_refl 0, Nat.le_refl 0⟩ hW
  · refine fr_iload_n (pc := 4) 1 rfl rfl dX10_question_4 ?_
    refine fr_aload_n (pc := 5) 0 rfl rfl dX10_question_5 ?_
    refine fr_getR (pc := 6) (T := TX10) (k := 2) kc_X10 (by decide) w_543 dX10_question_6 hW (fun r1 hW => ?_)
    refine fr_alen (pc := 9) 6 (fun _ => rfl) dX10_question_9 hW (fun i2 hW => ?_)
    refine fr_icmp_ge (pc := 10) (tgt := 22) (by decide) dX10_question_10 hW (fun hW => ?_) (fun hW => ?_)
    · refine fr_null (pc := 22) dX10_question_22 ?_
      exact fr_aret (pc := 23) dX10_question_23 rfl (Or.inl rfl) ⟨Nat.le_refl 0, Nat.le_refl 0⟩ hW
    · refine fr_aload_n (pc := 13) 0 rfl rfl dX10_question_13 ?_
      refine fr_getR (pc := 14) (T := TX10) (k := 2) kc_X10 (by decide) w_543 dX10_question_14 hW (fun r3 hW => ?_)
      refine fr_iload_n (pc := 17) 1 rfl rfl dX10_question_17 ?_
      refine fr_aald (pc := 18) 6 (fun _ => rfl) dX10_question_18 hW (fun hW => ?_) (fun r4 hW => ?_)
      · refine fr_goto (pc := 19) (tgt := 23) (by decide) dX10_question_19 ?_
        exact fr_aret (pc := 23) dX10_question_23 rfl (Or.inl rfl) ⟨Nat.le_refl 0, Nat.le_refl 0⟩ hW
      · refine fr_goto (pc := 19) (tgt := 23) (by decide) dX10_question_19 ?_
        exact fr_aret (pc := 23) dX10_question_23 rfl (Or.inr ⟨_, rfl⟩) ⟨Nat.le_refl 0, Nat.le_refl 0⟩ hW
set_option maxHeartbeats 4000000 in
set_option maxRecDepth 100000 in
theorem q_X6_heft {g : GG} {σ : Hs} {post : Option Value → Hs → Prop} (r0 : Nat) (hW : FI σ r0 6 6 (fun i1 => post (some (.int i1)) σ)) : Do g M_X6_heft 0 0 [.ref r0] σ post := by
  refine Do.of (by decide +kernel) (Nat.le_of_ble_eq_true rfl) ?_
  show Fr g M_X6_heft (0, 0, 0, 0) [(0, .ref r0)] [] 0 σ post
  refine fr_aload_n (pc := 0) 0 rfl rfl dX6_heft_0 ?_
  refine fr_getI (pc := 1) (T := TX6) (k := 6) kc_X6 (by decide) w_683 dX6_heft_1 hW (fun i1 hW => ?_)
  exact fr_iret (pc := 4) dX6_heft_4 rfl ⟨Nat.le_refl 0, Nat.le_refl 0⟩ hW
set_option maxHeartbeats 4000000 in
set_option maxRecDepth 100000 in
theorem q_X6_weigh {g : GG} {σ : Hs} {post : Option Value → Hs → Prop} (r0 : Nat) (p0 : Int32) (hW : PF σ r0 6 6 (.int p0) (fun s1 => post none s1)) : Do g M_X6_weigh 0 0 [.ref r0, .int p0] σ post := by
  refine Do.of (by decide +kernel) (Nat.le_of_ble_eq_true rfl) ?_
  show Fr g M_X6_weigh (0, 0, 0, 0) [(0, .ref r0), (1, .int p0)] [] 0 σ post
  refine fr_aload_n (pc := 0) 0 rfl rfl dX6_weigh_0 ?_
  refine fr_iload_n (pc := 1) 1 rfl rfl dX6_weigh_1 ?_
  refine fr_put (pc := 2) (T := TX6) (k := 6) kc_X6 (by decide) w_683 rfl rfl rfl dX6_weigh_2 hW (fun s1 hW => ?_)
  exact fr_ret (pc := 5) dX6_weigh_5 rfl ⟨Nat.le_refl 0, Nat.le_refl 0⟩ hW
set_option maxHeartbeats 4000000 in
set_option maxRecDepth 100000 in
theorem q_X11_weight {g : GG} {σ : Hs} {post : Option Value → Hs → Prop} (r0 : Nat) (p0 : Int32) (p1 : Int32) (hW : FR σ r0 11 3 (fun r1 => Rc σ r1 10 ∧ Do g M_X10_question 0 0 [.ref r1, .int p0] σ (kA (fun s2 => post (some (.int (-101))) s2) (fun r5 s2 => Do g M_X11_isNumber 0 0 [.int p1] s2 (kI (fun i7 s6 => (¬ i7 = 0 → Rc s6 r5 6 ∧ Do g M_X6_heft 0 0 [.ref r5] s6 (kI (fun i11 s10 => Rc s10 r5 6 ∧ Do g M_X6_weigh 0 0 [.ref r5, .int p1] s10 (kV (fun s14 => post (some (.int i11)) s14))))) ∧ (i7 = 0 → post (some (.int (-102))) s6))))))) : Do g M_X11_weight 0 0 [.ref r0, .int p0, .int p1] σ post := by
  refine Do.of (by decide +kernel) (Nat.le_of_ble_eq_true rfl) ?_
  show Fr g M_X11_weight (0, 0, 0, 0) [(0, .ref r0), (1, .int p0), (2, .int p1)] [] 0 σ post
  refine fr_aload_n (pc := 0) 0 rfl rfl dX11_weight_0 ?_
  refine fr_getR (pc := 1) (T := TX11) (k := 3) kc_X11 (by decide) w_583 dX11_weight_1 hW (fun r1 hW => ?_)
  refine fr_iload_n (pc := 4) 1 rfl rfl dX11_weight_4 ?_
  obtain ⟨hrc, hW⟩ := hW
  refine fr_callV_A (pc := 5) (As := [.int p0]) (st := []) wd_X10_question w_733 ok_X10_question (by decide) rfl (Nat.le_of_ble_eq_true rfl) dX11_weight_5 ⟨Nat.le_refl 0, Nat.le_refl 0⟩ kc_X10 hrc hW (fun s2 hW => ?_) (fun r5 s2 hW => ?_)
  · refine fr_astore_nN (pc := 8) (lv' := [(3, .null), (0, .ref r0), (1, .int p0), (2, .int p1)]) rfl (by decide) rfl dX11_weight_8 ?_
    refine fr_aload_nN (pc := 9) 0 rfl rfl dX11_weight_9 ?_
    refine fr_ifnonnullN (pc := 10) dX11_weight_10 ?_
    refine fr_bipush (pc := 13) (-101) (by decide) dX11_weight_13 ?_
    exact fr_iret (pc := 15) dX11_weight_15 rfl ⟨Nat.le_refl 0, Nat.le_refl 0⟩ hW
  · refine fr_astore_n (pc := 8) (lv' := [(3, .ref r5), (0, .ref r0), (1, .int p0), (2, .int p1)]) rfl (by decide) rfl dX11_weight_8 ?_
    refine fr_aload_n (pc := 9) 0 rfl rfl dX11_weight_9 ?_
    refine fr_ifnonnull (pc := 10) (tgt := 16) (by decide) dX11_weight_10 ?_
    refine fr_iload_n (pc := 16) 3 rfl rfl dX11_weight_16 ?_
    refine fr_callS_I (pc := 17) (As := [.int p1]) (st := []) wd_X11_isNumber w_670 ok_X11_isNumber (by decide) rfl (Nat.le_of_ble_eq_true rfl) dX11_weight_17 ⟨Nat.le_refl 0, Nat.le_refl 0⟩ hW (fun i7 s6 hW => ?_)
    refine fr_if_ne (pc := 20) (tgt := 26) (by decide) dX11_weight_20 hW (fun hW => ?_) (fun hW => ?_)
    · refine fr_aload_n (pc := 26) 0 rfl rfl dX11_weight_26 ?_
      obtain ⟨hrc, hW⟩ := hW
      refine fr_callV_I (pc := 27) (As := []) (st := []) wd_X6_heft w_734 ok_X6_heft (by decide) rfl (Nat.le_of_ble_eq_true rfl) dX11_weight_27 ⟨Nat.le_refl 0, Nat.le_refl 0⟩ kc_X6 hrc hW (fun i11 s10 hW => ?_)
      refine fr_istore (pc := 30) (lv' := [(4, .int i11), (3, .ref r5), (0, .ref r0), (1, .int p0), (2, .int p1)]) (by decide) rfl dX11_weight_30 ?_
      refine fr_aload_n (pc := 32) 1 rfl rfl dX11_weight_32 ?_
      refine fr_iload_n (pc := 33) 4 rfl rfl dX11_weight_33 ?_
      obtain ⟨hrc, hW⟩ := hW
      refine fr_callV_V (pc := 34) (As := [.int p1]) (st := []) wd_X6_weigh w_735 ok_X6_weigh (by decide) rfl (Nat.le_of_ble_eq_true rfl) dX11_weight_34 ⟨Nat.le_refl 0, Nat.le_refl 0⟩ kc_X6 hrc hW (fun s14 hW => ?_)
      refine fr_iload (pc := 37) 0 rfl dX11_weight_37 ?_
      exact fr_iret (pc := 39) dX11_weight_39 rfl ⟨Nat.le_refl 0, Nat.le_refl 0⟩ hW
    · refine fr_bipush (pc := 23) (-102) (by decide) dX11_weight_23 ?_
      exact fr_iret (pc := 25) dX11_weight_25 rfl ⟨Nat.le_refl 0, Nat.le_refl 0⟩ hW
set_option maxHeartbeats 4000000 in
set_option maxRecDepth 100000 in
theorem q_X6_least {g : GG} {σ : Hs} {post : Option Value → Hs → Prop} (r0 : Nat) (p0 : Int32) (hW : FR σ r0 6 0 (fun r1 => Rc σ r1 1 ∧ Do g M_X1_at 0 0 [.ref r1, .int p0] σ (kI (fun i3 s2 => post (some (.int i3)) s2)))) : Do g M_X6_least 0 0 [.ref r0, .int p0] σ post := by
  refine Do.of (by decide +kernel) (Nat.le_of_ble_eq_true rfl) ?_
  show Fr g M_X6_least (0, 0, 0, 0) [(0, .ref r0), (1, .int p0)] [] 0 σ post
  refine fr_aload_n (pc := 0) 0 rfl rfl dX6_least_0 ?_
  refine fr_getR (pc := 1) (T := TX6) (k := 0) kc_X6 (by decide) w_507 dX6_least_1 hW (fun r1 hW => ?_)
  refine fr_iload_n (pc := 4) 1 rfl rfl dX6_least_4 ?_
  obtain ⟨hrc, hW⟩ := hW
  refine fr_callV_I (pc := 5) (As := [.int p0]) (st := []) wd_X1_at w_691 ok_X1_at (by decide) rfl (Nat.le_of_ble_eq_true rfl) dX6_least_5 ⟨Nat.le_refl 0, Nat.le_refl 0⟩ kc_X1 hrc hW (fun i3 s2 hW => ?_)
  exact fr_iret (pc := 8) dX6_least_8 rfl ⟨Nat.le_refl 0, Nat.le_refl 0⟩ hW
set_option maxHeartbeats 4000000 in
set_option maxRecDepth 100000 in
theorem q_X6_greatest {g : GG} {σ : Hs} {post : Option Value → Hs → Prop} (r0 : Nat) (p0 : Int32) (hW : FR σ r0 6 1 (fun r1 => Rc σ r1 1 ∧ Do g M_X1_at 0 0 [.ref r1, .int p0] σ (kI (fun i3 s2 => post (some (.int i3)) s2)))) : Do g M_X6_greatest 0 0 [.ref r0, .int p0] σ post := by
  refine Do.of (by decide +kernel) (Nat.le_of_ble_eq_true rfl) ?_
  show Fr g M_X6_greatest (0, 0, 0, 0) [(0, .ref r0), (1, .int p0)] [] 0 σ post
  refine fr_aload_n (pc := 0) 0 rfl rfl dX6_greatest_0 ?_
  refine fr_getR (pc := 1) (T := TX6) (k := 1) kc_X6 (by decide) w_508 dX6_greatest_1 hW (fun r1 hW => ?_)
  refine fr_iload_n (pc := 4) 1 rfl rfl dX6_greatest_4 ?_
  obtain ⟨hrc, hW⟩ := hW
  refine fr_callV_I (pc := 5) (As := [.int p0]) (st := []) wd_X1_at w_691 ok_X1_at (by decide) rfl (Nat.le_of_ble_eq_true rfl) dX6_greatest_5 ⟨Nat.le_refl 0, Nat.le_refl 0⟩ kc_X1 hrc hW (fun i3 s2 hW => ?_)
  exact fr_iret (pc := 8) dX6_greatest_8 rfl ⟨Nat.le_refl 0, Nat.le_refl 0⟩ hW
set_option maxHeartbeats 4000000 in
set_option maxRecDepth 100000 in
theorem q_X6_letsNone {g : GG} {σ : Hs} {post : Option Value → Hs → Prop} (r0 : Nat) (p0 : Int32) (hW : Rc σ r0 6 ∧ Do g M_X6_least 0 0 [.ref r0, .int p0] σ (kI (fun i2 s1 => Rc s1 r0 6 ∧ Do g M_X6_greatest 0 0 [.ref r0, .int p0] s1 (kI (fun i6 s5 => (i2 ≤ i6 → post (some (.int 0)) s5) ∧ (¬ i2 ≤ i6 → post (some (.int 1)) s5)))))) : Do g M_X6_letsNone 0 0 [.ref r0, .int p0] σ post := by
  refine Do.of (by decide +kernel) (Nat.le_of_ble_eq_true rfl) ?_
  show Fr g M_X6_letsNone (0, 0, 0, 0) [(0, .ref r0), (1, .int p0)] [] 0 σ post
  refine fr_aload_n (pc := 0) 0 rfl rfl dX6_letsNone_0 ?_
  refine fr_iload_n (pc := 1) 1 rfl rfl dX6_letsNone_1 ?_
  obtain ⟨hrc, hW⟩ := hW
  refine fr_callV_I (pc := 2) (As := [.int p0]) (st := []) wd_X6_least w_737 ok_X6_least (by decide) rfl (Nat.le_of_ble_eq_true rfl) dX6_letsNone_2 ⟨Nat.le_refl 0, Nat.le_refl 0⟩ kc_X6 hrc hW (fun i2 s1 hW => ?_)
  refine fr_aload_n (pc := 5) 0 rfl rfl dX6_letsNone_5 ?_
  refine fr_iload_n (pc := 6) 1 rfl rfl dX6_letsNone_6 ?_
  obtain ⟨hrc, hW⟩ := hW
  refine fr_callV_I (pc := 7) (As := [.int p0]) (st := [.int i2]) wd_X6_greatest w_738 ok_X6_greatest (by decide) rfl (Nat.le_of_ble_eq_true rfl) dX6_letsNone_7 ⟨Nat.le_refl 0, Nat.le_refl 0⟩ kc_X6 hrc hW (fun i6 s5 hW => ?_)
  refine fr_icmp_le (pc := 10) (tgt := 17) (by decide) dX6_letsNone_10 hW (fun hW => ?_) (fun hW => ?_)
  · refine fr_iconst (pc := 17) 0 (by decide) dX6_letsNone_17 ?_
    exact fr_zret (pc := 18) dX6_letsNone_18 rfl ⟨Nat.le_refl 0, Nat.le_refl 0⟩ ⟨rfl, hW⟩
  · refine fr_iconst (pc := 13) 1 (by decide) dX6_letsNone_13 ?_
    refine fr_goto (pc := 14) (tgt := 18) (by decide) dX6_letsNone_14 ?_
    exact fr_zret (pc := 18) dX6_letsNone_18 rfl ⟨Nat.le_refl 0, Nat.le_refl 0⟩ ⟨rfl, hW⟩
def J_X11_bound_37 (g : GG) (post : Option Value → Hs → Prop) (σ : Hs) (v2 : Int32) (v3 : Int32) (a4 : Nat) : Prop := Fr g M_X11_bound (0, 0, 0, 0) [(2, .int v2), (3, .int v3), (4, .ref a4)] [] 37 σ post
set_option maxHeartbeats 4000000 in
set_option maxRecDepth 100000 in
theorem q_X11_bound {g : GG} {σ : Hs} {post : Option Value → Hs → Prop} (r0 : Nat) (p0 : Int32) (p1 : Int32) (p2 : Int32) (hW : FR σ r0 11 3 (fun r1 => Rc σ r1 10 ∧ Do g M_X10_question 0 0 [.ref r1, .int p0] σ (kA (fun s2 => post (some (.int (-101))) s2) (fun r5 s2 => Do g M_X11_isColumn 0 0 [.int p1] s2 (kI (fun i7 s6 => (¬ i7 = 0 → (p2 = 0 → J_X11_bound_37 g post s6 p1 p2 r5 ) ∧ (¬ p2 = 0 → (p2 = 1 → J_X11_bound_37 g post s6 p1 p2 r5 ) ∧ (¬ p2 = 1 → post (some (.int (-102))) s6))) ∧ (i7 = 0 → post (some (.int (-101))) s6))))))) : Do g M_X11_bound 0 0 [.ref r0, .int p0, .int p1, .int p2] σ post := by
  refine Do.of (by decide +kernel) (Nat.le_of_ble_eq_true rfl) ?_
  show Fr g M_X11_bound (0, 0, 0, 0) [(0, .ref r0), (1, .int p0), (2, .int p1), (3, .int p2)] [] 0 σ post
  refine fr_aload_n (pc := 0) 0 rfl rfl dX11_bound_0 ?_
  refine fr_getR (pc := 1) (T := TX11) (k := 3) kc_X11 (by decide) w_583 dX11_bound_1 hW (fun r1 hW => ?_)
  refine fr_iload_n (pc := 4) 1 rfl rfl dX11_bound_4 ?_
  obtain ⟨hrc, hW⟩ := hW
  refine fr_callV_A (pc := 5) (As := [.int p0]) (st := []) wd_X10_question w_733 ok_X10_question (by decide) rfl (Nat.le_of_ble_eq_true rfl) dX11_bound_5 ⟨Nat.le_refl 0, Nat.le_refl 0⟩ kc_X10 hrc hW (fun s2 hW => ?_) (fun r5 s2 hW => ?_)
  · refine fr_astoreN (pc := 8) (lv' := [(4, .null), (0, .ref r0), (1, .int p0), (2, .int p1), (3, .int p2)]) (by decide) rfl dX11_bound_8 ?_
    refine fr_aloadN (pc := 10) 0 rfl dX11_bound_10 ?_
    refine fr_ifnullN (pc := 12) (tgt := 22) (by decide) dX11_bound_12 ?_
    refine fr_bipush (pc := 22) (-101) (by decide) dX11_bound_22 ?_
    exact fr_iret (pc := 24) dX11_bound_24 rfl ⟨Nat.le_refl 0, Nat.le_refl 0⟩ hW
  · refine fr_astore (pc := 8) (lv' := [(4, .ref r5), (0, .ref r0), (1, .int p0), (2, .int p1), (3, .int p2)]) (by decide) rfl dX11_bound_8 ?_
    refine fr_aload (pc := 10) 0 rfl dX11_bound_10 ?_
    refine fr_ifnull (pc := 12) dX11_bound_12 ?_
    refine fr_iload_n (pc := 15) 3 rfl rfl dX11_bound_15 ?_
    refine fr_callS_I (pc := 16) (As := [.int p1]) (st := []) wd_X11_isColumn w_656 ok_X11_isColumn (by decide) rfl (Nat.le_of_ble_eq_true rfl) dX11_bound_16 ⟨Nat.le_refl 0, Nat.le_refl 0⟩ hW (fun i7 s6 hW => ?_)
    refine fr_if_ne (pc := 19) (tgt := 25) (by decide) dX11_bound_19 hW (fun hW => ?_) (fun hW => ?_)
    · refine fr_iload_n (pc := 25) 4 rfl rfl dX11_bound_25 ?_
      refine fr_if_eq (pc := 26) (tgt := 37) (by decide) dX11_bound_26 hW (fun hW => ?_) (fun hW => ?_)
      · exact fr_sub [3, 4, 0] rfl hW
      · refine fr_iload_n (pc := 29) 4 rfl rfl dX11_bound_29 ?_
        refine fr_iconst (pc := 30) 1 (by decide) dX11_bound_30 ?_
        refine fr_icmp_eq (pc := 31) (tgt := 37) (by decide) dX11_bound_31 hW (fun hW => ?_) (fun hW => ?_)
        · exact fr_sub [3, 4, 0] rfl hW
        · refine fr_bipush (pc := 34) (-102) (by decide) dX11_bound_34 ?_
          exact fr_iret (pc := 36) dX11_bound_36 rfl ⟨Nat.le_refl 0, Nat.le_refl 0⟩ hW
    · refine fr_bipush (pc := 22) (-101) (by decide) dX11_bound_22 ?_
      exact fr_iret (pc := 24) dX11_bound_24 rfl ⟨Nat.le_refl 0, Nat.le_refl 0⟩ hW
set_option maxHeartbeats 4000000 in
set_option maxRecDepth 100000 in
theorem q_X11_bound_37 {g : GG} {σ : Hs} {post : Option Value → Hs → Prop} (v2 : Int32) (v3 : Int32) (a4 : Nat) (hW : Rc σ a4 6 ∧ Do g M_X6_letsNone 0 0 [.ref a4, .int v2] σ (kI (fun i11 s10 => (i11 = 0 → (¬ v3 = 0 → Rc s10 a4 6 ∧ Do g M_X6_greatest 0 0 [.ref a4, .int v2] s10 (kI (fun i15 s14 => post (some (.int i15)) s14))) ∧ (v3 = 0 → Rc s10 a4 6 ∧ Do g M_X6_least 0 0 [.ref a4, .int v2] s10 (kI (fun i19 s18 => post (some (.int i19)) s18)))) ∧ (¬ i11 = 0 → (¬ v3 = 0 → post (some (.int (-1))) s10) ∧ (v3 = 0 → post (some (.int 0)) s10))))) : J_X11_bound_37 g post σ v2 v3 a4 := by
  show Fr g M_X11_bound (0, 0, 0, 0) [(2, .int v2), (3, .int v3), (4, .ref a4)] [] 37 σ post
  refine fr_aload (pc := 37) 2 rfl dX11_bound_37 ?_
  refine fr_iload_n (pc := 39) 0 rfl rfl dX11_bound_39 ?_
  obtain ⟨hrc, hW⟩ := hW
  refine fr_callV_I (pc := 40) (As := [.int v2]) (st := []) wd_X6_letsNone w_739 ok_X6_letsNone (by decide) rfl (Nat.le_of_ble_eq_true rfl) dX11_bound_40 ⟨Nat.le_refl 0, Nat.le_refl 0⟩ kc_X6 hrc hW (fun i11 s10 hW => ?_)
  refine fr_if_eq (pc := 43) (tgt := 56) (by decide) dX11_bound_43 hW (fun hW => ?_) (fun hW => ?_)
  · refine fr_iload_n (pc := 56) 1 rfl rfl dX11_bound_56 ?_
    refine fr_if_ne (pc := 57) (tgt := 69) (by decide) dX11_bound_57 hW (fun hW => ?_) (fun hW => ?_)
    · refine fr_aload (pc := 69) 2 rfl dX11_bound_69 ?_
      refine fr_iload_n (pc := 71) 0 rfl rfl dX11_bound_71 ?_
      obtain ⟨hrc, hW⟩ := hW
      refine fr_callV_I (pc := 72) (As := [.int v2]) (st := []) wd_X6_greatest w_741 ok_X6_greatest (by decide) rfl (Nat.le_of_ble_eq_true rfl) dX11_bound_72 ⟨Nat.le_refl 0, Nat.le_refl 0⟩ kc_X6 hrc hW (fun i15 s14 hW => ?_)
      exact fr_iret (pc := 75) dX11_bound_75 rfl ⟨Nat.le_refl 0, Nat.le_refl 0⟩ hW
    · refine fr_aload (pc := 60) 2 rfl dX11_bound_60 ?_
      refine fr_iload_n (pc := 62) 0 rfl rfl dX11_bound_62 ?_
      obtain ⟨hrc, hW⟩ := hW
      refine fr_callV_I (pc := 63) (As := [.int v2]) (st := []) wd_X6_least w_740 ok_X6_least (by decide) rfl (Nat.le_of_ble_eq_true rfl) dX11_bound_63 ⟨Nat.le_refl 0, Nat.le_refl 0⟩ kc_X6 hrc hW (fun i19 s18 hW => ?_)
      refine fr_goto (pc := 66) (tgt := 75) (by decide) dX11_bound_66 ?_
      exact fr_iret (pc := 75) dX11_bound_75 rfl ⟨Nat.le_refl 0, Nat.le_refl 0⟩ hW
  · refine fr_iload_n (pc := 46) 1 rfl rfl dX11_bound_46 ?_
    refine fr_if_ne (pc := 47) (tgt := 54) (by decide) dX11_bound_47 hW (fun hW => ?_) (fun hW => ?_)
    · refine fr_iconst (pc := 54) (-1) (by decide) dX11_bound_54 ?_
      exact fr_iret (pc := 55) dX11_bound_55 rfl ⟨Nat.le_refl 0, Nat.le_refl 0⟩ hW
    · refine fr_iconst (pc := 50) 0 (by decide) dX11_bound_50 ?_
      refine fr_goto (pc := 51) (tgt := 55) (by decide) dX11_bound_51 ?_
      exact fr_iret (pc := 55) dX11_bound_55 rfl ⟨Nat.le_refl 0, Nat.le_refl 0⟩ hW
set_option maxHeartbeats 4000000 in
set_option maxRecDepth 100000 in
theorem q_X8_taken {g : GG} {σ : Hs} {post : Option Value → Hs → Prop} (r0 : Nat) (hW : FL σ r0 8 1 (fun l1 => post (some (.long l1)) σ)) : Do g M_X8_taken 0 0 [.ref r0] σ post := by
  refine Do.of (by decide +kernel) (Nat.le_of_ble_eq_true rfl) ?_
  show Fr g M_X8_taken (0, 0, 0, 0) [(0, .ref r0)] [] 0 σ post
  refine fr_aload_n (pc := 0) 0 rfl rfl dX8_taken_0 ?_
  refine fr_getL (pc := 1) (T := TX8) (k := 1) kc_X8 (by decide) w_596 dX8_taken_1 hW (fun l1 hW => ?_)
  exact fr_lret (pc := 4) dX8_taken_4 rfl ⟨Nat.le_refl 0, Nat.le_refl 0⟩ hW
def J_X8_rowsWithin_6 (g : GG) (post : Option Value → Hs → Prop) (σ : Hs) (a0 : Nat) (v1 : Int32) (v2 : Int32) (v3 : Int32) (w4 : Int64) (v6 : Int32) : Prop := Fr g M_X8_rowsWithin (0, 0, 0, 0) [(0, .ref a0), (1, .int v1), (2, .int v2), (3, .int v3), (4, .long w4), (6, .int v6)] [] 6 σ post
set_option maxHeartbeats 4000000 in
set_option maxRecDepth 100000 in
theorem q_X8_rowsWithin {g : GG} {σ : Hs} {post : Option Value → Hs → Prop} (r0 : Nat) (p0 : Int32) (p1 : Int32) (p2 : Int32) (hW : J_X8_rowsWithin_6 g post σ r0 p0 p1 p2 0 0 ) : Do g M_X8_rowsWithin 0 0 [.ref r0, .int p0, .int p1, .int p2] σ post := by
  refine Do.of (by decide +kernel) (Nat.le_of_ble_eq_true rfl) ?_
  show Fr g M_X8_rowsWithin (0, 0, 0, 0) [(0, .ref r0), (1, .int p0), (2, .int p1), (3, .int p2)] [] 0 σ post
  refine fr_lconst (pc := 0) 0 (by decide) dX8_rowsWithin_0 ?_
  refine fr_lstore (pc := 1) (lv' := [(4, .long 0), (0, .ref r0), (1, .int p0), (2, .int p1), (3, .int p2)]) (by decide) rfl dX8_rowsWithin_1 ?_
  refine fr_iconst (pc := 3) 0 (by decide) dX8_rowsWithin_3 ?_
  refine fr_istore (pc := 4) (lv' := [(6, .int 0), (4, .long 0), (0, .ref r0), (1, .int p0), (2, .int p1), (3, .int p2)]) (by decide) rfl dX8_rowsWithin_4 ?_
  exact fr_sub [2, 3, 4, 5, 1, 0] rfl hW
set_option maxHeartbeats 4000000 in
set_option maxRecDepth 100000 in
theorem q_X8_rowsWithin_6 {g : GG} {σ : Hs} {post : Option Value → Hs → Prop} (a0 : Nat) (v1 : Int32) (v2 : Int32) (v3 : Int32) (w4 : Int64) (v6 : Int32) (hW : (64 ≤ v6 → post (some (.long w4)) σ) ∧ (¬ 64 ≤ v6 → FR σ a0 8 0 (fun r1 => Rc σ r1 1 ∧ Do g M_X1_at 0 0 [.ref r1, .int ((v6 * 4) + v1)] σ (kI (fun i3 s2 => FL s2 a0 8 1 (fun l6 => Do g M_X11_hasSlot 0 0 [.long l6, .int v6] s2 (kI (fun i8 s7 => (i8 = 0 → J_X8_rowsWithin_6 g post s7 a0 v1 v2 v3 w4 ((v6 + 1)) ) ∧ (¬ i8 = 0 → (i3 < v2 → J_X8_rowsWithin_6 g post s7 a0 v1 v2 v3 w4 ((v6 + 1)) ) ∧ (¬ i3 < v2 → (v3 < i3 → J_X8_rowsWithin_6 g post s7 a0 v1 v2 v3 w4 ((v6 + 1)) ) ∧ (¬ v3 < i3 → J_X8_rowsWithin_6 g post s7 a0 v1 v2 v3 ((w4 ||| ((1 : Int64) <<< (v6.toInt64 &&& 63)))) ((v6 + 1)) ))))))))))) : J_X8_rowsWithin_6 g post σ a0 v1 v2 v3 w4 v6 := by
  show Fr g M_X8_rowsWithin (0, 0, 0, 0) [(0, .ref a0), (1, .int v1), (2, .int v2), (3, .int v3), (4, .long w4), (6, .int v6)] [] 6 σ post
  refine fr_iload (pc := 6) 5 rfl dX8_rowsWithin_6 ?_
  refine fr_bipush (pc := 8) 64 (by decide) dX8_rowsWithin_8 ?_
  refine fr_icmp_ge (pc := 10) (tgt := 67) (by decide) dX8_rowsWithin_10 hW (fun hW => ?_) (fun hW => ?_)
  · refine fr_lload (pc := 67) 4 rfl dX8_rowsWithin_67 ?_
    exact fr_lret (pc := 69) dX8_rowsWithin_69 rfl ⟨Nat.le_refl 0, Nat.le_refl 0⟩ hW
  · refine fr_aload_n (pc := 13) 0 rfl rfl dX8_rowsWithin_13 ?_
    refine fr_getR (pc := 14) (T := TX8) (k := 0) kc_X8 (by decide) w_519 dX8_rowsWithin_14 hW (fun r1 hW => ?_)
    refine fr_iload (pc := 17) 5 rfl dX8_rowsWithin_17 ?_
    refine fr_iconst (pc := 19) 4 (by decide) dX8_rowsWithin_19 ?_
    refine fr_imul (pc := 20) dX8_rowsWithin_20 ?_
    refine fr_iload_n (pc := 21) 1 rfl rfl dX8_rowsWithin_21 ?_
    refine fr_iadd (pc := 22) dX8_rowsWithin_22 ?_
    obtain ⟨hrc, hW⟩ := hW
    refine fr_callV_I (pc := 23) (As := [.int ((v6 * 4) + v1)]) (st := []) wd_X1_at w_600 ok_X1_at (by decide) rfl (Nat.le_of_ble_eq_true rfl) dX8_rowsWithin_23 ⟨Nat.le_refl 0, Nat.le_refl 0⟩ kc_X1 hrc hW (fun i3 s2 hW => ?_)
    refine fr_istore (pc := 26) (lv' := [(7, .int i3), (0, .ref a0), (1, .int v1), (2, .int v2), (3, .int v3), (4, .long w4), (6, .int v6)]) (by decide) rfl dX8_rowsWithin_26 ?_
    refine fr_aload_n (pc := 28) 1 rfl rfl dX8_rowsWithin_28 ?_
    refine fr_getL (pc := 29) (T := TX8) (k := 1) kc_X8 (by decide) w_596 dX8_rowsWithin_29 hW (fun l6 hW => ?_)
    refine fr_iload (pc := 32) 6 rfl dX8_rowsWithin_32 ?_
    refine fr_callSN_I (pc := 34) (As := [.long l6, .int v6]) (st := []) wd_X11_hasSlot ⟨RX11, by decide +kernel⟩ ok_X11_hasSlot (by decide) rfl (Nat.le_of_ble_eq_true rfl) dX8_rowsWithin_34 ⟨Nat.le_refl 0, Nat.le_refl 0⟩ hW (fun i8 s7 hW => ?_)
    refine fr_if_eq (pc := 37) (tgt := 61) (by decide) dX8_rowsWithin_37 hW (fun hW => ?_) (fun hW => ?_)
    · refine fr_iinc (pc := 61) (lv' := [(6, .int (v6 + 1)), (7, .int i3), (0, .ref a0), (1, .int v1), (2, .int v2), (3, .int v3), (4, .long w4)]) (v6 + 1) 6 rfl (congrArg (fun z => v6 + z) (by decide)) (by decide) rfl dX8_rowsWithin_61 ?_
      refine fr_goto (pc := 64) (tgt := 6) (by decide) dX8_rowsWithin_64 ?_
      exact fr_sub [2, 3, 4, 5, 6, 0] rfl hW
    · refine fr_iload (pc := 40) 0 rfl dX8_rowsWithin_40 ?_
      refine fr_iload_n (pc := 42) 3 rfl rfl dX8_rowsWithin_42 ?_
      refine fr_icmp_lt (pc := 43) (tgt := 61) (by decide) dX8_rowsWithin_43 hW (fun hW => ?_) (fun hW => ?_)
      · refine fr_iinc (pc := 61) (lv' := [(6, .int (v6 + 1)), (7, .int i3), (0, .ref a0), (1, .int v1), (2, .int v2), (3, .int v3), (4, .long w4)]) (v6 + 1) 6 rfl (congrArg (fun z => v6 + z) (by decide)) (by decide) rfl dX8_rowsWithin_61 ?_
        refine fr_goto (pc := 64) (tgt := 6) (by decide) dX8_rowsWithin_64 ?_
        exact fr_sub [2, 3, 4, 5, 6, 0] rfl hW
      · refine fr_iload (pc := 46) 0 rfl dX8_rowsWithin_46 ?_
        refine fr_iload_n (pc := 48) 4 rfl rfl dX8_rowsWithin_48 ?_
        refine fr_icmp_gt (pc := 49) (tgt := 61) (by decide) dX8_rowsWithin_49 hW (fun hW => ?_) (fun hW => ?_)
        · refine fr_iinc (pc := 61) (lv' := [(6, .int (v6 + 1)), (7, .int i3), (0, .ref a0), (1, .int v1), (2, .int v2), (3, .int v3), (4, .long w4)]) (v6 + 1) 6 rfl (congrArg (fun z => v6 + z) (by decide)) (by decide) rfl dX8_rowsWithin_61 ?_
          refine fr_goto (pc := 64) (tgt := 6) (by decide) dX8_rowsWithin_64 ?_
          exact fr_sub [2, 3, 4, 5, 6, 0] rfl hW
        · refine fr_lload (pc := 52) 5 rfl dX8_rowsWithin_52 ?_
          refine fr_lconst (pc := 54) 1 (by decide) dX8_rowsWithin_54 ?_
          refine fr_iload (pc := 55) 6 rfl dX8_rowsWithin_55 ?_
          refine fr_lshl (pc := 57) dX8_rowsWithin_57 ?_
          refine fr_lor (pc := 58) dX8_rowsWithin_58 ?_
          refine fr_lstore (pc := 59) (lv' := [(4, .long (w4 ||| ((1 : Int64) <<< (v6.toInt64 &&& 63)))), (7, .int i3), (0, .ref a0), (1, .int v1), (2, .int v2), (3, .int v3), (6, .int v6)]) (by decide) rfl dX8_rowsWithin_59 ?_
          refine fr_iinc (pc := 61) (lv' := [(6, .int (v6 + 1)), (4, .long (w4 ||| ((1 : Int64) <<< (v6.toInt64 &&& 63)))), (7, .int i3), (0, .ref a0), (1, .int v1), (2, .int v2), (3, .int v3)]) (v6 + 1) 6 rfl (congrArg (fun z => v6 + z) (by decide)) (by decide) rfl dX8_rowsWithin_61 ?_
          refine fr_goto (pc := 64) (tgt := 6) (by decide) dX8_rowsWithin_64 ?_
          exact fr_sub [3, 4, 5, 6, 1, 0] rfl hW
def J_X6_rowsWithin_8 (g : GG) (post : Option Value → Hs → Prop) (σ : Hs) (a0 : Nat) (a1 : Nat) (v2 : Int32) (w3 : Int64) (v5 : Int32) : Prop := Fr g M_X6_rowsWithin (0, 0, 0, 0) [(0, .ref a0), (1, .ref a1), (2, .int v2), (3, .long w3), (5, .int v5)] [] 8 σ post
set_option maxHeartbeats 4000000 in
set_option maxRecDepth 100000 in
theorem q_X6_rowsWithin {g : GG} {σ : Hs} {post : Option Value → Hs → Prop} (r0 : Nat) (p0 : Nat) (p1 : Int32) (hW : Rc σ p0 8 ∧ Do g M_X8_taken 0 0 [.ref p0] σ (kL (fun l3 s1 => J_X6_rowsWithin_8 g post s1 r0 p0 p1 l3 0 ))) : Do g M_X6_rowsWithin 0 0 [.ref r0, .ref p0, .int p1] σ post := by
  refine Do.of (by decide +kernel) (Nat.le_of_ble_eq_true rfl) ?_
  show Fr g M_X6_rowsWithin (0, 0, 0, 0) [(0, .ref r0), (1, .ref p0), (2, .int p1)] [] 0 σ post
  refine fr_aload_n (pc := 0) 1 rfl rfl dX6_rowsWithin_0 ?_
  obtain ⟨hrc, hW⟩ := hW
  refine fr_callV_L (pc := 1) (As := []) (st := []) wd_X8_taken w_742 ok_X8_taken (by decide) rfl (Nat.le_of_ble_eq_true rfl) dX6_rowsWithin_1 ⟨Nat.le_refl 0, Nat.le_refl 0⟩ kc_X8 hrc hW (fun l3 s1 hW => ?_)
  refine fr_lstore_n (pc := 4) (lv' := [(3, .long l3), (0, .ref r0), (1, .ref p0), (2, .int p1)]) rfl (by decide) rfl dX6_rowsWithin_4 ?_
  refine fr_iconst (pc := 5) 0 (by decide) dX6_rowsWithin_5 ?_
  refine fr_istore (pc := 6) (lv' := [(5, .int 0), (3, .long l3), (0, .ref r0), (1, .ref p0), (2, .int p1)]) (by decide) rfl dX6_rowsWithin_6 ?_
  exact fr_sub [2, 3, 4, 1, 0] rfl hW
set_option maxHeartbeats 4000000 in
set_option maxRecDepth 100000 in
theorem q_X6_rowsWithin_8 {g : GG} {σ : Hs} {post : Option Value → Hs → Prop} (a0 : Nat) (a1 : Nat) (v2 : Int32) (w3 : Int64) (v5 : Int32) (hW : (4 ≤ v5 → post (some (.long w3)) σ) ∧ (¬ 4 ≤ v5 → FI σ a0 6 2 (fun i5 => Do g M_X11_has 0 0 [.int (v2 &&& i5), .int v5] σ (kI (fun i7 s6 => (i7 = 0 → J_X6_rowsWithin_8 g post s6 a0 a1 v2 w3 ((v5 + 1)) ) ∧ (¬ i7 = 0 → Rc s6 a0 6 ∧ Do g M_X6_least 0 0 [.ref a0, .int v5] s6 (kI (fun i11 s10 => Rc s10 a0 6 ∧ Do g M_X6_greatest 0 0 [.ref a0, .int v5] s10 (kI (fun i15 s14 => Rc s14 a1 8 ∧ Do g M_X8_rowsWithin 0 0 [.ref a1, .int v5, .int i11, .int i15] s14 (kL (fun l20 s18 => J_X6_rowsWithin_8 g post s18 a0 a1 v2 ((w3 &&& l20)) ((v5 + 1)) )))))))))))) : J_X6_rowsWithin_8 g post σ a0 a1 v2 w3 v5 := by
  show Fr g M_X6_rowsWithin (0, 0, 0, 0) [(0, .ref a0), (1, .ref a1), (2, .int v2), (3, .long w3), (5, .int v5)] [] 8 σ post
  refine fr_iload (pc := 8) 4 rfl dX6_rowsWithin_8 ?_
  refine fr_iconst (pc := 10) 4 (by decide) dX6_rowsWithin_10 ?_
  refine fr_icmp_ge (pc := 11) (tgt := 55) (by decide) dX6_rowsWithin_11 hW (fun hW => ?_) (fun hW => ?_)
  · refine fr_lload_n (pc := 55) 3 rfl rfl dX6_rowsWithin_55 ?_
    exact fr_lret (pc := 56) dX6_rowsWithin_56 rfl ⟨Nat.le_refl 0, Nat.le_refl 0⟩ hW
  · refine fr_iload_n (pc := 14) 2 rfl rfl dX6_rowsWithin_14 ?_
    refine fr_aload_n (pc := 15) 0 rfl rfl dX6_rowsWithin_15 ?_
    refine fr_getI (pc := 16) (T := TX6) (k := 2) kc_X6 (by decide) w_679 dX6_rowsWithin_16 hW (fun i5 hW => ?_)
    refine fr_iand (pc := 19) dX6_rowsWithin_19 ?_
    refine fr_iload (pc := 20) 4 rfl dX6_rowsWithin_20 ?_
    refine fr_callSN_I (pc := 22) (As := [.int (v2 &&& i5), .int v5]) (st := []) wd_X11_has ⟨RX11, by decide +kernel⟩ ok_X11_has (by decide) rfl (Nat.le_of_ble_eq_true rfl) dX6_rowsWithin_22 ⟨Nat.le_refl 0, Nat.le_refl 0⟩ hW (fun i7 s6 hW => ?_)
    refine fr_if_eq (pc := 25) (tgt := 49) (by decide) dX6_rowsWithin_25 hW (fun hW => ?_) (fun hW => ?_)
    · refine fr_iinc (pc := 49) (lv' := [(5, .int (v5 + 1)), (0, .ref a0), (1, .ref a1), (2, .int v2), (3, .long w3)]) (v5 + 1) 4 rfl (congrArg (fun z => v5 + z) (by decide)) (by decide) rfl dX6_rowsWithin_49 ?_
      refine fr_goto (pc := 52) (tgt := 8) (by decide) dX6_rowsWithin_52 ?_
      exact fr_sub [1, 2, 3, 4, 0] rfl hW
    · refine fr_lload_n (pc := 28) 3 rfl rfl dX6_rowsWithin_28 ?_
      refine fr_aload_n (pc := 29) 1 rfl rfl dX6_rowsWithin_29 ?_
      refine fr_iload (pc := 30) 4 rfl dX6_rowsWithin_30 ?_
      refine fr_aload_n (pc := 32) 0 rfl rfl dX6_rowsWithin_32 ?_
      refine fr_iload (pc := 33) 4 rfl dX6_rowsWithin_33 ?_
      obtain ⟨hrc, hW⟩ := hW
      refine fr_callV_I (pc := 35) (As := [.int v5]) (st := [.int v5, .ref a1, .long w3]) wd_X6_least w_737 ok_X6_least (by decide) rfl (Nat.le_of_ble_eq_true rfl) dX6_rowsWithin_35 ⟨Nat.le_refl 0, Nat.le_refl 0⟩ kc_X6 hrc hW (fun i11 s10 hW => ?_)
      refine fr_aload_n (pc := 38) 0 rfl rfl dX6_rowsWithin_38 ?_
      refine fr_iload (pc := 39) 4 rfl dX6_rowsWithin_39 ?_
      obtain ⟨hrc, hW⟩ := hW
      refine fr_callV_I (pc := 41) (As := [.int v5]) (st := [.int i11, .int v5, .ref a1, .long w3]) wd_X6_greatest w_738 ok_X6_greatest (by decide) rfl (Nat.le_of_ble_eq_true rfl) dX6_rowsWithin_41 ⟨Nat.le_refl 0, Nat.le_refl 0⟩ kc_X6 hrc hW (fun i15 s14 hW => ?_)
      obtain ⟨hrc, hW⟩ := hW
      refine fr_callV_L (pc := 44) (As := [.int v5, .int i11, .int i15]) (st := [.long w3]) wd_X8_rowsWithin w_743 ok_X8_rowsWithin (by decide) rfl (Nat.le_of_ble_eq_true rfl) dX6_rowsWithin_44 ⟨Nat.le_refl 0, Nat.le_refl 0⟩ kc_X8 hrc hW (fun l20 s18 hW => ?_)
      refine fr_land (pc := 47) dX6_rowsWithin_47 ?_
      refine fr_lstore_n (pc := 48) (lv' := [(3, .long (w3 &&& l20)), (0, .ref a0), (1, .ref a1), (2, .int v2), (5, .int v5)]) rfl (by decide) rfl dX6_rowsWithin_48 ?_
      refine fr_iinc (pc := 49) (lv' := [(5, .int (v5 + 1)), (3, .long (w3 &&& l20)), (0, .ref a0), (1, .ref a1), (2, .int v2)]) (v5 + 1) 4 rfl (congrArg (fun z => v5 + z) (by decide)) (by decide) rfl dX6_rowsWithin_49 ?_
      refine fr_goto (pc := 52) (tgt := 8) (by decide) dX6_rowsWithin_52 ?_
      exact fr_sub [2, 3, 4, 1, 0] rfl hW
set_option maxHeartbeats 4000000 in
set_option maxRecDepth 100000 in
theorem q_X6_sortNumber {g : GG} {σ : Hs} {post : Option Value → Hs → Prop} (r0 : Nat) (p0 : Nat) (p1 : Int32) (hW : FI σ r0 6 5 (fun i1 => (¬ i1 = (-1) → FI σ r0 6 5 (fun i2 => Rc σ p0 8 ∧ Do g M_X8_number 0 0 [.ref p0, .int p1, .int i2] σ (kI (fun i4 s3 => post (some (.int i4)) s3)))) ∧ (i1 = (-1) → post (some (.int 0)) σ))) : Do g M_X6_sortNumber 0 0 [.ref r0, .ref p0, .int p1] σ post := by
  refine Do.of (by decide +kernel) (Nat.le_of_ble_eq_true rfl) ?_
  show Fr g M_X6_sortNumber (0, 0, 0, 0) [(0, .ref r0), (1, .ref p0), (2, .int p1)] [] 0 σ post
  refine fr_aload_n (pc := 0) 0 rfl rfl dX6_sortNumber_0 ?_
  refine fr_getI (pc := 1) (T := TX6) (k := 5) kc_X6 (by decide) w_682 dX6_sortNumber_1 hW (fun i1 hW => ?_)
  refine fr_iconst (pc := 4) (-1) (by decide) dX6_sortNumber_4 ?_
  refine fr_icmp_ne (pc := 5) (tgt := 12) (by decide) dX6_sortNumber_5 hW (fun hW => ?_) (fun hW => ?_)
  · refine fr_aload_n (pc := 12) 1 rfl rfl dX6_sortNumber_12 ?_
    refine fr_iload_n (pc := 13) 2 rfl rfl dX6_sortNumber_13 ?_
    refine fr_aload_n (pc := 14) 0 rfl rfl dX6_sortNumber_14 ?_
    refine fr_getI (pc := 15) (T := TX6) (k := 5) kc_X6 (by decide) w_682 dX6_sortNumber_15 hW (fun i2 hW => ?_)
    obtain ⟨hrc, hW⟩ := hW
    refine fr_callV_I (pc := 18) (As := [.int p1, .int i2]) (st := []) wd_X8_number w_744 ok_X8_number (by decide) rfl (Nat.le_of_ble_eq_true rfl) dX6_sortNumber_18 ⟨Nat.le_refl 0, Nat.le_refl 0⟩ kc_X8 hrc hW (fun i4 s3 hW => ?_)
    exact fr_iret (pc := 21) dX6_sortNumber_21 rfl ⟨Nat.le_refl 0, Nat.le_refl 0⟩ hW
  · refine fr_iconst (pc := 8) 0 (by decide) dX6_sortNumber_8 ?_
    refine fr_goto (pc := 9) (tgt := 21) (by decide) dX6_sortNumber_9 ?_
    exact fr_iret (pc := 21) dX6_sortNumber_21 rfl ⟨Nat.le_refl 0, Nat.le_refl 0⟩ hW
def J_X6_rowsAhead_15 (g : GG) (post : Option Value → Hs → Prop) (σ : Hs) (a0 : Nat) (a1 : Nat) (w2 : Int64) (v4 : Int32) (v5 : Int32) (v6 : Int32) (v7 : Int32) : Prop := Fr g M_X6_rowsAhead (0, 0, 0, 0) [(0, .ref a0), (1, .ref a1), (2, .long w2), (4, .int v4), (5, .int v5), (6, .int v6), (7, .int v7)] [] 15 σ post
set_option maxHeartbeats 4000000 in
set_option maxRecDepth 100000 in
theorem q_X6_rowsAhead {g : GG} {σ : Hs} {post : Option Value → Hs → Prop} (r0 : Nat) (p0 : Nat) (p1 : Int64) (p2 : Int32) (hW : Rc σ r0 6 ∧ Do g M_X6_sortNumber 0 0 [.ref r0, .ref p0, .int p2] σ (kI (fun i2 s1 => J_X6_rowsAhead_15 g post s1 r0 p0 p1 p2 i2 0 0 ))) : Do g M_X6_rowsAhead 0 0 [.ref r0, .ref p0, .long p1, .int p2] σ post := by
  refine Do.of (by decide +kernel) (Nat.le_of_ble_eq_true rfl) ?_
  show Fr g M_X6_rowsAhead (0, 0, 0, 0) [(0, .ref r0), (1, .ref p0), (2, .long p1), (4, .int p2)] [] 0 σ post
  refine fr_aload_n (pc := 0) 0 rfl rfl dX6_rowsAhead_0 ?_
  refine fr_aload_n (pc := 1) 1 rfl rfl dX6_rowsAhead_1 ?_
  refine fr_iload (pc := 2) 3 rfl dX6_rowsAhead_2 ?_
  obtain ⟨hrc, hW⟩ := hW
  refine fr_callV_I (pc := 4) (As := [.ref p0, .int p2]) (st := []) wd_X6_sortNumber w_745 ok_X6_sortNumber (by decide) rfl (Nat.le_of_ble_eq_true rfl) dX6_rowsAhead_4 ⟨Nat.le_refl 0, Nat.le_refl 0⟩ kc_X6 hrc hW (fun i2 s1 hW => ?_)
  refine fr_istore (pc := 7) (lv' := [(5, .int i2), (0, .ref r0), (1, .ref p0), (2, .long p1), (4, .int p2)]) (by decide) rfl dX6_rowsAhead_7 ?_
  refine fr_iconst (pc := 9) 0 (by decide) dX6_rowsAhead_9 ?_
  refine fr_istore (pc := 10) (lv' := [(6, .int 0), (5, .int i2), (0, .ref r0), (1, .ref p0), (2, .long p1), (4, .int p2)]) (by decide) rfl dX6_rowsAhead_10 ?_
  refine fr_iconst (pc := 12) 0 (by decide) dX6_rowsAhead_12 ?_
  refine fr_istore (pc := 13) (lv' := [(7, .int 0), (6, .int 0), (5, .int i2), (0, .ref r0), (1, .ref p0), (2, .long p1), (4, .int p2)]) (by decide) rfl dX6_rowsAhead_13 ?_
  exact fr_sub [3, 4, 5, 6, 2, 1, 0] rfl hW
set_option maxHeartbeats 4000000 in
set_option maxRecDepth 100000 in
theorem q_X6_rowsAhead_15 {g : GG} {σ : Hs} {post : Option Value → Hs → Prop} (a0 : Nat) (a1 : Nat) (w2 : Int64) (v4 : Int32) (v5 : Int32) (v6 : Int32) (v7 : Int32) (hW : (64 ≤ v7 → post (some (.int v6)) σ) ∧ (¬ 64 ≤ v7 → Rc σ a0 6 ∧ Do g M_X6_sortNumber 0 0 [.ref a0, .ref a1, .int v7] σ (kI (fun i6 s5 => Do g M_X11_hasSlot 0 0 [.long w2, .int v7] s5 (kI (fun i10 s9 => (i10 = 0 → J_X6_rowsAhead_15 g post s9 a0 a1 w2 v4 v5 v6 ((v7 + 1)) ) ∧ (¬ i10 = 0 → (i6 < v5 → J_X6_rowsAhead_15 g post s9 a0 a1 w2 v4 v5 ((v6 + 1)) ((v7 + 1)) ) ∧ (¬ i6 < v5 → (¬ i6 = v5 → J_X6_rowsAhead_15 g post s9 a0 a1 w2 v4 v5 v6 ((v7 + 1)) ) ∧ (i6 = v5 → (v4 ≤ v7 → J_X6_rowsAhead_15 g post s9 a0 a1 w2 v4 v5 v6 ((v7 + 1)) ) ∧ (¬ v4 ≤ v7 → J_X6_rowsAhead_15 g post s9 a0 a1 w2 v4 v5 ((v6 + 1)) ((v7 + 1)) )))))))))) : J_X6_rowsAhead_15 g post σ a0 a1 w2 v4 v5 v6 v7 := by
  show Fr g M_X6_rowsAhead (0, 0, 0, 0) [(0, .ref a0), (1, .ref a1), (2, .long w2), (4, .int v4), (5, .int v5), (6, .int v6), (7, .int v7)] [] 15 σ post
  refine fr_iload (pc := 15) 6 rfl dX6_rowsAhead_15 ?_
  refine fr_bipush (pc := 17) 64 (by decide) dX6_rowsAhead_17 ?_
  refine fr_icmp_ge (pc := 19) (tgt := 70) (by decide) dX6_rowsAhead_19 hW (fun hW => ?_) (fun hW => ?_)
  · refine fr_iload (pc := 70) 5 rfl dX6_rowsAhead_70 ?_
    exact fr_iret (pc := 72) dX6_rowsAhead_72 rfl ⟨Nat.le_refl 0, Nat.le_refl 0⟩ hW
  · refine fr_aload_n (pc := 22) 0 rfl rfl dX6_rowsAhead_22 ?_
    refine fr_aload_n (pc := 23) 1 rfl rfl dX6_rowsAhead_23 ?_
    refine fr_iload (pc := 24) 6 rfl dX6_rowsAhead_24 ?_
    obtain ⟨hrc, hW⟩ := hW
    refine fr_callV_I (pc := 26) (As := [.ref a1, .int v7]) (st := []) wd_X6_sortNumber w_745 ok_X6_sortNumber (by decide) rfl (Nat.le_of_ble_eq_true rfl) dX6_rowsAhead_26 ⟨Nat.le_refl 0, Nat.le_refl 0⟩ kc_X6 hrc hW (fun i6 s5 hW => ?_)
    refine fr_istore (pc := 29) (lv' := [(8, .int i6), (0, .ref a0), (1, .ref a1), (2, .long w2), (4, .int v4), (5, .int v5), (6, .int v6), (7, .int v7)]) (by decide) rfl dX6_rowsAhead_29 ?_
    refine fr_lload_n (pc := 31) 3 rfl rfl dX6_rowsAhead_31 ?_
    refine fr_iload (pc := 32) 7 rfl dX6_rowsAhead_32 ?_
    refine fr_callSN_I (pc := 34) (As := [.long w2, .int v7]) (st := []) wd_X11_hasSlot ⟨RX11, by decide +kernel⟩ ok_X11_hasSlot (by decide) rfl (Nat.le_of_ble_eq_true rfl) dX6_rowsAhead_34 ⟨Nat.le_refl 0, Nat.le_refl 0⟩ hW (fun i10 s9 hW => ?_)
    refine fr_if_eq (pc := 37) (tgt := 64) (by decide) dX6_rowsAhead_37 hW (fun hW => ?_) (fun hW => ?_)
    · refine fr_iinc (pc := 64) (lv' := [(7, .int (v7 + 1)), (8, .int i6), (0, .ref a0), (1, .ref a1), (2, .long w2), (4, .int v4), (5, .int v5), (6, .int v6)]) (v7 + 1) 7 rfl (congrArg (fun z => v7 + z) (by decide)) (by decide) rfl dX6_rowsAhead_64 ?_
      refine fr_goto (pc := 67) (tgt := 15) (by decide) dX6_rowsAhead_67 ?_
      exact fr_sub [2, 3, 4, 5, 6, 7, 0] rfl hW
    · refine fr_iload (pc := 40) 0 rfl dX6_rowsAhead_40 ?_
      refine fr_iload (pc := 42) 5 rfl dX6_rowsAhead_42 ?_
      refine fr_icmp_lt (pc := 44) (tgt := 61) (by decide) dX6_rowsAhead_44 hW (fun hW => ?_) (fun hW => ?_)
      · refine fr_iinc (pc := 61) (lv' := [(6, .int (v6 + 1)), (8, .int i6), (0, .ref a0), (1, .ref a1), (2, .long w2), (4, .int v4), (5, .int v5), (7, .int v7)]) (v6 + 1) 6 rfl (congrArg (fun z => v6 + z) (by decide)) (by decide) rfl dX6_rowsAhead_61 ?_
        refine fr_iinc (pc := 64) (lv' := [(7, .int (v7 + 1)), (6, .int (v6 + 1)), (8, .int i6), (0, .ref a0), (1, .ref a1), (2, .long w2), (4, .int v4), (5, .int v5)]) (v7 + 1) 7 rfl (congrArg (fun z => v7 + z) (by decide)) (by decide) rfl dX6_rowsAhead_64 ?_
        refine fr_goto (pc := 67) (tgt := 15) (by decide) dX6_rowsAhead_67 ?_
        exact fr_sub [3, 4, 5, 6, 7, 1, 0] rfl hW
      · refine fr_iload (pc := 47) 0 rfl dX6_rowsAhead_47 ?_
        refine fr_iload (pc := 49) 5 rfl dX6_rowsAhead_49 ?_
        refine fr_icmp_ne (pc := 51) (tgt := 64) (by decide) dX6_rowsAhead_51 hW (fun hW => ?_) (fun hW => ?_)
        · refine fr_iinc (pc := 64) (lv' := [(7, .int (v7 + 1)), (8, .int i6), (0, .ref a0), (1, .ref a1), (2, .long w2), (4, .int v4), (5, .int v5), (6, .int v6)]) (v7 + 1) 7 rfl (congrArg (fun z => v7 + z) (by decide)) (by decide) rfl dX6_rowsAhead_64 ?_
          refine fr_goto (pc := 67) (tgt := 15) (by decide) dX6_rowsAhead_67 ?_
          exact fr_sub [2, 3, 4, 5, 6, 7, 0] rfl hW
        · refine fr_iload (pc := 54) 7 rfl dX6_rowsAhead_54 ?_
          refine fr_iload (pc := 56) 4 rfl dX6_rowsAhead_56 ?_
          refine fr_icmp_ge (pc := 58) (tgt := 64) (by decide) dX6_rowsAhead_58 hW (fun hW => ?_) (fun hW => ?_)
          · refine fr_iinc (pc := 64) (lv' := [(7, .int (v7 + 1)), (8, .int i6), (0, .ref a0), (1, .ref a1), (2, .long w2), (4, .int v4), (5, .int v5), (6, .int v6)]) (v7 + 1) 7 rfl (congrArg (fun z => v7 + z) (by decide)) (by decide) rfl dX6_rowsAhead_64 ?_
            refine fr_goto (pc := 67) (tgt := 15) (by decide) dX6_rowsAhead_67 ?_
            exact fr_sub [2, 3, 4, 5, 6, 7, 0] rfl hW
          · refine fr_iinc (pc := 61) (lv' := [(6, .int (v6 + 1)), (8, .int i6), (0, .ref a0), (1, .ref a1), (2, .long w2), (4, .int v4), (5, .int v5), (7, .int v7)]) (v6 + 1) 6 rfl (congrArg (fun z => v6 + z) (by decide)) (by decide) rfl dX6_rowsAhead_61 ?_
            refine fr_iinc (pc := 64) (lv' := [(7, .int (v7 + 1)), (6, .int (v6 + 1)), (8, .int i6), (0, .ref a0), (1, .ref a1), (2, .long w2), (4, .int v4), (5, .int v5)]) (v7 + 1) 7 rfl (congrArg (fun z => v7 + z) (by decide)) (by decide) rfl dX6_rowsAhead_64 ?_
            refine fr_goto (pc := 67) (tgt := 15) (by decide) dX6_rowsAhead_67 ?_
            exact fr_sub [3, 4, 5, 6, 7, 1, 0] rfl hW
def J_X6_placed_11 (g : GG) (post : Option Value → Hs → Prop) (σ : Hs) (a0 : Nat) (a1 : Nat) (v2 : Int32) (w3 : Int64) (v5 : Int32) : Prop := Fr g M_X6_placed (0, 0, 0, 0) [(0, .ref a0), (1, .ref a1), (2, .int v2), (3, .long w3), (5, .int v5)] [] 11 σ post
set_option maxHeartbeats 4000000 in
set_option maxRecDepth 100000 in
theorem q_X6_placed {g : GG} {σ : Hs} {post : Option Value → Hs → Prop} (r0 : Nat) (p0 : Nat) (p1 : Int32) (hW : Rc σ r0 6 ∧ Do g M_X6_rowsWithin 0 0 [.ref r0, .ref p0, .int 15] σ (kL (fun l3 s1 => J_X6_placed_11 g post s1 r0 p0 p1 l3 0 ))) : Do g M_X6_placed 0 0 [.ref r0, .ref p0, .int p1] σ post := by
  refine Do.of (by decide +kernel) (Nat.le_of_ble_eq_true rfl) ?_
  show Fr g M_X6_placed (0, 0, 0, 0) [(0, .ref r0), (1, .ref p0), (2, .int p1)] [] 0 σ post
  refine fr_aload_n (pc := 0) 0 rfl rfl dX6_placed_0 ?_
  refine fr_aload_n (pc := 1) 1 rfl rfl dX6_placed_1 ?_
  refine fr_bipush (pc := 2) 15 (by decide) dX6_placed_2 ?_
  obtain ⟨hrc, hW⟩ := hW
  refine fr_callV_L (pc := 4) (As := [.ref p0, .int 15]) (st := []) wd_X6_rowsWithin w_746 ok_X6_rowsWithin (by decide) rfl (Nat.le_of_ble_eq_true rfl) dX6_placed_4 ⟨Nat.le_refl 0, Nat.le_refl 0⟩ kc_X6 hrc hW (fun l3 s1 hW => ?_)
  refine fr_lstore_n (pc := 7) (lv' := [(3, .long l3), (0, .ref r0), (1, .ref p0), (2, .int p1)]) rfl (by decide) rfl dX6_placed_7 ?_
  refine fr_iconst (pc := 8) 0 (by decide) dX6_placed_8 ?_
  refine fr_istore (pc := 9) (lv' := [(5, .int 0), (3, .long l3), (0, .ref r0), (1, .ref p0), (2, .int p1)]) (by decide) rfl dX6_placed_9 ?_
  exact fr_sub [2, 3, 4, 1, 0] rfl hW
set_option maxHeartbeats 4000000 in
set_option maxRecDepth 100000 in
theorem q_X6_placed_11 {g : GG} {σ : Hs} {post : Option Value → Hs → Prop} (a0 : Nat) (a1 : Nat) (v2 : Int32) (w3 : Int64) (v5 : Int32) (hW : (64 ≤ v5 → post (some (.int (-1))) σ) ∧ (¬ 64 ≤ v5 → Do g M_X11_hasSlot 0 0 [.long w3, .int v5] σ (kI (fun i6 s5 => (i6 = 0 → J_X6_placed_11 g post s5 a0 a1 v2 w3 ((v5 + 1)) ) ∧ (¬ i6 = 0 → Rc s5 a0 6 ∧ Do g M_X6_rowsAhead 0 0 [.ref a0, .ref a1, .long w3, .int v5] s5 (kI (fun i10 s9 => (¬ i10 = v2 → J_X6_placed_11 g post s9 a0 a1 v2 w3 ((v5 + 1)) ) ∧ (i10 = v2 → post (some (.int v5)) s9)))))))) : J_X6_placed_11 g post σ a0 a1 v2 w3 v5 := by
  show Fr g M_X6_placed (0, 0, 0, 0) [(0, .ref a0), (1, .ref a1), (2, .int v2), (3, .long w3), (5, .int v5)] [] 11 σ post
  refine fr_iload (pc := 11) 4 rfl dX6_placed_11 ?_
  refine fr_bipush (pc := 13) 64 (by decide) dX6_placed_13 ?_
  refine fr_icmp_ge (pc := 15) (tgt := 48) (by decide) dX6_placed_15 hW (fun hW => ?_) (fun hW => ?_)
  · refine fr_iconst (pc := 48) (-1) (by decide) dX6_placed_48 ?_
    exact fr_iret (pc := 49) dX6_placed_49 rfl ⟨Nat.le_refl 0, Nat.le_refl 0⟩ hW
  · refine fr_lload_n (pc := 18) 3 rfl rfl dX6_placed_18 ?_
    refine fr_iload (pc := 19) 4 rfl dX6_placed_19 ?_
    refine fr_callSN_I (pc := 21) (As := [.long w3, .int v5]) (st := []) wd_X11_hasSlot ⟨RX11, by decide +kernel⟩ ok_X11_hasSlot (by decide) rfl (Nat.le_of_ble_eq_true rfl) dX6_placed_21 ⟨Nat.le_refl 0, Nat.le_refl 0⟩ hW (fun i6 s5 hW => ?_)
    refine fr_if_eq (pc := 24) (tgt := 42) (by decide) dX6_placed_24 hW (fun hW => ?_) (fun hW => ?_)
    · refine fr_iinc (pc := 42) (lv' := [(5, .int (v5 + 1)), (0, .ref a0), (1, .ref a1), (2, .int v2), (3, .long w3)]) (v5 + 1) 4 rfl (congrArg (fun z => v5 + z) (by decide)) (by decide) rfl dX6_placed_42 ?_
      refine fr_goto (pc := 45) (tgt := 11) (by decide) dX6_placed_45 ?_
      exact fr_sub [1, 2, 3, 4, 0] rfl hW
    · refine fr_aload_n (pc := 27) 0 rfl rfl dX6_placed_27 ?_
      refine fr_aload_n (pc := 28) 1 rfl rfl dX6_placed_28 ?_
      refine fr_lload_n (pc := 29) 3 rfl rfl dX6_placed_29 ?_
      refine fr_iload (pc := 30) 4 rfl dX6_placed_30 ?_
      obtain ⟨hrc, hW⟩ := hW
      refine fr_callV_I (pc := 32) (As := [.ref a1, .long w3, .int v5]) (st := []) wd_X6_rowsAhead w_747 ok_X6_rowsAhead (by decide) rfl (Nat.le_of_ble_eq_true rfl) dX6_placed_32 ⟨Nat.le_refl 0, Nat.le_refl 0⟩ kc_X6 hrc hW (fun i10 s9 hW => ?_)
      refine fr_iload_n (pc := 35) 2 rfl rfl dX6_placed_35 ?_
      refine fr_icmp_ne (pc := 36) (tgt := 42) (by decide) dX6_placed_36 hW (fun hW => ?_) (fun hW => ?_)
      · refine fr_iinc (pc := 42) (lv' := [(5, .int (v5 + 1)), (0, .ref a0), (1, .ref a1), (2, .int v2), (3, .long w3)]) (v5 + 1) 4 rfl (congrArg (fun z => v5 + z) (by decide)) (by decide) rfl dX6_placed_42 ?_
        refine fr_goto (pc := 45) (tgt := 11) (by decide) dX6_placed_45 ?_
        exact fr_sub [1, 2, 3, 4, 0] rfl hW
      · refine fr_iload (pc := 39) 4 rfl dX6_placed_39 ?_
        exact fr_iret (pc := 41) dX6_placed_41 rfl ⟨Nat.le_refl 0, Nat.le_refl 0⟩ hW
set_option maxHeartbeats 4000000 in
set_option maxRecDepth 100000 in
theorem q_X11_answer {g : GG} {σ : Hs} {post : Option Value → Hs → Prop} (r0 : Nat) (p0 : Int32) (p1 : Int32) (hW : FR σ r0 11 3 (fun r1 => Rc σ r1 10 ∧ Do g M_X10_question 0 0 [.ref r1, .int p0] σ (kA (fun s2 => post (some (.int (-101))) s2) (fun r5 s2 => FR s2 r0 11 0 (fun r6 => Rc s2 r5 6 ∧ Do g M_X6_placed 0 0 [.ref r5, .ref r6, .int p1] s2 (kI (fun i8 s7 => post (some (.int i8)) s7))))))) : Do g M_X11_answer 0 0 [.ref r0, .int p0, .int p1] σ post := by
  refine Do.of (by decide +kernel) (Nat.le_of_ble_eq_true rfl) ?_
  show Fr g M_X11_answer (0, 0, 0, 0) [(0, .ref r0), (1, .int p0), (2, .int p1)] [] 0 σ post
  refine fr_aload_n (pc := 0) 0 rfl rfl dX11_answer_0 ?_
  refine fr_getR (pc := 1) (T := TX11) (k := 3) kc_X11 (by decide) w_583 dX11_answer_1 hW (fun r1 hW => ?_)
  refine fr_iload_n (pc := 4) 1 rfl rfl dX11_answer_4 ?_
  obtain ⟨hrc, hW⟩ := hW
  refine fr_callV_A (pc := 5) (As := [.int p0]) (st := []) wd_X10_question w_733 ok_X10_question (by decide) rfl (Nat.le_of_ble_eq_true rfl) dX11_answer_5 ⟨Nat.le_refl 0, Nat.le_refl 0⟩ kc_X10 hrc hW (fun s2 hW => ?_) (fun r5 s2 hW => ?_)
  · refine fr_astore_nN (pc := 8) (lv' := [(3, .null), (0, .ref r0), (1, .int p0), (2, .int p1)]) rfl (by decide) rfl dX11_answer_8 ?_
    refine fr_aload_nN (pc := 9) 0 rfl rfl dX11_answer_9 ?_
    refine fr_ifnonnullN (pc := 10) dX11_answer_10 ?_
    refine fr_bipush (pc := 13) (-101) (by decide) dX11_answer_13 ?_
    refine fr_goto (pc := 15) (tgt := 27) (by decide) dX11_answer_15 ?_
    exact fr_iret (pc := 27) dX11_answer_27 rfl ⟨Nat.le_refl 0, Nat.le_refl 0⟩ hW
  · refine fr_astore_n (pc := 8) (lv' := [(3, .ref r5), (0, .ref r0), (1, .int p0), (2, .int p1)]) rfl (by decide) rfl dX11_answer_8 ?_
    refine fr_aload_n (pc := 9) 0 rfl rfl dX11_answer_9 ?_
    refine fr_ifnonnull (pc := 10) (tgt := 18) (by decide) dX11_answer_10 ?_
    refine fr_aload_n (pc := 18) 0 rfl rfl dX11_answer_18 ?_
    refine fr_aload_n (pc := 19) 1 rfl rfl dX11_answer_19 ?_
    refine fr_getR (pc := 20) (T := TX11) (k := 0) kc_X11 (by decide) w_578 dX11_answer_20 hW (fun r6 hW => ?_)
    refine fr_iload_n (pc := 23) 3 rfl rfl dX11_answer_23 ?_
    obtain ⟨hrc, hW⟩ := hW
    refine fr_callV_I (pc := 24) (As := [.ref r6, .int p1]) (st := []) wd_X6_placed w_748 ok_X6_placed (by decide) rfl (Nat.le_of_ble_eq_true rfl) dX11_answer_24 ⟨Nat.le_refl 0, Nat.le_refl 0⟩ kc_X6 hrc hW (fun i8 s7 hW => ?_)
    exact fr_iret (pc := 27) dX11_answer_27 rfl ⟨Nat.le_refl 0, Nat.le_refl 0⟩ hW
set_option maxHeartbeats 4000000 in
set_option maxRecDepth 100000 in
theorem q_X11_answers {g : GG} {σ : Hs} {post : Option Value → Hs → Prop} (r0 : Nat) (p0 : Int32) (hW : FR σ r0 11 3 (fun r1 => Rc σ r1 10 ∧ Do g M_X10_question 0 0 [.ref r1, .int p0] σ (kA (fun s2 => post (some (.int (-101))) s2) (fun r5 s2 => FR s2 r0 11 0 (fun r6 => Rc s2 r5 6 ∧ Do g M_X6_rowsWithin 0 0 [.ref r5, .ref r6, .int 15] s2 (kL (fun l9 s7 => Do g M_J13_bitCount_95d88 0 0 [.long l9] s7 (kI (fun i12 s11 => post (some (.int i12)) s11))))))))) : Do g M_X11_answers 0 0 [.ref r0, .int p0] σ post := by
  refine Do.of (by decide +kernel) (Nat.le_of_ble_eq_true rfl) ?_
  show Fr g M_X11_answers (0, 0, 0, 0) [(0, .ref r0), (1, .int p0)] [] 0 σ post
  refine fr_aload_n (pc := 0) 0 rfl rfl dX11_answers_0 ?_
  refine fr_getR (pc := 1) (T := TX11) (k := 3) kc_X11 (by decide) w_583 dX11_answers_1 hW (fun r1 hW => ?_)
  refine fr_iload_n (pc := 4) 1 rfl rfl dX11_answers_4 ?_
  obtain ⟨hrc, hW⟩ := hW
  refine fr_callV_A (pc := 5) (As := [.int p0]) (st := []) wd_X10_question w_733 ok_X10_question (by decide) rfl (Nat.le_of_ble_eq_true rfl) dX11_answers_5 ⟨Nat.le_refl 0, Nat.le_refl 0⟩ kc_X10 hrc hW (fun s2 hW => ?_) (fun r5 s2 hW => ?_)
  · refine fr_astore_nN (pc := 8) (lv' := [(2, .null), (0, .ref r0), (1, .int p0)]) rfl (by decide) rfl dX11_answers_8 ?_
    refine fr_aload_nN (pc := 9) 0 rfl rfl dX11_answers_9 ?_
    refine fr_ifnonnullN (pc := 10) dX11_answers_10 ?_
    refine fr_bipush (pc := 13) (-101) (by decide) dX11_answers_13 ?_
    refine fr_goto (pc := 15) (tgt := 31) (by decide) dX11_answers_15 ?_
    exact fr_iret (pc := 31) dX11_answers_31 rfl ⟨Nat.le_refl 0, Nat.le_refl 0⟩ hW
  · refine fr_astore_n (pc := 8) (lv' := [(2, .ref r5), (0, .ref r0), (1, .int p0)]) rfl (by decide) rfl dX11_answers_8 ?_
    refine fr_aload_n (pc := 9) 0 rfl rfl dX11_answers_9 ?_
    refine fr_ifnonnull (pc := 10) (tgt := 18) (by decide) dX11_answers_10 ?_
    refine fr_aload_n (pc := 18) 0 rfl rfl dX11_answers_18 ?_
    refine fr_aload_n (pc := 19) 1 rfl rfl dX11_answers_19 ?_
    refine fr_getR (pc := 20) (T := TX11) (k := 0) kc_X11 (by decide) w_578 dX11_answers_20 hW (fun r6 hW => ?_)
    refine fr_bipush (pc := 23) 15 (by decide) dX11_answers_23 ?_
    obtain ⟨hrc, hW⟩ := hW
    refine fr_callV_L (pc := 25) (As := [.ref r6, .int 15]) (st := []) wd_X6_rowsWithin w_749 ok_X6_rowsWithin (by decide) rfl (Nat.le_of_ble_eq_true rfl) dX11_answers_25 ⟨Nat.le_refl 0, Nat.le_refl 0⟩ kc_X6 hrc hW (fun l9 s7 hW => ?_)
    refine fr_callS_I (pc := 28) (As := [.long l9]) (st := []) wd_J13_bitCount_95d88 w_750 ok_J13_bitCount_95d88 (by decide) rfl (Nat.le_of_ble_eq_true rfl) dX11_answers_28 ⟨Nat.le_refl 0, Nat.le_refl 0⟩ hW (fun i12 s11 hW => ?_)
    exact fr_iret (pc := 31) dX11_answers_31 rfl ⟨Nat.le_refl 0, Nat.le_refl 0⟩ hW
set_option maxHeartbeats 4000000 in
set_option maxRecDepth 100000 in
theorem q_X2_leaves {g : GG} {σ : Hs} {post : Option Value → Hs → Prop} (r0 : Nat) (hW : FI σ r0 2 9 (fun i1 => post (some (.int i1)) σ)) : Do g M_X2_leaves 0 0 [.ref r0] σ post := by
  refine Do.of (by decide +kernel) (Nat.le_of_ble_eq_true rfl) ?_
  show Fr g M_X2_leaves (0, 0, 0, 0) [(0, .ref r0)] [] 0 σ post
  refine fr_aload_n (pc := 0) 0 rfl rfl dX2_leaves_0 ?_
  refine fr_getI (pc := 1) (T := TX2) (k := 9) kc_X2 (by decide) w_609 dX2_leaves_1 hW (fun i1 hW => ?_)
  exact fr_iret (pc := 4) dX2_leaves_4 rfl ⟨Nat.le_refl 0, Nat.le_refl 0⟩ hW
def J_X2_height_7 (g : GG) (post : Option Value → Hs → Prop) (σ : Hs) (v1 : Int32) (v2 : Int32) : Prop := Fr g M_X2_height (0, 0, 0, 0) [(1, .int v1), (2, .int v2)] [] 7 σ post
set_option maxHeartbeats 4000000 in
set_option maxRecDepth 100000 in
theorem q_X2_height {g : GG} {σ : Hs} {post : Option Value → Hs → Prop} (r0 : Nat) (hW : FI σ r0 2 9 (fun i1 => J_X2_height_7 g post σ 0 i1 )) : Do g M_X2_height 0 0 [.ref r0] σ post := by
  refine Do.of (by decide +kernel) (Nat.le_of_ble_eq_true rfl) ?_
  show Fr g M_X2_height (0, 0, 0, 0) [(0, .ref r0)] [] 0 σ post
  refine fr_iconst (pc := 0) 0 (by decide) dX2_height_0 ?_
  refine fr_istore_n (pc := 1) (lv' := [(1, .int 0), (0, .ref r0)]) rfl (by decide) rfl dX2_height_1 ?_
  refine fr_aload_n (pc := 2) 1 rfl rfl dX2_height_2 ?_
  refine fr_getI (pc := 3) (T := TX2) (k := 9) kc_X2 (by decide) w_609 dX2_height_3 hW (fun i1 hW => ?_)
  refine fr_istore_n (pc := 6) (lv' := [(2, .int i1), (1, .int 0), (0, .ref r0)]) rfl (by decide) rfl dX2_height_6 ?_
  exact fr_sub [1, 0] rfl hW
set_option maxHeartbeats 4000000 in
set_option maxRecDepth 100000 in
theorem q_X2_height_7 {g : GG} {σ : Hs} {post : Option Value → Hs → Prop} (v1 : Int32) (v2 : Int32) (hW : (v2 ≤ 1 → post (some (.int v1)) σ) ∧ (¬ v2 ≤ 1 → (64 ≤ v1 → post (some (.int v1)) σ) ∧ (¬ 64 ≤ v1 → Do g M_X11_roundedUp 0 0 [.int v2, .int 4] σ (kI (fun i3 s2 => J_X2_height_7 g post s2 ((v1 + 1)) i3 ))))) : J_X2_height_7 g post σ v1 v2 := by
  show Fr g M_X2_height (0, 0, 0, 0) [(1, .int v1), (2, .int v2)] [] 7 σ post
  refine fr_iload_n (pc := 7) 1 rfl rfl dX2_height_7 ?_
  refine fr_iconst (pc := 8) 1 (by decide) dX2_height_8 ?_
  refine fr_icmp_le (pc := 9) (tgt := 30) (by decide) dX2_height_9 hW (fun hW => ?_) (fun hW => ?_)
  · refine fr_iload_n (pc := 30) 0 rfl rfl dX2_height_30 ?_
    exact fr_iret (pc := 31) dX2_height_31 rfl ⟨Nat.le_refl 0, Nat.le_refl 0⟩ hW
  · refine fr_iload_n (pc := 12) 0 rfl rfl dX2_height_12 ?_
    refine fr_bipush (pc := 13) 64 (by decide) dX2_height_13 ?_
    refine fr_icmp_ge (pc := 15) (tgt := 30) (by decide) dX2_height_15 hW (fun hW => ?_) (fun hW => ?_)
    · refine fr_iload_n (pc := 30) 0 rfl rfl dX2_height_30 ?_
      exact fr_iret (pc := 31) dX2_height_31 rfl ⟨Nat.le_refl 0, Nat.le_refl 0⟩ hW
    · refine fr_iinc (pc := 18) (lv' := [(1, .int (v1 + 1)), (2, .int v2)]) (v1 + 1) 0 rfl (congrArg (fun z => v1 + z) (by decide)) (by decide) rfl dX2_height_18 ?_
      refine fr_iload_n (pc := 21) 1 rfl rfl dX2_height_21 ?_
      refine fr_iconst (pc := 22) 4 (by decide) dX2_height_22 ?_
      refine fr_callSN_I (pc := 23) (As := [.int v2, .int 4]) (st := []) wd_X11_roundedUp ⟨RX11, by decide +kernel⟩ ok_X11_roundedUp (by decide) rfl (Nat.le_of_ble_eq_true rfl) dX2_height_23 ⟨Nat.le_refl 0, Nat.le_refl 0⟩ hW (fun i3 s2 hW => ?_)
      refine fr_istore_n (pc := 26) (lv' := [(2, .int i3), (1, .int (v1 + 1))]) rfl (by decide) rfl dX2_height_26 ?_
      refine fr_goto (pc := 27) (tgt := 7) (by decide) dX2_height_27 ?_
      exact fr_sub [1, 0] rfl hW
def J_X2_size_15 (g : GG) (post : Option Value → Hs → Prop) (σ : Hs) (v1 : Int32) (v2 : Int32) (v3 : Int32) : Prop := Fr g M_X2_size (0, 0, 0, 0) [(1, .int v1), (2, .int v2), (3, .int v3)] [] 15 σ post
set_option maxHeartbeats 4000000 in
set_option maxRecDepth 100000 in
theorem q_X2_size {g : GG} {σ : Hs} {post : Option Value → Hs → Prop} (r0 : Nat) (hW : FI σ r0 2 9 (fun i1 => FI σ r0 2 9 (fun i2 => Rc σ r0 2 ∧ Do g M_X2_height 0 0 [.ref r0] σ (kI (fun i4 s3 => J_X2_size_15 g post s3 i1 i2 i4 ))))) : Do g M_X2_size 0 0 [.ref r0] σ post := by
  refine Do.of (by decide +kernel) (Nat.le_of_ble_eq_true rfl) ?_
  show Fr g M_X2_size (0, 0, 0, 0) [(0, .ref r0)] [] 0 σ post
  refine fr_aload_n (pc := 0) 0 rfl rfl dX2_size_0 ?_
  refine fr_getI (pc := 1) (T := TX2) (k := 9) kc_X2 (by decide) w_609 dX2_size_1 hW (fun i1 hW => ?_)
  refine fr_istore_n (pc := 4) (lv' := [(1, .int i1), (0, .ref r0)]) rfl (by decide) rfl dX2_size_4 ?_
  refine fr_aload_n (pc := 5) 1 rfl rfl dX2_size_5 ?_
  refine fr_getI (pc := 6) (T := TX2) (k := 9) kc_X2 (by decide) w_609 dX2_size_6 hW (fun i2 hW => ?_)
  refine fr_istore_n (pc := 9) (lv' := [(2, .int i2), (1, .int i1), (0, .ref r0)]) rfl (by decide) rfl dX2_size_9 ?_
  refine fr_aload_n (pc := 10) 2 rfl rfl dX2_size_10 ?_
  obtain ⟨hrc, hW⟩ := hW
  refine fr_callV_I (pc := 11) (As := []) (st := []) wd_X2_height w_751 ok_X2_height (by decide) rfl (Nat.le_of_ble_eq_true rfl) dX2_size_11 ⟨Nat.le_refl 0, Nat.le_refl 0⟩ kc_X2 hrc hW (fun i4 s3 hW => ?_)
  refine fr_istore_n (pc := 14) (lv' := [(3, .int i4), (2, .int i2), (1, .int i1), (0, .ref r0)]) rfl (by decide) rfl dX2_size_14 ?_
  exact fr_sub [2, 1, 0] rfl hW
set_option maxHeartbeats 4000000 in
set_option maxRecDepth 100000 in
theorem q_X2_size_15 {g : GG} {σ : Hs} {post : Option Value → Hs → Prop} (v1 : Int32) (v2 : Int32) (v3 : Int32) (hW : (v3 ≤ 0 → post (some (.int v1)) σ) ∧ (¬ v3 ≤ 0 → Do g M_X11_roundedUp 0 0 [.int v2, .int 4] σ (kI (fun i8 s7 => J_X2_size_15 g post s7 ((v1 + i8)) i8 ((v3 + (-1))) )))) : J_X2_size_15 g post σ v1 v2 v3 := by
  show Fr g M_X2_size (0, 0, 0, 0) [(1, .int v1), (2, .int v2), (3, .int v3)] [] 15 σ post
  refine fr_iload_n (pc := 15) 2 rfl rfl dX2_size_15 ?_
  refine fr_if_le (pc := 16) (tgt := 35) (by decide) dX2_size_16 hW (fun hW => ?_) (fun hW => ?_)
  · refine fr_iload_n (pc := 35) 0 rfl rfl dX2_size_35 ?_
    exact fr_iret (pc := 36) dX2_size_36 rfl ⟨Nat.le_refl 0, Nat.le_refl 0⟩ hW
  · refine fr_iload_n (pc := 19) 1 rfl rfl dX2_size_19 ?_
    refine fr_iconst (pc := 20) 4 (by decide) dX2_size_20 ?_
    refine fr_callSN_I (pc := 21) (As := [.int v2, .int 4]) (st := []) wd_X11_roundedUp ⟨RX11, by decide +kernel⟩ ok_X11_roundedUp (by decide) rfl (Nat.le_of_ble_eq_true rfl) dX2_size_21 ⟨Nat.le_refl 0, Nat.le_refl 0⟩ hW (fun i8 s7 hW => ?_)
    refine fr_istore_n (pc := 24) (lv' := [(2, .int i8), (1, .int v1), (3, .int v3)]) rfl (by decide) rfl dX2_size_24 ?_
    refine fr_iload_n (pc := 25) 1 rfl rfl dX2_size_25 ?_
    refine fr_iload_n (pc := 26) 0 rfl rfl dX2_size_26 ?_
    refine fr_iadd (pc := 27) dX2_size_27 ?_
    refine fr_istore_n (pc := 28) (lv' := [(1, .int (v1 + i8)), (2, .int i8), (3, .int v3)]) rfl (by decide) rfl dX2_size_28 ?_
    refine fr_iinc (pc := 29) (lv' := [(3, .int (v3 + (-1))), (1, .int (v1 + i8)), (2, .int i8)]) (v3 + (-1)) 2 rfl (congrArg (fun z => v3 + z) (by decide)) (by decide) rfl dX2_size_29 ?_
    refine fr_goto (pc := 32) (tgt := 15) (by decide) dX2_size_32 ?_
    exact fr_sub [1, 2, 0] rfl hW
set_option maxHeartbeats 4000000 in
set_option maxRecDepth 100000 in
theorem q_X2_cuts {g : GG} {σ : Hs} {post : Option Value → Hs → Prop} (r0 : Nat) (hW : FI σ r0 2 10 (fun i1 => post (some (.int i1)) σ)) : Do g M_X2_cuts 0 0 [.ref r0] σ post := by
  refine Do.of (by decide +kernel) (Nat.le_of_ble_eq_true rfl) ?_
  show Fr g M_X2_cuts (0, 0, 0, 0) [(0, .ref r0)] [] 0 σ post
  refine fr_aload_n (pc := 0) 0 rfl rfl dX2_cuts_0 ?_
  refine fr_getI (pc := 1) (T := TX2) (k := 10) kc_X2 (by decide) w_615 dX2_cuts_1 hW (fun i1 hW => ?_)
  exact fr_iret (pc := 4) dX2_cuts_4 rfl ⟨Nat.le_refl 0, Nat.le_refl 0⟩ hW
set_option maxHeartbeats 4000000 in
set_option maxRecDepth 100000 in
theorem q_X11_about {g : GG} {σ : Hs} {post : Option Value → Hs → Prop} (r0 : Nat) (p0 : Int32) (p1 : Int32) (hW : FR σ r0 11 1 (fun r1 => Rc σ r1 3 ∧ Do g M_X3_kept 0 0 [.ref r1, .int p0] σ (kA (fun s2 => post (some (.int (-101))) s2) (fun r5 s2 => (p1 = 0 → Rc s2 r5 2 ∧ Do g M_X2_key 0 0 [.ref r5] s2 (kI (fun i7 s6 => post (some (.int i7)) s6))) ∧ (p1 = 1 → Rc s2 r5 2 ∧ Do g M_X2_leaves 0 0 [.ref r5] s2 (kI (fun i11 s10 => post (some (.int i11)) s10))) ∧ (p1 = 2 → Rc s2 r5 2 ∧ Do g M_X2_height 0 0 [.ref r5] s2 (kI (fun i15 s14 => post (some (.int i15)) s14))) ∧ (p1 = 3 → Rc s2 r5 2 ∧ Do g M_X2_size 0 0 [.ref r5] s2 (kI (fun i19 s18 => post (some (.int i19)) s18))) ∧ (p1 = 4 → Rc s2 r5 2 ∧ Do g M_X2_cuts 0 0 [.ref r5] s2 (kI (fun i23 s22 => post (some (.int i23)) s22))) ∧ (¬ p1 = 0 → ¬ p1 = 1 → ¬ p1 = 2 → ¬ p1 = 3 → ¬ p1 = 4 → post (some (.int (-102))) s2))))) : Do g M_X11_about 0 0 [.ref r0, .int p0, .int p1] σ post := by
  refine Do.of (by decide +kernel) (Nat.le_of_ble_eq_true rfl) ?_
  show Fr g M_X11_about (0, 0, 0, 0) [(0, .ref r0), (1, .int p0), (2, .int p1)] [] 0 σ post
  refine fr_aload_n (pc := 0) 0 rfl rfl dX11_about_0 ?_
  refine fr_getR (pc := 1) (T := TX11) (k := 1) kc_X11 (by decide) w_579 dX11_about_1 hW (fun r1 hW => ?_)
  refine fr_iload_n (pc := 4) 1 rfl rfl dX11_about_4 ?_
  obtain ⟨hrc, hW⟩ := hW
  refine fr_callV_A (pc := 5) (As := [.int p0]) (st := []) wd_X3_kept w_752 ok_X3_kept (by decide) rfl (Nat.le_of_ble_eq_true rfl) dX11_about_5 ⟨Nat.le_refl 0, Nat.le_refl 0⟩ kc_X3 hrc hW (fun s2 hW => ?_) (fun r5 s2 hW => ?_)
  · refine fr_astore_nN (pc := 8) (lv' := [(3, .null), (0, .ref r0), (1, .int p0), (2, .int p1)]) rfl (by decide) rfl dX11_about_8 ?_
    refine fr_aload_nN (pc := 9) 0 rfl rfl dX11_about_9 ?_
    refine fr_ifnonnullN (pc := 10) dX11_about_10 ?_
    refine fr_bipush (pc := 13) (-101) (by decide) dX11_about_13 ?_
    exact fr_iret (pc := 15) dX11_about_15 rfl ⟨Nat.le_refl 0, Nat.le_refl 0⟩ hW
  · refine fr_astore_n (pc := 8) (lv' := [(3, .ref r5), (0, .ref r0), (1, .int p0), (2, .int p1)]) rfl (by decide) rfl dX11_about_8 ?_
    refine fr_aload_n (pc := 9) 0 rfl rfl dX11_about_9 ?_
    refine fr_ifnonnull (pc := 10) (tgt := 16) (by decide) dX11_about_10 ?_
    refine fr_iload_n (pc := 16) 3 rfl rfl dX11_about_16 ?_
    by_cases c0 : p1 = 0
    · have hW := hW.1 c0
      refine fr_switchIn (pc := 17) (off := 35) (tgt := 52) dX11_about_17 (by rw [c0]; decide) (by rw [c0]; decide) (by rw [c0]; rfl) (by decide) ?_
      refine fr_aload_n (pc := 52) 0 rfl rfl dX11_about_52 ?_
      obtain ⟨hrc, hW⟩ := hW
      refine fr_callV_I (pc := 53) (As := []) (st := []) wd_X2_key w_753 ok_X2_key (by decide) rfl (Nat.le_of_ble_eq_true rfl) dX11_about_53 ⟨Nat.le_refl 0, Nat.le_refl 0⟩ kc_X2 hrc hW (fun i7 s6 hW => ?_)
      exact fr_iret (pc := 56) dX11_about_56 rfl ⟨Nat.le_refl 0, Nat.le_refl 0⟩ hW
    have hW := hW.2
    by_cases c1 : p1 = 1
    · have hW := hW.1 c1
      refine fr_switchIn (pc := 17) (off := 40) (tgt := 57) dX11_about_17 (by rw [c1]; decide) (by rw [c1]; decide) (by rw [c1]; rfl) (by decide) ?_
      refine fr_aload_n (pc := 57) 0 rfl rfl dX11_about_57 ?_
      obtain ⟨hrc, hW⟩ := hW
      refine fr_callV_I (pc := 58) (As := []) (st := []) wd_X2_leaves w_754 ok_X2_leaves (by decide) rfl (Nat.le_of_ble_eq_true rfl) dX11_about_58 ⟨Nat.le_refl 0, Nat.le_refl 0⟩ kc_X2 hrc hW (fun i11 s10 hW => ?_)
      exact fr_iret (pc := 61) dX11_about_61 rfl ⟨Nat.le_refl 0, Nat.le_refl 0⟩ hW
    have hW := hW.2
    by_cases c2 : p1 = 2
    · have hW := hW.1 c2
      refine fr_switchIn (pc := 17) (off := 45) (tgt := 62) dX11_about_17 (by rw [c2]; decide) (by rw [c2]; decide) (by rw [c2]; rfl) (by decide) ?_
      refine fr_aload_n (pc := 62) 0 rfl rfl dX11_about_62 ?_
      obtain ⟨hrc, hW⟩ := hW
      refine fr_callV_I (pc := 63) (As := []) (st := []) wd_X2_height w_755 ok_X2_height (by decide) rfl (Nat.le_of_ble_eq_true rfl) dX11_about_63 ⟨Nat.le_refl 0, Nat.le_refl 0⟩ kc_X2 hrc hW (fun i15 s14 hW => ?_)
      exact fr_iret (pc := 66) dX11_about_66 rfl ⟨Nat.le_refl 0, Nat.le_refl 0⟩ hW
    have hW := hW.2
    by_cases c3 : p1 = 3
    · have hW := hW.1 c3
      refine fr_switchIn (pc := 17) (off := 50) (tgt := 67) dX11_about_17 (by rw [c3]; decide) (by rw [c3]; decide) (by rw [c3]; rfl) (by decide) ?_
      refine fr_aload_n (pc := 67) 0 rfl rfl dX11_about_67 ?_
      obtain ⟨hrc, hW⟩ := hW
      refine fr_callV_I (pc := 68) (As := []) (st := []) wd_X2_size w_756 ok_X2_size (by decide) rfl (Nat.le_of_ble_eq_true rfl) dX11_about_68 ⟨Nat.le_refl 0, Nat.le_refl 0⟩ kc_X2 hrc hW (fun i19 s18 hW => ?_)
      exact fr_iret (pc := 71) dX11_about_71 rfl ⟨Nat.le_refl 0, Nat.le_refl 0⟩ hW
    have hW := hW.2
    by_cases c4 : p1 = 4
    · have hW := hW.1 c4
      refine fr_switchIn (pc := 17) (off := 55) (tgt := 72) dX11_about_17 (by rw [c4]; decide) (by rw [c4]; decide) (by rw [c4]; rfl) (by decide) ?_
      refine fr_aload_n (pc := 72) 0 rfl rfl dX11_about_72 ?_
      obtain ⟨hrc, hW⟩ := hW
      refine fr_callV_I (pc := 73) (As := []) (st := []) wd_X2_cuts w_757 ok_X2_cuts (by decide) rfl (Nat.le_of_ble_eq_true rfl) dX11_about_73 ⟨Nat.le_refl 0, Nat.le_refl 0⟩ kc_X2 hrc hW (fun i23 s22 hW => ?_)
      exact fr_iret (pc := 76) dX11_about_76 rfl ⟨Nat.le_refl 0, Nat.le_refl 0⟩ hW
    have hW := hW.2
    have hW := hW c0 c1 c2 c3 c4
    refine fr_switchOut (pc := 17) (tgt := 77) dX11_about_17 (sw_out 4 (by decide) ((lt_s (lt_s (lt_s (lt_s (lt_s lt_0 c0) c1) c2) c3) c4))) (by decide) ?_
    refine fr_bipush (pc := 77) (-102) (by decide) dX11_about_77 ?_
    exact fr_iret (pc := 79) dX11_about_79 rfl ⟨Nat.le_refl 0, Nat.le_refl 0⟩ hW
set_option maxHeartbeats 4000000 in
set_option maxRecDepth 100000 in
theorem q_X2_entriesInLeaf {g : GG} {σ : Hs} {post : Option Value → Hs → Prop} (r0 : Nat) (p0 : Int32) (hW : (p0 < 0 → post (some (.int (-1))) σ) ∧ (¬ p0 < 0 → FI σ r0 2 9 (fun i1 => (i1 ≤ p0 → post (some (.int (-1))) σ) ∧ (¬ i1 ≤ p0 → FR σ r0 2 7 (fun r2 => Rc σ r2 1 ∧ Do g M_X1_at 0 0 [.ref r2, .int p0] σ (kI (fun i4 s3 => post (some (.int i4)) s3))))))) : Do g M_X2_entriesInLeaf 0 0 [.ref r0, .int p0] σ post := by
  refine Do.of (by decide +kernel) (Nat.le_of_ble_eq_true rfl) ?_
  show Fr g M_X2_entriesInLeaf (0, 0, 0, 0) [(0, .ref r0), (1, .int p0)] [] 0 σ post
  refine fr_iload_n (pc := 0) 1 rfl rfl dX2_entriesInLeaf_0 ?_
  refine fr_if_lt (pc := 1) (tgt := 23) (by decide) dX2_entriesInLeaf_1 hW (fun hW => ?_) (fun hW => ?_)
  · refine fr_iconst (pc := 23) (-1) (by decide) dX2_entriesInLeaf_23 ?_
    exact fr_iret (pc := 24) dX2_entriesInLeaf_24 rfl ⟨Nat.le_refl 0, Nat.le_refl 0⟩ hW
  · refine fr_iload_n (pc := 4) 1 rfl rfl dX2_entriesInLeaf_4 ?_
    refine fr_aload_n (pc := 5) 0 rfl rfl dX2_entriesInLeaf_5 ?_
    refine fr_getI (pc := 6) (T := TX2) (k := 9) kc_X2 (by decide) w_609 dX2_entriesInLeaf_6 hW (fun i1 hW => ?_)
    refine fr_icmp_ge (pc := 9) (tgt := 23) (by decide) dX2_entriesInLeaf_9 hW (fun hW => ?_) (fun hW => ?_)
    · refine fr_iconst (pc := 23) (-1) (by decide) dX2_entriesInLeaf_23 ?_
      exact fr_iret (pc := 24) dX2_entriesInLeaf_24 rfl ⟨Nat.le_refl 0, Nat.le_refl 0⟩ hW
    · refine fr_aload_n (pc := 12) 0 rfl rfl dX2_entriesInLeaf_12 ?_
      refine fr_getR (pc := 13) (T := TX2) (k := 7) kc_X2 (by decide) w_610 dX2_entriesInLeaf_13 hW (fun r2 hW => ?_)
      refine fr_iload_n (pc := 16) 1 rfl rfl dX2_entriesInLeaf_16 ?_
      obtain ⟨hrc, hW⟩ := hW
      refine fr_callV_I (pc := 17) (As := [.int p0]) (st := []) wd_X1_at w_604 ok_X1_at (by decide) rfl (Nat.le_of_ble_eq_true rfl) dX2_entriesInLeaf_17 ⟨Nat.le_refl 0, Nat.le_refl 0⟩ kc_X1 hrc hW (fun i4 s3 hW => ?_)
      refine fr_goto (pc := 20) (tgt := 24) (by decide) dX2_entriesInLeaf_20 ?_
      exact fr_iret (pc := 24) dX2_entriesInLeaf_24 rfl ⟨Nat.le_refl 0, Nat.le_refl 0⟩ hW
set_option maxHeartbeats 4000000 in
set_option maxRecDepth 100000 in
theorem q_X11_leaf {g : GG} {σ : Hs} {post : Option Value → Hs → Prop} (r0 : Nat) (p0 : Int32) (p1 : Int32) (hW : FR σ r0 11 1 (fun r1 => Rc σ r1 3 ∧ Do g M_X3_kept 0 0 [.ref r1, .int p0] σ (kA (fun s2 => post (some (.int (-101))) s2) (fun r5 s2 => Rc s2 r5 2 ∧ Do g M_X2_entriesInLeaf 0 0 [.ref r5, .int p1] s2 (kI (fun i7 s6 => post (some (.int i7)) s6)))))) : Do g M_X11_leaf 0 0 [.ref r0, .int p0, .int p1] σ post := by
  refine Do.of (by decide +kernel) (Nat.le_of_ble_eq_true rfl) ?_
  show Fr g M_X11_leaf (0, 0, 0, 0) [(0, .ref r0), (1, .int p0), (2, .int p1)] [] 0 σ post
  refine fr_aload_n (pc := 0) 0 rfl rfl dX11_leaf_0 ?_
  refine fr_getR (pc := 1) (T := TX11) (k := 1) kc_X11 (by decide) w_579 dX11_leaf_1 hW (fun r1 hW => ?_)
  refine fr_iload_n (pc := 4) 1 rfl rfl dX11_leaf_4 ?_
  obtain ⟨hrc, hW⟩ := hW
  refine fr_callV_A (pc := 5) (As := [.int p0]) (st := []) wd_X3_kept w_752 ok_X3_kept (by decide) rfl (Nat.le_of_ble_eq_true rfl) dX11_leaf_5 ⟨Nat.le_refl 0, Nat.le_refl 0⟩ kc_X3 hrc hW (fun s2 hW => ?_) (fun r5 s2 hW => ?_)
  · refine fr_astore_nN (pc := 8) (lv' := [(3, .null), (0, .ref r0), (1, .int p0), (2, .int p1)]) rfl (by decide) rfl dX11_leaf_8 ?_
    refine fr_aload_nN (pc := 9) 0 rfl rfl dX11_leaf_9 ?_
    refine fr_ifnonnullN (pc := 10) dX11_leaf_10 ?_
    refine fr_bipush (pc := 13) (-101) (by decide) dX11_leaf_13 ?_
    refine fr_goto (pc := 15) (tgt := 23) (by decide) dX11_leaf_15 ?_
    exact fr_iret (pc := 23) dX11_leaf_23 rfl ⟨Nat.le_refl 0, Nat.le_refl 0⟩ hW
  · refine fr_astore_n (pc := 8) (lv' := [(3, .ref r5), (0, .ref r0), (1, .int p0), (2, .int p1)]) rfl (by decide) rfl dX11_leaf_8 ?_
    refine fr_aload_n (pc := 9) 0 rfl rfl dX11_leaf_9 ?_
    refine fr_ifnonnull (pc := 10) (tgt := 18) (by decide) dX11_leaf_10 ?_
    refine fr_aload_n (pc := 18) 0 rfl rfl dX11_leaf_18 ?_
    refine fr_iload_n (pc := 19) 3 rfl rfl dX11_leaf_19 ?_
    obtain ⟨hrc, hW⟩ := hW
    refine fr_callV_I (pc := 20) (As := [.int p1]) (st := []) wd_X2_entriesInLeaf w_761 ok_X2_entriesInLeaf (by decide) rfl (Nat.le_of_ble_eq_true rfl) dX11_leaf_20 ⟨Nat.le_refl 0, Nat.le_refl 0⟩ kc_X2 hrc hW (fun i7 s6 hW => ?_)
    exact fr_iret (pc := 23) dX11_leaf_23 rfl ⟨Nat.le_refl 0, Nat.le_refl 0⟩ hW
set_option maxHeartbeats 4000000 in
set_option maxRecDepth 100000 in
theorem q_X2_slotAt {g : GG} {σ : Hs} {post : Option Value → Hs → Prop} (r0 : Nat) (p0 : Int32) (hW : (p0 < 0 → post (some (.int (-1))) σ) ∧ (¬ p0 < 0 → FI σ r0 2 8 (fun i1 => (i1 ≤ p0 → post (some (.int (-1))) σ) ∧ (¬ i1 ≤ p0 → FR σ r0 2 6 (fun r2 => Rc σ r2 1 ∧ Do g M_X1_at 0 0 [.ref r2, .int p0] σ (kI (fun i4 s3 => post (some (.int i4)) s3))))))) : Do g M_X2_slotAt 0 0 [.ref r0, .int p0] σ post := by
  refine Do.of (by decide +kernel) (Nat.le_of_ble_eq_true rfl) ?_
  show Fr g M_X2_slotAt (0, 0, 0, 0) [(0, .ref r0), (1, .int p0)] [] 0 σ post
  refine fr_iload_n (pc := 0) 1 rfl rfl dX2_slotAt_0 ?_
  refine fr_if_lt (pc := 1) (tgt := 23) (by decide) dX2_slotAt_1 hW (fun hW => ?_) (fun hW => ?_)
  · refine fr_iconst (pc := 23) (-1) (by decide) dX2_slotAt_23 ?_
    exact fr_iret (pc := 24) dX2_slotAt_24 rfl ⟨Nat.le_refl 0, Nat.le_refl 0⟩ hW
  · refine fr_iload_n (pc := 4) 1 rfl rfl dX2_slotAt_4 ?_
    refine fr_aload_n (pc := 5) 0 rfl rfl dX2_slotAt_5 ?_
    refine fr_getI (pc := 6) (T := TX2) (k := 8) kc_X2 (by decide) w_606 dX2_slotAt_6 hW (fun i1 hW => ?_)
    refine fr_icmp_ge (pc := 9) (tgt := 23) (by decide) dX2_slotAt_9 hW (fun hW => ?_) (fun hW => ?_)
    · refine fr_iconst (pc := 23) (-1) (by decide) dX2_slotAt_23 ?_
      exact fr_iret (pc := 24) dX2_slotAt_24 rfl ⟨Nat.le_refl 0, Nat.le_refl 0⟩ hW
    · refine fr_aload_n (pc := 12) 0 rfl rfl dX2_slotAt_12 ?_
      refine fr_getR (pc := 13) (T := TX2) (k := 6) kc_X2 (by decide) w_607 dX2_slotAt_13 hW (fun r2 hW => ?_)
      refine fr_iload_n (pc := 16) 1 rfl rfl dX2_slotAt_16 ?_
      obtain ⟨hrc, hW⟩ := hW
      refine fr_callV_I (pc := 17) (As := [.int p0]) (st := []) wd_X1_at w_604 ok_X1_at (by decide) rfl (Nat.le_of_ble_eq_true rfl) dX2_slotAt_17 ⟨Nat.le_refl 0, Nat.le_refl 0⟩ kc_X1 hrc hW (fun i4 s3 hW => ?_)
      refine fr_goto (pc := 20) (tgt := 24) (by decide) dX2_slotAt_20 ?_
      exact fr_iret (pc := 24) dX2_slotAt_24 rfl ⟨Nat.le_refl 0, Nat.le_refl 0⟩ hW
set_option maxHeartbeats 4000000 in
set_option maxRecDepth 100000 in
theorem q_X11_entry {g : GG} {σ : Hs} {post : Option Value → Hs → Prop} (r0 : Nat) (p0 : Int32) (p1 : Int32) (hW : FR σ r0 11 1 (fun r1 => Rc σ r1 3 ∧ Do g M_X3_kept 0 0 [.ref r1, .int p0] σ (kA (fun s2 => post (some (.int (-101))) s2) (fun r5 s2 => Rc s2 r5 2 ∧ Do g M_X2_slotAt 0 0 [.ref r5, .int p1] s2 (kI (fun i7 s6 => post (some (.int i7)) s6)))))) : Do g M_X11_entry 0 0 [.ref r0, .int p0, .int p1] σ post := by
  refine Do.of (by decide +kernel) (Nat.le_of_ble_eq_true rfl) ?_
  show Fr g M_X11_entry (0, 0, 0, 0) [(0, .ref r0), (1, .int p0), (2, .int p1)] [] 0 σ post
  refine fr_aload_n (pc := 0) 0 rfl rfl dX11_entry_0 ?_
  refine fr_getR (pc := 1) (T := TX11) (k := 1) kc_X11 (by decide) w_579 dX11_entry_1 hW (fun r1 hW => ?_)
  refine fr_iload_n (pc := 4) 1 rfl rfl dX11_entry_4 ?_
  obtain ⟨hrc, hW⟩ := hW
  refine fr_callV_A (pc := 5) (As := [.int p0]) (st := []) wd_X3_kept w_752 ok_X3_kept (by decide) rfl (Nat.le_of_ble_eq_true rfl) dX11_entry_5 ⟨Nat.le_refl 0, Nat.le_refl 0⟩ kc_X3 hrc hW (fun s2 hW => ?_) (fun r5 s2 hW => ?_)
  · refine fr_astore_nN (pc := 8) (lv' := [(3, .null), (0, .ref r0), (1, .int p0), (2, .int p1)]) rfl (by decide) rfl dX11_entry_8 ?_
    refine fr_aload_nN (pc := 9) 0 rfl rfl dX11_entry_9 ?_
    refine fr_ifnonnullN (pc := 10) dX11_entry_10 ?_
    refine fr_bipush (pc := 13) (-101) (by decide) dX11_entry_13 ?_
    refine fr_goto (pc := 15) (tgt := 23) (by decide) dX11_entry_15 ?_
    exact fr_iret (pc := 23) dX11_entry_23 rfl ⟨Nat.le_refl 0, Nat.le_refl 0⟩ hW
  · refine fr_astore_n (pc := 8) (lv' := [(3, .ref r5), (0, .ref r0), (1, .int p0), (2, .int p1)]) rfl (by decide) rfl dX11_entry_8 ?_
    refine fr_aload_n (pc := 9) 0 rfl rfl dX11_entry_9 ?_
    refine fr_ifnonnull (pc := 10) (tgt := 18) (by decide) dX11_entry_10 ?_
    refine fr_aload_n (pc := 18) 0 rfl rfl dX11_entry_18 ?_
    refine fr_iload_n (pc := 19) 3 rfl rfl dX11_entry_19 ?_
    obtain ⟨hrc, hW⟩ := hW
    refine fr_callV_I (pc := 20) (As := [.int p1]) (st := []) wd_X2_slotAt w_762 ok_X2_slotAt (by decide) rfl (Nat.le_of_ble_eq_true rfl) dX11_entry_20 ⟨Nat.le_refl 0, Nat.le_refl 0⟩ kc_X2 hrc hW (fun i7 s6 hW => ?_)
    exact fr_iret (pc := 23) dX11_entry_23 rfl ⟨Nat.le_refl 0, Nat.le_refl 0⟩ hW
set_option maxHeartbeats 4000000 in
set_option maxRecDepth 100000 in
theorem q_X6_isFixed {g : GG} {σ : Hs} {post : Option Value → Hs → Prop} (r0 : Nat) (p0 : Int32) (hW : FI σ r0 6 3 (fun i1 => Do g M_X11_has 0 0 [.int i1, .int p0] σ (kI (fun i3 s2 => (narrow .boolean (.int i3) = .int i3 ∧ post (some (.int i3)) s2))))) : Do g M_X6_isFixed 0 0 [.ref r0, .int p0] σ post := by
  refine Do.of (by decide +kernel) (Nat.le_of_ble_eq_true rfl) ?_
  show Fr g M_X6_isFixed (0, 0, 0, 0) [(0, .ref r0), (1, .int p0)] [] 0 σ post
  refine fr_aload_n (pc := 0) 0 rfl rfl dX6_isFixed_0 ?_
  refine fr_getI (pc := 1) (T := TX6) (k := 3) kc_X6 (by decide) w_680 dX6_isFixed_1 hW (fun i1 hW => ?_)
  refine fr_iload_n (pc := 4) 1 rfl rfl dX6_isFixed_4 ?_
  refine fr_callSN_I (pc := 5) (As := [.int i1, .int p0]) (st := []) wd_X11_has ⟨RX11, by decide +kernel⟩ ok_X11_has (by decide) rfl (Nat.le_of_ble_eq_true rfl) dX6_isFixed_5 ⟨Nat.le_refl 0, Nat.le_refl 0⟩ hW (fun i3 s2 hW => ?_)
  exact fr_zret (pc := 8) dX6_isFixed_8 rfl ⟨Nat.le_refl 0, Nat.le_refl 0⟩ hW
set_option maxHeartbeats 4000000 in
set_option maxRecDepth 100000 in
theorem q_X6_mustSort {g : GG} {σ : Hs} {post : Option Value → Hs → Prop} (r0 : Nat) (hW : FI σ r0 6 5 (fun i1 => (i1 = (-1) → post (some (.int 0)) σ) ∧ (¬ i1 = (-1) → FI σ r0 6 5 (fun i2 => Rc σ r0 6 ∧ Do g M_X6_isFixed 0 0 [.ref r0, .int i2] σ (kI (fun i4 s3 => (¬ i4 = 0 → post (some (.int 0)) s3) ∧ (i4 = 0 → post (some (.int 1)) s3))))))) : Do g M_X6_mustSort 0 0 [.ref r0] σ post := by
  refine Do.of (by decide +kernel) (Nat.le_of_ble_eq_true rfl) ?_
  show Fr g M_X6_mustSort (0, 0, 0, 0) [(0, .ref r0)] [] 0 σ post
  refine fr_aload_n (pc := 0) 0 rfl rfl dX6_mustSort_0 ?_
  refine fr_getI (pc := 1) (T := TX6) (k := 5) kc_X6 (by decide) w_682 dX6_mustSort_1 hW (fun i1 hW => ?_)
  refine fr_iconst (pc := 4) (-1) (by decide) dX6_mustSort_4 ?_
  refine fr_icmp_eq (pc := 5) (tgt := 23) (by decide) dX6_mustSort_5 hW (fun hW => ?_) (fun hW => ?_)
  · refine fr_iconst (pc := 23) 0 (by decide) dX6_mustSort_23 ?_
    exact fr_zret (pc := 24) dX6_mustSort_24 rfl ⟨Nat.le_refl 0, Nat.le_refl 0⟩ ⟨rfl, hW⟩
  · refine fr_aload_n (pc := 8) 0 rfl rfl dX6_mustSort_8 ?_
    refine fr_aload_n (pc := 9) 0 rfl rfl dX6_mustSort_9 ?_
    refine fr_getI (pc := 10) (T := TX6) (k := 5) kc_X6 (by decide) w_682 dX6_mustSort_10 hW (fun i2 hW => ?_)
    obtain ⟨hrc, hW⟩ := hW
    refine fr_callV_I (pc := 13) (As := [.int i2]) (st := []) wd_X6_isFixed w_771 ok_X6_isFixed (by decide) rfl (Nat.le_of_ble_eq_true rfl) dX6_mustSort_13 ⟨Nat.le_refl 0, Nat.le_refl 0⟩ kc_X6 hrc hW (fun i4 s3 hW => ?_)
    refine fr_if_ne (pc := 16) (tgt := 23) (by decide) dX6_mustSort_16 hW (fun hW => ?_) (fun hW => ?_)
    · refine fr_iconst (pc := 23) 0 (by decide) dX6_mustSort_23 ?_
      exact fr_zret (pc := 24) dX6_mustSort_24 rfl ⟨Nat.le_refl 0, Nat.le_refl 0⟩ ⟨rfl, hW⟩
    · refine fr_iconst (pc := 19) 1 (by decide) dX6_mustSort_19 ?_
      refine fr_goto (pc := 20) (tgt := 24) (by decide) dX6_mustSort_20 ?_
      exact fr_zret (pc := 24) dX6_mustSort_24 rfl ⟨Nat.le_refl 0, Nat.le_refl 0⟩ ⟨rfl, hW⟩
set_option maxHeartbeats 4000000 in
set_option maxRecDepth 100000 in
theorem q_X9_add {g : GG} {σ : Hs} {post : Option Value → Hs → Prop} (r0 : Nat) (p0 : Int32) (p1 : Int32) (p2 : Int32) (hW : FR σ r0 9 2 (fun r1 => FI σ r0 9 7 (fun i2 => Rc σ r1 1 ∧ Do g M_X1_put 0 0 [.ref r1, .int i2, .int p0] σ (kV (fun s3 => FR s3 r0 9 3 (fun r4 => FI s3 r0 9 7 (fun i5 => Rc s3 r4 1 ∧ Do g M_X1_put 0 0 [.ref r4, .int i5, .int p1] s3 (kV (fun s6 => FR s6 r0 9 4 (fun r7 => FI s6 r0 9 7 (fun i8 => Rc s6 r7 1 ∧ Do g M_X1_put 0 0 [.ref r7, .int i8, .int p2] s6 (kV (fun s9 => FI s9 r0 9 7 (fun i10 => PF s9 r0 9 7 (.int (i10 + 1)) (fun s11 => post none s11))))))))))))))) : Do g M_X9_add 0 0 [.ref r0, .int p0, .int p1, .int p2] σ post := by
  refine Do.of (by decide +kernel) (Nat.le_of_ble_eq_true rfl) ?_
  show Fr g M_X9_add (0, 0, 0, 0) [(0, .ref r0), (1, .int p0), (2, .int p1), (3, .int p2)] [] 0 σ post
  refine fr_aload_n (pc := 0) 0 rfl rfl dX9_add_0 ?_
  refine fr_getR (pc := 1) (T := TX9) (k := 2) kc_X9 (by decide) w_532 dX9_add_1 hW (fun r1 hW => ?_)
  refine fr_aload_n (pc := 4) 0 rfl rfl dX9_add_4 ?_
  refine fr_getI (pc := 5) (T := TX9) (k := 7) kc_X9 (by decide) w_772 dX9_add_5 hW (fun i2 hW => ?_)
  refine fr_iload_n (pc := 8) 1 rfl rfl dX9_add_8 ?_
  obtain ⟨hrc, hW⟩ := hW
  refine fr_callV_V (pc := 9) (As := [.int i2, .int p0]) (st := []) wd_X1_put w_773 ok_X1_put (by decide) rfl (Nat.le_of_ble_eq_true rfl) dX9_add_9 ⟨Nat.le_refl 0, Nat.le_refl 0⟩ kc_X1 hrc hW (fun s3 hW => ?_)
  refine fr_aload_n (pc := 12) 0 rfl rfl dX9_add_12 ?_
  refine fr_getR (pc := 13) (T := TX9) (k := 3) kc_X9 (by decide) w_533 dX9_add_13 hW (fun r4 hW => ?_)
  refine fr_aload_n (pc := 16) 0 rfl rfl dX9_add_16 ?_
  refine fr_getI (pc := 17) (T := TX9) (k := 7) kc_X9 (by decide) w_772 dX9_add_17 hW (fun i5 hW => ?_)
  refine fr_iload_n (pc := 20) 2 rfl rfl dX9_add_20 ?_
  obtain ⟨hrc, hW⟩ := hW
  refine fr_callV_V (pc := 21) (As := [.int i5, .int p1]) (st := []) wd_X1_put w_773 ok_X1_put (by decide) rfl (Nat.le_of_ble_eq_true rfl) dX9_add_21 ⟨Nat.le_refl 0, Nat.le_refl 0⟩ kc_X1 hrc hW (fun s6 hW => ?_)
  refine fr_aload_n (pc := 24) 0 rfl rfl dX9_add_24 ?_
  refine fr_getR (pc := 25) (T := TX9) (k := 4) kc_X9 (by decide) w_534 dX9_add_25 hW (fun r7 hW => ?_)
  refine fr_aload_n (pc := 28) 0 rfl rfl dX9_add_28 ?_
  refine fr_getI (pc := 29) (T := TX9) (k := 7) kc_X9 (by decide) w_772 dX9_add_29 hW (fun i8 hW => ?_)
  refine fr_iload_n (pc := 32) 3 rfl rfl dX9_add_32 ?_
  obtain ⟨hrc, hW⟩ := hW
  refine fr_callV_V (pc := 33) (As := [.int i8, .int p2]) (st := []) wd_X1_put w_773 ok_X1_put (by decide) rfl (Nat.le_of_ble_eq_true rfl) dX9_add_33 ⟨Nat.le_refl 0, Nat.le_refl 0⟩ kc_X1 hrc hW (fun s9 hW => ?_)
  refine fr_aload_n (pc := 36) 0 rfl rfl dX9_add_36 ?_
  refine fr_dup (pc := 37) rfl dX9_add_37 ?_
  refine fr_getI (pc := 38) (T := TX9) (k := 7) kc_X9 (by decide) w_772 dX9_add_38 hW (fun i10 hW => ?_)
  refine fr_iconst (pc := 41) 1 (by decide) dX9_add_41 ?_
  refine fr_iadd (pc := 42) dX9_add_42 ?_
  refine fr_put (pc := 43) (T := TX9) (k := 7) kc_X9 (by decide) w_772 rfl rfl rfl dX9_add_43 hW (fun s11 hW => ?_)
  exact fr_ret (pc := 46) dX9_add_46 rfl ⟨Nat.le_refl 0, Nat.le_refl 0⟩ hW
set_option maxHeartbeats 4000000 in
set_option maxRecDepth 100000 in
theorem q_X2_columns {g : GG} {σ : Hs} {post : Option Value → Hs → Prop} (r0 : Nat) (hW : FI σ r0 2 4 (fun i1 => post (some (.int i1)) σ)) : Do g M_X2_columns 0 0 [.ref r0] σ post := by
  refine Do.of (by decide +kernel) (Nat.le_of_ble_eq_true rfl) ?_
  show Fr g M_X2_columns (0, 0, 0, 0) [(0, .ref r0)] [] 0 σ post
  refine fr_aload_n (pc := 0) 0 rfl rfl dX2_columns_0 ?_
  refine fr_getI (pc := 1) (T := TX2) (k := 4) kc_X2 (by decide) w_639 dX2_columns_1 hW (fun i1 hW => ?_)
  exact fr_iret (pc := 4) dX2_columns_4 rfl ⟨Nat.le_refl 0, Nat.le_refl 0⟩ hW
set_option maxHeartbeats 4000000 in
set_option maxRecDepth 100000 in
theorem q_X6_isBound {g : GG} {σ : Hs} {post : Option Value → Hs → Prop} (r0 : Nat) (p0 : Int32) (hW : FI σ r0 6 2 (fun i1 => Do g M_X11_has 0 0 [.int i1, .int p0] σ (kI (fun i3 s2 => (narrow .boolean (.int i3) = .int i3 ∧ post (some (.int i3)) s2))))) : Do g M_X6_isBound 0 0 [.ref r0, .int p0] σ post := by
  refine Do.of (by decide +kernel) (Nat.le_of_ble_eq_true rfl) ?_
  show Fr g M_X6_isBound (0, 0, 0, 0) [(0, .ref r0), (1, .int p0)] [] 0 σ post
  refine fr_aload_n (pc := 0) 0 rfl rfl dX6_isBound_0 ?_
  refine fr_getI (pc := 1) (T := TX6) (k := 2) kc_X6 (by decide) w_679 dX6_isBound_1 hW (fun i1 hW => ?_)
  refine fr_iload_n (pc := 4) 1 rfl rfl dX6_isBound_4 ?_
  refine fr_callSN_I (pc := 5) (As := [.int i1, .int p0]) (st := []) wd_X11_has ⟨RX11, by decide +kernel⟩ ok_X11_has (by decide) rfl (Nat.le_of_ble_eq_true rfl) dX6_isBound_5 ⟨Nat.le_refl 0, Nat.le_refl 0⟩ hW (fun i3 s2 hW => ?_)
  exact fr_zret (pc := 8) dX6_isBound_8 rfl ⟨Nat.le_refl 0, Nat.le_refl 0⟩ hW
def J_X2_runColumns_4 (g : GG) (post : Option Value → Hs → Prop) (σ : Hs) (a0 : Nat) (a1 : Nat) (v2 : Int32) (v3 : Int32) : Prop := Fr g M_X2_runColumns (0, 0, 0, 0) [(0, .ref a0), (1, .ref a1), (2, .int v2), (3, .int v3)] [] 4 σ post
set_option maxHeartbeats 4000000 in
set_option maxRecDepth 100000 in
theorem q_X2_runColumns {g : GG} {σ : Hs} {post : Option Value → Hs → Prop} (r0 : Nat) (p0 : Nat) (hW : J_X2_runColumns_4 g post σ r0 p0 0 0 ) : Do g M_X2_runColumns 0 0 [.ref r0, .ref p0] σ post := by
  refine Do.of (by decide +kernel) (Nat.le_of_ble_eq_true rfl) ?_
  show Fr g M_X2_runColumns (0, 0, 0, 0) [(0, .ref r0), (1, .ref p0)] [] 0 σ post
  refine fr_iconst (pc := 0) 0 (by decide) dX2_runColumns_0 ?_
  refine fr_istore_n (pc := 1) (lv' := [(2, .int 0), (0, .ref r0), (1, .ref p0)]) rfl (by decide) rfl dX2_runColumns_1 ?_
  refine fr_iconst (pc := 2) 0 (by decide) dX2_runColumns_2 ?_
  refine fr_istore_n (pc := 3) (lv' := [(3, .int 0), (2, .int 0), (0, .ref r0), (1, .ref p0)]) rfl (by decide) rfl dX2_runColumns_3 ?_
  exact fr_sub [2, 3, 1, 0] rfl hW
set_option maxHeartbeats 4000000 in
set_option maxRecDepth 100000 in
theorem q_X2_runColumns_4 {g : GG} {σ : Hs} {post : Option Value → Hs → Prop} (a0 : Nat) (a1 : Nat) (v2 : Int32) (v3 : Int32) (hW : FI σ a0 2 2 (fun i1 => (i1 ≤ v3 → post (some (.int v2)) σ) ∧ (¬ i1 ≤ v3 → FR σ a0 2 5 (fun r2 => Rc σ r2 1 ∧ Do g M_X1_at 0 0 [.ref r2, .int v3] σ (kI (fun i4 s3 => Rc s3 a1 6 ∧ Do g M_X6_isBound 0 0 [.ref a1, .int i4] s3 (kI (fun i8 s7 => (¬ i8 = 0 → Do g M_X11_with 0 0 [.int v2, .int i4] s7 (kI (fun i12 s11 => Rc s11 a1 6 ∧ Do g M_X6_isFixed 0 0 [.ref a1, .int i4] s11 (kI (fun i16 s15 => (¬ i16 = 0 → J_X2_runColumns_4 g post s15 a0 a1 i12 ((v3 + 1)) ) ∧ (i16 = 0 → post (some (.int i12)) s15)))))) ∧ (i8 = 0 → post (some (.int v2)) s7))))))))) : J_X2_runColumns_4 g post σ a0 a1 v2 v3 := by
  show Fr g M_X2_runColumns (0, 0, 0, 0) [(0, .ref a0), (1, .ref a1), (2, .int v2), (3, .int v3)] [] 4 σ post
  refine fr_iload_n (pc := 4) 3 rfl rfl dX2_runColumns_4 ?_
  refine fr_aload_n (pc := 5) 0 rfl rfl dX2_runColumns_5 ?_
  refine fr_getI (pc := 6) (T := TX2) (k := 2) kc_X2 (by decide) w_601 dX2_runColumns_6 hW (fun i1 hW => ?_)
  refine fr_icmp_ge (pc := 9) (tgt := 59) (by decide) dX2_runColumns_9 hW (fun hW => ?_) (fun hW => ?_)
  · refine fr_iload_n (pc := 59) 2 rfl rfl dX2_runColumns_59 ?_
    exact fr_iret (pc := 60) dX2_runColumns_60 rfl ⟨Nat.le_refl 0, Nat.le_refl 0⟩ hW
  · refine fr_aload_n (pc := 12) 0 rfl rfl dX2_runColumns_12 ?_
    refine fr_getR (pc := 13) (T := TX2) (k := 5) kc_X2 (by decide) w_602 dX2_runColumns_13 hW (fun r2 hW => ?_)
    refine fr_iload_n (pc := 16) 3 rfl rfl dX2_runColumns_16 ?_
    obtain ⟨hrc, hW⟩ := hW
    refine fr_callV_I (pc := 17) (As := [.int v3]) (st := []) wd_X1_at w_604 ok_X1_at (by decide) rfl (Nat.le_of_ble_eq_true rfl) dX2_runColumns_17 ⟨Nat.le_refl 0, Nat.le_refl 0⟩ kc_X1 hrc hW (fun i4 s3 hW => ?_)
    refine fr_istore (pc := 20) (lv' := [(4, .int i4), (0, .ref a0), (1, .ref a1), (2, .int v2), (3, .int v3)]) (by decide) rfl dX2_runColumns_20 ?_
    refine fr_aload_n (pc := 22) 2 rfl rfl dX2_runColumns_22 ?_
    refine fr_iload (pc := 23) 0 rfl dX2_runColumns_23 ?_
    obtain ⟨hrc, hW⟩ := hW
    refine fr_callV_I (pc := 25) (As := [.int i4]) (st := []) wd_X6_isBound w_774 ok_X6_isBound (by decide) rfl (Nat.le_of_ble_eq_true rfl) dX2_runColumns_25 ⟨Nat.le_refl 0, Nat.le_refl 0⟩ kc_X6 hrc hW (fun i8 s7 hW => ?_)
    refine fr_if_ne (pc := 28) (tgt := 34) (by decide) dX2_runColumns_28 hW (fun hW => ?_) (fun hW => ?_)
    · refine fr_iload_n (pc := 34) 3 rfl rfl dX2_runColumns_34 ?_
      refine fr_iload (pc := 35) 0 rfl dX2_runColumns_35 ?_
      refine fr_callSN_I (pc := 37) (As := [.int v2, .int i4]) (st := []) wd_X11_with ⟨RX11, by decide +kernel⟩ ok_X11_with (by decide) rfl (Nat.le_of_ble_eq_true rfl) dX2_runColumns_37 ⟨Nat.le_refl 0, Nat.le_refl 0⟩ hW (fun i12 s11 hW => ?_)
      refine fr_istore_n (pc := 40) (lv' := [(2, .int i12), (4, .int i4), (0, .ref a0), (1, .ref a1), (3, .int v3)]) rfl (by decide) rfl dX2_runColumns_40 ?_
      refine fr_aload_n (pc := 41) 3 rfl rfl dX2_runColumns_41 ?_
      refine fr_iload (pc := 42) 1 rfl dX2_runColumns_42 ?_
      obtain ⟨hrc, hW⟩ := hW
      refine fr_callV_I (pc := 44) (As := [.int i4]) (st := []) wd_X6_isFixed w_775 ok_X6_isFixed (by decide) rfl (Nat.le_of_ble_eq_true rfl) dX2_runColumns_44 ⟨Nat.le_refl 0, Nat.le_refl 0⟩ kc_X6 hrc hW (fun i16 s15 hW => ?_)
      refine fr_if_ne (pc := 47) (tgt := 53) (by decide) dX2_runColumns_47 hW (fun hW => ?_) (fun hW => ?_)
      · refine fr_iinc (pc := 53) (lv' := [(3, .int (v3 + 1)), (2, .int i12), (4, .int i4), (0, .ref a0), (1, .ref a1)]) (v3 + 1) 4 rfl (congrArg (fun z => v3 + z) (by decide)) (by decide) rfl dX2_runColumns_53 ?_
        refine fr_goto (pc := 56) (tgt := 4) (by decide) dX2_runColumns_56 ?_
        exact fr_sub [3, 4, 1, 0] rfl hW
      · refine fr_goto (pc := 50) (tgt := 59) (by decide) dX2_runColumns_50 ?_
        refine fr_iload_n (pc := 59) 0 rfl rfl dX2_runColumns_59 ?_
        exact fr_iret (pc := 60) dX2_runColumns_60 rfl ⟨Nat.le_refl 0, Nat.le_refl 0⟩ hW
    · refine fr_goto (pc := 31) (tgt := 59) (by decide) dX2_runColumns_31 ?_
      refine fr_iload_n (pc := 59) 3 rfl rfl dX2_runColumns_59 ?_
      exact fr_iret (pc := 60) dX2_runColumns_60 rfl ⟨Nat.le_refl 0, Nat.le_refl 0⟩ hW
