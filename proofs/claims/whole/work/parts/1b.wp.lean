set_option maxHeartbeats 4000000 in
set_option maxRecDepth 100000 in
theorem q_X11_part {g : GG} {σ : Hs} {post : Option Value → Hs → Prop} (r0 : Nat) (p0 : Int32) (p1 : Int32) (p2 : Int32) (hW : FR σ r0 11 4 (fun r1 => Rc σ r1 5 ∧ Do g M_X5_of 0 0 [.ref r1, .int p0] σ (kA (fun s2 => post (some (.int (-101))) s2) (fun r5 s2 => (p1 < 0 → post (some (.int (-102))) s2) ∧ (¬ p1 < 0 → (4 ≤ p1 → post (some (.int (-102))) s2) ∧ (¬ 4 ≤ p1 → (p2 < 0 → post (some (.int (-102))) s2) ∧ (¬ p2 < 0 → (p2 ≤ 2 → Rc s2 r5 4 ∧ Do g M_X4_partCount 0 0 [.ref r5, .int p1] s2 (kI (fun i7 s6 => (¬ i7 = 0 → (¬ p2 = 0 → (¬ p2 = 1 → Rc s6 r5 4 ∧ Do g M_X4_partGreatest 0 0 [.ref r5, .int p1] s6 (kI (fun i11 s10 => post (some (.int i11)) s10))) ∧ (p2 = 1 → Rc s6 r5 4 ∧ Do g M_X4_partLeast 0 0 [.ref r5, .int p1] s6 (kI (fun i15 s14 => post (some (.int i15)) s14)))) ∧ (p2 = 0 → Rc s6 r5 4 ∧ Do g M_X4_partCount 0 0 [.ref r5, .int p1] s6 (kI (fun i19 s18 => post (some (.int i19)) s18)))) ∧ (i7 = 0 → post (some (.int (-1))) s6)))) ∧ (¬ p2 ≤ 2 → post (some (.int (-102))) s2)))))))) : Do g M_X11_part 0 0 [.ref r0, .int p0, .int p1, .int p2] σ post := by
  refine Do.of (by decide +kernel) (Nat.le_of_ble_eq_true rfl) ?_
  show Fr g M_X11_part (0, 0, 0, 0) [(0, .ref r0), (1, .int p0), (2, .int p1), (3, .int p2)] [] 0 σ post
  refine fr_aload_n (pc := 0) 0 rfl rfl dX11_part_0 ?_
  refine fr_getR (pc := 1) (T := TX11) (k := 4) kc_X11 (by decide) w_998 dX11_part_1 hW (fun r1 hW => ?_)
  refine fr_iload_n (pc := 4) 1 rfl rfl dX11_part_4 ?_
  obtain ⟨hrc, hW⟩ := hW
  refine fr_callV_A (pc := 5) (As := [.int p0]) (st := []) wd_X5_of w_1336 ok_X5_of (by decide) rfl (Nat.le_of_ble_eq_true rfl) dX11_part_5 ⟨Nat.le_refl 0, Nat.le_refl 0⟩ kc_X5 hrc hW (fun s2 hW => ?_) (fun r5 s2 hW => ?_)
  · refine fr_astoreN (pc := 8) (lv' := [(4, .null), (0, .ref r0), (1, .int p0), (2, .int p1), (3, .int p2)]) (by decide) rfl dX11_part_8 ?_
    refine fr_aloadN (pc := 10) 0 rfl dX11_part_10 ?_
    refine fr_ifnonnullN (pc := 12) dX11_part_12 ?_
    refine fr_bipush (pc := 15) (-101) (by decide) dX11_part_15 ?_
    exact fr_iret (pc := 17) dX11_part_17 rfl ⟨Nat.le_refl 0, Nat.le_refl 0⟩ hW
  · refine fr_astore (pc := 8) (lv' := [(4, .ref r5), (0, .ref r0), (1, .int p0), (2, .int p1), (3, .int p2)]) (by decide) rfl dX11_part_8 ?_
    refine fr_aload (pc := 10) 0 rfl dX11_part_10 ?_
    refine fr_ifnonnull (pc := 12) (tgt := 18) (by decide) dX11_part_12 ?_
    refine fr_iload_n (pc := 18) 3 rfl rfl dX11_part_18 ?_
    refine fr_if_lt (pc := 19) (tgt := 36) (by decide) dX11_part_19 hW (fun hW => ?_) (fun hW => ?_)
    · refine fr_bipush (pc := 36) (-102) (by decide) dX11_part_36 ?_
      exact fr_iret (pc := 38) dX11_part_38 rfl ⟨Nat.le_refl 0, Nat.le_refl 0⟩ hW
    · refine fr_iload_n (pc := 22) 3 rfl rfl dX11_part_22 ?_
      refine fr_iconst (pc := 23) 4 (by decide) dX11_part_23 ?_
      refine fr_icmp_ge (pc := 24) (tgt := 36) (by decide) dX11_part_24 hW (fun hW => ?_) (fun hW => ?_)
      · refine fr_bipush (pc := 36) (-102) (by decide) dX11_part_36 ?_
        exact fr_iret (pc := 38) dX11_part_38 rfl ⟨Nat.le_refl 0, Nat.le_refl 0⟩ hW
      · refine fr_iload_n (pc := 27) 4 rfl rfl dX11_part_27 ?_
        refine fr_if_lt (pc := 28) (tgt := 36) (by decide) dX11_part_28 hW (fun hW => ?_) (fun hW => ?_)
        · refine fr_bipush (pc := 36) (-102) (by decide) dX11_part_36 ?_
          exact fr_iret (pc := 38) dX11_part_38 rfl ⟨Nat.le_refl 0, Nat.le_refl 0⟩ hW
        · refine fr_iload_n (pc := 31) 4 rfl rfl dX11_part_31 ?_
          refine fr_iconst (pc := 32) 2 (by decide) dX11_part_32 ?_
          refine fr_icmp_le (pc := 33) (tgt := 39) (by decide) dX11_part_33 hW (fun hW => ?_) (fun hW => ?_)
          · refine fr_aload (pc := 39) 0 rfl dX11_part_39 ?_
            refine fr_iload_n (pc := 41) 3 rfl rfl dX11_part_41 ?_
            obtain ⟨hrc, hW⟩ := hW
            refine fr_callV_I (pc := 42) (As := [.int p1]) (st := []) wd_X4_partCount w_1337 ok_X4_partCount (by decide) rfl (Nat.le_of_ble_eq_true rfl) dX11_part_42 ⟨Nat.le_refl 0, Nat.le_refl 0⟩ kc_X4 hrc hW (fun i7 s6 hW => ?_)
            refine fr_if_ne (pc := 45) (tgt := 50) (by decide) dX11_part_45 hW (fun hW => ?_) (fun hW => ?_)
            · refine fr_iload_n (pc := 50) 4 rfl rfl dX11_part_50 ?_
              refine fr_if_ne (pc := 51) (tgt := 61) (by decide) dX11_part_51 hW (fun hW => ?_) (fun hW => ?_)
              · refine fr_iload_n (pc := 61) 4 rfl rfl dX11_part_61 ?_
                refine fr_iconst (pc := 62) 1 (by decide) dX11_part_62 ?_
                refine fr_icmp_ne (pc := 63) (tgt := 75) (by decide) dX11_part_63 hW (fun hW => ?_) (fun hW => ?_)
                · refine fr_aload (pc := 75) 0 rfl dX11_part_75 ?_
                  refine fr_iload_n (pc := 77) 3 rfl rfl dX11_part_77 ?_
                  obtain ⟨hrc, hW⟩ := hW
                  refine fr_callV_I (pc := 78) (As := [.int p1]) (st := []) wd_X4_partGreatest w_1339 ok_X4_partGreatest (by decide) rfl (Nat.le_of_ble_eq_true rfl) dX11_part_78 ⟨Nat.le_refl 0, Nat.le_refl 0⟩ kc_X4 hrc hW (fun i11 s10 hW => ?_)
                  exact fr_iret (pc := 81) dX11_part_81 rfl ⟨Nat.le_refl 0, Nat.le_refl 0⟩ hW
                · refine fr_aload (pc := 66) 0 rfl dX11_part_66 ?_
                  refine fr_iload_n (pc := 68) 3 rfl rfl dX11_part_68 ?_
                  obtain ⟨hrc, hW⟩ := hW
                  refine fr_callV_I (pc := 69) (As := [.int p1]) (st := []) wd_X4_partLeast w_1338 ok_X4_partLeast (by decide) rfl (Nat.le_of_ble_eq_true rfl) dX11_part_69 ⟨Nat.le_refl 0, Nat.le_refl 0⟩ kc_X4 hrc hW (fun i15 s14 hW => ?_)
                  refine fr_goto (pc := 72) (tgt := 81) (by decide) dX11_part_72 ?_
                  exact fr_iret (pc := 81) dX11_part_81 rfl ⟨Nat.le_refl 0, Nat.le_refl 0⟩ hW
              · refine fr_aload (pc := 54) 0 rfl dX11_part_54 ?_
                refine fr_iload_n (pc := 56) 3 rfl rfl dX11_part_56 ?_
                obtain ⟨hrc, hW⟩ := hW
                refine fr_callV_I (pc := 57) (As := [.int p1]) (st := []) wd_X4_partCount w_1337 ok_X4_partCount (by decide) rfl (Nat.le_of_ble_eq_true rfl) dX11_part_57 ⟨Nat.le_refl 0, Nat.le_refl 0⟩ kc_X4 hrc hW (fun i19 s18 hW => ?_)
                exact fr_iret (pc := 60) dX11_part_60 rfl ⟨Nat.le_refl 0, Nat.le_refl 0⟩ hW
            · refine fr_iconst (pc := 48) (-1) (by decide) dX11_part_48 ?_
              exact fr_iret (pc := 49) dX11_part_49 rfl ⟨Nat.le_refl 0, Nat.le_refl 0⟩ hW
          · refine fr_bipush (pc := 36) (-102) (by decide) dX11_part_36 ?_
            exact fr_iret (pc := 38) dX11_part_38 rfl ⟨Nat.le_refl 0, Nat.le_refl 0⟩ hW
set_option maxHeartbeats 4000000 in
set_option maxRecDepth 100000 in
theorem q_X12_partOf {g : GG} {σ : Hs} {post : Option Value → Hs → Prop} (r0 : Nat) (p0 : Int32) (p1 : Int32) (p2 : Int32) (hW : FR σ r0 12 22 (fun r1 => AI g σ r1 1 p0 (fun i2 => (i2 = 0 → post (some (.int (-1))) σ) ∧ (¬ i2 = 0 → FR σ r0 12 23 (fun r3 => AI g σ r3 0 ((12 * p0) + (3 * p1)) (fun i4 => (i4 ≤ 0 → post (some (.int (-1))) σ) ∧ (¬ i4 ≤ 0 → FR σ r0 12 23 (fun r5 => AI g σ r5 0 (((12 * p0) + (3 * p1)) + p2) (fun i6 => post (some (.int i6)) σ))))))))) : Do g M_X12_partOf 0 0 [.ref r0, .int p0, .int p1, .int p2] σ post := by
  refine Do.of (by decide +kernel) (Nat.le_of_ble_eq_true rfl) ?_
  show Fr g M_X12_partOf (0, 0, 0, 0) [(0, .ref r0), (1, .int p0), (2, .int p1), (3, .int p2)] [] 0 σ post
  refine fr_aload_n (pc := 0) 0 rfl rfl dX12_partOf_0 ?_
  refine fr_getR (pc := 1) (T := TX12) (k := 22) kc_X12 (by decide) w_1022 dX12_partOf_1 hW (fun r1 hW => ?_)
  refine fr_iload_n (pc := 4) 1 rfl rfl dX12_partOf_4 ?_
  refine fr_zald (pc := 5) dX12_partOf_5 hW (fun i2 hW => ?_)
  refine fr_if_eq (pc := 6) (tgt := 43) (by decide) dX12_partOf_6 hW (fun hW => ?_) (fun hW => ?_)
  · refine fr_iconst (pc := 43) (-1) (by decide) dX12_partOf_43 ?_
    exact fr_iret (pc := 44) dX12_partOf_44 rfl ⟨Nat.le_refl 0, Nat.le_refl 0⟩ hW
  · refine fr_aload_n (pc := 9) 0 rfl rfl dX12_partOf_9 ?_
    refine fr_getR (pc := 10) (T := TX12) (k := 23) kc_X12 (by decide) w_1023 dX12_partOf_10 hW (fun r3 hW => ?_)
    refine fr_bipush (pc := 13) 12 (by decide) dX12_partOf_13 ?_
    refine fr_iload_n (pc := 15) 1 rfl rfl dX12_partOf_15 ?_
    refine fr_imul (pc := 16) dX12_partOf_16 ?_
    refine fr_iconst (pc := 17) 3 (by decide) dX12_partOf_17 ?_
    refine fr_iload_n (pc := 18) 2 rfl rfl dX12_partOf_18 ?_
    refine fr_imul (pc := 19) dX12_partOf_19 ?_
    refine fr_iadd (pc := 20) dX12_partOf_20 ?_
    refine fr_iald (pc := 21) dX12_partOf_21 hW (fun i4 hW => ?_)
    refine fr_if_le (pc := 22) (tgt := 43) (by decide) dX12_partOf_22 hW (fun hW => ?_) (fun hW => ?_)
    · refine fr_iconst (pc := 43) (-1) (by decide) dX12_partOf_43 ?_
      exact fr_iret (pc := 44) dX12_partOf_44 rfl ⟨Nat.le_refl 0, Nat.le_refl 0⟩ hW
    · refine fr_aload_n (pc := 25) 0 rfl rfl dX12_partOf_25 ?_
      refine fr_getR (pc := 26) (T := TX12) (k := 23) kc_X12 (by decide) w_1023 dX12_partOf_26 hW (fun r5 hW => ?_)
      refine fr_bipush (pc := 29) 12 (by decide) dX12_partOf_29 ?_
      refine fr_iload_n (pc := 31) 1 rfl rfl dX12_partOf_31 ?_
      refine fr_imul (pc := 32) dX12_partOf_32 ?_
      refine fr_iconst (pc := 33) 3 (by decide) dX12_partOf_33 ?_
      refine fr_iload_n (pc := 34) 2 rfl rfl dX12_partOf_34 ?_
      refine fr_imul (pc := 35) dX12_partOf_35 ?_
      refine fr_iadd (pc := 36) dX12_partOf_36 ?_
      refine fr_iload_n (pc := 37) 3 rfl rfl dX12_partOf_37 ?_
      refine fr_iadd (pc := 38) dX12_partOf_38 ?_
      refine fr_iald (pc := 39) dX12_partOf_39 hW (fun i6 hW => ?_)
      refine fr_goto (pc := 40) (tgt := 44) (by decide) dX12_partOf_40 ?_
      exact fr_iret (pc := 44) dX12_partOf_44 rfl ⟨Nat.le_refl 0, Nat.le_refl 0⟩ hW
set_option maxHeartbeats 4000000 in
set_option maxRecDepth 100000 in
theorem q_X12_part {g : GG} {σ : Hs} {post : Option Value → Hs → Prop} (r0 : Nat) (p0 : Int32) (p1 : Int32) (p2 : Int32) (hW : Do g M_X12_in 0 0 [.int p0, .int 0, .int 3] σ (kI (fun i2 s1 => (¬ i2 = 0 → Do g M_X12_in 0 0 [.int p1, .int 0, .int 3] s1 (kI (fun i6 s5 => (i6 = 0 → post (some (.int (-102))) s5) ∧ (¬ i6 = 0 → Do g M_X12_in 0 0 [.int p2, .int 0, .int 2] s5 (kI (fun i10 s9 => (i10 = 0 → post (some (.int (-102))) s9) ∧ (¬ i10 = 0 → Rc s9 r0 12 ∧ Do g M_X12_partOf 0 0 [.ref r0, .int p0, .int p1, .int p2] s9 (kI (fun i14 s13 => post (some (.int i14)) s13))))))))) ∧ (i2 = 0 → post (some (.int (-101))) s1)))) : Do g M_X12_part 0 0 [.ref r0, .int p0, .int p1, .int p2] σ post := by
  refine Do.of (by decide +kernel) (Nat.le_of_ble_eq_true rfl) ?_
  show Fr g M_X12_part (0, 0, 0, 0) [(0, .ref r0), (1, .int p0), (2, .int p1), (3, .int p2)] [] 0 σ post
  refine fr_iload_n (pc := 0) 1 rfl rfl dX12_part_0 ?_
  refine fr_iconst (pc := 1) 0 (by decide) dX12_part_1 ?_
  refine fr_iconst (pc := 2) 3 (by decide) dX12_part_2 ?_
  refine fr_callS_I (pc := 3) (As := [.int p0, .int 0, .int 3]) (st := []) wd_X12_in w_1067 ok_X12_in (by decide) rfl (Nat.le_of_ble_eq_true rfl) dX12_part_3 ⟨Nat.le_refl 0, Nat.le_refl 0⟩ hW (fun i2 s1 hW => ?_)
  refine fr_if_ne (pc := 6) (tgt := 12) (by decide) dX12_part_6 hW (fun hW => ?_) (fun hW => ?_)
  · refine fr_iload_n (pc := 12) 2 rfl rfl dX12_part_12 ?_
    refine fr_iconst (pc := 13) 0 (by decide) dX12_part_13 ?_
    refine fr_iconst (pc := 14) 3 (by decide) dX12_part_14 ?_
    refine fr_callS_I (pc := 15) (As := [.int p1, .int 0, .int 3]) (st := []) wd_X12_in w_1067 ok_X12_in (by decide) rfl (Nat.le_of_ble_eq_true rfl) dX12_part_15 ⟨Nat.le_refl 0, Nat.le_refl 0⟩ hW (fun i6 s5 hW => ?_)
    refine fr_if_eq (pc := 18) (tgt := 40) (by decide) dX12_part_18 hW (fun hW => ?_) (fun hW => ?_)
    · refine fr_bipush (pc := 40) (-102) (by decide) dX12_part_40 ?_
      exact fr_iret (pc := 42) dX12_part_42 rfl ⟨Nat.le_refl 0, Nat.le_refl 0⟩ hW
    · refine fr_iload_n (pc := 21) 3 rfl rfl dX12_part_21 ?_
      refine fr_iconst (pc := 22) 0 (by decide) dX12_part_22 ?_
      refine fr_iconst (pc := 23) 2 (by decide) dX12_part_23 ?_
      refine fr_callS_I (pc := 24) (As := [.int p2, .int 0, .int 2]) (st := []) wd_X12_in w_1067 ok_X12_in (by decide) rfl (Nat.le_of_ble_eq_true rfl) dX12_part_24 ⟨Nat.le_refl 0, Nat.le_refl 0⟩ hW (fun i10 s9 hW => ?_)
      refine fr_if_eq (pc := 27) (tgt := 40) (by decide) dX12_part_27 hW (fun hW => ?_) (fun hW => ?_)
      · refine fr_bipush (pc := 40) (-102) (by decide) dX12_part_40 ?_
        exact fr_iret (pc := 42) dX12_part_42 rfl ⟨Nat.le_refl 0, Nat.le_refl 0⟩ hW
      · refine fr_aload_n (pc := 30) 0 rfl rfl dX12_part_30 ?_
        refine fr_iload_n (pc := 31) 1 rfl rfl dX12_part_31 ?_
        refine fr_iload_n (pc := 32) 2 rfl rfl dX12_part_32 ?_
        refine fr_iload_n (pc := 33) 3 rfl rfl dX12_part_33 ?_
        obtain ⟨hrc, hW⟩ := hW
        refine fr_callV_I (pc := 34) (As := [.int p0, .int p1, .int p2]) (st := []) wd_X12_partOf w_1340 ok_X12_partOf (by decide) rfl (Nat.le_of_ble_eq_true rfl) dX12_part_34 ⟨Nat.le_refl 0, Nat.le_refl 0⟩ kc_X12 hrc hW (fun i14 s13 hW => ?_)
        refine fr_goto (pc := 37) (tgt := 42) (by decide) dX12_part_37 ?_
        exact fr_iret (pc := 42) dX12_part_42 rfl ⟨Nat.le_refl 0, Nat.le_refl 0⟩ hW
  · refine fr_bipush (pc := 9) (-101) (by decide) dX12_part_9 ?_
    exact fr_iret (pc := 11) dX12_part_11 rfl ⟨Nat.le_refl 0, Nat.le_refl 0⟩ hW
set_option maxHeartbeats 4000000 in
set_option maxRecDepth 100000 in
theorem q_X4_isTaken {g : GG} {σ : Hs} {post : Option Value → Hs → Prop} (r0 : Nat) (hW : FI σ r0 4 3 (fun i1 => (narrow .boolean (.int i1) = .int i1 ∧ post (some (.int i1)) σ))) : Do g M_X4_isTaken 0 0 [.ref r0] σ post := by
  refine Do.of (by decide +kernel) (Nat.le_of_ble_eq_true rfl) ?_
  show Fr g M_X4_isTaken (0, 0, 0, 0) [(0, .ref r0)] [] 0 σ post
  refine fr_aload_n (pc := 0) 0 rfl rfl dX4_isTaken_0 ?_
  refine fr_getI (pc := 1) (T := TX4) (k := 3) kc_X4 (by decide) w_1324 dX4_isTaken_1 hW (fun i1 hW => ?_)
  exact fr_zret (pc := 4) dX4_isTaken_4 rfl ⟨Nat.le_refl 0, Nat.le_refl 0⟩ hW
def J_X4_surelyWithin_5 (g : GG) (post : Option Value → Hs → Prop) (σ : Hs) (a0 : Nat) (v1 : Int32) (v2 : Int32) (v3 : Int32) (v4 : Int32) : Prop := Fr g M_X4_surelyWithin (0, 0, 0, 0) [(0, .ref a0), (1, .int v1), (2, .int v2), (3, .int v3), (4, .int v4)] [] 5 σ post
set_option maxHeartbeats 4000000 in
set_option maxRecDepth 100000 in
theorem q_X4_surelyWithin {g : GG} {σ : Hs} {post : Option Value → Hs → Prop} (r0 : Nat) (p0 : Int32) (p1 : Int32) (hW : J_X4_surelyWithin_5 g post σ r0 p0 p1 0 0 ) : Do g M_X4_surelyWithin 0 0 [.ref r0, .int p0, .int p1] σ post := by
  refine Do.of (by decide +kernel) (Nat.le_of_ble_eq_true rfl) ?_
  show Fr g M_X4_surelyWithin (0, 0, 0, 0) [(0, .ref r0), (1, .int p0), (2, .int p1)] [] 0 σ post
  refine fr_iconst (pc := 0) 0 (by decide) dX4_surelyWithin_0 ?_
  refine fr_istore_n (pc := 1) (lv' := [(3, .int 0), (0, .ref r0), (1, .int p0), (2, .int p1)]) rfl (by decide) rfl dX4_surelyWithin_1 ?_
  refine fr_iconst (pc := 2) 0 (by decide) dX4_surelyWithin_2 ?_
  refine fr_istore (pc := 3) (lv' := [(4, .int 0), (3, .int 0), (0, .ref r0), (1, .int p0), (2, .int p1)]) (by decide) rfl dX4_surelyWithin_3 ?_
  exact fr_sub [2, 3, 4, 1, 0] rfl hW
set_option maxHeartbeats 4000000 in
set_option maxRecDepth 100000 in
theorem q_X4_surelyWithin_5 {g : GG} {σ : Hs} {post : Option Value → Hs → Prop} (a0 : Nat) (v1 : Int32) (v2 : Int32) (v3 : Int32) (v4 : Int32) (hW : (4 ≤ v4 → post (some (.int v3)) σ) ∧ (¬ 4 ≤ v4 → FR σ a0 4 1 (fun r1 => Rc σ r1 1 ∧ Do g M_X1_at 0 0 [.ref r1, .int v4] σ (kI (fun i3 s2 => (i3 < v1 → J_X4_surelyWithin_5 g post s2 a0 v1 v2 v3 ((v4 + 1)) ) ∧ (¬ i3 < v1 → FR s2 a0 4 2 (fun r6 => Rc s2 r6 1 ∧ Do g M_X1_at 0 0 [.ref r6, .int v4] s2 (kI (fun i8 s7 => (v2 < i8 → J_X4_surelyWithin_5 g post s7 a0 v1 v2 v3 ((v4 + 1)) ) ∧ (¬ v2 < i8 → FR s7 a0 4 0 (fun r11 => Rc s7 r11 1 ∧ Do g M_X1_at 0 0 [.ref r11, .int v4] s7 (kI (fun i13 s12 => J_X4_surelyWithin_5 g post s12 a0 v1 v2 ((v3 + i13)) ((v4 + 1)) ))))))))))))) : J_X4_surelyWithin_5 g post σ a0 v1 v2 v3 v4 := by
  show Fr g M_X4_surelyWithin (0, 0, 0, 0) [(0, .ref a0), (1, .int v1), (2, .int v2), (3, .int v3), (4, .int v4)] [] 5 σ post
  refine fr_iload (pc := 5) 4 rfl dX4_surelyWithin_5 ?_
  refine fr_iconst (pc := 7) 4 (by decide) dX4_surelyWithin_7 ?_
  refine fr_icmp_ge (pc := 8) (tgt := 55) (by decide) dX4_surelyWithin_8 hW (fun hW => ?_) (fun hW => ?_)
  · refine fr_iload_n (pc := 55) 3 rfl rfl dX4_surelyWithin_55 ?_
    exact fr_iret (pc := 56) dX4_surelyWithin_56 rfl ⟨Nat.le_refl 0, Nat.le_refl 0⟩ hW
  · refine fr_aload_n (pc := 11) 0 rfl rfl dX4_surelyWithin_11 ?_
    refine fr_getR (pc := 12) (T := TX4) (k := 1) kc_X4 (by decide) w_966 dX4_surelyWithin_12 hW (fun r1 hW => ?_)
    refine fr_iload (pc := 15) 4 rfl dX4_surelyWithin_15 ?_
    obtain ⟨hrc, hW⟩ := hW
    refine fr_callV_I (pc := 17) (As := [.int v4]) (st := []) wd_X1_at w_1326 ok_X1_at (by decide) rfl (Nat.le_of_ble_eq_true rfl) dX4_surelyWithin_17 ⟨Nat.le_refl 0, Nat.le_refl 0⟩ kc_X1 hrc hW (fun i3 s2 hW => ?_)
    refine fr_iload_n (pc := 20) 1 rfl rfl dX4_surelyWithin_20 ?_
    refine fr_icmp_lt (pc := 21) (tgt := 49) (by decide) dX4_surelyWithin_21 hW (fun hW => ?_) (fun hW => ?_)
    · refine fr_iinc (pc := 49) (lv' := [(4, .int (v4 + 1)), (0, .ref a0), (1, .int v1), (2, .int v2), (3, .int v3)]) (v4 + 1) 4 rfl (congrArg (fun z => v4 + z) (by decide)) (by decide) rfl dX4_surelyWithin_49 ?_
      refine fr_goto (pc := 52) (tgt := 5) (by decide) dX4_surelyWithin_52 ?_
      exact fr_sub [1, 2, 3, 4, 0] rfl hW
    · refine fr_aload_n (pc := 24) 0 rfl rfl dX4_surelyWithin_24 ?_
      refine fr_getR (pc := 25) (T := TX4) (k := 2) kc_X4 (by decide) w_967 dX4_surelyWithin_25 hW (fun r6 hW => ?_)
      refine fr_iload (pc := 28) 4 rfl dX4_surelyWithin_28 ?_
      obtain ⟨hrc, hW⟩ := hW
      refine fr_callV_I (pc := 30) (As := [.int v4]) (st := []) wd_X1_at w_1326 ok_X1_at (by decide) rfl (Nat.le_of_ble_eq_true rfl) dX4_surelyWithin_30 ⟨Nat.le_refl 0, Nat.le_refl 0⟩ kc_X1 hrc hW (fun i8 s7 hW => ?_)
      refine fr_iload_n (pc := 33) 2 rfl rfl dX4_surelyWithin_33 ?_
      refine fr_icmp_gt (pc := 34) (tgt := 49) (by decide) dX4_surelyWithin_34 hW (fun hW => ?_) (fun hW => ?_)
      · refine fr_iinc (pc := 49) (lv' := [(4, .int (v4 + 1)), (0, .ref a0), (1, .int v1), (2, .int v2), (3, .int v3)]) (v4 + 1) 4 rfl (congrArg (fun z => v4 + z) (by decide)) (by decide) rfl dX4_surelyWithin_49 ?_
        refine fr_goto (pc := 52) (tgt := 5) (by decide) dX4_surelyWithin_52 ?_
        exact fr_sub [1, 2, 3, 4, 0] rfl hW
      · refine fr_iload_n (pc := 37) 3 rfl rfl dX4_surelyWithin_37 ?_
        refine fr_aload_n (pc := 38) 0 rfl rfl dX4_surelyWithin_38 ?_
        refine fr_getR (pc := 39) (T := TX4) (k := 0) kc_X4 (by decide) w_965 dX4_surelyWithin_39 hW (fun r11 hW => ?_)
        refine fr_iload (pc := 42) 4 rfl dX4_surelyWithin_42 ?_
        obtain ⟨hrc, hW⟩ := hW
        refine fr_callV_I (pc := 44) (As := [.int v4]) (st := [.int v3]) wd_X1_at w_1326 ok_X1_at (by decide) rfl (Nat.le_of_ble_eq_true rfl) dX4_surelyWithin_44 ⟨Nat.le_refl 0, Nat.le_refl 0⟩ kc_X1 hrc hW (fun i13 s12 hW => ?_)
        refine fr_iadd (pc := 47) dX4_surelyWithin_47 ?_
        refine fr_istore_n (pc := 48) (lv' := [(3, .int (v3 + i13)), (0, .ref a0), (1, .int v1), (2, .int v2), (4, .int v4)]) rfl (by decide) rfl dX4_surelyWithin_48 ?_
        refine fr_iinc (pc := 49) (lv' := [(4, .int (v4 + 1)), (3, .int (v3 + i13)), (0, .ref a0), (1, .int v1), (2, .int v2)]) (v4 + 1) 4 rfl (congrArg (fun z => v4 + z) (by decide)) (by decide) rfl dX4_surelyWithin_49 ?_
        refine fr_goto (pc := 52) (tgt := 5) (by decide) dX4_surelyWithin_52 ?_
        exact fr_sub [2, 3, 4, 1, 0] rfl hW
set_option maxHeartbeats 4000000 in
set_option maxRecDepth 100000 in
theorem q_X4_shared {g : GG} {σ : Hs} {post : Option Value → Hs → Prop} (r0 : Nat) (p0 : Int32) (p1 : Int32) (p2 : Int32) (hW : FR σ r0 4 1 (fun r1 => Rc σ r1 1 ∧ Do g M_X1_at 0 0 [.ref r1, .int p0] σ (kI (fun i3 s2 => FR s2 r0 4 2 (fun r6 => Rc s2 r6 1 ∧ Do g M_X1_at 0 0 [.ref r6, .int p0] s2 (kI (fun i8 s7 => post (some (.int (if 0 < (((if p2 < i8 then p2 else i8) - (if i3 < p1 then p1 else i3)) + 1) then (((if p2 < i8 then p2 else i8) - (if i3 < p1 then p1 else i3)) + 1) else 0))) s7))))))) : Do g M_X4_shared 0 0 [.ref r0, .int p0, .int p1, .int p2] σ post := by
  refine Do.of (by decide +kernel) (Nat.le_of_ble_eq_true rfl) ?_
  show Fr g M_X4_shared (0, 0, 0, 0) [(0, .ref r0), (1, .int p0), (2, .int p1), (3, .int p2)] [] 0 σ post
  refine fr_aload_n (pc := 0) 0 rfl rfl dX4_shared_0 ?_
  refine fr_getR (pc := 1) (T := TX4) (k := 1) kc_X4 (by decide) w_966 dX4_shared_1 hW (fun r1 hW => ?_)
  refine fr_iload_n (pc := 4) 1 rfl rfl dX4_shared_4 ?_
  obtain ⟨hrc, hW⟩ := hW
  refine fr_callV_I (pc := 5) (As := [.int p0]) (st := []) wd_X1_at w_1326 ok_X1_at (by decide) rfl (Nat.le_of_ble_eq_true rfl) dX4_shared_5 ⟨Nat.le_refl 0, Nat.le_refl 0⟩ kc_X1 hrc hW (fun i3 s2 hW => ?_)
  refine fr_iload_n (pc := 8) 2 rfl rfl dX4_shared_8 ?_
  refine fr_mmax (pc := 9) ⟨w_1341, w_1170, w_1118, w_1171⟩ (by decide) (Nat.le_of_ble_eq_true rfl) dX4_shared_9 ⟨Nat.le_refl 0, Nat.le_refl 0⟩ ?_
  refine fr_istore (pc := 12) (lv' := [(4, .int (if i3 < p1 then p1 else i3)), (0, .ref r0), (1, .int p0), (2, .int p1), (3, .int p2)]) (by decide) rfl dX4_shared_12 ?_
  refine fr_aload_n (pc := 14) 1 rfl rfl dX4_shared_14 ?_
  refine fr_getR (pc := 15) (T := TX4) (k := 2) kc_X4 (by decide) w_967 dX4_shared_15 hW (fun r6 hW => ?_)
  refine fr_iload_n (pc := 18) 2 rfl rfl dX4_shared_18 ?_
  obtain ⟨hrc, hW⟩ := hW
  refine fr_callV_I (pc := 19) (As := [.int p0]) (st := []) wd_X1_at w_1326 ok_X1_at (by decide) rfl (Nat.le_of_ble_eq_true rfl) dX4_shared_19 ⟨Nat.le_refl 0, Nat.le_refl 0⟩ kc_X1 hrc hW (fun i8 s7 hW => ?_)
  refine fr_iload_n (pc := 22) 4 rfl rfl dX4_shared_22 ?_
  refine fr_mmin (pc := 23) ⟨w_1342, w_1117, w_1118, w_1119⟩ (by decide) (Nat.le_of_ble_eq_true rfl) dX4_shared_23 ⟨Nat.le_refl 0, Nat.le_refl 0⟩ ?_
  refine fr_istore (pc := 26) (lv' := [(5, .int (if p2 < i8 then p2 else i8)), (4, .int (if i3 < p1 then p1 else i3)), (0, .ref r0), (1, .int p0), (2, .int p1), (3, .int p2)]) (by decide) rfl dX4_shared_26 ?_
  refine fr_iconst (pc := 28) 0 (by decide) dX4_shared_28 ?_
  refine fr_iload (pc := 29) 0 rfl dX4_shared_29 ?_
  refine fr_iload (pc := 31) 1 rfl dX4_shared_31 ?_
  refine fr_isub (pc := 33) dX4_shared_33 ?_
  refine fr_iconst (pc := 34) 1 (by decide) dX4_shared_34 ?_
  refine fr_iadd (pc := 35) dX4_shared_35 ?_
  refine fr_mmax (pc := 36) ⟨w_1341, w_1170, w_1118, w_1171⟩ (by decide) (Nat.le_of_ble_eq_true rfl) dX4_shared_36 ⟨Nat.le_refl 0, Nat.le_refl 0⟩ ?_
  exact fr_iret (pc := 39) dX4_shared_39 rfl ⟨Nat.le_refl 0, Nat.le_refl 0⟩ hW
def J_X4_perhapsWithin_5 (g : GG) (post : Option Value → Hs → Prop) (σ : Hs) (a0 : Nat) (v1 : Int32) (v2 : Int32) (v3 : Int32) (v4 : Int32) : Prop := Fr g M_X4_perhapsWithin (0, 0, 0, 0) [(0, .ref a0), (1, .int v1), (2, .int v2), (3, .int v3), (4, .int v4)] [] 5 σ post
set_option maxHeartbeats 4000000 in
set_option maxRecDepth 100000 in
theorem q_X4_perhapsWithin {g : GG} {σ : Hs} {post : Option Value → Hs → Prop} (r0 : Nat) (p0 : Int32) (p1 : Int32) (hW : J_X4_perhapsWithin_5 g post σ r0 p0 p1 0 0 ) : Do g M_X4_perhapsWithin 0 0 [.ref r0, .int p0, .int p1] σ post := by
  refine Do.of (by decide +kernel) (Nat.le_of_ble_eq_true rfl) ?_
  show Fr g M_X4_perhapsWithin (0, 0, 0, 0) [(0, .ref r0), (1, .int p0), (2, .int p1)] [] 0 σ post
  refine fr_iconst (pc := 0) 0 (by decide) dX4_perhapsWithin_0 ?_
  refine fr_istore_n (pc := 1) (lv' := [(3, .int 0), (0, .ref r0), (1, .int p0), (2, .int p1)]) rfl (by decide) rfl dX4_perhapsWithin_1 ?_
  refine fr_iconst (pc := 2) 0 (by decide) dX4_perhapsWithin_2 ?_
  refine fr_istore (pc := 3) (lv' := [(4, .int 0), (3, .int 0), (0, .ref r0), (1, .int p0), (2, .int p1)]) (by decide) rfl dX4_perhapsWithin_3 ?_
  exact fr_sub [2, 3, 4, 1, 0] rfl hW
set_option maxHeartbeats 4000000 in
set_option maxRecDepth 100000 in
theorem q_X4_perhapsWithin_5 {g : GG} {σ : Hs} {post : Option Value → Hs → Prop} (a0 : Nat) (v1 : Int32) (v2 : Int32) (v3 : Int32) (v4 : Int32) (hW : (4 ≤ v4 → post (some (.int v3)) σ) ∧ (¬ 4 ≤ v4 → Rc σ a0 4 ∧ Do g M_X4_shared 0 0 [.ref a0, .int v4, .int v1, .int v2] σ (kI (fun i2 s1 => (i2 ≤ 0 → J_X4_perhapsWithin_5 g post s1 a0 v1 v2 v3 ((v4 + 1)) ) ∧ (¬ i2 ≤ 0 → FR s1 a0 4 0 (fun r5 => Rc s1 r5 1 ∧ Do g M_X1_at 0 0 [.ref r5, .int v4] s1 (kI (fun i7 s6 => J_X4_perhapsWithin_5 g post s6 a0 v1 v2 ((v3 + i7)) ((v4 + 1)) )))))))) : J_X4_perhapsWithin_5 g post σ a0 v1 v2 v3 v4 := by
  show Fr g M_X4_perhapsWithin (0, 0, 0, 0) [(0, .ref a0), (1, .int v1), (2, .int v2), (3, .int v3), (4, .int v4)] [] 5 σ post
  refine fr_iload (pc := 5) 4 rfl dX4_perhapsWithin_5 ?_
  refine fr_iconst (pc := 7) 4 (by decide) dX4_perhapsWithin_7 ?_
  refine fr_icmp_ge (pc := 8) (tgt := 40) (by decide) dX4_perhapsWithin_8 hW (fun hW => ?_) (fun hW => ?_)
  · refine fr_iload_n (pc := 40) 3 rfl rfl dX4_perhapsWithin_40 ?_
    exact fr_iret (pc := 41) dX4_perhapsWithin_41 rfl ⟨Nat.le_refl 0, Nat.le_refl 0⟩ hW
  · refine fr_aload_n (pc := 11) 0 rfl rfl dX4_perhapsWithin_11 ?_
    refine fr_iload (pc := 12) 4 rfl dX4_perhapsWithin_12 ?_
    refine fr_iload_n (pc := 14) 1 rfl rfl dX4_perhapsWithin_14 ?_
    refine fr_iload_n (pc := 15) 2 rfl rfl dX4_perhapsWithin_15 ?_
    obtain ⟨hrc, hW⟩ := hW
    refine fr_callV_I (pc := 16) (As := [.int v4, .int v1, .int v2]) (st := []) wd_X4_shared w_1343 ok_X4_shared (by decide) rfl (Nat.le_of_ble_eq_true rfl) dX4_perhapsWithin_16 ⟨Nat.le_refl 0, Nat.le_refl 0⟩ kc_X4 hrc hW (fun i2 s1 hW => ?_)
    refine fr_if_le (pc := 19) (tgt := 34) (by decide) dX4_perhapsWithin_19 hW (fun hW => ?_) (fun hW => ?_)
    · refine fr_iinc (pc := 34) (lv' := [(4, .int (v4 + 1)), (0, .ref a0), (1, .int v1), (2, .int v2), (3, .int v3)]) (v4 + 1) 4 rfl (congrArg (fun z => v4 + z) (by decide)) (by decide) rfl dX4_perhapsWithin_34 ?_
      refine fr_goto (pc := 37) (tgt := 5) (by decide) dX4_perhapsWithin_37 ?_
      exact fr_sub [1, 2, 3, 4, 0] rfl hW
    · refine fr_iload_n (pc := 22) 3 rfl rfl dX4_perhapsWithin_22 ?_
      refine fr_aload_n (pc := 23) 0 rfl rfl dX4_perhapsWithin_23 ?_
      refine fr_getR (pc := 24) (T := TX4) (k := 0) kc_X4 (by decide) w_965 dX4_perhapsWithin_24 hW (fun r5 hW => ?_)
      refine fr_iload (pc := 27) 4 rfl dX4_perhapsWithin_27 ?_
      obtain ⟨hrc, hW⟩ := hW
      refine fr_callV_I (pc := 29) (As := [.int v4]) (st := [.int v3]) wd_X1_at w_1326 ok_X1_at (by decide) rfl (Nat.le_of_ble_eq_true rfl) dX4_perhapsWithin_29 ⟨Nat.le_refl 0, Nat.le_refl 0⟩ kc_X1 hrc hW (fun i7 s6 hW => ?_)
      refine fr_iadd (pc := 32) dX4_perhapsWithin_32 ?_
      refine fr_istore_n (pc := 33) (lv' := [(3, .int (v3 + i7)), (0, .ref a0), (1, .int v1), (2, .int v2), (4, .int v4)]) rfl (by decide) rfl dX4_perhapsWithin_33 ?_
      refine fr_iinc (pc := 34) (lv' := [(4, .int (v4 + 1)), (3, .int (v3 + i7)), (0, .ref a0), (1, .int v1), (2, .int v2)]) (v4 + 1) 4 rfl (congrArg (fun z => v4 + z) (by decide)) (by decide) rfl dX4_perhapsWithin_34 ?_
      refine fr_goto (pc := 37) (tgt := 5) (by decide) dX4_perhapsWithin_37 ?_
      exact fr_sub [2, 3, 4, 1, 0] rfl hW
def J_X4_likelyWithin_5 (g : GG) (post : Option Value → Hs → Prop) (σ : Hs) (a0 : Nat) (v1 : Int32) (v2 : Int32) (v3 : Int32) (v4 : Int32) : Prop := Fr g M_X4_likelyWithin (0, 0, 0, 0) [(0, .ref a0), (1, .int v1), (2, .int v2), (3, .int v3), (4, .int v4)] [] 5 σ post
set_option maxHeartbeats 4000000 in
set_option maxRecDepth 100000 in
theorem q_X4_likelyWithin {g : GG} {σ : Hs} {post : Option Value → Hs → Prop} (r0 : Nat) (p0 : Int32) (p1 : Int32) (hW : J_X4_likelyWithin_5 g post σ r0 p0 p1 0 0 ) : Do g M_X4_likelyWithin 0 0 [.ref r0, .int p0, .int p1] σ post := by
  refine Do.of (by decide +kernel) (Nat.le_of_ble_eq_true rfl) ?_
  show Fr g M_X4_likelyWithin (0, 0, 0, 0) [(0, .ref r0), (1, .int p0), (2, .int p1)] [] 0 σ post
  refine fr_iconst (pc := 0) 0 (by decide) dX4_likelyWithin_0 ?_
  refine fr_istore_n (pc := 1) (lv' := [(3, .int 0), (0, .ref r0), (1, .int p0), (2, .int p1)]) rfl (by decide) rfl dX4_likelyWithin_1 ?_
  refine fr_iconst (pc := 2) 0 (by decide) dX4_likelyWithin_2 ?_
  refine fr_istore (pc := 3) (lv' := [(4, .int 0), (3, .int 0), (0, .ref r0), (1, .int p0), (2, .int p1)]) (by decide) rfl dX4_likelyWithin_3 ?_
  exact fr_sub [2, 3, 4, 1, 0] rfl hW
set_option maxHeartbeats 4000000 in
set_option maxRecDepth 100000 in
theorem q_X4_likelyWithin_5 {g : GG} {σ : Hs} {post : Option Value → Hs → Prop} (a0 : Nat) (v1 : Int32) (v2 : Int32) (v3 : Int32) (v4 : Int32) (hW : (4 ≤ v4 → post (some (.int v3)) σ) ∧ (¬ 4 ≤ v4 → FR σ a0 4 2 (fun r1 => Rc σ r1 1 ∧ Do g M_X1_at 0 0 [.ref r1, .int v4] σ (kI (fun i3 s2 => FR s2 a0 4 1 (fun r6 => Rc s2 r6 1 ∧ Do g M_X1_at 0 0 [.ref r6, .int v4] s2 (kI (fun i8 s7 => FR s7 a0 4 0 (fun r11 => Rc s7 r11 1 ∧ Do g M_X1_at 0 0 [.ref r11, .int v4] s7 (kI (fun i13 s12 => Rc s12 a0 4 ∧ Do g M_X4_shared 0 0 [.ref a0, .int v4, .int v1, .int v2] s12 (kI (fun i17 s16 => Do g M_X11_quotient 0 0 [.int (i13 * i17), .int ((i3 - i8) + 1)] s16 (kI (fun i21 s20 => J_X4_likelyWithin_5 g post s20 a0 v1 v2 ((v3 + i21)) ((v4 + 1)) ))))))))))))))) : J_X4_likelyWithin_5 g post σ a0 v1 v2 v3 v4 := by
  show Fr g M_X4_likelyWithin (0, 0, 0, 0) [(0, .ref a0), (1, .int v1), (2, .int v2), (3, .int v3), (4, .int v4)] [] 5 σ post
  refine fr_iload (pc := 5) 4 rfl dX4_likelyWithin_5 ?_
  refine fr_iconst (pc := 7) 4 (by decide) dX4_likelyWithin_7 ?_
  refine fr_icmp_ge (pc := 8) (tgt := 66) (by decide) dX4_likelyWithin_8 hW (fun hW => ?_) (fun hW => ?_)
  · refine fr_iload_n (pc := 66) 3 rfl rfl dX4_likelyWithin_66 ?_
    exact fr_iret (pc := 67) dX4_likelyWithin_67 rfl ⟨Nat.le_refl 0, Nat.le_refl 0⟩ hW
  · refine fr_aload_n (pc := 11) 0 rfl rfl dX4_likelyWithin_11 ?_
    refine fr_getR (pc := 12) (T := TX4) (k := 2) kc_X4 (by decide) w_967 dX4_likelyWithin_12 hW (fun r1 hW => ?_)
    refine fr_iload (pc := 15) 4 rfl dX4_likelyWithin_15 ?_
    obtain ⟨hrc, hW⟩ := hW
    refine fr_callV_I (pc := 17) (As := [.int v4]) (st := []) wd_X1_at w_1326 ok_X1_at (by decide) rfl (Nat.le_of_ble_eq_true rfl) dX4_likelyWithin_17 ⟨Nat.le_refl 0, Nat.le_refl 0⟩ kc_X1 hrc hW (fun i3 s2 hW => ?_)
    refine fr_aload_n (pc := 20) 0 rfl rfl dX4_likelyWithin_20 ?_
    refine fr_getR (pc := 21) (T := TX4) (k := 1) kc_X4 (by decide) w_966 dX4_likelyWithin_21 hW (fun r6 hW => ?_)
    refine fr_iload (pc := 24) 4 rfl dX4_likelyWithin_24 ?_
    obtain ⟨hrc, hW⟩ := hW
    refine fr_callV_I (pc := 26) (As := [.int v4]) (st := [.int i3]) wd_X1_at w_1326 ok_X1_at (by decide) rfl (Nat.le_of_ble_eq_true rfl) dX4_likelyWithin_26 ⟨Nat.le_refl 0, Nat.le_refl 0⟩ kc_X1 hrc hW (fun i8 s7 hW => ?_)
    refine fr_isub (pc := 29) dX4_likelyWithin_29 ?_
    refine fr_iconst (pc := 30) 1 (by decide) dX4_likelyWithin_30 ?_
    refine fr_iadd (pc := 31) dX4_likelyWithin_31 ?_
    refine fr_istore (pc := 32) (lv' := [(5, .int ((i3 - i8) + 1)), (0, .ref a0), (1, .int v1), (2, .int v2), (3, .int v3), (4, .int v4)]) (by decide) rfl dX4_likelyWithin_32 ?_
    refine fr_iload_n (pc := 34) 4 rfl rfl dX4_likelyWithin_34 ?_
    refine fr_aload_n (pc := 35) 1 rfl rfl dX4_likelyWithin_35 ?_
    refine fr_getR (pc := 36) (T := TX4) (k := 0) kc_X4 (by decide) w_965 dX4_likelyWithin_36 hW (fun r11 hW => ?_)
    refine fr_iload (pc := 39) 5 rfl dX4_likelyWithin_39 ?_
    obtain ⟨hrc, hW⟩ := hW
    refine fr_callV_I (pc := 41) (As := [.int v4]) (st := [.int v3]) wd_X1_at w_1326 ok_X1_at (by decide) rfl (Nat.le_of_ble_eq_true rfl) dX4_likelyWithin_41 ⟨Nat.le_refl 0, Nat.le_refl 0⟩ kc_X1 hrc hW (fun i13 s12 hW => ?_)
    refine fr_aload_n (pc := 44) 1 rfl rfl dX4_likelyWithin_44 ?_
    refine fr_iload (pc := 45) 5 rfl dX4_likelyWithin_45 ?_
    refine fr_iload_n (pc := 47) 2 rfl rfl dX4_likelyWithin_47 ?_
    refine fr_iload_n (pc := 48) 3 rfl rfl dX4_likelyWithin_48 ?_
    obtain ⟨hrc, hW⟩ := hW
    refine fr_callV_I (pc := 49) (As := [.int v4, .int v1, .int v2]) (st := [.int i13, .int v3]) wd_X4_shared w_1343 ok_X4_shared (by decide) rfl (Nat.le_of_ble_eq_true rfl) dX4_likelyWithin_49 ⟨Nat.le_refl 0, Nat.le_refl 0⟩ kc_X4 hrc hW (fun i17 s16 hW => ?_)
    refine fr_imul (pc := 52) dX4_likelyWithin_52 ?_
    refine fr_iload (pc := 53) 0 rfl dX4_likelyWithin_53 ?_
    refine fr_callSN_I (pc := 55) (As := [.int (i13 * i17), .int ((i3 - i8) + 1)]) (st := [.int v3]) wd_X11_quotient ⟨RX11, by decide +kernel⟩ ok_X11_quotient (by decide) rfl (Nat.le_of_ble_eq_true rfl) dX4_likelyWithin_55 ⟨Nat.le_refl 0, Nat.le_refl 0⟩ hW (fun i21 s20 hW => ?_)
    refine fr_iadd (pc := 58) dX4_likelyWithin_58 ?_
    refine fr_istore_n (pc := 59) (lv' := [(3, .int (v3 + i21)), (5, .int ((i3 - i8) + 1)), (0, .ref a0), (1, .int v1), (2, .int v2), (4, .int v4)]) rfl (by decide) rfl dX4_likelyWithin_59 ?_
    refine fr_iinc (pc := 60) (lv' := [(4, .int (v4 + 1)), (3, .int (v3 + i21)), (5, .int ((i3 - i8) + 1)), (0, .ref a0), (1, .int v1), (2, .int v2)]) (v4 + 1) 5 rfl (congrArg (fun z => v4 + z) (by decide)) (by decide) rfl dX4_likelyWithin_60 ?_
    refine fr_goto (pc := 63) (tgt := 5) (by decide) dX4_likelyWithin_63 ?_
    exact fr_sub [3, 4, 5, 1, 0] rfl hW
set_option maxHeartbeats 4000000 in
set_option maxRecDepth 100000 in
theorem q_X11_foretold {g : GG} {σ : Hs} {post : Option Value → Hs → Prop} (r0 : Nat) (p0 : Int32) (p1 : Int32) (p2 : Int32) (p3 : Int32) (hW : FR σ r0 11 4 (fun r1 => Rc σ r1 5 ∧ Do g M_X5_of 0 0 [.ref r1, .int p0] σ (kA (fun s2 => post (some (.int (-101))) s2) (fun r5 s2 => (p3 < 0 → post (some (.int (-102))) s2) ∧ (¬ p3 < 0 → (2 < p3 → post (some (.int (-102))) s2) ∧ (¬ 2 < p3 → Do g M_X11_isNumber 0 0 [.int p1] s2 (kI (fun i7 s6 => (i7 = 0 → post (some (.int (-102))) s6) ∧ (¬ i7 = 0 → Do g M_X11_isNumber 0 0 [.int p2] s6 (kI (fun i11 s10 => (i11 = 0 → post (some (.int (-102))) s10) ∧ (¬ i11 = 0 → (p1 ≤ p2 → Rc s10 r5 4 ∧ Do g M_X4_isTaken 0 0 [.ref r5] s10 (kI (fun i15 s14 => (¬ i15 = 0 → (¬ p3 = 0 → (¬ p3 = 1 → Rc s14 r5 4 ∧ Do g M_X4_likelyWithin 0 0 [.ref r5, .int p1, .int p2] s14 (kI (fun i19 s18 => post (some (.int i19)) s18))) ∧ (p3 = 1 → Rc s14 r5 4 ∧ Do g M_X4_perhapsWithin 0 0 [.ref r5, .int p1, .int p2] s14 (kI (fun i23 s22 => post (some (.int i23)) s22)))) ∧ (p3 = 0 → Rc s14 r5 4 ∧ Do g M_X4_surelyWithin 0 0 [.ref r5, .int p1, .int p2] s14 (kI (fun i27 s26 => post (some (.int i27)) s26)))) ∧ (i15 = 0 → post (some (.int (-1))) s14)))) ∧ (¬ p1 ≤ p2 → post (some (.int (-102))) s10))))))))))))) : Do g M_X11_foretold 0 0 [.ref r0, .int p0, .int p1, .int p2, .int p3] σ post := by
  refine Do.of (by decide +kernel) (Nat.le_of_ble_eq_true rfl) ?_
  show Fr g M_X11_foretold (0, 0, 0, 0) [(0, .ref r0), (1, .int p0), (2, .int p1), (3, .int p2), (4, .int p3)] [] 0 σ post
  refine fr_aload_n (pc := 0) 0 rfl rfl dX11_foretold_0 ?_
  refine fr_getR (pc := 1) (T := TX11) (k := 4) kc_X11 (by decide) w_998 dX11_foretold_1 hW (fun r1 hW => ?_)
  refine fr_iload_n (pc := 4) 1 rfl rfl dX11_foretold_4 ?_
  obtain ⟨hrc, hW⟩ := hW
  refine fr_callV_A (pc := 5) (As := [.int p0]) (st := []) wd_X5_of w_1336 ok_X5_of (by decide) rfl (Nat.le_of_ble_eq_true rfl) dX11_foretold_5 ⟨Nat.le_refl 0, Nat.le_refl 0⟩ kc_X5 hrc hW (fun s2 hW => ?_) (fun r5 s2 hW => ?_)
  · refine fr_astoreN (pc := 8) (lv' := [(5, .null), (0, .ref r0), (1, .int p0), (2, .int p1), (3, .int p2), (4, .int p3)]) (by decide) rfl dX11_foretold_8 ?_
    refine fr_aloadN (pc := 10) 0 rfl dX11_foretold_10 ?_
    refine fr_ifnonnullN (pc := 12) dX11_foretold_12 ?_
    refine fr_bipush (pc := 15) (-101) (by decide) dX11_foretold_15 ?_
    exact fr_iret (pc := 17) dX11_foretold_17 rfl ⟨Nat.le_refl 0, Nat.le_refl 0⟩ hW
  · refine fr_astore (pc := 8) (lv' := [(5, .ref r5), (0, .ref r0), (1, .int p0), (2, .int p1), (3, .int p2), (4, .int p3)]) (by decide) rfl dX11_foretold_8 ?_
    refine fr_aload (pc := 10) 0 rfl dX11_foretold_10 ?_
    refine fr_ifnonnull (pc := 12) (tgt := 18) (by decide) dX11_foretold_12 ?_
    refine fr_iload (pc := 18) 5 rfl dX11_foretold_18 ?_
    refine fr_if_lt (pc := 20) (tgt := 48) (by decide) dX11_foretold_20 hW (fun hW => ?_) (fun hW => ?_)
    · refine fr_bipush (pc := 48) (-102) (by decide) dX11_foretold_48 ?_
      exact fr_iret (pc := 50) dX11_foretold_50 rfl ⟨Nat.le_refl 0, Nat.le_refl 0⟩ hW
    · refine fr_iload (pc := 23) 5 rfl dX11_foretold_23 ?_
      refine fr_iconst (pc := 25) 2 (by decide) dX11_foretold_25 ?_
      refine fr_icmp_gt (pc := 26) (tgt := 48) (by decide) dX11_foretold_26 hW (fun hW => ?_) (fun hW => ?_)
      · refine fr_bipush (pc := 48) (-102) (by decide) dX11_foretold_48 ?_
        exact fr_iret (pc := 50) dX11_foretold_50 rfl ⟨Nat.le_refl 0, Nat.le_refl 0⟩ hW
      · refine fr_iload_n (pc := 29) 3 rfl rfl dX11_foretold_29 ?_
        refine fr_callS_I (pc := 30) (As := [.int p1]) (st := []) wd_X11_isNumber w_1063 ok_X11_isNumber (by decide) rfl (Nat.le_of_ble_eq_true rfl) dX11_foretold_30 ⟨Nat.le_refl 0, Nat.le_refl 0⟩ hW (fun i7 s6 hW => ?_)
        refine fr_if_eq (pc := 33) (tgt := 48) (by decide) dX11_foretold_33 hW (fun hW => ?_) (fun hW => ?_)
        · refine fr_bipush (pc := 48) (-102) (by decide) dX11_foretold_48 ?_
          exact fr_iret (pc := 50) dX11_foretold_50 rfl ⟨Nat.le_refl 0, Nat.le_refl 0⟩ hW
        · refine fr_iload_n (pc := 36) 4 rfl rfl dX11_foretold_36 ?_
          refine fr_callS_I (pc := 37) (As := [.int p2]) (st := []) wd_X11_isNumber w_1063 ok_X11_isNumber (by decide) rfl (Nat.le_of_ble_eq_true rfl) dX11_foretold_37 ⟨Nat.le_refl 0, Nat.le_refl 0⟩ hW (fun i11 s10 hW => ?_)
          refine fr_if_eq (pc := 40) (tgt := 48) (by decide) dX11_foretold_40 hW (fun hW => ?_) (fun hW => ?_)
          · refine fr_bipush (pc := 48) (-102) (by decide) dX11_foretold_48 ?_
            exact fr_iret (pc := 50) dX11_foretold_50 rfl ⟨Nat.le_refl 0, Nat.le_refl 0⟩ hW
          · refine fr_iload_n (pc := 43) 3 rfl rfl dX11_foretold_43 ?_
            refine fr_iload_n (pc := 44) 4 rfl rfl dX11_foretold_44 ?_
            refine fr_icmp_le (pc := 45) (tgt := 51) (by decide) dX11_foretold_45 hW (fun hW => ?_) (fun hW => ?_)
            · refine fr_aload (pc := 51) 0 rfl dX11_foretold_51 ?_
              obtain ⟨hrc, hW⟩ := hW
              refine fr_callV_I (pc := 53) (As := []) (st := []) wd_X4_isTaken w_1344 ok_X4_isTaken (by decide) rfl (Nat.le_of_ble_eq_true rfl) dX11_foretold_53 ⟨Nat.le_refl 0, Nat.le_refl 0⟩ kc_X4 hrc hW (fun i15 s14 hW => ?_)
              refine fr_if_ne (pc := 56) (tgt := 61) (by decide) dX11_foretold_56 hW (fun hW => ?_) (fun hW => ?_)
              · refine fr_iload (pc := 61) 5 rfl dX11_foretold_61 ?_
                refine fr_if_ne (pc := 63) (tgt := 74) (by decide) dX11_foretold_63 hW (fun hW => ?_) (fun hW => ?_)
                · refine fr_iload (pc := 74) 5 rfl dX11_foretold_74 ?_
                  refine fr_iconst (pc := 76) 1 (by decide) dX11_foretold_76 ?_
                  refine fr_icmp_ne (pc := 77) (tgt := 90) (by decide) dX11_foretold_77 hW (fun hW => ?_) (fun hW => ?_)
                  · refine fr_aload (pc := 90) 0 rfl dX11_foretold_90 ?_
                    refine fr_iload_n (pc := 92) 3 rfl rfl dX11_foretold_92 ?_
                    refine fr_iload_n (pc := 93) 4 rfl rfl dX11_foretold_93 ?_
                    obtain ⟨hrc, hW⟩ := hW
                    refine fr_callV_I (pc := 94) (As := [.int p1, .int p2]) (st := []) wd_X4_likelyWithin w_1347 ok_X4_likelyWithin (by decide) rfl (Nat.le_of_ble_eq_true rfl) dX11_foretold_94 ⟨Nat.le_refl 0, Nat.le_refl 0⟩ kc_X4 hrc hW (fun i19 s18 hW => ?_)
                    exact fr_iret (pc := 97) dX11_foretold_97 rfl ⟨Nat.le_refl 0, Nat.le_refl 0⟩ hW
                  · refine fr_aload (pc := 80) 0 rfl dX11_foretold_80 ?_
                    refine fr_iload_n (pc := 82) 3 rfl rfl dX11_foretold_82 ?_
                    refine fr_iload_n (pc := 83) 4 rfl rfl dX11_foretold_83 ?_
                    obtain ⟨hrc, hW⟩ := hW
                    refine fr_callV_I (pc := 84) (As := [.int p1, .int p2]) (st := []) wd_X4_perhapsWithin w_1346 ok_X4_perhapsWithin (by decide) rfl (Nat.le_of_ble_eq_true rfl) dX11_foretold_84 ⟨Nat.le_refl 0, Nat.le_refl 0⟩ kc_X4 hrc hW (fun i23 s22 hW => ?_)
                    refine fr_goto (pc := 87) (tgt := 97) (by decide) dX11_foretold_87 ?_
                    exact fr_iret (pc := 97) dX11_foretold_97 rfl ⟨Nat.le_refl 0, Nat.le_refl 0⟩ hW
                · refine fr_aload (pc := 66) 0 rfl dX11_foretold_66 ?_
                  refine fr_iload_n (pc := 68) 3 rfl rfl dX11_foretold_68 ?_
                  refine fr_iload_n (pc := 69) 4 rfl rfl dX11_foretold_69 ?_
                  obtain ⟨hrc, hW⟩ := hW
                  refine fr_callV_I (pc := 70) (As := [.int p1, .int p2]) (st := []) wd_X4_surelyWithin w_1345 ok_X4_surelyWithin (by decide) rfl (Nat.le_of_ble_eq_true rfl) dX11_foretold_70 ⟨Nat.le_refl 0, Nat.le_refl 0⟩ kc_X4 hrc hW (fun i27 s26 hW => ?_)
                  exact fr_iret (pc := 73) dX11_foretold_73 rfl ⟨Nat.le_refl 0, Nat.le_refl 0⟩ hW
              · refine fr_iconst (pc := 59) (-1) (by decide) dX11_foretold_59 ?_
                exact fr_iret (pc := 60) dX11_foretold_60 rfl ⟨Nat.le_refl 0, Nat.le_refl 0⟩ hW
            · refine fr_bipush (pc := 48) (-102) (by decide) dX11_foretold_48 ?_
              exact fr_iret (pc := 50) dX11_foretold_50 rfl ⟨Nat.le_refl 0, Nat.le_refl 0⟩ hW
def J_X12_foretoldOf_6 (g : GG) (post : Option Value → Hs → Prop) (σ : Hs) (a0 : Nat) (v1 : Int32) (v2 : Int32) (v3 : Int32) (v4 : Int32) (v5 : Int32) (v6 : Int32) : Prop := Fr g M_X12_foretoldOf (0, 0, 0, 0) [(0, .ref a0), (1, .int v1), (2, .int v2), (3, .int v3), (4, .int v4), (5, .int v5), (6, .int v6)] [] 6 σ post
def J_X12_foretoldOf_81 (g : GG) (post : Option Value → Hs → Prop) (σ : Hs) (a0 : Nat) (v1 : Int32) (v2 : Int32) (v3 : Int32) (v4 : Int32) (v5 : Int32) (v6 : Int32) (v7 : Int32) (v8 : Int32) (v9 : Int32) (t0 : Int32) : Prop := Fr g M_X12_foretoldOf (0, 0, 0, 0) [(0, .ref a0), (1, .int v1), (2, .int v2), (3, .int v3), (4, .int v4), (5, .int v5), (6, .int v6), (7, .int v7), (8, .int v8), (9, .int v9)] [.int t0] 81 σ post
def J_X12_foretoldOf_115 (g : GG) (post : Option Value → Hs → Prop) (σ : Hs) (a0 : Nat) (v1 : Int32) (v2 : Int32) (v3 : Int32) (v4 : Int32) (v5 : Int32) (v6 : Int32) (v7 : Int32) (v8 : Int32) (v9 : Int32) (t0 : Int32) : Prop := Fr g M_X12_foretoldOf (0, 0, 0, 0) [(0, .ref a0), (1, .int v1), (2, .int v2), (3, .int v3), (4, .int v4), (5, .int v5), (6, .int v6), (7, .int v7), (8, .int v8), (9, .int v9)] [.int t0] 115 σ post
set_option maxHeartbeats 4000000 in
set_option maxRecDepth 100000 in
theorem q_X12_foretoldOf {g : GG} {σ : Hs} {post : Option Value → Hs → Prop} (r0 : Nat) (p0 : Int32) (p1 : Int32) (p2 : Int32) (p3 : Int32) (hW : J_X12_foretoldOf_6 g post σ r0 p0 p1 p2 p3 0 0 ) : Do g M_X12_foretoldOf 0 0 [.ref r0, .int p0, .int p1, .int p2, .int p3] σ post := by
  refine Do.of (by decide +kernel) (Nat.le_of_ble_eq_true rfl) ?_
  show Fr g M_X12_foretoldOf (0, 0, 0, 0) [(0, .ref r0), (1, .int p0), (2, .int p1), (3, .int p2), (4, .int p3)] [] 0 σ post
  refine fr_iconst (pc := 0) 0 (by decide) dX12_foretoldOf_0 ?_
  refine fr_istore (pc := 1) (lv' := [(5, .int 0), (0, .ref r0), (1, .int p0), (2, .int p1), (3, .int p2), (4, .int p3)]) (by decide) rfl dX12_foretoldOf_1 ?_
  refine fr_iconst (pc := 3) 0 (by decide) dX12_foretoldOf_3 ?_
  refine fr_istore (pc := 4) (lv' := [(6, .int 0), (5, .int 0), (0, .ref r0), (1, .int p0), (2, .int p1), (3, .int p2), (4, .int p3)]) (by decide) rfl dX12_foretoldOf_4 ?_
  exact fr_sub [2, 3, 4, 5, 6, 1, 0] rfl hW
set_option maxHeartbeats 4000000 in
set_option maxRecDepth 100000 in
theorem q_X12_foretoldOf_6 {g : GG} {σ : Hs} {post : Option Value → Hs → Prop} (a0 : Nat) (v1 : Int32) (v2 : Int32) (v3 : Int32) (v4 : Int32) (v5 : Int32) (v6 : Int32) (hW : (4 ≤ v6 → post (some (.int v5)) σ) ∧ (¬ 4 ≤ v6 → FR σ a0 12 23 (fun r1 => AI g σ r1 0 ((12 * v1) + (3 * v6)) (fun i2 => FR σ a0 12 23 (fun r3 => AI g σ r3 0 (((12 * v1) + (3 * v6)) + 1) (fun i4 => FR σ a0 12 23 (fun r5 => AI g σ r5 0 (((12 * v1) + (3 * v6)) + 2) (fun i6 => (i2 ≤ 0 → J_X12_foretoldOf_6 g post σ a0 v1 v2 v3 v4 v5 ((v6 + 1)) ) ∧ (¬ i2 ≤ 0 → (i4 ≤ v2 → J_X12_foretoldOf_81 g post σ a0 v1 v2 v3 v4 v5 v6 i2 i4 i6 v2) ∧ (¬ i4 ≤ v2 → J_X12_foretoldOf_81 g post σ a0 v1 v2 v3 v4 v5 v6 i2 i4 i6 i4)))))))))) : J_X12_foretoldOf_6 g post σ a0 v1 v2 v3 v4 v5 v6 := by
  show Fr g M_X12_foretoldOf (0, 0, 0, 0) [(0, .ref a0), (1, .int v1), (2, .int v2), (3, .int v3), (4, .int v4), (5, .int v5), (6, .int v6)] [] 6 σ post
  refine fr_iload (pc := 6) 6 rfl dX12_foretoldOf_6 ?_
  refine fr_iconst (pc := 8) 4 (by decide) dX12_foretoldOf_8 ?_
  refine fr_icmp_ge (pc := 9) (tgt := 187) (by decide) dX12_foretoldOf_9 hW (fun hW => ?_) (fun hW => ?_)
  · refine fr_iload (pc := 187) 5 rfl dX12_foretoldOf_187 ?_
    exact fr_iret (pc := 189) dX12_foretoldOf_189 rfl ⟨Nat.le_refl 0, Nat.le_refl 0⟩ hW
  · refine fr_aload_n (pc := 12) 0 rfl rfl dX12_foretoldOf_12 ?_
    refine fr_getR (pc := 13) (T := TX12) (k := 23) kc_X12 (by decide) w_1023 dX12_foretoldOf_13 hW (fun r1 hW => ?_)
    refine fr_bipush (pc := 16) 12 (by decide) dX12_foretoldOf_16 ?_
    refine fr_iload_n (pc := 18) 1 rfl rfl dX12_foretoldOf_18 ?_
    refine fr_imul (pc := 19) dX12_foretoldOf_19 ?_
    refine fr_iconst (pc := 20) 3 (by decide) dX12_foretoldOf_20 ?_
    refine fr_iload (pc := 21) 6 rfl dX12_foretoldOf_21 ?_
    refine fr_imul (pc := 23) dX12_foretoldOf_23 ?_
    refine fr_iadd (pc := 24) dX12_foretoldOf_24 ?_
    refine fr_iald (pc := 25) dX12_foretoldOf_25 hW (fun i2 hW => ?_)
    refine fr_istore (pc := 26) (lv' := [(7, .int i2), (0, .ref a0), (1, .int v1), (2, .int v2), (3, .int v3), (4, .int v4), (5, .int v5), (6, .int v6)]) (by decide) rfl dX12_foretoldOf_26 ?_
    refine fr_aload_n (pc := 28) 1 rfl rfl dX12_foretoldOf_28 ?_
    refine fr_getR (pc := 29) (T := TX12) (k := 23) kc_X12 (by decide) w_1023 dX12_foretoldOf_29 hW (fun r3 hW => ?_)
    refine fr_bipush (pc := 32) 12 (by decide) dX12_foretoldOf_32 ?_
    refine fr_iload_n (pc := 34) 2 rfl rfl dX12_foretoldOf_34 ?_
    refine fr_imul (pc := 35) dX12_foretoldOf_35 ?_
    refine fr_iconst (pc := 36) 3 (by decide) dX12_foretoldOf_36 ?_
    refine fr_iload (pc := 37) 7 rfl dX12_foretoldOf_37 ?_
    refine fr_imul (pc := 39) dX12_foretoldOf_39 ?_
    refine fr_iadd (pc := 40) dX12_foretoldOf_40 ?_
    refine fr_iconst (pc := 41) 1 (by decide) dX12_foretoldOf_41 ?_
    refine fr_iadd (pc := 42) dX12_foretoldOf_42 ?_
    refine fr_iald (pc := 43) dX12_foretoldOf_43 hW (fun i4 hW => ?_)
    refine fr_istore (pc := 44) (lv' := [(8, .int i4), (7, .int i2), (0, .ref a0), (1, .int v1), (2, .int v2), (3, .int v3), (4, .int v4), (5, .int v5), (6, .int v6)]) (by decide) rfl dX12_foretoldOf_44 ?_
    refine fr_aload_n (pc := 46) 2 rfl rfl dX12_foretoldOf_46 ?_
    refine fr_getR (pc := 47) (T := TX12) (k := 23) kc_X12 (by decide) w_1023 dX12_foretoldOf_47 hW (fun r5 hW => ?_)
    refine fr_bipush (pc := 50) 12 (by decide) dX12_foretoldOf_50 ?_
    refine fr_iload_n (pc := 52) 3 rfl rfl dX12_foretoldOf_52 ?_
    refine fr_imul (pc := 53) dX12_foretoldOf_53 ?_
    refine fr_iconst (pc := 54) 3 (by decide) dX12_foretoldOf_54 ?_
    refine fr_iload (pc := 55) 8 rfl dX12_foretoldOf_55 ?_
    refine fr_imul (pc := 57) dX12_foretoldOf_57 ?_
    refine fr_iadd (pc := 58) dX12_foretoldOf_58 ?_
    refine fr_iconst (pc := 59) 2 (by decide) dX12_foretoldOf_59 ?_
    refine fr_iadd (pc := 60) dX12_foretoldOf_60 ?_
    refine fr_iald (pc := 61) dX12_foretoldOf_61 hW (fun i6 hW => ?_)
    refine fr_istore (pc := 62) (lv' := [(9, .int i6), (8, .int i4), (7, .int i2), (0, .ref a0), (1, .int v1), (2, .int v2), (3, .int v3), (4, .int v4), (5, .int v5), (6, .int v6)]) (by decide) rfl dX12_foretoldOf_62 ?_
    refine fr_iload (pc := 64) 2 rfl dX12_foretoldOf_64 ?_
    refine fr_if_le (pc := 66) (tgt := 181) (by decide) dX12_foretoldOf_66 hW (fun hW => ?_) (fun hW => ?_)
    · refine fr_iinc (pc := 181) (lv' := [(6, .int (v6 + 1)), (9, .int i6), (8, .int i4), (7, .int i2), (0, .ref a0), (1, .int v1), (2, .int v2), (3, .int v3), (4, .int v4), (5, .int v5)]) (v6 + 1) 9 rfl (congrArg (fun z => v6 + z) (by decide)) (by decide) rfl dX12_foretoldOf_181 ?_
      refine fr_goto (pc := 184) (tgt := 6) (by decide) dX12_foretoldOf_184 ?_
      exact fr_sub [4, 5, 6, 7, 8, 9, 0] rfl hW
    · refine fr_iload (pc := 69) 1 rfl dX12_foretoldOf_69 ?_
      refine fr_iload_n (pc := 71) 5 rfl rfl dX12_foretoldOf_71 ?_
      refine fr_icmp_le (pc := 72) (tgt := 80) (by decide) dX12_foretoldOf_72 hW (fun hW => ?_) (fun hW => ?_)
      · refine fr_iload_n (pc := 80) 5 rfl rfl dX12_foretoldOf_80 ?_
        exact fr_sub [3, 4, 5, 6, 7, 8, 9, 2, 1, 0] rfl hW
      · refine fr_iload (pc := 75) 1 rfl dX12_foretoldOf_75 ?_
        refine fr_goto (pc := 77) (tgt := 81) (by decide) dX12_foretoldOf_77 ?_
        exact fr_sub [3, 4, 5, 6, 7, 8, 9, 2, 1, 0] rfl hW
set_option maxHeartbeats 4000000 in
set_option maxRecDepth 100000 in
theorem q_X12_foretoldOf_81 {g : GG} {σ : Hs} {post : Option Value → Hs → Prop} (a0 : Nat) (v1 : Int32) (v2 : Int32) (v3 : Int32) (v4 : Int32) (v5 : Int32) (v6 : Int32) (v7 : Int32) (v8 : Int32) (v9 : Int32) (t0 : Int32) (hW : (v3 ≤ v9 → (t0 ≤ v3 → J_X12_foretoldOf_115 g post σ a0 v1 v2 v3 v4 v5 v6 v7 v8 v9 (((v3 - t0) + 1))) ∧ (¬ t0 ≤ v3 → J_X12_foretoldOf_115 g post σ a0 v1 v2 v3 v4 v5 v6 v7 v8 v9 0)) ∧ (¬ v3 ≤ v9 → (t0 ≤ v9 → J_X12_foretoldOf_115 g post σ a0 v1 v2 v3 v4 v5 v6 v7 v8 v9 (((v9 - t0) + 1))) ∧ (¬ t0 ≤ v9 → J_X12_foretoldOf_115 g post σ a0 v1 v2 v3 v4 v5 v6 v7 v8 v9 0))) : J_X12_foretoldOf_81 g post σ a0 v1 v2 v3 v4 v5 v6 v7 v8 v9 t0 := by
  show Fr g M_X12_foretoldOf (0, 0, 0, 0) [(0, .ref a0), (1, .int v1), (2, .int v2), (3, .int v3), (4, .int v4), (5, .int v5), (6, .int v6), (7, .int v7), (8, .int v8), (9, .int v9)] [.int t0] 81 σ post
  refine fr_istore (pc := 81) (lv' := [(10, .int t0), (0, .ref a0), (1, .int v1), (2, .int v2), (3, .int v3), (4, .int v4), (5, .int v5), (6, .int v6), (7, .int v7), (8, .int v8), (9, .int v9)]) (by decide) rfl dX12_foretoldOf_81 ?_
  refine fr_iload (pc := 83) 10 rfl dX12_foretoldOf_83 ?_
  refine fr_iload_n (pc := 85) 4 rfl rfl dX12_foretoldOf_85 ?_
  refine fr_icmp_ge (pc := 86) (tgt := 94) (by decide) dX12_foretoldOf_86 hW (fun hW => ?_) (fun hW => ?_)
  · refine fr_iload_n (pc := 94) 4 rfl rfl dX12_foretoldOf_94 ?_
    refine fr_istore (pc := 95) (lv' := [(11, .int v3), (10, .int t0), (0, .ref a0), (1, .int v1), (2, .int v2), (3, .int v3), (4, .int v4), (5, .int v5), (6, .int v6), (7, .int v7), (8, .int v8), (9, .int v9)]) (by decide) rfl dX12_foretoldOf_95 ?_
    refine fr_iload (pc := 97) 0 rfl dX12_foretoldOf_97 ?_
    refine fr_iload (pc := 99) 1 rfl dX12_foretoldOf_99 ?_
    refine fr_icmp_ge (pc := 101) (tgt := 108) (by decide) dX12_foretoldOf_101 hW (fun hW => ?_) (fun hW => ?_)
    · refine fr_iload (pc := 108) 0 rfl dX12_foretoldOf_108 ?_
      refine fr_iload (pc := 110) 1 rfl dX12_foretoldOf_110 ?_
      refine fr_isub (pc := 112) dX12_foretoldOf_112 ?_
      refine fr_iconst (pc := 113) 1 (by decide) dX12_foretoldOf_113 ?_
      refine fr_iadd (pc := 114) dX12_foretoldOf_114 ?_
      exact fr_sub [2, 3, 4, 5, 6, 7, 8, 9, 10, 11] rfl hW
    · refine fr_iconst (pc := 104) 0 (by decide) dX12_foretoldOf_104 ?_
      refine fr_goto (pc := 105) (tgt := 115) (by decide) dX12_foretoldOf_105 ?_
      exact fr_sub [2, 3, 4, 5, 6, 7, 8, 9, 10, 11] rfl hW
  · refine fr_iload (pc := 89) 10 rfl dX12_foretoldOf_89 ?_
    refine fr_goto (pc := 91) (tgt := 95) (by decide) dX12_foretoldOf_91 ?_
    refine fr_istore (pc := 95) (lv' := [(11, .int v9), (10, .int t0), (0, .ref a0), (1, .int v1), (2, .int v2), (3, .int v3), (4, .int v4), (5, .int v5), (6, .int v6), (7, .int v7), (8, .int v8), (9, .int v9)]) (by decide) rfl dX12_foretoldOf_95 ?_
    refine fr_iload (pc := 97) 0 rfl dX12_foretoldOf_97 ?_
    refine fr_iload (pc := 99) 1 rfl dX12_foretoldOf_99 ?_
    refine fr_icmp_ge (pc := 101) (tgt := 108) (by decide) dX12_foretoldOf_101 hW (fun hW => ?_) (fun hW => ?_)
    · refine fr_iload (pc := 108) 0 rfl dX12_foretoldOf_108 ?_
      refine fr_iload (pc := 110) 1 rfl dX12_foretoldOf_110 ?_
      refine fr_isub (pc := 112) dX12_foretoldOf_112 ?_
      refine fr_iconst (pc := 113) 1 (by decide) dX12_foretoldOf_113 ?_
      refine fr_iadd (pc := 114) dX12_foretoldOf_114 ?_
      exact fr_sub [2, 3, 4, 5, 6, 7, 8, 9, 10, 11] rfl hW
    · refine fr_iconst (pc := 104) 0 (by decide) dX12_foretoldOf_104 ?_
      refine fr_goto (pc := 105) (tgt := 115) (by decide) dX12_foretoldOf_105 ?_
      exact fr_sub [2, 3, 4, 5, 6, 7, 8, 9, 10, 11] rfl hW
set_option maxHeartbeats 4000000 in
set_option maxRecDepth 100000 in
theorem q_X12_foretoldOf_115 {g : GG} {σ : Hs} {post : Option Value → Hs → Prop} (a0 : Nat) (v1 : Int32) (v2 : Int32) (v3 : Int32) (v4 : Int32) (v5 : Int32) (v6 : Int32) (v7 : Int32) (v8 : Int32) (v9 : Int32) (t0 : Int32) (hW : (¬ v4 = 0 → (¬ v4 = 1 → ¬ ((v9 - v8) + 1) = 0 ∧ J_X12_foretoldOf_6 g post σ a0 v1 v2 v3 v4 ((v5 + ((v7 * t0) / ((v9 - v8) + 1)))) ((v6 + 1)) ) ∧ (v4 = 1 → (t0 ≤ 0 → J_X12_foretoldOf_6 g post σ a0 v1 v2 v3 v4 ((v5 + 0)) ((v6 + 1)) ) ∧ (¬ t0 ≤ 0 → J_X12_foretoldOf_6 g post σ a0 v1 v2 v3 v4 ((v5 + v7)) ((v6 + 1)) ))) ∧ (v4 = 0 → (¬ t0 = ((v9 - v8) + 1) → J_X12_foretoldOf_6 g post σ a0 v1 v2 v3 v4 ((v5 + 0)) ((v6 + 1)) ) ∧ (t0 = ((v9 - v8) + 1) → J_X12_foretoldOf_6 g post σ a0 v1 v2 v3 v4 ((v5 + v7)) ((v6 + 1)) ))) : J_X12_foretoldOf_115 g post σ a0 v1 v2 v3 v4 v5 v6 v7 v8 v9 t0 := by
  show Fr g M_X12_foretoldOf (0, 0, 0, 0) [(0, .ref a0), (1, .int v1), (2, .int v2), (3, .int v3), (4, .int v4), (5, .int v5), (6, .int v6), (7, .int v7), (8, .int v8), (9, .int v9)] [.int t0] 115 σ post
  refine fr_istore (pc := 115) (lv' := [(12, .int t0), (0, .ref a0), (1, .int v1), (2, .int v2), (3, .int v3), (4, .int v4), (5, .int v5), (6, .int v6), (7, .int v7), (8, .int v8), (9, .int v9)]) (by decide) rfl dX12_foretoldOf_115 ?_
  refine fr_iload (pc := 117) 6 rfl dX12_foretoldOf_117 ?_
  refine fr_iload (pc := 119) 5 rfl dX12_foretoldOf_119 ?_
  refine fr_if_ne (pc := 121) (tgt := 145) (by decide) dX12_foretoldOf_121 hW (fun hW => ?_) (fun hW => ?_)
  · refine fr_iload (pc := 145) 5 rfl dX12_foretoldOf_145 ?_
    refine fr_iconst (pc := 147) 1 (by decide) dX12_foretoldOf_147 ?_
    refine fr_icmp_ne (pc := 148) (tgt := 165) (by decide) dX12_foretoldOf_148 hW (fun hW => ?_) (fun hW => ?_)
    · refine fr_iload (pc := 165) 8 rfl dX12_foretoldOf_165 ?_
      refine fr_iload (pc := 167) 0 rfl dX12_foretoldOf_167 ?_
      refine fr_imul (pc := 169) dX12_foretoldOf_169 ?_
      refine fr_iload (pc := 170) 10 rfl dX12_foretoldOf_170 ?_
      refine fr_iload (pc := 172) 9 rfl dX12_foretoldOf_172 ?_
      refine fr_isub (pc := 174) dX12_foretoldOf_174 ?_
      refine fr_iconst (pc := 175) 1 (by decide) dX12_foretoldOf_175 ?_
      refine fr_iadd (pc := 176) dX12_foretoldOf_176 ?_
      obtain ⟨hne, hW⟩ := hW
      refine fr_idiv (pc := 177) hne dX12_foretoldOf_177 ?_
      refine fr_iadd (pc := 178) dX12_foretoldOf_178 ?_
      refine fr_istore (pc := 179) (lv' := [(5, .int (v5 + ((v7 * t0) / ((v9 - v8) + 1)))), (12, .int t0), (0, .ref a0), (1, .int v1), (2, .int v2), (3, .int v3), (4, .int v4), (6, .int v6), (7, .int v7), (8, .int v8), (9, .int v9)]) (by decide) rfl dX12_foretoldOf_179 ?_
      refine fr_iinc (pc := 181) (lv' := [(6, .int (v6 + 1)), (5, .int (v5 + ((v7 * t0) / ((v9 - v8) + 1)))), (12, .int t0), (0, .ref a0), (1, .int v1), (2, .int v2), (3, .int v3), (4, .int v4), (7, .int v7), (8, .int v8), (9, .int v9)]) (v6 + 1) 7 rfl (congrArg (fun z => v6 + z) (by decide)) (by decide) rfl dX12_foretoldOf_181 ?_
      refine fr_goto (pc := 184) (tgt := 6) (by decide) dX12_foretoldOf_184 ?_
      exact fr_sub [3, 4, 5, 6, 7, 1, 0] rfl hW
    · refine fr_iload (pc := 151) 0 rfl dX12_foretoldOf_151 ?_
      refine fr_if_le (pc := 153) (tgt := 161) (by decide) dX12_foretoldOf_153 hW (fun hW => ?_) (fun hW => ?_)
      · refine fr_iconst (pc := 161) 0 (by decide) dX12_foretoldOf_161 ?_
        refine fr_goto (pc := 162) (tgt := 178) (by decide) dX12_foretoldOf_162 ?_
        refine fr_iadd (pc := 178) dX12_foretoldOf_178 ?_
        refine fr_istore (pc := 179) (lv' := [(5, .int (v5 + 0)), (12, .int t0), (0, .ref a0), (1, .int v1), (2, .int v2), (3, .int v3), (4, .int v4), (6, .int v6), (7, .int v7), (8, .int v8), (9, .int v9)]) (by decide) rfl dX12_foretoldOf_179 ?_
        refine fr_iinc (pc := 181) (lv' := [(6, .int (v6 + 1)), (5, .int (v5 + 0)), (12, .int t0), (0, .ref a0), (1, .int v1), (2, .int v2), (3, .int v3), (4, .int v4), (7, .int v7), (8, .int v8), (9, .int v9)]) (v6 + 1) 7 rfl (congrArg (fun z => v6 + z) (by decide)) (by decide) rfl dX12_foretoldOf_181 ?_
        refine fr_goto (pc := 184) (tgt := 6) (by decide) dX12_foretoldOf_184 ?_
        exact fr_sub [3, 4, 5, 6, 7, 1, 0] rfl hW
      · refine fr_iload (pc := 156) 8 rfl dX12_foretoldOf_156 ?_
        refine fr_goto (pc := 158) (tgt := 178) (by decide) dX12_foretoldOf_158 ?_
        refine fr_iadd (pc := 178) dX12_foretoldOf_178 ?_
        refine fr_istore (pc := 179) (lv' := [(5, .int (v5 + v7)), (12, .int t0), (0, .ref a0), (1, .int v1), (2, .int v2), (3, .int v3), (4, .int v4), (6, .int v6), (7, .int v7), (8, .int v8), (9, .int v9)]) (by decide) rfl dX12_foretoldOf_179 ?_
        refine fr_iinc (pc := 181) (lv' := [(6, .int (v6 + 1)), (5, .int (v5 + v7)), (12, .int t0), (0, .ref a0), (1, .int v1), (2, .int v2), (3, .int v3), (4, .int v4), (7, .int v7), (8, .int v8), (9, .int v9)]) (v6 + 1) 7 rfl (congrArg (fun z => v6 + z) (by decide)) (by decide) rfl dX12_foretoldOf_181 ?_
        refine fr_goto (pc := 184) (tgt := 6) (by decide) dX12_foretoldOf_184 ?_
        exact fr_sub [3, 4, 5, 6, 7, 1, 0] rfl hW
  · refine fr_iload (pc := 124) 0 rfl dX12_foretoldOf_124 ?_
    refine fr_iload (pc := 126) 10 rfl dX12_foretoldOf_126 ?_
    refine fr_iload (pc := 128) 9 rfl dX12_foretoldOf_128 ?_
    refine fr_isub (pc := 130) dX12_foretoldOf_130 ?_
    refine fr_iconst (pc := 131) 1 (by decide) dX12_foretoldOf_131 ?_
    refine fr_iadd (pc := 132) dX12_foretoldOf_132 ?_
    refine fr_icmp_ne (pc := 133) (tgt := 141) (by decide) dX12_foretoldOf_133 hW (fun hW => ?_) (fun hW => ?_)
    · refine fr_iconst (pc := 141) 0 (by decide) dX12_foretoldOf_141 ?_
      refine fr_goto (pc := 142) (tgt := 178) (by decide) dX12_foretoldOf_142 ?_
      refine fr_iadd (pc := 178) dX12_foretoldOf_178 ?_
      refine fr_istore (pc := 179) (lv' := [(5, .int (v5 + 0)), (12, .int t0), (0, .ref a0), (1, .int v1), (2, .int v2), (3, .int v3), (4, .int v4), (6, .int v6), (7, .int v7), (8, .int v8), (9, .int v9)]) (by decide) rfl dX12_foretoldOf_179 ?_
      refine fr_iinc (pc := 181) (lv' := [(6, .int (v6 + 1)), (5, .int (v5 + 0)), (12, .int t0), (0, .ref a0), (1, .int v1), (2, .int v2), (3, .int v3), (4, .int v4), (7, .int v7), (8, .int v8), (9, .int v9)]) (v6 + 1) 7 rfl (congrArg (fun z => v6 + z) (by decide)) (by decide) rfl dX12_foretoldOf_181 ?_
      refine fr_goto (pc := 184) (tgt := 6) (by decide) dX12_foretoldOf_184 ?_
      exact fr_sub [3, 4, 5, 6, 7, 1, 0] rfl hW
    · refine fr_iload (pc := 136) 8 rfl dX12_foretoldOf_136 ?_
      refine fr_goto (pc := 138) (tgt := 178) (by decide) dX12_foretoldOf_138 ?_
      refine fr_iadd (pc := 178) dX12_foretoldOf_178 ?_
      refine fr_istore (pc := 179) (lv' := [(5, .int (v5 + v7)), (12, .int t0), (0, .ref a0), (1, .int v1), (2, .int v2), (3, .int v3), (4, .int v4), (6, .int v6), (7, .int v7), (8, .int v8), (9, .int v9)]) (by decide) rfl dX12_foretoldOf_179 ?_
      refine fr_iinc (pc := 181) (lv' := [(6, .int (v6 + 1)), (5, .int (v5 + v7)), (12, .int t0), (0, .ref a0), (1, .int v1), (2, .int v2), (3, .int v3), (4, .int v4), (7, .int v7), (8, .int v8), (9, .int v9)]) (v6 + 1) 7 rfl (congrArg (fun z => v6 + z) (by decide)) (by decide) rfl dX12_foretoldOf_181 ?_
      refine fr_goto (pc := 184) (tgt := 6) (by decide) dX12_foretoldOf_184 ?_
      exact fr_sub [3, 4, 5, 6, 7, 1, 0] rfl hW
set_option maxHeartbeats 4000000 in
set_option maxRecDepth 100000 in
theorem q_X12_foretold {g : GG} {σ : Hs} {post : Option Value → Hs → Prop} (r0 : Nat) (p0 : Int32) (p1 : Int32) (p2 : Int32) (p3 : Int32) (hW : Do g M_X12_in 0 0 [.int p0, .int 0, .int 3] σ (kI (fun i2 s1 => (¬ i2 = 0 → Do g M_X12_in 0 0 [.int p3, .int 0, .int 2] s1 (kI (fun i6 s5 => (i6 = 0 → post (some (.int (-102))) s5) ∧ (¬ i6 = 0 → Do g M_X12_isNumber 0 0 [.int p1] s5 (kI (fun i10 s9 => (i10 = 0 → post (some (.int (-102))) s9) ∧ (¬ i10 = 0 → Do g M_X12_in 0 0 [.int p2, .int p1, .int 99] s9 (kI (fun i14 s13 => (¬ i14 = 0 → FR s13 r0 12 22 (fun r17 => AI g s13 r17 1 p0 (fun i18 => (i18 = 0 → post (some (.int (-1))) s13) ∧ (¬ i18 = 0 → Rc s13 r0 12 ∧ Do g M_X12_foretoldOf 0 0 [.ref r0, .int p0, .int p1, .int p2, .int p3] s13 (kI (fun i20 s19 => post (some (.int i20)) s19)))))) ∧ (i14 = 0 → post (some (.int (-102))) s13)))))))))) ∧ (i2 = 0 → post (some (.int (-101))) s1)))) : Do g M_X12_foretold 0 0 [.ref r0, .int p0, .int p1, .int p2, .int p3] σ post := by
  refine Do.of (by decide +kernel) (Nat.le_of_ble_eq_true rfl) ?_
  show Fr g M_X12_foretold (0, 0, 0, 0) [(0, .ref r0), (1, .int p0), (2, .int p1), (3, .int p2), (4, .int p3)] [] 0 σ post
  refine fr_iload_n (pc := 0) 1 rfl rfl dX12_foretold_0 ?_
  refine fr_iconst (pc := 1) 0 (by decide) dX12_foretold_1 ?_
  refine fr_iconst (pc := 2) 3 (by decide) dX12_foretold_2 ?_
  refine fr_callS_I (pc := 3) (As := [.int p0, .int 0, .int 3]) (st := []) wd_X12_in w_1067 ok_X12_in (by decide) rfl (Nat.le_of_ble_eq_true rfl) dX12_foretold_3 ⟨Nat.le_refl 0, Nat.le_refl 0⟩ hW (fun i2 s1 hW => ?_)
  refine fr_if_ne (pc := 6) (tgt := 12) (by decide) dX12_foretold_6 hW (fun hW => ?_) (fun hW => ?_)
  · refine fr_iload (pc := 12) 4 rfl dX12_foretold_12 ?_
    refine fr_iconst (pc := 14) 0 (by decide) dX12_foretold_14 ?_
    refine fr_iconst (pc := 15) 2 (by decide) dX12_foretold_15 ?_
    refine fr_callS_I (pc := 16) (As := [.int p3, .int 0, .int 2]) (st := []) wd_X12_in w_1067 ok_X12_in (by decide) rfl (Nat.le_of_ble_eq_true rfl) dX12_foretold_16 ⟨Nat.le_refl 0, Nat.le_refl 0⟩ hW (fun i6 s5 hW => ?_)
    refine fr_if_eq (pc := 19) (tgt := 39) (by decide) dX12_foretold_19 hW (fun hW => ?_) (fun hW => ?_)
    · refine fr_bipush (pc := 39) (-102) (by decide) dX12_foretold_39 ?_
      exact fr_iret (pc := 41) dX12_foretold_41 rfl ⟨Nat.le_refl 0, Nat.le_refl 0⟩ hW
    · refine fr_iload_n (pc := 22) 2 rfl rfl dX12_foretold_22 ?_
      refine fr_callS_I (pc := 23) (As := [.int p1]) (st := []) wd_X12_isNumber w_1077 ok_X12_isNumber (by decide) rfl (Nat.le_of_ble_eq_true rfl) dX12_foretold_23 ⟨Nat.le_refl 0, Nat.le_refl 0⟩ hW (fun i10 s9 hW => ?_)
      refine fr_if_eq (pc := 26) (tgt := 39) (by decide) dX12_foretold_26 hW (fun hW => ?_) (fun hW => ?_)
      · refine fr_bipush (pc := 39) (-102) (by decide) dX12_foretold_39 ?_
        exact fr_iret (pc := 41) dX12_foretold_41 rfl ⟨Nat.le_refl 0, Nat.le_refl 0⟩ hW
      · refine fr_iload_n (pc := 29) 3 rfl rfl dX12_foretold_29 ?_
        refine fr_iload_n (pc := 30) 2 rfl rfl dX12_foretold_30 ?_
        refine fr_bipush (pc := 31) 99 (by decide) dX12_foretold_31 ?_
        refine fr_callS_I (pc := 33) (As := [.int p2, .int p1, .int 99]) (st := []) wd_X12_in w_1067 ok_X12_in (by decide) rfl (Nat.le_of_ble_eq_true rfl) dX12_foretold_33 ⟨Nat.le_refl 0, Nat.le_refl 0⟩ hW (fun i14 s13 hW => ?_)
        refine fr_if_ne (pc := 36) (tgt := 42) (by decide) dX12_foretold_36 hW (fun hW => ?_) (fun hW => ?_)
        · refine fr_aload_n (pc := 42) 0 rfl rfl dX12_foretold_42 ?_
          refine fr_getR (pc := 43) (T := TX12) (k := 22) kc_X12 (by decide) w_1022 dX12_foretold_43 hW (fun r17 hW => ?_)
          refine fr_iload_n (pc := 46) 1 rfl rfl dX12_foretold_46 ?_
          refine fr_zald (pc := 47) dX12_foretold_47 hW (fun i18 hW => ?_)
          refine fr_if_eq (pc := 48) (tgt := 63) (by decide) dX12_foretold_48 hW (fun hW => ?_) (fun hW => ?_)
          · refine fr_iconst (pc := 63) (-1) (by decide) dX12_foretold_63 ?_
            exact fr_iret (pc := 64) dX12_foretold_64 rfl ⟨Nat.le_refl 0, Nat.le_refl 0⟩ hW
          · refine fr_aload_n (pc := 51) 0 rfl rfl dX12_foretold_51 ?_
            refine fr_iload_n (pc := 52) 1 rfl rfl dX12_foretold_52 ?_
            refine fr_iload_n (pc := 53) 2 rfl rfl dX12_foretold_53 ?_
            refine fr_iload_n (pc := 54) 3 rfl rfl dX12_foretold_54 ?_
            refine fr_iload (pc := 55) 4 rfl dX12_foretold_55 ?_
            obtain ⟨hrc, hW⟩ := hW
            refine fr_callV_I (pc := 57) (As := [.int p0, .int p1, .int p2, .int p3]) (st := []) wd_X12_foretoldOf w_1348 ok_X12_foretoldOf (by decide) rfl (Nat.le_of_ble_eq_true rfl) dX12_foretold_57 ⟨Nat.le_refl 0, Nat.le_refl 0⟩ kc_X12 hrc hW (fun i20 s19 hW => ?_)
            refine fr_goto (pc := 60) (tgt := 64) (by decide) dX12_foretold_60 ?_
            exact fr_iret (pc := 64) dX12_foretold_64 rfl ⟨Nat.le_refl 0, Nat.le_refl 0⟩ hW
        · refine fr_bipush (pc := 39) (-102) (by decide) dX12_foretold_39 ?_
          exact fr_iret (pc := 41) dX12_foretold_41 rfl ⟨Nat.le_refl 0, Nat.le_refl 0⟩ hW
  · refine fr_bipush (pc := 9) (-101) (by decide) dX12_foretold_9 ?_
    exact fr_iret (pc := 11) dX12_foretold_11 rfl ⟨Nat.le_refl 0, Nat.le_refl 0⟩ hW
def J_X5_likelyRows_8 (g : GG) (post : Option Value → Hs → Prop) (σ : Hs) (a0 : Nat) (a1 : Nat) (v2 : Int32) (v3 : Int32) (v4 : Int32) : Prop := Fr g M_X5_likelyRows (0, 0, 0, 0) [(0, .ref a0), (1, .ref a1), (2, .int v2), (3, .int v3), (4, .int v4)] [] 8 σ post
set_option maxHeartbeats 4000000 in
set_option maxRecDepth 100000 in
theorem q_X5_likelyRows {g : GG} {σ : Hs} {post : Option Value → Hs → Prop} (r0 : Nat) (p0 : Nat) (p1 : Int32) (hW : FI σ r0 5 4 (fun i1 => J_X5_likelyRows_8 g post σ r0 p0 p1 i1 0 )) : Do g M_X5_likelyRows 0 0 [.ref r0, .ref p0, .int p1] σ post := by
  refine Do.of (by decide +kernel) (Nat.le_of_ble_eq_true rfl) ?_
  show Fr g M_X5_likelyRows (0, 0, 0, 0) [(0, .ref r0), (1, .ref p0), (2, .int p1)] [] 0 σ post
  refine fr_aload_n (pc := 0) 0 rfl rfl dX5_likelyRows_0 ?_
  refine fr_getI (pc := 1) (T := TX5) (k := 4) kc_X5 (by decide) w_1327 dX5_likelyRows_1 hW (fun i1 hW => ?_)
  refine fr_istore_n (pc := 4) (lv' := [(3, .int i1), (0, .ref r0), (1, .ref p0), (2, .int p1)]) rfl (by decide) rfl dX5_likelyRows_4 ?_
  refine fr_iconst (pc := 5) 0 (by decide) dX5_likelyRows_5 ?_
  refine fr_istore (pc := 6) (lv' := [(4, .int 0), (3, .int i1), (0, .ref r0), (1, .ref p0), (2, .int p1)]) (by decide) rfl dX5_likelyRows_6 ?_
  exact fr_sub [2, 3, 4, 1, 0] rfl hW
set_option maxHeartbeats 4000000 in
set_option maxRecDepth 100000 in
theorem q_X5_likelyRows_8 {g : GG} {σ : Hs} {post : Option Value → Hs → Prop} (a0 : Nat) (a1 : Nat) (v2 : Int32) (v3 : Int32) (v4 : Int32) (hW : (4 ≤ v4 → post (some (.int v3)) σ) ∧ (¬ 4 ≤ v4 → Rc σ a0 5 ∧ Do g M_X5_of 0 0 [.ref a0, .int v4] σ (kA (fun s2 => J_X5_likelyRows_8 g post s2 a0 a1 v2 v3 ((v4 + 1)) ) (fun r5 s2 => Rc s2 r5 4 ∧ Do g M_X4_isTaken 0 0 [.ref r5] s2 (kI (fun i7 s6 => (i7 = 0 → J_X5_likelyRows_8 g post s6 a0 a1 v2 v3 ((v4 + 1)) ) ∧ (¬ i7 = 0 → Do g M_X11_has 0 0 [.int v2, .int v4] s6 (kI (fun i11 s10 => (i11 = 0 → J_X5_likelyRows_8 g post s10 a0 a1 v2 v3 ((v4 + 1)) ) ∧ (¬ i11 = 0 → Rc s10 a1 6 ∧ Do g M_X6_isBound 0 0 [.ref a1, .int v4] s10 (kI (fun i15 s14 => (i15 = 0 → J_X5_likelyRows_8 g post s14 a0 a1 v2 v3 ((v4 + 1)) ) ∧ (¬ i15 = 0 → Rc s14 a1 6 ∧ Do g M_X6_least 0 0 [.ref a1, .int v4] s14 (kI (fun i19 s18 => Rc s18 a1 6 ∧ Do g M_X6_greatest 0 0 [.ref a1, .int v4] s18 (kI (fun i23 s22 => Rc s22 r5 4 ∧ Do g M_X4_likelyWithin 0 0 [.ref r5, .int i19, .int i23] s22 (kI (fun i27 s26 => FI s26 a0 5 4 (fun i30 => Do g M_X11_quotient 0 0 [.int (v3 * i27), .int i30] s26 (kI (fun i32 s31 => J_X5_likelyRows_8 g post s31 a0 a1 v2 i32 ((v4 + 1)) )))))))))))))))))))))) : J_X5_likelyRows_8 g post σ a0 a1 v2 v3 v4 := by
  show Fr g M_X5_likelyRows (0, 0, 0, 0) [(0, .ref a0), (1, .ref a1), (2, .int v2), (3, .int v3), (4, .int v4)] [] 8 σ post
  refine fr_iload (pc := 8) 4 rfl dX5_likelyRows_8 ?_
  refine fr_iconst (pc := 10) 4 (by decide) dX5_likelyRows_10 ?_
  refine fr_icmp_ge (pc := 11) (tgt := 90) (by decide) dX5_likelyRows_11 hW (fun hW => ?_) (fun hW => ?_)
  · refine fr_iload_n (pc := 90) 3 rfl rfl dX5_likelyRows_90 ?_
    exact fr_iret (pc := 91) dX5_likelyRows_91 rfl ⟨Nat.le_refl 0, Nat.le_refl 0⟩ hW
  · refine fr_aload_n (pc := 14) 0 rfl rfl dX5_likelyRows_14 ?_
    refine fr_iload (pc := 15) 4 rfl dX5_likelyRows_15 ?_
    obtain ⟨hrc, hW⟩ := hW
    refine fr_callV_A (pc := 17) (As := [.int v4]) (st := []) wd_X5_of w_1328 ok_X5_of (by decide) rfl (Nat.le_of_ble_eq_true rfl) dX5_likelyRows_17 ⟨Nat.le_refl 0, Nat.le_refl 0⟩ kc_X5 hrc hW (fun s2 hW => ?_) (fun r5 s2 hW => ?_)
    · refine fr_astoreN (pc := 20) (lv' := [(5, .null), (0, .ref a0), (1, .ref a1), (2, .int v2), (3, .int v3), (4, .int v4)]) (by decide) rfl dX5_likelyRows_20 ?_
      refine fr_aloadN (pc := 22) 0 rfl dX5_likelyRows_22 ?_
      refine fr_ifnullN (pc := 24) (tgt := 84) (by decide) dX5_likelyRows_24 ?_
      refine fr_iinc (pc := 84) (lv' := [(4, .int (v4 + 1)), (5, .null), (0, .ref a0), (1, .ref a1), (2, .int v2), (3, .int v3)]) (v4 + 1) 5 rfl (congrArg (fun z => v4 + z) (by decide)) (by decide) rfl dX5_likelyRows_84 ?_
      refine fr_goto (pc := 87) (tgt := 8) (by decide) dX5_likelyRows_87 ?_
      exact fr_sub [2, 3, 4, 5, 0] rfl hW
    · refine fr_astore (pc := 20) (lv' := [(5, .ref r5), (0, .ref a0), (1, .ref a1), (2, .int v2), (3, .int v3), (4, .int v4)]) (by decide) rfl dX5_likelyRows_20 ?_
      refine fr_aload (pc := 22) 0 rfl dX5_likelyRows_22 ?_
      refine fr_ifnull (pc := 24) dX5_likelyRows_24 ?_
      refine fr_aload (pc := 27) 0 rfl dX5_likelyRows_27 ?_
      obtain ⟨hrc, hW⟩ := hW
      refine fr_callV_I (pc := 29) (As := []) (st := []) wd_X4_isTaken w_1349 ok_X4_isTaken (by decide) rfl (Nat.le_of_ble_eq_true rfl) dX5_likelyRows_29 ⟨Nat.le_refl 0, Nat.le_refl 0⟩ kc_X4 hrc hW (fun i7 s6 hW => ?_)
      refine fr_if_eq (pc := 32) (tgt := 84) (by decide) dX5_likelyRows_32 hW (fun hW => ?_) (fun hW => ?_)
      · refine fr_iinc (pc := 84) (lv' := [(4, .int (v4 + 1)), (5, .ref r5), (0, .ref a0), (1, .ref a1), (2, .int v2), (3, .int v3)]) (v4 + 1) 5 rfl (congrArg (fun z => v4 + z) (by decide)) (by decide) rfl dX5_likelyRows_84 ?_
        refine fr_goto (pc := 87) (tgt := 8) (by decide) dX5_likelyRows_87 ?_
        exact fr_sub [2, 3, 4, 5, 0] rfl hW
      · refine fr_iload_n (pc := 35) 3 rfl rfl dX5_likelyRows_35 ?_
        refine fr_iload (pc := 36) 5 rfl dX5_likelyRows_36 ?_
        refine fr_callSN_I (pc := 38) (As := [.int v2, .int v4]) (st := []) wd_X11_has ⟨RX11, by decide +kernel⟩ ok_X11_has (by decide) rfl (Nat.le_of_ble_eq_true rfl) dX5_likelyRows_38 ⟨Nat.le_refl 0, Nat.le_refl 0⟩ hW (fun i11 s10 hW => ?_)
        refine fr_if_eq (pc := 41) (tgt := 84) (by decide) dX5_likelyRows_41 hW (fun hW => ?_) (fun hW => ?_)
        · refine fr_iinc (pc := 84) (lv' := [(4, .int (v4 + 1)), (5, .ref r5), (0, .ref a0), (1, .ref a1), (2, .int v2), (3, .int v3)]) (v4 + 1) 5 rfl (congrArg (fun z => v4 + z) (by decide)) (by decide) rfl dX5_likelyRows_84 ?_
          refine fr_goto (pc := 87) (tgt := 8) (by decide) dX5_likelyRows_87 ?_
          exact fr_sub [2, 3, 4, 5, 0] rfl hW
        · refine fr_aload_n (pc := 44) 2 rfl rfl dX5_likelyRows_44 ?_
          refine fr_iload (pc := 45) 5 rfl dX5_likelyRows_45 ?_
          obtain ⟨hrc, hW⟩ := hW
          refine fr_callV_I (pc := 47) (As := [.int v4]) (st := []) wd_X6_isBound w_1350 ok_X6_isBound (by decide) rfl (Nat.le_of_ble_eq_true rfl) dX5_likelyRows_47 ⟨Nat.le_refl 0, Nat.le_refl 0⟩ kc_X6 hrc hW (fun i15 s14 hW => ?_)
          refine fr_if_eq (pc := 50) (tgt := 84) (by decide) dX5_likelyRows_50 hW (fun hW => ?_) (fun hW => ?_)
          · refine fr_iinc (pc := 84) (lv' := [(4, .int (v4 + 1)), (5, .ref r5), (0, .ref a0), (1, .ref a1), (2, .int v2), (3, .int v3)]) (v4 + 1) 5 rfl (congrArg (fun z => v4 + z) (by decide)) (by decide) rfl dX5_likelyRows_84 ?_
            refine fr_goto (pc := 87) (tgt := 8) (by decide) dX5_likelyRows_87 ?_
            exact fr_sub [2, 3, 4, 5, 0] rfl hW
          · refine fr_aload (pc := 53) 0 rfl dX5_likelyRows_53 ?_
            refine fr_aload_n (pc := 55) 2 rfl rfl dX5_likelyRows_55 ?_
            refine fr_iload (pc := 56) 5 rfl dX5_likelyRows_56 ?_
            obtain ⟨hrc, hW⟩ := hW
            refine fr_callV_I (pc := 58) (As := [.int v4]) (st := [.ref r5]) wd_X6_least w_1351 ok_X6_least (by decide) rfl (Nat.le_of_ble_eq_true rfl) dX5_likelyRows_58 ⟨Nat.le_refl 0, Nat.le_refl 0⟩ kc_X6 hrc hW (fun i19 s18 hW => ?_)
            refine fr_aload_n (pc := 61) 2 rfl rfl dX5_likelyRows_61 ?_
            refine fr_iload (pc := 62) 5 rfl dX5_likelyRows_62 ?_
            obtain ⟨hrc, hW⟩ := hW
            refine fr_callV_I (pc := 64) (As := [.int v4]) (st := [.int i19, .ref r5]) wd_X6_greatest w_1352 ok_X6_greatest (by decide) rfl (Nat.le_of_ble_eq_true rfl) dX5_likelyRows_64 ⟨Nat.le_refl 0, Nat.le_refl 0⟩ kc_X6 hrc hW (fun i23 s22 hW => ?_)
            obtain ⟨hrc, hW⟩ := hW
            refine fr_callV_I (pc := 67) (As := [.int i19, .int i23]) (st := []) wd_X4_likelyWithin w_1353 ok_X4_likelyWithin (by decide) rfl (Nat.le_of_ble_eq_true rfl) dX5_likelyRows_67 ⟨Nat.le_refl 0, Nat.le_refl 0⟩ kc_X4 hrc hW (fun i27 s26 hW => ?_)
            refine fr_istore (pc := 70) (lv' := [(6, .int i27), (5, .ref r5), (0, .ref a0), (1, .ref a1), (2, .int v2), (3, .int v3), (4, .int v4)]) (by decide) rfl dX5_likelyRows_70 ?_
            refine fr_iload_n (pc := 72) 5 rfl rfl dX5_likelyRows_72 ?_
            refine fr_iload (pc := 73) 0 rfl dX5_likelyRows_73 ?_
            refine fr_imul (pc := 75) dX5_likelyRows_75 ?_
            refine fr_aload_n (pc := 76) 2 rfl rfl dX5_likelyRows_76 ?_
            refine fr_getI (pc := 77) (T := TX5) (k := 4) kc_X5 (by decide) w_1327 dX5_likelyRows_77 hW (fun i30 hW => ?_)
            refine fr_callSN_I (pc := 80) (As := [.int (v3 * i27), .int i30]) (st := []) wd_X11_quotient ⟨RX11, by decide +kernel⟩ ok_X11_quotient (by decide) rfl (Nat.le_of_ble_eq_true rfl) dX5_likelyRows_80 ⟨Nat.le_refl 0, Nat.le_refl 0⟩ hW (fun i32 s31 hW => ?_)
            refine fr_istore_n (pc := 83) (lv' := [(3, .int i32), (6, .int i27), (5, .ref r5), (0, .ref a0), (1, .ref a1), (2, .int v2), (4, .int v4)]) rfl (by decide) rfl dX5_likelyRows_83 ?_
            refine fr_iinc (pc := 84) (lv' := [(4, .int (v4 + 1)), (3, .int i32), (6, .int i27), (5, .ref r5), (0, .ref a0), (1, .ref a1), (2, .int v2)]) (v4 + 1) 6 rfl (congrArg (fun z => v4 + z) (by decide)) (by decide) rfl dX5_likelyRows_84 ?_
            refine fr_goto (pc := 87) (tgt := 8) (by decide) dX5_likelyRows_87 ?_
            exact fr_sub [4, 5, 6, 1, 0] rfl hW
set_option maxHeartbeats 4000000 in
set_option maxRecDepth 100000 in
theorem q_X11_likely {g : GG} {σ : Hs} {post : Option Value → Hs → Prop} (r0 : Nat) (p0 : Int32) (hW : FR σ r0 11 3 (fun r1 => Rc σ r1 10 ∧ Do g M_X10_question 0 0 [.ref r1, .int p0] σ (kA (fun s2 => post (some (.int (-101))) s2) (fun r5 s2 => FR s2 r0 11 4 (fun r6 => Rc s2 r6 5 ∧ Do g M_X5_likelyRows 0 0 [.ref r6, .ref r5, .int 15] s2 (kI (fun i8 s7 => post (some (.int i8)) s7))))))) : Do g M_X11_likely 0 0 [.ref r0, .int p0] σ post := by
  refine Do.of (by decide +kernel) (Nat.le_of_ble_eq_true rfl) ?_
  show Fr g M_X11_likely (0, 0, 0, 0) [(0, .ref r0), (1, .int p0)] [] 0 σ post
  refine fr_aload_n (pc := 0) 0 rfl rfl dX11_likely_0 ?_
  refine fr_getR (pc := 1) (T := TX11) (k := 3) kc_X11 (by decide) w_995 dX11_likely_1 hW (fun r1 hW => ?_)
  refine fr_iload_n (pc := 4) 1 rfl rfl dX11_likely_4 ?_
  obtain ⟨hrc, hW⟩ := hW
  refine fr_callV_A (pc := 5) (As := [.int p0]) (st := []) wd_X10_question w_1201 ok_X10_question (by decide) rfl (Nat.le_of_ble_eq_true rfl) dX11_likely_5 ⟨Nat.le_refl 0, Nat.le_refl 0⟩ kc_X10 hrc hW (fun s2 hW => ?_) (fun r5 s2 hW => ?_)
  · refine fr_astore_nN (pc := 8) (lv' := [(2, .null), (0, .ref r0), (1, .int p0)]) rfl (by decide) rfl dX11_likely_8 ?_
    refine fr_aload_nN (pc := 9) 0 rfl rfl dX11_likely_9 ?_
    refine fr_ifnonnullN (pc := 10) dX11_likely_10 ?_
    refine fr_bipush (pc := 13) (-101) (by decide) dX11_likely_13 ?_
    refine fr_goto (pc := 15) (tgt := 28) (by decide) dX11_likely_15 ?_
    exact fr_iret (pc := 28) dX11_likely_28 rfl ⟨Nat.le_refl 0, Nat.le_refl 0⟩ hW
  · refine fr_astore_n (pc := 8) (lv' := [(2, .ref r5), (0, .ref r0), (1, .int p0)]) rfl (by decide) rfl dX11_likely_8 ?_
    refine fr_aload_n (pc := 9) 0 rfl rfl dX11_likely_9 ?_
    refine fr_ifnonnull (pc := 10) (tgt := 18) (by decide) dX11_likely_10 ?_
    refine fr_aload_n (pc := 18) 1 rfl rfl dX11_likely_18 ?_
    refine fr_getR (pc := 19) (T := TX11) (k := 4) kc_X11 (by decide) w_998 dX11_likely_19 hW (fun r6 hW => ?_)
    refine fr_aload_n (pc := 22) 0 rfl rfl dX11_likely_22 ?_
    refine fr_bipush (pc := 23) 15 (by decide) dX11_likely_23 ?_
    obtain ⟨hrc, hW⟩ := hW
    refine fr_callV_I (pc := 25) (As := [.ref r5, .int 15]) (st := []) wd_X5_likelyRows w_1354 ok_X5_likelyRows (by decide) rfl (Nat.le_of_ble_eq_true rfl) dX11_likely_25 ⟨Nat.le_refl 0, Nat.le_refl 0⟩ kc_X5 hrc hW (fun i8 s7 hW => ?_)
    exact fr_iret (pc := 28) dX11_likely_28 rfl ⟨Nat.le_refl 0, Nat.le_refl 0⟩ hW
def J_X12_likelyBy_8 (g : GG) (post : Option Value → Hs → Prop) (σ : Hs) (a0 : Nat) (v1 : Int32) (v2 : Int32) (v3 : Int32) (v4 : Int32) : Prop := Fr g M_X12_likelyBy (0, 0, 0, 0) [(0, .ref a0), (1, .int v1), (2, .int v2), (3, .int v3), (4, .int v4)] [] 8 σ post
set_option maxHeartbeats 4000000 in
set_option maxRecDepth 100000 in
theorem q_X12_likelyBy {g : GG} {σ : Hs} {post : Option Value → Hs → Prop} (r0 : Nat) (p0 : Int32) (p1 : Int32) (hW : FI σ r0 12 24 (fun i1 => J_X12_likelyBy_8 g post σ r0 p0 p1 i1 0 )) : Do g M_X12_likelyBy 0 0 [.ref r0, .int p0, .int p1] σ post := by
  refine Do.of (by decide +kernel) (Nat.le_of_ble_eq_true rfl) ?_
  show Fr g M_X12_likelyBy (0, 0, 0, 0) [(0, .ref r0), (1, .int p0), (2, .int p1)] [] 0 σ post
  refine fr_aload_n (pc := 0) 0 rfl rfl dX12_likelyBy_0 ?_
  refine fr_getI (pc := 1) (T := TX12) (k := 24) kc_X12 (by decide) w_1335 dX12_likelyBy_1 hW (fun i1 hW => ?_)
  refine fr_istore_n (pc := 4) (lv' := [(3, .int i1), (0, .ref r0), (1, .int p0), (2, .int p1)]) rfl (by decide) rfl dX12_likelyBy_4 ?_
  refine fr_iconst (pc := 5) 0 (by decide) dX12_likelyBy_5 ?_
  refine fr_istore (pc := 6) (lv' := [(4, .int 0), (3, .int i1), (0, .ref r0), (1, .int p0), (2, .int p1)]) (by decide) rfl dX12_likelyBy_6 ?_
  exact fr_sub [2, 3, 4, 1, 0] rfl hW
set_option maxHeartbeats 4000000 in
set_option maxRecDepth 100000 in
theorem q_X12_likelyBy_8 {g : GG} {σ : Hs} {post : Option Value → Hs → Prop} (a0 : Nat) (v1 : Int32) (v2 : Int32) (v3 : Int32) (v4 : Int32) (hW : (4 ≤ v4 → post (some (.int v3)) σ) ∧ (¬ 4 ≤ v4 → FI σ a0 12 24 (fun i2 => (i2 ≤ 0 → post (some (.int v3)) σ) ∧ (¬ i2 ≤ 0 → (¬ ((v2 >>> (v4 &&& 31)) &&& 1) = 1 → J_X12_likelyBy_8 g post σ a0 v1 v2 v3 ((v4 + 1)) ) ∧ (((v2 >>> (v4 &&& 31)) &&& 1) = 1 → Rc σ a0 12 ∧ Do g M_X12_isBound 0 0 [.ref a0, .int v1, .int v4] σ (kI (fun i4 s3 => (i4 = 0 → J_X12_likelyBy_8 g post s3 a0 v1 v2 v3 ((v4 + 1)) ) ∧ (¬ i4 = 0 → FR s3 a0 12 22 (fun r7 => AI g s3 r7 1 v4 (fun i8 => (i8 = 0 → J_X12_likelyBy_8 g post s3 a0 v1 v2 v3 ((v4 + 1)) ) ∧ (¬ i8 = 0 → Rc s3 a0 12 ∧ Do g M_X12_leastOf 0 0 [.ref a0, .int v1, .int v4] s3 (kI (fun i10 s9 => Rc s9 a0 12 ∧ Do g M_X12_mostOf 0 0 [.ref a0, .int v1, .int v4] s9 (kI (fun i14 s13 => Rc s13 a0 12 ∧ Do g M_X12_foretoldOf 0 0 [.ref a0, .int v4, .int i10, .int i14, .int 2] s13 (kI (fun i18 s17 => FI s17 a0 12 24 (fun i21 => ¬ i21 = 0 ∧ J_X12_likelyBy_8 g post s17 a0 v1 v2 (((v3 * i18) / i21)) ((v4 + 1)) )))))))))))))))))) : J_X12_likelyBy_8 g post σ a0 v1 v2 v3 v4 := by
  show Fr g M_X12_likelyBy (0, 0, 0, 0) [(0, .ref a0), (1, .int v1), (2, .int v2), (3, .int v3), (4, .int v4)] [] 8 σ post
  refine fr_iload (pc := 8) 4 rfl dX12_likelyBy_8 ?_
  refine fr_iconst (pc := 10) 4 (by decide) dX12_likelyBy_10 ?_
  refine fr_icmp_ge (pc := 11) (tgt := 86) (by decide) dX12_likelyBy_11 hW (fun hW => ?_) (fun hW => ?_)
  · refine fr_iload_n (pc := 86) 3 rfl rfl dX12_likelyBy_86 ?_
    exact fr_iret (pc := 87) dX12_likelyBy_87 rfl ⟨Nat.le_refl 0, Nat.le_refl 0⟩ hW
  · refine fr_aload_n (pc := 14) 0 rfl rfl dX12_likelyBy_14 ?_
    refine fr_getI (pc := 15) (T := TX12) (k := 24) kc_X12 (by decide) w_1335 dX12_likelyBy_15 hW (fun i2 hW => ?_)
    refine fr_if_le (pc := 18) (tgt := 86) (by decide) dX12_likelyBy_18 hW (fun hW => ?_) (fun hW => ?_)
    · refine fr_iload_n (pc := 86) 3 rfl rfl dX12_likelyBy_86 ?_
      exact fr_iret (pc := 87) dX12_likelyBy_87 rfl ⟨Nat.le_refl 0, Nat.le_refl 0⟩ hW
    · refine fr_iload_n (pc := 21) 2 rfl rfl dX12_likelyBy_21 ?_
      refine fr_iload (pc := 22) 4 rfl dX12_likelyBy_22 ?_
      refine fr_ishr (pc := 24) dX12_likelyBy_24 ?_
      refine fr_iconst (pc := 25) 1 (by decide) dX12_likelyBy_25 ?_
      refine fr_iand (pc := 26) dX12_likelyBy_26 ?_
      refine fr_iconst (pc := 27) 1 (by decide) dX12_likelyBy_27 ?_
      refine fr_icmp_ne (pc := 28) (tgt := 80) (by decide) dX12_likelyBy_28 hW (fun hW => ?_) (fun hW => ?_)
      · refine fr_iinc (pc := 80) (lv' := [(4, .int (v4 + 1)), (0, .ref a0), (1, .int v1), (2, .int v2), (3, .int v3)]) (v4 + 1) 4 rfl (congrArg (fun z => v4 + z) (by decide)) (by decide) rfl dX12_likelyBy_80 ?_
        refine fr_goto (pc := 83) (tgt := 8) (by decide) dX12_likelyBy_83 ?_
        exact fr_sub [1, 2, 3, 4, 0] rfl hW
      · refine fr_aload_n (pc := 31) 0 rfl rfl dX12_likelyBy_31 ?_
        refine fr_iload_n (pc := 32) 1 rfl rfl dX12_likelyBy_32 ?_
        refine fr_iload (pc := 33) 4 rfl dX12_likelyBy_33 ?_
        obtain ⟨hrc, hW⟩ := hW
        refine fr_callV_I (pc := 35) (As := [.int v1, .int v4]) (st := []) wd_X12_isBound w_1255 ok_X12_isBound (by decide) rfl (Nat.le_of_ble_eq_true rfl) dX12_likelyBy_35 ⟨Nat.le_refl 0, Nat.le_refl 0⟩ kc_X12 hrc hW (fun i4 s3 hW => ?_)
        refine fr_if_eq (pc := 38) (tgt := 80) (by decide) dX12_likelyBy_38 hW (fun hW => ?_) (fun hW => ?_)
        · refine fr_iinc (pc := 80) (lv' := [(4, .int (v4 + 1)), (0, .ref a0), (1, .int v1), (2, .int v2), (3, .int v3)]) (v4 + 1) 4 rfl (congrArg (fun z => v4 + z) (by decide)) (by decide) rfl dX12_likelyBy_80 ?_
          refine fr_goto (pc := 83) (tgt := 8) (by decide) dX12_likelyBy_83 ?_
          exact fr_sub [1, 2, 3, 4, 0] rfl hW
        · refine fr_aload_n (pc := 41) 0 rfl rfl dX12_likelyBy_41 ?_
          refine fr_getR (pc := 42) (T := TX12) (k := 22) kc_X12 (by decide) w_1022 dX12_likelyBy_42 hW (fun r7 hW => ?_)
          refine fr_iload (pc := 45) 4 rfl dX12_likelyBy_45 ?_
          refine fr_zald (pc := 47) dX12_likelyBy_47 hW (fun i8 hW => ?_)
          refine fr_if_eq (pc := 48) (tgt := 80) (by decide) dX12_likelyBy_48 hW (fun hW => ?_) (fun hW => ?_)
          · refine fr_iinc (pc := 80) (lv' := [(4, .int (v4 + 1)), (0, .ref a0), (1, .int v1), (2, .int v2), (3, .int v3)]) (v4 + 1) 4 rfl (congrArg (fun z => v4 + z) (by decide)) (by decide) rfl dX12_likelyBy_80 ?_
            refine fr_goto (pc := 83) (tgt := 8) (by decide) dX12_likelyBy_83 ?_
            exact fr_sub [1, 2, 3, 4, 0] rfl hW
          · refine fr_iload_n (pc := 51) 3 rfl rfl dX12_likelyBy_51 ?_
            refine fr_aload_n (pc := 52) 0 rfl rfl dX12_likelyBy_52 ?_
            refine fr_iload (pc := 53) 4 rfl dX12_likelyBy_53 ?_
            refine fr_aload_n (pc := 55) 0 rfl rfl dX12_likelyBy_55 ?_
            refine fr_iload_n (pc := 56) 1 rfl rfl dX12_likelyBy_56 ?_
            refine fr_iload (pc := 57) 4 rfl dX12_likelyBy_57 ?_
            obtain ⟨hrc, hW⟩ := hW
            refine fr_callV_I (pc := 59) (As := [.int v1, .int v4]) (st := [.int v4, .ref a0, .int v3]) wd_X12_leastOf w_1212 ok_X12_leastOf (by decide) rfl (Nat.le_of_ble_eq_true rfl) dX12_likelyBy_59 ⟨Nat.le_refl 0, Nat.le_refl 0⟩ kc_X12 hrc hW (fun i10 s9 hW => ?_)
            refine fr_aload_n (pc := 62) 0 rfl rfl dX12_likelyBy_62 ?_
            refine fr_iload_n (pc := 63) 1 rfl rfl dX12_likelyBy_63 ?_
            refine fr_iload (pc := 64) 4 rfl dX12_likelyBy_64 ?_
            obtain ⟨hrc, hW⟩ := hW
            refine fr_callV_I (pc := 66) (As := [.int v1, .int v4]) (st := [.int i10, .int v4, .ref a0, .int v3]) wd_X12_mostOf w_1213 ok_X12_mostOf (by decide) rfl (Nat.le_of_ble_eq_true rfl) dX12_likelyBy_66 ⟨Nat.le_refl 0, Nat.le_refl 0⟩ kc_X12 hrc hW (fun i14 s13 hW => ?_)
            refine fr_iconst (pc := 69) 2 (by decide) dX12_likelyBy_69 ?_
            obtain ⟨hrc, hW⟩ := hW
            refine fr_callV_I (pc := 70) (As := [.int v4, .int i10, .int i14, .int 2]) (st := [.int v3]) wd_X12_foretoldOf w_1348 ok_X12_foretoldOf (by decide) rfl (Nat.le_of_ble_eq_true rfl) dX12_likelyBy_70 ⟨Nat.le_refl 0, Nat.le_refl 0⟩ kc_X12 hrc hW (fun i18 s17 hW => ?_)
            refine fr_imul (pc := 73) dX12_likelyBy_73 ?_
            refine fr_aload_n (pc := 74) 0 rfl rfl dX12_likelyBy_74 ?_
            refine fr_getI (pc := 75) (T := TX12) (k := 24) kc_X12 (by decide) w_1335 dX12_likelyBy_75 hW (fun i21 hW => ?_)
            obtain ⟨hne, hW⟩ := hW
            refine fr_idiv (pc := 78) hne dX12_likelyBy_78 ?_
            refine fr_istore_n (pc := 79) (lv' := [(3, .int ((v3 * i18) / i21)), (0, .ref a0), (1, .int v1), (2, .int v2), (4, .int v4)]) rfl (by decide) rfl dX12_likelyBy_79 ?_
            refine fr_iinc (pc := 80) (lv' := [(4, .int (v4 + 1)), (3, .int ((v3 * i18) / i21)), (0, .ref a0), (1, .int v1), (2, .int v2)]) (v4 + 1) 4 rfl (congrArg (fun z => v4 + z) (by decide)) (by decide) rfl dX12_likelyBy_80 ?_
            refine fr_goto (pc := 83) (tgt := 8) (by decide) dX12_likelyBy_83 ?_
            exact fr_sub [2, 3, 4, 1, 0] rfl hW
set_option maxHeartbeats 4000000 in
set_option maxRecDepth 100000 in
theorem q_X12_likely {g : GG} {σ : Hs} {post : Option Value → Hs → Prop} (r0 : Nat) (p0 : Int32) (hW : Rc σ r0 12 ∧ Do g M_X12_isQuestion 0 0 [.ref r0, .int p0] σ (kI (fun i2 s1 => (i2 = 0 → post (some (.int (-101))) s1) ∧ (¬ i2 = 0 → Rc s1 r0 12 ∧ Do g M_X12_likelyBy 0 0 [.ref r0, .int p0, .int 15] s1 (kI (fun i6 s5 => post (some (.int i6)) s5)))))) : Do g M_X12_likely 0 0 [.ref r0, .int p0] σ post := by
  refine Do.of (by decide +kernel) (Nat.le_of_ble_eq_true rfl) ?_
  show Fr g M_X12_likely (0, 0, 0, 0) [(0, .ref r0), (1, .int p0)] [] 0 σ post
  refine fr_aload_n (pc := 0) 0 rfl rfl dX12_likely_0 ?_
  refine fr_iload_n (pc := 1) 1 rfl rfl dX12_likely_1 ?_
  obtain ⟨hrc, hW⟩ := hW
  refine fr_callV_I (pc := 2) (As := [.int p0]) (st := []) wd_X12_isQuestion w_1205 ok_X12_isQuestion (by decide) rfl (Nat.le_of_ble_eq_true rfl) dX12_likely_2 ⟨Nat.le_refl 0, Nat.le_refl 0⟩ kc_X12 hrc hW (fun i2 s1 hW => ?_)
  refine fr_if_eq (pc := 5) (tgt := 18) (by decide) dX12_likely_5 hW (fun hW => ?_) (fun hW => ?_)
  · refine fr_bipush (pc := 18) (-101) (by decide) dX12_likely_18 ?_
    exact fr_iret (pc := 20) dX12_likely_20 rfl ⟨Nat.le_refl 0, Nat.le_refl 0⟩ hW
  · refine fr_aload_n (pc := 8) 0 rfl rfl dX12_likely_8 ?_
    refine fr_iload_n (pc := 9) 1 rfl rfl dX12_likely_9 ?_
    refine fr_bipush (pc := 10) 15 (by decide) dX12_likely_10 ?_
    obtain ⟨hrc, hW⟩ := hW
    refine fr_callV_I (pc := 12) (As := [.int p0, .int 15]) (st := []) wd_X12_likelyBy w_1355 ok_X12_likelyBy (by decide) rfl (Nat.le_of_ble_eq_true rfl) dX12_likely_12 ⟨Nat.le_refl 0, Nat.le_refl 0⟩ kc_X12 hrc hW (fun i6 s5 hW => ?_)
    refine fr_goto (pc := 15) (tgt := 20) (by decide) dX12_likely_15 ?_
    exact fr_iret (pc := 20) dX12_likely_20 rfl ⟨Nat.le_refl 0, Nat.le_refl 0⟩ hW
set_option maxHeartbeats 4000000 in
set_option maxRecDepth 100000 in
theorem q_X5_looksForSorting {g : GG} {σ : Hs} {post : Option Value → Hs → Prop} (r0 : Nat) (p0 : Nat) (hW : Rc σ p0 6 ∧ Do g M_X6_mustSort 0 0 [.ref p0] σ (kI (fun i2 s1 => (i2 = 0 → post (some (.int 0)) s1) ∧ (¬ i2 = 0 → Rc s1 r0 5 ∧ Do g M_X5_likelyRows 0 0 [.ref r0, .ref p0, .int 15] s1 (kI (fun i6 s5 => post (some (.int i6)) s5)))))) : Do g M_X5_looksForSorting 0 0 [.ref r0, .ref p0] σ post := by
  refine Do.of (by decide +kernel) (Nat.le_of_ble_eq_true rfl) ?_
  show Fr g M_X5_looksForSorting (0, 0, 0, 0) [(0, .ref r0), (1, .ref p0)] [] 0 σ post
  refine fr_aload_n (pc := 0) 1 rfl rfl dX5_looksForSorting_0 ?_
  obtain ⟨hrc, hW⟩ := hW
  refine fr_callV_I (pc := 1) (As := []) (st := []) wd_X6_mustSort w_1356 ok_X6_mustSort (by decide) rfl (Nat.le_of_ble_eq_true rfl) dX5_looksForSorting_1 ⟨Nat.le_refl 0, Nat.le_refl 0⟩ kc_X6 hrc hW (fun i2 s1 hW => ?_)
  refine fr_if_eq (pc := 4) (tgt := 17) (by decide) dX5_looksForSorting_4 hW (fun hW => ?_) (fun hW => ?_)
  · refine fr_iconst (pc := 17) 0 (by decide) dX5_looksForSorting_17 ?_
    exact fr_iret (pc := 18) dX5_looksForSorting_18 rfl ⟨Nat.le_refl 0, Nat.le_refl 0⟩ hW
  · refine fr_aload_n (pc := 7) 0 rfl rfl dX5_looksForSorting_7 ?_
    refine fr_aload_n (pc := 8) 1 rfl rfl dX5_looksForSorting_8 ?_
    refine fr_bipush (pc := 9) 15 (by decide) dX5_looksForSorting_9 ?_
    obtain ⟨hrc, hW⟩ := hW
    refine fr_callV_I (pc := 11) (As := [.ref p0, .int 15]) (st := []) wd_X5_likelyRows w_1357 ok_X5_likelyRows (by decide) rfl (Nat.le_of_ble_eq_true rfl) dX5_looksForSorting_11 ⟨Nat.le_refl 0, Nat.le_refl 0⟩ kc_X5 hrc hW (fun i6 s5 hW => ?_)
    refine fr_goto (pc := 14) (tgt := 18) (by decide) dX5_looksForSorting_14 ?_
    exact fr_iret (pc := 18) dX5_looksForSorting_18 rfl ⟨Nat.le_refl 0, Nat.le_refl 0⟩ hW
set_option maxHeartbeats 4000000 in
set_option maxRecDepth 100000 in
theorem q_X5_looksByTable {g : GG} {σ : Hs} {post : Option Value → Hs → Prop} (r0 : Nat) (p0 : Nat) (hW : FR σ r0 5 0 (fun r1 => Rc σ r1 8 ∧ Do g M_X8_fullPages 0 0 [.ref r1] σ (kI (fun i3 s2 => Rc s2 r0 5 ∧ Do g M_X5_looksForSorting 0 0 [.ref r0, .ref p0] s2 (kI (fun i7 s6 => post (some (.int (i3 + i7))) s6)))))) : Do g M_X5_looksByTable 0 0 [.ref r0, .ref p0] σ post := by
  refine Do.of (by decide +kernel) (Nat.le_of_ble_eq_true rfl) ?_
  show Fr g M_X5_looksByTable (0, 0, 0, 0) [(0, .ref r0), (1, .ref p0)] [] 0 σ post
  refine fr_aload_n (pc := 0) 0 rfl rfl dX5_looksByTable_0 ?_
  refine fr_getR (pc := 1) (T := TX5) (k := 0) kc_X5 (by decide) w_974 dX5_looksByTable_1 hW (fun r1 hW => ?_)
  obtain ⟨hrc, hW⟩ := hW
  refine fr_callV_I (pc := 4) (As := []) (st := []) wd_X8_fullPages w_1358 ok_X8_fullPages (by decide) rfl (Nat.le_of_ble_eq_true rfl) dX5_looksByTable_4 ⟨Nat.le_refl 0, Nat.le_refl 0⟩ kc_X8 hrc hW (fun i3 s2 hW => ?_)
  refine fr_aload_n (pc := 7) 0 rfl rfl dX5_looksByTable_7 ?_
  refine fr_aload_n (pc := 8) 1 rfl rfl dX5_looksByTable_8 ?_
  obtain ⟨hrc, hW⟩ := hW
  refine fr_callV_I (pc := 9) (As := [.ref p0]) (st := [.int i3]) wd_X5_looksForSorting w_1359 ok_X5_looksForSorting (by decide) rfl (Nat.le_of_ble_eq_true rfl) dX5_looksByTable_9 ⟨Nat.le_refl 0, Nat.le_refl 0⟩ kc_X5 hrc hW (fun i7 s6 hW => ?_)
  refine fr_iadd (pc := 12) dX5_looksByTable_12 ?_
  exact fr_iret (pc := 13) dX5_looksByTable_13 rfl ⟨Nat.le_refl 0, Nat.le_refl 0⟩ hW
set_option maxHeartbeats 4000000 in
set_option maxRecDepth 100000 in
theorem q_X2_room {g : GG} {σ : Hs} {post : Option Value → Hs → Prop} (r0 : Nat) (hW : FI σ r0 2 3 (fun i1 => post (some (.int i1)) σ)) : Do g M_X2_room 0 0 [.ref r0] σ post := by
  refine Do.of (by decide +kernel) (Nat.le_of_ble_eq_true rfl) ?_
  show Fr g M_X2_room (0, 0, 0, 0) [(0, .ref r0)] [] 0 σ post
  refine fr_aload_n (pc := 0) 0 rfl rfl dX2_room_0 ?_
  refine fr_getI (pc := 1) (T := TX2) (k := 3) kc_X2 (by decide) w_1053 dX2_room_1 hW (fun i1 hW => ?_)
  exact fr_iret (pc := 4) dX2_room_4 rfl ⟨Nat.le_refl 0, Nat.le_refl 0⟩ hW
set_option maxHeartbeats 4000000 in
set_option maxRecDepth 100000 in
theorem q_X5_looksByOrder {g : GG} {σ : Hs} {post : Option Value → Hs → Prop} (r0 : Nat) (p0 : Nat) (p1 : Nat) (hW : Rc σ p1 2 ∧ Do g M_X2_runColumns 0 0 [.ref p1, .ref p0] σ (kI (fun i2 s1 => Rc s1 r0 5 ∧ Do g M_X5_likelyRows 0 0 [.ref r0, .ref p0, .int i2] s1 (kI (fun i6 s5 => Rc s5 p1 2 ∧ Do g M_X2_height 0 0 [.ref p1] s5 (kI (fun i10 s9 => Rc s9 p1 2 ∧ Do g M_X2_room 0 0 [.ref p1] s9 (kI (fun i14 s13 => Do g M_X11_roundedUp 0 0 [.int i6, .int i14] s13 (kI (fun i18 s17 => Rc s17 p1 2 ∧ Do g M_X2_covers 0 0 [.ref p1, .ref p0] s17 (kI (fun i22 s21 => (¬ i22 = 0 → Rc s21 p1 2 ∧ Do g M_X2_sortsFor 0 0 [.ref p1, .ref p0] s21 (kI (fun i26 s25 => (i26 = 0 → Rc s25 r0 5 ∧ Do g M_X5_looksForSorting 0 0 [.ref r0, .ref p0] s25 (kI (fun i30 s29 => post (some (.int ((i10 + (if 1 < i18 then i18 else 1)) + i30))) s29))) ∧ (¬ i26 = 0 → post (some (.int ((i10 + (if 1 < i18 then i18 else 1)) + 0))) s25)))) ∧ (i22 = 0 → FR s21 r0 5 0 (fun r33 => Rc s21 r33 8 ∧ Do g M_X8_fullPages 0 0 [.ref r33] s21 (kI (fun i35 s34 => Rc s34 p1 2 ∧ Do g M_X2_columns 0 0 [.ref p1] s34 (kI (fun i39 s38 => Rc s38 r0 5 ∧ Do g M_X5_likelyRows 0 0 [.ref r0, .ref p0, .int i39] s38 (kI (fun i43 s42 => Rc s42 p1 2 ∧ Do g M_X2_sortsFor 0 0 [.ref p1, .ref p0] s42 (kI (fun i47 s46 => (i47 = 0 → Rc s46 r0 5 ∧ Do g M_X5_looksForSorting 0 0 [.ref r0, .ref p0] s46 (kI (fun i51 s50 => post (some (.int (((i10 + (if 1 < i18 then i18 else 1)) + (if i43 < i35 then i43 else i35)) + i51))) s50))) ∧ (¬ i47 = 0 → post (some (.int (((i10 + (if 1 < i18 then i18 else 1)) + (if i43 < i35 then i43 else i35)) + 0))) s46)))))))))))))))))))))))) : Do g M_X5_looksByOrder 0 0 [.ref r0, .ref p0, .ref p1] σ post := by
  refine Do.of (by decide +kernel) (Nat.le_of_ble_eq_true rfl) ?_
  show Fr g M_X5_looksByOrder (0, 0, 0, 0) [(0, .ref r0), (1, .ref p0), (2, .ref p1)] [] 0 σ post
  refine fr_aload_n (pc := 0) 0 rfl rfl dX5_looksByOrder_0 ?_
  refine fr_aload_n (pc := 1) 1 rfl rfl dX5_looksByOrder_1 ?_
  refine fr_aload_n (pc := 2) 2 rfl rfl dX5_looksByOrder_2 ?_
  refine fr_aload_n (pc := 3) 1 rfl rfl dX5_looksByOrder_3 ?_
  obtain ⟨hrc, hW⟩ := hW
  refine fr_callV_I (pc := 4) (As := [.ref p0]) (st := [.ref p0, .ref r0]) wd_X2_runColumns w_1360 ok_X2_runColumns (by decide) rfl (Nat.le_of_ble_eq_true rfl) dX5_looksByOrder_4 ⟨Nat.le_refl 0, Nat.le_refl 0⟩ kc_X2 hrc hW (fun i2 s1 hW => ?_)
  obtain ⟨hrc, hW⟩ := hW
  refine fr_callV_I (pc := 7) (As := [.ref p0, .int i2]) (st := []) wd_X5_likelyRows w_1357 ok_X5_likelyRows (by decide) rfl (Nat.le_of_ble_eq_true rfl) dX5_looksByOrder_7 ⟨Nat.le_refl 0, Nat.le_refl 0⟩ kc_X5 hrc hW (fun i6 s5 hW => ?_)
  refine fr_istore_n (pc := 10) (lv' := [(3, .int i6), (0, .ref r0), (1, .ref p0), (2, .ref p1)]) rfl (by decide) rfl dX5_looksByOrder_10 ?_
  refine fr_aload_n (pc := 11) 3 rfl rfl dX5_looksByOrder_11 ?_
  obtain ⟨hrc, hW⟩ := hW
  refine fr_callV_I (pc := 12) (As := []) (st := []) wd_X2_height w_1361 ok_X2_height (by decide) rfl (Nat.le_of_ble_eq_true rfl) dX5_looksByOrder_12 ⟨Nat.le_refl 0, Nat.le_refl 0⟩ kc_X2 hrc hW (fun i10 s9 hW => ?_)
  refine fr_iconst (pc := 15) 1 (by decide) dX5_looksByOrder_15 ?_
  refine fr_iload_n (pc := 16) 0 rfl rfl dX5_looksByOrder_16 ?_
  refine fr_aload_n (pc := 17) 3 rfl rfl dX5_looksByOrder_17 ?_
  obtain ⟨hrc, hW⟩ := hW
  refine fr_callV_I (pc := 18) (As := []) (st := [.int i6, .int 1, .int i10]) wd_X2_room w_1362 ok_X2_room (by decide) rfl (Nat.le_of_ble_eq_true rfl) dX5_looksByOrder_18 ⟨Nat.le_refl 0, Nat.le_refl 0⟩ kc_X2 hrc hW (fun i14 s13 hW => ?_)
  refine fr_callSN_I (pc := 21) (As := [.int i6, .int i14]) (st := [.int 1, .int i10]) wd_X11_roundedUp ⟨RX11, by decide +kernel⟩ ok_X11_roundedUp (by decide) rfl (Nat.le_of_ble_eq_true rfl) dX5_looksByOrder_21 ⟨Nat.le_refl 0, Nat.le_refl 0⟩ hW (fun i18 s17 hW => ?_)
  refine fr_mmax (pc := 24) ⟨w_1363, w_1170, w_1118, w_1171⟩ (by decide) (Nat.le_of_ble_eq_true rfl) dX5_looksByOrder_24 ⟨Nat.le_refl 0, Nat.le_refl 0⟩ ?_
  refine fr_iadd (pc := 27) dX5_looksByOrder_27 ?_
  refine fr_istore (pc := 28) (lv' := [(4, .int (i10 + (if 1 < i18 then i18 else 1))), (3, .int i6), (0, .ref r0), (1, .ref p0), (2, .ref p1)]) (by decide) rfl dX5_looksByOrder_28 ?_
  refine fr_aload_n (pc := 30) 4 rfl rfl dX5_looksByOrder_30 ?_
  refine fr_aload_n (pc := 31) 3 rfl rfl dX5_looksByOrder_31 ?_
  obtain ⟨hrc, hW⟩ := hW
  refine fr_callV_I (pc := 32) (As := [.ref p0]) (st := []) wd_X2_covers w_1364 ok_X2_covers (by decide) rfl (Nat.le_of_ble_eq_true rfl) dX5_looksByOrder_32 ⟨Nat.le_refl 0, Nat.le_refl 0⟩ kc_X2 hrc hW (fun i22 s21 hW => ?_)
  refine fr_if_ne (pc := 35) (tgt := 62) (by decide) dX5_looksByOrder_35 hW (fun hW => ?_) (fun hW => ?_)
  · refine fr_iload (pc := 62) 0 rfl dX5_looksByOrder_62 ?_
    refine fr_aload_n (pc := 64) 4 rfl rfl dX5_looksByOrder_64 ?_
    refine fr_aload_n (pc := 65) 3 rfl rfl dX5_looksByOrder_65 ?_
    obtain ⟨hrc, hW⟩ := hW
    refine fr_callV_I (pc := 66) (As := [.ref p0]) (st := [.int (i10 + (if 1 < i18 then i18 else 1))]) wd_X2_sortsFor w_1367 ok_X2_sortsFor (by decide) rfl (Nat.le_of_ble_eq_true rfl) dX5_looksByOrder_66 ⟨Nat.le_refl 0, Nat.le_refl 0⟩ kc_X2 hrc hW (fun i26 s25 hW => ?_)
    refine fr_if_eq (pc := 69) (tgt := 76) (by decide) dX5_looksByOrder_69 hW (fun hW => ?_) (fun hW => ?_)
    · refine fr_aload_n (pc := 76) 2 rfl rfl dX5_looksByOrder_76 ?_
      refine fr_aload_n (pc := 77) 3 rfl rfl dX5_looksByOrder_77 ?_
      obtain ⟨hrc, hW⟩ := hW
      refine fr_callV_I (pc := 78) (As := [.ref p0]) (st := [.int (i10 + (if 1 < i18 then i18 else 1))]) wd_X5_looksForSorting w_1359 ok_X5_looksForSorting (by decide) rfl (Nat.le_of_ble_eq_true rfl) dX5_looksByOrder_78 ⟨Nat.le_refl 0, Nat.le_refl 0⟩ kc_X5 hrc hW (fun i30 s29 hW => ?_)
      refine fr_iadd (pc := 81) dX5_looksByOrder_81 ?_
      exact fr_iret (pc := 82) dX5_looksByOrder_82 rfl ⟨Nat.le_refl 0, Nat.le_refl 0⟩ hW
    · refine fr_iconst (pc := 72) 0 (by decide) dX5_looksByOrder_72 ?_
      refine fr_goto (pc := 73) (tgt := 81) (by decide) dX5_looksByOrder_73 ?_
      refine fr_iadd (pc := 81) dX5_looksByOrder_81 ?_
      exact fr_iret (pc := 82) dX5_looksByOrder_82 rfl ⟨Nat.le_refl 0, Nat.le_refl 0⟩ hW
  · refine fr_iload (pc := 38) 0 rfl dX5_looksByOrder_38 ?_
    refine fr_aload_n (pc := 40) 2 rfl rfl dX5_looksByOrder_40 ?_
    refine fr_getR (pc := 41) (T := TX5) (k := 0) kc_X5 (by decide) w_974 dX5_looksByOrder_41 hW (fun r33 hW => ?_)
    obtain ⟨hrc, hW⟩ := hW
    refine fr_callV_I (pc := 44) (As := []) (st := [.int (i10 + (if 1 < i18 then i18 else 1))]) wd_X8_fullPages w_1358 ok_X8_fullPages (by decide) rfl (Nat.le_of_ble_eq_true rfl) dX5_looksByOrder_44 ⟨Nat.le_refl 0, Nat.le_refl 0⟩ kc_X8 hrc hW (fun i35 s34 hW => ?_)
    refine fr_aload_n (pc := 47) 2 rfl rfl dX5_looksByOrder_47 ?_
    refine fr_aload_n (pc := 48) 3 rfl rfl dX5_looksByOrder_48 ?_
    refine fr_aload_n (pc := 49) 4 rfl rfl dX5_looksByOrder_49 ?_
    obtain ⟨hrc, hW⟩ := hW
    refine fr_callV_I (pc := 50) (As := []) (st := [.ref p0, .ref r0, .int i35, .int (i10 + (if 1 < i18 then i18 else 1))]) wd_X2_columns w_1365 ok_X2_columns (by decide) rfl (Nat.le_of_ble_eq_true rfl) dX5_looksByOrder_50 ⟨Nat.le_refl 0, Nat.le_refl 0⟩ kc_X2 hrc hW (fun i39 s38 hW => ?_)
    obtain ⟨hrc, hW⟩ := hW
    refine fr_callV_I (pc := 53) (As := [.ref p0, .int i39]) (st := [.int i35, .int (i10 + (if 1 < i18 then i18 else 1))]) wd_X5_likelyRows w_1357 ok_X5_likelyRows (by decide) rfl (Nat.le_of_ble_eq_true rfl) dX5_looksByOrder_53 ⟨Nat.le_refl 0, Nat.le_refl 0⟩ kc_X5 hrc hW (fun i43 s42 hW => ?_)
    refine fr_mmin (pc := 56) ⟨w_1366, w_1117, w_1118, w_1119⟩ (by decide) (Nat.le_of_ble_eq_true rfl) dX5_looksByOrder_56 ⟨Nat.le_refl 0, Nat.le_refl 0⟩ ?_
    refine fr_iadd (pc := 59) dX5_looksByOrder_59 ?_
    refine fr_istore (pc := 60) (lv' := [(4, .int ((i10 + (if 1 < i18 then i18 else 1)) + (if i43 < i35 then i43 else i35))), (3, .int i6), (0, .ref r0), (1, .ref p0), (2, .ref p1)]) (by decide) rfl dX5_looksByOrder_60 ?_
    refine fr_iload (pc := 62) 0 rfl dX5_looksByOrder_62 ?_
    refine fr_aload_n (pc := 64) 4 rfl rfl dX5_looksByOrder_64 ?_
    refine fr_aload_n (pc := 65) 3 rfl rfl dX5_looksByOrder_65 ?_
    obtain ⟨hrc, hW⟩ := hW
    refine fr_callV_I (pc := 66) (As := [.ref p0]) (st := [.int ((i10 + (if 1 < i18 then i18 else 1)) + (if i43 < i35 then i43 else i35))]) wd_X2_sortsFor w_1367 ok_X2_sortsFor (by decide) rfl (Nat.le_of_ble_eq_true rfl) dX5_looksByOrder_66 ⟨Nat.le_refl 0, Nat.le_refl 0⟩ kc_X2 hrc hW (fun i47 s46 hW => ?_)
    refine fr_if_eq (pc := 69) (tgt := 76) (by decide) dX5_looksByOrder_69 hW (fun hW => ?_) (fun hW => ?_)
    · refine fr_aload_n (pc := 76) 2 rfl rfl dX5_looksByOrder_76 ?_
      refine fr_aload_n (pc := 77) 3 rfl rfl dX5_looksByOrder_77 ?_
      obtain ⟨hrc, hW⟩ := hW
      refine fr_callV_I (pc := 78) (As := [.ref p0]) (st := [.int ((i10 + (if 1 < i18 then i18 else 1)) + (if i43 < i35 then i43 else i35))]) wd_X5_looksForSorting w_1359 ok_X5_looksForSorting (by decide) rfl (Nat.le_of_ble_eq_true rfl) dX5_looksByOrder_78 ⟨Nat.le_refl 0, Nat.le_refl 0⟩ kc_X5 hrc hW (fun i51 s50 hW => ?_)
      refine fr_iadd (pc := 81) dX5_looksByOrder_81 ?_
      exact fr_iret (pc := 82) dX5_looksByOrder_82 rfl ⟨Nat.le_refl 0, Nat.le_refl 0⟩ hW
    · refine fr_iconst (pc := 72) 0 (by decide) dX5_looksByOrder_72 ?_
      refine fr_goto (pc := 73) (tgt := 81) (by decide) dX5_looksByOrder_73 ?_
      refine fr_iadd (pc := 81) dX5_looksByOrder_81 ?_
      exact fr_iret (pc := 82) dX5_looksByOrder_82 rfl ⟨Nat.le_refl 0, Nat.le_refl 0⟩ hW
set_option maxHeartbeats 4000000 in
set_option maxRecDepth 100000 in
theorem q_X11_guess {g : GG} {σ : Hs} {post : Option Value → Hs → Prop} (r0 : Nat) (p0 : Int32) (p1 : Int32) (hW : FR σ r0 11 3 (fun r1 => Rc σ r1 10 ∧ Do g M_X10_question 0 0 [.ref r1, .int p0] σ (kA (fun s2 => post (some (.int (-101))) s2) (fun r5 s2 => (¬ p1 = 0 → (p1 ≤ 0 → post (some (.int (-101))) s2) ∧ (¬ p1 ≤ 0 → FR s2 r0 11 1 (fun r6 => Rc s2 r6 3 ∧ Do g M_X3_kept 0 0 [.ref r6, .int (p1 - 1)] s2 (kA (fun s7 => post (some (.int (-101))) s7) (fun r10 s7 => FR s7 r0 11 4 (fun r11 => Rc s7 r11 5 ∧ Do g M_X5_looksByOrder 0 0 [.ref r11, .ref r5, .ref r10] s7 (kI (fun i13 s12 => post (some (.int i13)) s12)))))))) ∧ (p1 = 0 → FR s2 r0 11 4 (fun r16 => Rc s2 r16 5 ∧ Do g M_X5_looksByTable 0 0 [.ref r16, .ref r5] s2 (kI (fun i18 s17 => post (some (.int i18)) s17)))))))) : Do g M_X11_guess 0 0 [.ref r0, .int p0, .int p1] σ post := by
  refine Do.of (by decide +kernel) (Nat.le_of_ble_eq_true rfl) ?_
  show Fr g M_X11_guess (0, 0, 0, 0) [(0, .ref r0), (1, .int p0), (2, .int p1)] [] 0 σ post
  refine fr_aload_n (pc := 0) 0 rfl rfl dX11_guess_0 ?_
  refine fr_getR (pc := 1) (T := TX11) (k := 3) kc_X11 (by decide) w_995 dX11_guess_1 hW (fun r1 hW => ?_)
  refine fr_iload_n (pc := 4) 1 rfl rfl dX11_guess_4 ?_
  obtain ⟨hrc, hW⟩ := hW
  refine fr_callV_A (pc := 5) (As := [.int p0]) (st := []) wd_X10_question w_1201 ok_X10_question (by decide) rfl (Nat.le_of_ble_eq_true rfl) dX11_guess_5 ⟨Nat.le_refl 0, Nat.le_refl 0⟩ kc_X10 hrc hW (fun s2 hW => ?_) (fun r5 s2 hW => ?_)
  · refine fr_astore_nN (pc := 8) (lv' := [(3, .null), (0, .ref r0), (1, .int p0), (2, .int p1)]) rfl (by decide) rfl dX11_guess_8 ?_
    refine fr_aload_nN (pc := 9) 0 rfl rfl dX11_guess_9 ?_
    refine fr_ifnonnullN (pc := 10) dX11_guess_10 ?_
    refine fr_bipush (pc := 13) (-101) (by decide) dX11_guess_13 ?_
    exact fr_iret (pc := 15) dX11_guess_15 rfl ⟨Nat.le_refl 0, Nat.le_refl 0⟩ hW
  · refine fr_astore_n (pc := 8) (lv' := [(3, .ref r5), (0, .ref r0), (1, .int p0), (2, .int p1)]) rfl (by decide) rfl dX11_guess_8 ?_
    refine fr_aload_n (pc := 9) 0 rfl rfl dX11_guess_9 ?_
    refine fr_ifnonnull (pc := 10) (tgt := 16) (by decide) dX11_guess_10 ?_
    refine fr_iload_n (pc := 16) 3 rfl rfl dX11_guess_16 ?_
    refine fr_if_ne (pc := 17) (tgt := 29) (by decide) dX11_guess_17 hW (fun hW => ?_) (fun hW => ?_)
    · refine fr_iload_n (pc := 29) 3 rfl rfl dX11_guess_29 ?_
      refine fr_if_le (pc := 30) (tgt := 46) (by decide) dX11_guess_30 hW (fun hW => ?_) (fun hW => ?_)
      · refine fr_null (pc := 46) dX11_guess_46 ?_
        refine fr_astoreN (pc := 47) (lv' := [(4, .null), (3, .ref r5), (0, .ref r0), (1, .int p0), (2, .int p1)]) (by decide) rfl dX11_guess_47 ?_
        refine fr_aloadN (pc := 49) 0 rfl dX11_guess_49 ?_
        refine fr_ifnonnullN (pc := 51) dX11_guess_51 ?_
        refine fr_bipush (pc := 54) (-101) (by decide) dX11_guess_54 ?_
        refine fr_goto (pc := 56) (tgt := 69) (by decide) dX11_guess_56 ?_
        exact fr_iret (pc := 69) dX11_guess_69 rfl ⟨Nat.le_refl 0, Nat.le_refl 0⟩ hW
      · refine fr_aload_n (pc := 33) 1 rfl rfl dX11_guess_33 ?_
        refine fr_getR (pc := 34) (T := TX11) (k := 1) kc_X11 (by decide) w_991 dX11_guess_34 hW (fun r6 hW => ?_)
        refine fr_iload_n (pc := 37) 3 rfl rfl dX11_guess_37 ?_
        refine fr_iconst (pc := 38) 1 (by decide) dX11_guess_38 ?_
        refine fr_isub (pc := 39) dX11_guess_39 ?_
        obtain ⟨hrc, hW⟩ := hW
        refine fr_callV_A (pc := 40) (As := [.int (p1 - 1)]) (st := []) wd_X3_kept w_1132 ok_X3_kept (by decide) rfl (Nat.le_of_ble_eq_true rfl) dX11_guess_40 ⟨Nat.le_refl 0, Nat.le_refl 0⟩ kc_X3 hrc hW (fun s7 hW => ?_) (fun r10 s7 hW => ?_)
        · refine fr_goto (pc := 43) (tgt := 47) (by decide) dX11_guess_43 ?_
          refine fr_astoreN (pc := 47) (lv' := [(4, .null), (3, .ref r5), (0, .ref r0), (1, .int p0), (2, .int p1)]) (by decide) rfl dX11_guess_47 ?_
          refine fr_aloadN (pc := 49) 0 rfl dX11_guess_49 ?_
          refine fr_ifnonnullN (pc := 51) dX11_guess_51 ?_
          refine fr_bipush (pc := 54) (-101) (by decide) dX11_guess_54 ?_
          refine fr_goto (pc := 56) (tgt := 69) (by decide) dX11_guess_56 ?_
          exact fr_iret (pc := 69) dX11_guess_69 rfl ⟨Nat.le_refl 0, Nat.le_refl 0⟩ hW
        · refine fr_goto (pc := 43) (tgt := 47) (by decide) dX11_guess_43 ?_
          refine fr_astore (pc := 47) (lv' := [(4, .ref r10), (3, .ref r5), (0, .ref r0), (1, .int p0), (2, .int p1)]) (by decide) rfl dX11_guess_47 ?_
          refine fr_aload (pc := 49) 0 rfl dX11_guess_49 ?_
          refine fr_ifnonnull (pc := 51) (tgt := 59) (by decide) dX11_guess_51 ?_
          refine fr_aload_n (pc := 59) 2 rfl rfl dX11_guess_59 ?_
          refine fr_getR (pc := 60) (T := TX11) (k := 4) kc_X11 (by decide) w_998 dX11_guess_60 hW (fun r11 hW => ?_)
          refine fr_aload_n (pc := 63) 1 rfl rfl dX11_guess_63 ?_
          refine fr_aload (pc := 64) 0 rfl dX11_guess_64 ?_
          obtain ⟨hrc, hW⟩ := hW
          refine fr_callV_I (pc := 66) (As := [.ref r5, .ref r10]) (st := []) wd_X5_looksByOrder w_1369 ok_X5_looksByOrder (by decide) rfl (Nat.le_of_ble_eq_true rfl) dX11_guess_66 ⟨Nat.le_refl 0, Nat.le_refl 0⟩ kc_X5 hrc hW (fun i13 s12 hW => ?_)
          exact fr_iret (pc := 69) dX11_guess_69 rfl ⟨Nat.le_refl 0, Nat.le_refl 0⟩ hW
    · refine fr_aload_n (pc := 20) 1 rfl rfl dX11_guess_20 ?_
      refine fr_getR (pc := 21) (T := TX11) (k := 4) kc_X11 (by decide) w_998 dX11_guess_21 hW (fun r16 hW => ?_)
      refine fr_aload_n (pc := 24) 0 rfl rfl dX11_guess_24 ?_
      obtain ⟨hrc, hW⟩ := hW
      refine fr_callV_I (pc := 25) (As := [.ref r5]) (st := []) wd_X5_looksByTable w_1368 ok_X5_looksByTable (by decide) rfl (Nat.le_of_ble_eq_true rfl) dX11_guess_25 ⟨Nat.le_refl 0, Nat.le_refl 0⟩ kc_X5 hrc hW (fun i18 s17 hW => ?_)
      exact fr_iret (pc := 28) dX11_guess_28 rfl ⟨Nat.le_refl 0, Nat.le_refl 0⟩ hW
