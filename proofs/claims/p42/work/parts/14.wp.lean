def J_X2_hasSome_3 (g : GG) (post : Option Value → Hs → Prop) (σ : Hs) (a0 : Nat) (w1 : Int64) (v4 : Int32) (v5 : Int32) : Prop := Fr g M_X2_hasSome (0, 0, 0, 0) [(0, .ref a0), (1, .long w1), (4, .int v4), (5, .int v5)] [] 3 σ post
set_option maxHeartbeats 4000000 in
set_option maxRecDepth 100000 in
theorem q_X2_hasSome {g : GG} {σ : Hs} {post : Option Value → Hs → Prop} (r0 : Nat) (p0 : Int64) (p1 : Int32) (p2 : Int32) (hW : J_X2_hasSome_3 g post σ r0 p0 p2 p1 ) : Do g M_X2_hasSome 0 0 [.ref r0, .long p0, .int p1, .int p2] σ post := by
  refine Do.of (by decide +kernel) (Nat.le_of_ble_eq_true rfl) ?_
  show Fr g M_X2_hasSome (0, 0, 0, 0) [(0, .ref r0), (1, .long p0), (3, .int p1), (4, .int p2)] [] 0 σ post
  refine fr_iload_n (pc := 0) 2 rfl rfl dX2_hasSome_0 ?_
  refine fr_istore (pc := 1) (lv' := [(5, .int p1), (0, .ref r0), (1, .long p0), (3, .int p1), (4, .int p2)]) (by decide) rfl dX2_hasSome_1 ?_
  exact fr_sub [1, 2, 4, 0] rfl hW
set_option maxHeartbeats 4000000 in
set_option maxRecDepth 100000 in
theorem q_X2_hasSome_3 {g : GG} {σ : Hs} {post : Option Value → Hs → Prop} (a0 : Nat) (w1 : Int64) (v4 : Int32) (v5 : Int32) (hW : (v4 ≤ v5 → post (some (.int 0)) σ) ∧ (¬ v4 ≤ v5 → FR σ a0 2 6 (fun r1 => Rc σ r1 1 ∧ Do g M_X1_at 0 0 [.ref r1, .int v5] σ (kI (fun i3 s2 => Do g M_X11_hasSlot 0 0 [.long w1, .int i3] s2 (kI (fun i7 s6 => (i7 = 0 → J_X2_hasSome_3 g post s6 a0 w1 v4 ((v5 + 1)) ) ∧ (¬ i7 = 0 → post (some (.int 1)) s6)))))))) : J_X2_hasSome_3 g post σ a0 w1 v4 v5 := by
  show Fr g M_X2_hasSome (0, 0, 0, 0) [(0, .ref a0), (1, .long w1), (4, .int v4), (5, .int v5)] [] 3 σ post
  refine fr_iload (pc := 3) 3 rfl dX2_hasSome_3 ?_
  refine fr_iload (pc := 5) 2 rfl dX2_hasSome_5 ?_
  refine fr_icmp_ge (pc := 7) (tgt := 34) (by decide) dX2_hasSome_7 hW (fun hW => ?_) (fun hW => ?_)
  · refine fr_iconst (pc := 34) 0 (by decide) dX2_hasSome_34 ?_
    exact fr_zret (pc := 35) dX2_hasSome_35 rfl ⟨Nat.le_refl 0, Nat.le_refl 0⟩ ⟨rfl, hW⟩
  · refine fr_lload_n (pc := 10) 1 rfl rfl dX2_hasSome_10 ?_
    refine fr_aload_n (pc := 11) 0 rfl rfl dX2_hasSome_11 ?_
    refine fr_getR (pc := 12) (T := TX2) (k := 6) kc_X2 (by decide) w_607 dX2_hasSome_12 hW (fun r1 hW => ?_)
    refine fr_iload (pc := 15) 3 rfl dX2_hasSome_15 ?_
    obtain ⟨hrc, hW⟩ := hW
    refine fr_callV_I (pc := 17) (As := [.int v5]) (st := [.long w1]) wd_X1_at w_604 ok_X1_at (by decide) rfl (Nat.le_of_ble_eq_true rfl) dX2_hasSome_17 ⟨Nat.le_refl 0, Nat.le_refl 0⟩ kc_X1 hrc hW (fun i3 s2 hW => ?_)
    refine fr_callSN_I (pc := 20) (As := [.long w1, .int i3]) (st := []) wd_X11_hasSlot ⟨RX11, by decide +kernel⟩ ok_X11_hasSlot (by decide) rfl (Nat.le_of_ble_eq_true rfl) dX2_hasSome_20 ⟨Nat.le_refl 0, Nat.le_refl 0⟩ hW (fun i7 s6 hW => ?_)
    refine fr_if_eq (pc := 23) (tgt := 28) (by decide) dX2_hasSome_23 hW (fun hW => ?_) (fun hW => ?_)
    · refine fr_iinc (pc := 28) (lv' := [(5, .int (v5 + 1)), (0, .ref a0), (1, .long w1), (4, .int v4)]) (v5 + 1) 3 rfl (congrArg (fun z => v5 + z) (by decide)) (by decide) rfl dX2_hasSome_28 ?_
      refine fr_goto (pc := 31) (tgt := 3) (by decide) dX2_hasSome_31 ?_
      exact fr_sub [1, 2, 3, 0] rfl hW
    · refine fr_iconst (pc := 26) 1 (by decide) dX2_hasSome_26 ?_
      exact fr_zret (pc := 27) dX2_hasSome_27 rfl ⟨Nat.le_refl 0, Nat.le_refl 0⟩ ⟨rfl, hW⟩
def J_X2_leavesOf_8 (g : GG) (post : Option Value → Hs → Prop) (σ : Hs) (a0 : Nat) (w1 : Int64) (v3 : Int32) (v4 : Int32) (v5 : Int32) : Prop := Fr g M_X2_leavesOf (0, 0, 0, 0) [(0, .ref a0), (1, .long w1), (3, .int v3), (4, .int v4), (5, .int v5)] [] 8 σ post
set_option maxHeartbeats 4000000 in
set_option maxRecDepth 100000 in
theorem q_X2_leavesOf {g : GG} {σ : Hs} {post : Option Value → Hs → Prop} (r0 : Nat) (p0 : Int64) (hW : J_X2_leavesOf_8 g post σ r0 p0 0 0 0 ) : Do g M_X2_leavesOf 0 0 [.ref r0, .long p0] σ post := by
  refine Do.of (by decide +kernel) (Nat.le_of_ble_eq_true rfl) ?_
  show Fr g M_X2_leavesOf (0, 0, 0, 0) [(0, .ref r0), (1, .long p0)] [] 0 σ post
  refine fr_iconst (pc := 0) 0 (by decide) dX2_leavesOf_0 ?_
  refine fr_istore_n (pc := 1) (lv' := [(3, .int 0), (0, .ref r0), (1, .long p0)]) rfl (by decide) rfl dX2_leavesOf_1 ?_
  refine fr_iconst (pc := 2) 0 (by decide) dX2_leavesOf_2 ?_
  refine fr_istore (pc := 3) (lv' := [(4, .int 0), (3, .int 0), (0, .ref r0), (1, .long p0)]) (by decide) rfl dX2_leavesOf_3 ?_
  refine fr_iconst (pc := 5) 0 (by decide) dX2_leavesOf_5 ?_
  refine fr_istore (pc := 6) (lv' := [(5, .int 0), (4, .int 0), (3, .int 0), (0, .ref r0), (1, .long p0)]) (by decide) rfl dX2_leavesOf_6 ?_
  exact fr_sub [3, 4, 2, 1, 0] rfl hW
set_option maxHeartbeats 4000000 in
set_option maxRecDepth 100000 in
theorem q_X2_leavesOf_8 {g : GG} {σ : Hs} {post : Option Value → Hs → Prop} (a0 : Nat) (w1 : Int64) (v3 : Int32) (v4 : Int32) (v5 : Int32) (hW : FI σ a0 2 9 (fun i1 => (i1 ≤ v5 → (¬ v3 = 0 → post (some (.int v3)) σ) ∧ (v3 = 0 → FI σ a0 2 9 (fun i2 => (i2 ≤ 0 → post (some (.int v3)) σ) ∧ (¬ i2 ≤ 0 → post (some (.int 1)) σ)))) ∧ (¬ i1 ≤ v5 → FR σ a0 2 7 (fun r3 => Rc σ r3 1 ∧ Do g M_X1_at 0 0 [.ref r3, .int v5] σ (kI (fun i5 s4 => Rc s4 a0 2 ∧ Do g M_X2_hasSome 0 0 [.ref a0, .long w1, .int v4, .int (v4 + i5)] s4 (kI (fun i9 s8 => (i9 = 0 → J_X2_leavesOf_8 g post s8 a0 w1 v3 ((v4 + i5)) ((v5 + 1)) ) ∧ (¬ i9 = 0 → J_X2_leavesOf_8 g post s8 a0 w1 ((v3 + 1)) ((v4 + i5)) ((v5 + 1)) ))))))))) : J_X2_leavesOf_8 g post σ a0 w1 v3 v4 v5 := by
  show Fr g M_X2_leavesOf (0, 0, 0, 0) [(0, .ref a0), (1, .long w1), (3, .int v3), (4, .int v4), (5, .int v5)] [] 8 σ post
  refine fr_iload (pc := 8) 4 rfl dX2_leavesOf_8 ?_
  refine fr_aload_n (pc := 10) 0 rfl rfl dX2_leavesOf_10 ?_
  refine fr_getI (pc := 11) (T := TX2) (k := 9) kc_X2 (by decide) w_609 dX2_leavesOf_11 hW (fun i1 hW => ?_)
  refine fr_icmp_ge (pc := 14) (tgt := 56) (by decide) dX2_leavesOf_14 hW (fun hW => ?_) (fun hW => ?_)
  · refine fr_iload_n (pc := 56) 2 rfl rfl dX2_leavesOf_56 ?_
    refine fr_if_ne (pc := 57) (tgt := 71) (by decide) dX2_leavesOf_57 hW (fun hW => ?_) (fun hW => ?_)
    · refine fr_iload_n (pc := 71) 2 rfl rfl dX2_leavesOf_71 ?_
      exact fr_iret (pc := 72) dX2_leavesOf_72 rfl ⟨Nat.le_refl 0, Nat.le_refl 0⟩ hW
    · refine fr_aload_n (pc := 60) 0 rfl rfl dX2_leavesOf_60 ?_
      refine fr_getI (pc := 61) (T := TX2) (k := 9) kc_X2 (by decide) w_609 dX2_leavesOf_61 hW (fun i2 hW => ?_)
      refine fr_if_le (pc := 64) (tgt := 71) (by decide) dX2_leavesOf_64 hW (fun hW => ?_) (fun hW => ?_)
      · refine fr_iload_n (pc := 71) 2 rfl rfl dX2_leavesOf_71 ?_
        exact fr_iret (pc := 72) dX2_leavesOf_72 rfl ⟨Nat.le_refl 0, Nat.le_refl 0⟩ hW
      · refine fr_iconst (pc := 67) 1 (by decide) dX2_leavesOf_67 ?_
        refine fr_goto (pc := 68) (tgt := 72) (by decide) dX2_leavesOf_68 ?_
        exact fr_iret (pc := 72) dX2_leavesOf_72 rfl ⟨Nat.le_refl 0, Nat.le_refl 0⟩ hW
  · refine fr_iload (pc := 17) 3 rfl dX2_leavesOf_17 ?_
    refine fr_aload_n (pc := 19) 0 rfl rfl dX2_leavesOf_19 ?_
    refine fr_getR (pc := 20) (T := TX2) (k := 7) kc_X2 (by decide) w_610 dX2_leavesOf_20 hW (fun r3 hW => ?_)
    refine fr_iload (pc := 23) 4 rfl dX2_leavesOf_23 ?_
    obtain ⟨hrc, hW⟩ := hW
    refine fr_callV_I (pc := 25) (As := [.int v5]) (st := [.int v4]) wd_X1_at w_604 ok_X1_at (by decide) rfl (Nat.le_of_ble_eq_true rfl) dX2_leavesOf_25 ⟨Nat.le_refl 0, Nat.le_refl 0⟩ kc_X1 hrc hW (fun i5 s4 hW => ?_)
    refine fr_iadd (pc := 28) dX2_leavesOf_28 ?_
    refine fr_istore (pc := 29) (lv' := [(6, .int (v4 + i5)), (0, .ref a0), (1, .long w1), (3, .int v3), (4, .int v4), (5, .int v5)]) (by decide) rfl dX2_leavesOf_29 ?_
    refine fr_aload_n (pc := 31) 1 rfl rfl dX2_leavesOf_31 ?_
    refine fr_lload_n (pc := 32) 2 rfl rfl dX2_leavesOf_32 ?_
    refine fr_iload (pc := 33) 4 rfl dX2_leavesOf_33 ?_
    refine fr_iload (pc := 35) 0 rfl dX2_leavesOf_35 ?_
    obtain ⟨hrc, hW⟩ := hW
    refine fr_callV_I (pc := 37) (As := [.long w1, .int v4, .int (v4 + i5)]) (st := []) wd_X2_hasSome w_776 ok_X2_hasSome (by decide) rfl (Nat.le_of_ble_eq_true rfl) dX2_leavesOf_37 ⟨Nat.le_refl 0, Nat.le_refl 0⟩ kc_X2 hrc hW (fun i9 s8 hW => ?_)
    refine fr_if_eq (pc := 40) (tgt := 46) (by decide) dX2_leavesOf_40 hW (fun hW => ?_) (fun hW => ?_)
    · refine fr_iload (pc := 46) 0 rfl dX2_leavesOf_46 ?_
      refine fr_istore (pc := 48) (lv' := [(4, .int (v4 + i5)), (6, .int (v4 + i5)), (0, .ref a0), (1, .long w1), (3, .int v3), (5, .int v5)]) (by decide) rfl dX2_leavesOf_48 ?_
      refine fr_iinc (pc := 50) (lv' := [(5, .int (v5 + 1)), (4, .int (v4 + i5)), (6, .int (v4 + i5)), (0, .ref a0), (1, .long w1), (3, .int v3)]) (v5 + 1) 5 rfl (congrArg (fun z => v5 + z) (by decide)) (by decide) rfl dX2_leavesOf_50 ?_
      refine fr_goto (pc := 53) (tgt := 8) (by decide) dX2_leavesOf_53 ?_
      exact fr_sub [3, 4, 5, 1, 0] rfl hW
    · refine fr_iinc (pc := 43) (lv' := [(3, .int (v3 + 1)), (6, .int (v4 + i5)), (0, .ref a0), (1, .long w1), (4, .int v4), (5, .int v5)]) (v3 + 1) 3 rfl (congrArg (fun z => v3 + z) (by decide)) (by decide) rfl dX2_leavesOf_43 ?_
      refine fr_iload (pc := 46) 1 rfl dX2_leavesOf_46 ?_
      refine fr_istore (pc := 48) (lv' := [(4, .int (v4 + i5)), (3, .int (v3 + 1)), (6, .int (v4 + i5)), (0, .ref a0), (1, .long w1), (5, .int v5)]) (by decide) rfl dX2_leavesOf_48 ?_
      refine fr_iinc (pc := 50) (lv' := [(5, .int (v5 + 1)), (4, .int (v4 + i5)), (3, .int (v3 + 1)), (6, .int (v4 + i5)), (0, .ref a0), (1, .long w1)]) (v5 + 1) 5 rfl (congrArg (fun z => v5 + z) (by decide)) (by decide) rfl dX2_leavesOf_50 ?_
      refine fr_goto (pc := 53) (tgt := 8) (by decide) dX2_leavesOf_53 ?_
      exact fr_sub [4, 5, 2, 1, 0] rfl hW
set_option maxHeartbeats 4000000 in
set_option maxRecDepth 100000 in
theorem q_X6_usedColumns {g : GG} {σ : Hs} {post : Option Value → Hs → Prop} (r0 : Nat) (hW : FI σ r0 6 2 (fun i1 => FI σ r0 6 4 (fun i2 => FI σ r0 6 5 (fun i3 => (¬ i3 = (-1) → FI σ r0 6 5 (fun i4 => Do g M_X11_with 0 0 [.int (i1 ||| i2), .int i4] σ (kI (fun i6 s5 => post (some (.int i6)) s5)))) ∧ (i3 = (-1) → post (some (.int (i1 ||| i2))) σ))))) : Do g M_X6_usedColumns 0 0 [.ref r0] σ post := by
  refine Do.of (by decide +kernel) (Nat.le_of_ble_eq_true rfl) ?_
  show Fr g M_X6_usedColumns (0, 0, 0, 0) [(0, .ref r0)] [] 0 σ post
  refine fr_aload_n (pc := 0) 0 rfl rfl dX6_usedColumns_0 ?_
  refine fr_getI (pc := 1) (T := TX6) (k := 2) kc_X6 (by decide) w_679 dX6_usedColumns_1 hW (fun i1 hW => ?_)
  refine fr_aload_n (pc := 4) 0 rfl rfl dX6_usedColumns_4 ?_
  refine fr_getI (pc := 5) (T := TX6) (k := 4) kc_X6 (by decide) w_681 dX6_usedColumns_5 hW (fun i2 hW => ?_)
  refine fr_ior (pc := 8) dX6_usedColumns_8 ?_
  refine fr_istore_n (pc := 9) (lv' := [(1, .int (i1 ||| i2)), (0, .ref r0)]) rfl (by decide) rfl dX6_usedColumns_9 ?_
  refine fr_aload_n (pc := 10) 1 rfl rfl dX6_usedColumns_10 ?_
  refine fr_getI (pc := 11) (T := TX6) (k := 5) kc_X6 (by decide) w_682 dX6_usedColumns_11 hW (fun i3 hW => ?_)
  refine fr_iconst (pc := 14) (-1) (by decide) dX6_usedColumns_14 ?_
  refine fr_icmp_ne (pc := 15) (tgt := 22) (by decide) dX6_usedColumns_15 hW (fun hW => ?_) (fun hW => ?_)
  · refine fr_iload_n (pc := 22) 0 rfl rfl dX6_usedColumns_22 ?_
    refine fr_aload_n (pc := 23) 1 rfl rfl dX6_usedColumns_23 ?_
    refine fr_getI (pc := 24) (T := TX6) (k := 5) kc_X6 (by decide) w_682 dX6_usedColumns_24 hW (fun i4 hW => ?_)
    refine fr_callSN_I (pc := 27) (As := [.int (i1 ||| i2), .int i4]) (st := []) wd_X11_with ⟨RX11, by decide +kernel⟩ ok_X11_with (by decide) rfl (Nat.le_of_ble_eq_true rfl) dX6_usedColumns_27 ⟨Nat.le_refl 0, Nat.le_refl 0⟩ hW (fun i6 s5 hW => ?_)
    exact fr_iret (pc := 30) dX6_usedColumns_30 rfl ⟨Nat.le_refl 0, Nat.le_refl 0⟩ hW
  · refine fr_iload_n (pc := 18) 0 rfl rfl dX6_usedColumns_18 ?_
    refine fr_goto (pc := 19) (tgt := 30) (by decide) dX6_usedColumns_19 ?_
    exact fr_iret (pc := 30) dX6_usedColumns_30 rfl ⟨Nat.le_refl 0, Nat.le_refl 0⟩ hW
set_option maxHeartbeats 4000000 in
set_option maxRecDepth 100000 in
theorem q_X2_covers {g : GG} {σ : Hs} {post : Option Value → Hs → Prop} (r0 : Nat) (p0 : Nat) (hW : Rc σ p0 6 ∧ Do g M_X6_usedColumns 0 0 [.ref p0] σ (kI (fun i2 s1 => FI s1 r0 2 4 (fun i5 => (¬ (i2 &&& (i5 ^^^ (-1))) = 0 → post (some (.int 0)) s1) ∧ ((i2 &&& (i5 ^^^ (-1))) = 0 → post (some (.int 1)) s1))))) : Do g M_X2_covers 0 0 [.ref r0, .ref p0] σ post := by
  refine Do.of (by decide +kernel) (Nat.le_of_ble_eq_true rfl) ?_
  show Fr g M_X2_covers (0, 0, 0, 0) [(0, .ref r0), (1, .ref p0)] [] 0 σ post
  refine fr_aload_n (pc := 0) 1 rfl rfl dX2_covers_0 ?_
  obtain ⟨hrc, hW⟩ := hW
  refine fr_callV_I (pc := 1) (As := []) (st := []) wd_X6_usedColumns w_777 ok_X6_usedColumns (by decide) rfl (Nat.le_of_ble_eq_true rfl) dX2_covers_1 ⟨Nat.le_refl 0, Nat.le_refl 0⟩ kc_X6 hrc hW (fun i2 s1 hW => ?_)
  refine fr_aload_n (pc := 4) 0 rfl rfl dX2_covers_4 ?_
  refine fr_getI (pc := 5) (T := TX2) (k := 4) kc_X2 (by decide) w_639 dX2_covers_5 hW (fun i5 hW => ?_)
  refine fr_iconst (pc := 8) (-1) (by decide) dX2_covers_8 ?_
  refine fr_ixor (pc := 9) dX2_covers_9 ?_
  refine fr_iand (pc := 10) dX2_covers_10 ?_
  refine fr_if_ne (pc := 11) (tgt := 18) (by decide) dX2_covers_11 hW (fun hW => ?_) (fun hW => ?_)
  · refine fr_iconst (pc := 18) 0 (by decide) dX2_covers_18 ?_
    exact fr_zret (pc := 19) dX2_covers_19 rfl ⟨Nat.le_refl 0, Nat.le_refl 0⟩ ⟨rfl, hW⟩
  · refine fr_iconst (pc := 14) 1 (by decide) dX2_covers_14 ?_
    refine fr_goto (pc := 15) (tgt := 19) (by decide) dX2_covers_15 ?_
    exact fr_zret (pc := 19) dX2_covers_19 rfl ⟨Nat.le_refl 0, Nat.le_refl 0⟩ ⟨rfl, hW⟩
set_option maxHeartbeats 4000000 in
set_option maxRecDepth 100000 in
theorem q_X6_sortColumn {g : GG} {σ : Hs} {post : Option Value → Hs → Prop} (r0 : Nat) (hW : FI σ r0 6 5 (fun i1 => post (some (.int i1)) σ)) : Do g M_X6_sortColumn 0 0 [.ref r0] σ post := by
  refine Do.of (by decide +kernel) (Nat.le_of_ble_eq_true rfl) ?_
  show Fr g M_X6_sortColumn (0, 0, 0, 0) [(0, .ref r0)] [] 0 σ post
  refine fr_aload_n (pc := 0) 0 rfl rfl dX6_sortColumn_0 ?_
  refine fr_getI (pc := 1) (T := TX6) (k := 5) kc_X6 (by decide) w_682 dX6_sortColumn_1 hW (fun i1 hW => ?_)
  exact fr_iret (pc := 4) dX6_sortColumn_4 rfl ⟨Nat.le_refl 0, Nat.le_refl 0⟩ hW
def J_X2_sortsFor_2 (g : GG) (post : Option Value → Hs → Prop) (σ : Hs) (a0 : Nat) (a1 : Nat) (v2 : Int32) : Prop := Fr g M_X2_sortsFor (0, 0, 0, 0) [(0, .ref a0), (1, .ref a1), (2, .int v2)] [] 2 σ post
set_option maxHeartbeats 4000000 in
set_option maxRecDepth 100000 in
theorem q_X2_sortsFor {g : GG} {σ : Hs} {post : Option Value → Hs → Prop} (r0 : Nat) (p0 : Nat) (hW : J_X2_sortsFor_2 g post σ r0 p0 0 ) : Do g M_X2_sortsFor 0 0 [.ref r0, .ref p0] σ post := by
  refine Do.of (by decide +kernel) (Nat.le_of_ble_eq_true rfl) ?_
  show Fr g M_X2_sortsFor (0, 0, 0, 0) [(0, .ref r0), (1, .ref p0)] [] 0 σ post
  refine fr_iconst (pc := 0) 0 (by decide) dX2_sortsFor_0 ?_
  refine fr_istore_n (pc := 1) (lv' := [(2, .int 0), (0, .ref r0), (1, .ref p0)]) rfl (by decide) rfl dX2_sortsFor_1 ?_
  exact fr_sub [1, 2, 0] rfl hW
set_option maxHeartbeats 4000000 in
set_option maxRecDepth 100000 in
theorem q_X2_sortsFor_2 {g : GG} {σ : Hs} {post : Option Value → Hs → Prop} (a0 : Nat) (a1 : Nat) (v2 : Int32) (hW : FI σ a0 2 2 (fun i1 => (i1 ≤ v2 → post (some (.int 0)) σ) ∧ (¬ i1 ≤ v2 → FR σ a0 2 5 (fun r2 => Rc σ r2 1 ∧ Do g M_X1_at 0 0 [.ref r2, .int v2] σ (kI (fun i4 s3 => Rc s3 a1 6 ∧ Do g M_X6_isFixed 0 0 [.ref a1, .int i4] s3 (kI (fun i8 s7 => (¬ i8 = 0 → J_X2_sortsFor_2 g post s7 a0 a1 ((v2 + 1)) ) ∧ (i8 = 0 → Rc s7 a1 6 ∧ Do g M_X6_sortColumn 0 0 [.ref a1] s7 (kI (fun i12 s11 => (¬ i4 = i12 → post (some (.int 0)) s11) ∧ (i4 = i12 → post (some (.int 1)) s11)))))))))))) : J_X2_sortsFor_2 g post σ a0 a1 v2 := by
  show Fr g M_X2_sortsFor (0, 0, 0, 0) [(0, .ref a0), (1, .ref a1), (2, .int v2)] [] 2 σ post
  refine fr_iload_n (pc := 2) 2 rfl rfl dX2_sortsFor_2 ?_
  refine fr_aload_n (pc := 3) 0 rfl rfl dX2_sortsFor_3 ?_
  refine fr_getI (pc := 4) (T := TX2) (k := 2) kc_X2 (by decide) w_601 dX2_sortsFor_4 hW (fun i1 hW => ?_)
  refine fr_icmp_ge (pc := 7) (tgt := 47) (by decide) dX2_sortsFor_7 hW (fun hW => ?_) (fun hW => ?_)
  · refine fr_iconst (pc := 47) 0 (by decide) dX2_sortsFor_47 ?_
    exact fr_zret (pc := 48) dX2_sortsFor_48 rfl ⟨Nat.le_refl 0, Nat.le_refl 0⟩ ⟨rfl, hW⟩
  · refine fr_aload_n (pc := 10) 0 rfl rfl dX2_sortsFor_10 ?_
    refine fr_getR (pc := 11) (T := TX2) (k := 5) kc_X2 (by decide) w_602 dX2_sortsFor_11 hW (fun r2 hW => ?_)
    refine fr_iload_n (pc := 14) 2 rfl rfl dX2_sortsFor_14 ?_
    obtain ⟨hrc, hW⟩ := hW
    refine fr_callV_I (pc := 15) (As := [.int v2]) (st := []) wd_X1_at w_604 ok_X1_at (by decide) rfl (Nat.le_of_ble_eq_true rfl) dX2_sortsFor_15 ⟨Nat.le_refl 0, Nat.le_refl 0⟩ kc_X1 hrc hW (fun i4 s3 hW => ?_)
    refine fr_istore_n (pc := 18) (lv' := [(3, .int i4), (0, .ref a0), (1, .ref a1), (2, .int v2)]) rfl (by decide) rfl dX2_sortsFor_18 ?_
    refine fr_aload_n (pc := 19) 2 rfl rfl dX2_sortsFor_19 ?_
    refine fr_iload_n (pc := 20) 0 rfl rfl dX2_sortsFor_20 ?_
    obtain ⟨hrc, hW⟩ := hW
    refine fr_callV_I (pc := 21) (As := [.int i4]) (st := []) wd_X6_isFixed w_775 ok_X6_isFixed (by decide) rfl (Nat.le_of_ble_eq_true rfl) dX2_sortsFor_21 ⟨Nat.le_refl 0, Nat.le_refl 0⟩ kc_X6 hrc hW (fun i8 s7 hW => ?_)
    refine fr_if_ne (pc := 24) (tgt := 41) (by decide) dX2_sortsFor_24 hW (fun hW => ?_) (fun hW => ?_)
    · refine fr_iinc (pc := 41) (lv' := [(2, .int (v2 + 1)), (3, .int i4), (0, .ref a0), (1, .ref a1)]) (v2 + 1) 3 rfl (congrArg (fun z => v2 + z) (by decide)) (by decide) rfl dX2_sortsFor_41 ?_
      refine fr_goto (pc := 44) (tgt := 2) (by decide) dX2_sortsFor_44 ?_
      exact fr_sub [2, 3, 0] rfl hW
    · refine fr_iload_n (pc := 27) 0 rfl rfl dX2_sortsFor_27 ?_
      refine fr_aload_n (pc := 28) 2 rfl rfl dX2_sortsFor_28 ?_
      obtain ⟨hrc, hW⟩ := hW
      refine fr_callV_I (pc := 29) (As := []) (st := [.int i4]) wd_X6_sortColumn w_778 ok_X6_sortColumn (by decide) rfl (Nat.le_of_ble_eq_true rfl) dX2_sortsFor_29 ⟨Nat.le_refl 0, Nat.le_refl 0⟩ kc_X6 hrc hW (fun i12 s11 hW => ?_)
      refine fr_icmp_ne (pc := 32) (tgt := 39) (by decide) dX2_sortsFor_32 hW (fun hW => ?_) (fun hW => ?_)
      · refine fr_iconst (pc := 39) 0 (by decide) dX2_sortsFor_39 ?_
        exact fr_zret (pc := 40) dX2_sortsFor_40 rfl ⟨Nat.le_refl 0, Nat.le_refl 0⟩ ⟨rfl, hW⟩
      · refine fr_iconst (pc := 35) 1 (by decide) dX2_sortsFor_35 ?_
        refine fr_goto (pc := 36) (tgt := 40) (by decide) dX2_sortsFor_36 ?_
        exact fr_zret (pc := 40) dX2_sortsFor_40 rfl ⟨Nat.le_refl 0, Nat.le_refl 0⟩ ⟨rfl, hW⟩
def J_X9_listAlone_116 (g : GG) (post : Option Value → Hs → Prop) (σ : Hs) (a0 : Nat) (a1 : Nat) (v2 : Int32) (v3 : Int32) (a4 : Nat) (v7 : Int32) : Prop := Fr g M_X9_listAlone (0, 0, 0, 0) [(0, .ref a0), (1, .ref a1), (2, .int v2), (3, .int v3), (4, .ref a4), (7, .int v7)] [] 116 σ post
set_option maxHeartbeats 4000000 in
set_option maxRecDepth 100000 in
theorem q_X9_listAlone {g : GG} {σ : Hs} {post : Option Value → Hs → Prop} (r0 : Nat) (p0 : Nat) (p1 : Int32) (p2 : Int32) (hW : FR σ r0 9 1 (fun r1 => Rc σ r1 3 ∧ Do g M_X3_kept 0 0 [.ref r1, .int p1] σ (kA (fun s2 => post none s2) (fun r5 s2 => (p1 < 0 → post none s2) ∧ (¬ p1 < 0 → FR s2 r0 9 6 (fun r6 => AN g s2 r6 3 (fun i7 => (p1 < i7 → FR s2 r0 9 6 (fun r8 => FR s2 r0 9 0 (fun r9 => Rc s2 r5 2 ∧ Do g M_X2_columns 0 0 [.ref r5] s2 (kI (fun i11 s10 => Rc s10 p0 6 ∧ Do g M_X6_rowsWithin 0 0 [.ref p0, .ref r9, .int i11] s10 (kL (fun l16 s14 => SJ g s14 r8 p1 l16 (fun s18 => FR s18 r0 9 0 (fun r19 => Rc s18 r5 2 ∧ Do g M_X2_runColumns 0 0 [.ref r5, .ref p0] s18 (kI (fun i21 s20 => Rc s20 p0 6 ∧ Do g M_X6_rowsWithin 0 0 [.ref p0, .ref r19, .int i21] s20 (kL (fun l26 s24 => Rc s24 r5 2 ∧ Do g M_X2_height 0 0 [.ref r5] s24 (kI (fun i29 s28 => Rc s28 r5 2 ∧ Do g M_X2_leavesOf 0 0 [.ref r5, .long l26] s28 (kI (fun i33 s32 => FR s32 r0 9 5 (fun r36 => Rc s32 r36 1 ∧ Do g M_X1_put 0 0 [.ref r36, .int p1, .int (i29 + i33)] s32 (kV (fun s37 => Rc s37 r5 2 ∧ Do g M_X2_covers 0 0 [.ref r5, .ref p0] s37 (kI (fun i39 s38 => (¬ i39 = 0 → J_X9_listAlone_116 g post s38 r0 p0 p1 p2 r5 ((i29 + i33)) ) ∧ (i39 = 0 → FR s38 r0 9 0 (fun r42 => FR s38 r0 9 6 (fun r43 => AJ g s38 r43 p1 (fun l44 => Rc s38 r42 8 ∧ Do g M_X8_pagesOf 0 0 [.ref r42, .long l44] s38 (kI (fun i46 s45 => J_X9_listAlone_116 g post s45 r0 p0 p1 p2 r5 (((i29 + i33) + i46)) )))))))))))))))))))))))))))) ∧ (¬ p1 < i7 → post none s2)))))))) : Do g M_X9_listAlone 0 0 [.ref r0, .ref p0, .int p1, .int p2] σ post := by
  refine Do.of (by decide +kernel) (Nat.le_of_ble_eq_true rfl) ?_
  show Fr g M_X9_listAlone (0, 0, 0, 0) [(0, .ref r0), (1, .ref p0), (2, .int p1), (3, .int p2)] [] 0 σ post
  refine fr_aload_n (pc := 0) 0 rfl rfl dX9_listAlone_0 ?_
  refine fr_getR (pc := 1) (T := TX9) (k := 1) kc_X9 (by decide) w_539 dX9_listAlone_1 hW (fun r1 hW => ?_)
  refine fr_iload_n (pc := 4) 2 rfl rfl dX9_listAlone_4 ?_
  obtain ⟨hrc, hW⟩ := hW
  refine fr_callV_A (pc := 5) (As := [.int p1]) (st := []) wd_X3_kept w_779 ok_X3_kept (by decide) rfl (Nat.le_of_ble_eq_true rfl) dX9_listAlone_5 ⟨Nat.le_refl 0, Nat.le_refl 0⟩ kc_X3 hrc hW (fun s2 hW => ?_) (fun r5 s2 hW => ?_)
  · refine fr_astoreN (pc := 8) (lv' := [(4, .null), (0, .ref r0), (1, .ref p0), (2, .int p1), (3, .int p2)]) (by decide) rfl dX9_listAlone_8 ?_
    refine fr_aloadN (pc := 10) 0 rfl dX9_listAlone_10 ?_
    refine fr_ifnullN (pc := 12) (tgt := 28) (by decide) dX9_listAlone_12 ?_
    exact fr_ret (pc := 28) dX9_listAlone_28 rfl ⟨Nat.le_refl 0, Nat.le_refl 0⟩ hW
  · refine fr_astore (pc := 8) (lv' := [(4, .ref r5), (0, .ref r0), (1, .ref p0), (2, .int p1), (3, .int p2)]) (by decide) rfl dX9_listAlone_8 ?_
    refine fr_aload (pc := 10) 0 rfl dX9_listAlone_10 ?_
    refine fr_ifnull (pc := 12) dX9_listAlone_12 ?_
    refine fr_iload_n (pc := 15) 3 rfl rfl dX9_listAlone_15 ?_
    refine fr_if_lt (pc := 16) (tgt := 28) (by decide) dX9_listAlone_16 hW (fun hW => ?_) (fun hW => ?_)
    · exact fr_ret (pc := 28) dX9_listAlone_28 rfl ⟨Nat.le_refl 0, Nat.le_refl 0⟩ hW
    · refine fr_iload_n (pc := 19) 3 rfl rfl dX9_listAlone_19 ?_
      refine fr_aload_n (pc := 20) 1 rfl rfl dX9_listAlone_20 ?_
      refine fr_getR (pc := 21) (T := TX9) (k := 6) kc_X9 (by decide) w_537 dX9_listAlone_21 hW (fun r6 hW => ?_)
      refine fr_alen (pc := 24) 3 (fun _ => rfl) dX9_listAlone_24 hW (fun i7 hW => ?_)
      refine fr_icmp_lt (pc := 25) (tgt := 29) (by decide) dX9_listAlone_25 hW (fun hW => ?_) (fun hW => ?_)
      · refine fr_aload_n (pc := 29) 1 rfl rfl dX9_listAlone_29 ?_
        refine fr_getR (pc := 30) (T := TX9) (k := 6) kc_X9 (by decide) w_537 dX9_listAlone_30 hW (fun r8 hW => ?_)
        refine fr_iload_n (pc := 33) 3 rfl rfl dX9_listAlone_33 ?_
        refine fr_aload_n (pc := 34) 2 rfl rfl dX9_listAlone_34 ?_
        refine fr_aload_n (pc := 35) 1 rfl rfl dX9_listAlone_35 ?_
        refine fr_getR (pc := 36) (T := TX9) (k := 0) kc_X9 (by decide) w_538 dX9_listAlone_36 hW (fun r9 hW => ?_)
        refine fr_aload (pc := 39) 0 rfl dX9_listAlone_39 ?_
        obtain ⟨hrc, hW⟩ := hW
        refine fr_callV_I (pc := 41) (As := []) (st := [.ref r9, .ref p0, .int p1, .ref r8]) wd_X2_columns w_780 ok_X2_columns (by decide) rfl (Nat.le_of_ble_eq_true rfl) dX9_listAlone_41 ⟨Nat.le_refl 0, Nat.le_refl 0⟩ kc_X2 hrc hW (fun i11 s10 hW => ?_)
        obtain ⟨hrc, hW⟩ := hW
        refine fr_callV_L (pc := 44) (As := [.ref r9, .int i11]) (st := [.int p1, .ref r8]) wd_X6_rowsWithin w_781 ok_X6_rowsWithin (by decide) rfl (Nat.le_of_ble_eq_true rfl) dX9_listAlone_44 ⟨Nat.le_refl 0, Nat.le_refl 0⟩ kc_X6 hrc hW (fun l16 s14 hW => ?_)
        refine fr_last (pc := 47) dX9_listAlone_47 hW (fun s18 hW => ?_)
        refine fr_aload_n (pc := 48) 2 rfl rfl dX9_listAlone_48 ?_
        refine fr_aload_n (pc := 49) 1 rfl rfl dX9_listAlone_49 ?_
        refine fr_getR (pc := 50) (T := TX9) (k := 0) kc_X9 (by decide) w_538 dX9_listAlone_50 hW (fun r19 hW => ?_)
        refine fr_aload (pc := 53) 0 rfl dX9_listAlone_53 ?_
        refine fr_aload_n (pc := 55) 2 rfl rfl dX9_listAlone_55 ?_
        obtain ⟨hrc, hW⟩ := hW
        refine fr_callV_I (pc := 56) (As := [.ref p0]) (st := [.ref r19, .ref p0]) wd_X2_runColumns w_782 ok_X2_runColumns (by decide) rfl (Nat.le_of_ble_eq_true rfl) dX9_listAlone_56 ⟨Nat.le_refl 0, Nat.le_refl 0⟩ kc_X2 hrc hW (fun i21 s20 hW => ?_)
        obtain ⟨hrc, hW⟩ := hW
        refine fr_callV_L (pc := 59) (As := [.ref r19, .int i21]) (st := []) wd_X6_rowsWithin w_781 ok_X6_rowsWithin (by decide) rfl (Nat.le_of_ble_eq_true rfl) dX9_listAlone_59 ⟨Nat.le_refl 0, Nat.le_refl 0⟩ kc_X6 hrc hW (fun l26 s24 hW => ?_)
        refine fr_lstore (pc := 62) (lv' := [(5, .long l26), (4, .ref r5), (0, .ref r0), (1, .ref p0), (2, .int p1), (3, .int p2)]) (by decide) rfl dX9_listAlone_62 ?_
        refine fr_aload (pc := 64) 1 rfl dX9_listAlone_64 ?_
        obtain ⟨hrc, hW⟩ := hW
        refine fr_callV_I (pc := 66) (As := []) (st := []) wd_X2_height w_783 ok_X2_height (by decide) rfl (Nat.le_of_ble_eq_true rfl) dX9_listAlone_66 ⟨Nat.le_refl 0, Nat.le_refl 0⟩ kc_X2 hrc hW (fun i29 s28 hW => ?_)
        refine fr_aload (pc := 69) 1 rfl dX9_listAlone_69 ?_
        refine fr_lload (pc := 71) 0 rfl dX9_listAlone_71 ?_
        obtain ⟨hrc, hW⟩ := hW
        refine fr_callV_I (pc := 73) (As := [.long l26]) (st := [.int i29]) wd_X2_leavesOf w_784 ok_X2_leavesOf (by decide) rfl (Nat.le_of_ble_eq_true rfl) dX9_listAlone_73 ⟨Nat.le_refl 0, Nat.le_refl 0⟩ kc_X2 hrc hW (fun i33 s32 hW => ?_)
        refine fr_iadd (pc := 76) dX9_listAlone_76 ?_
        refine fr_istore (pc := 77) (lv' := [(7, .int (i29 + i33)), (5, .long l26), (4, .ref r5), (0, .ref r0), (1, .ref p0), (2, .int p1), (3, .int p2)]) (by decide) rfl dX9_listAlone_77 ?_
        refine fr_aload_n (pc := 79) 3 rfl rfl dX9_listAlone_79 ?_
        refine fr_getR (pc := 80) (T := TX9) (k := 5) kc_X9 (by decide) w_535 dX9_listAlone_80 hW (fun r36 hW => ?_)
        refine fr_iload_n (pc := 83) 5 rfl rfl dX9_listAlone_83 ?_
        refine fr_iload (pc := 84) 0 rfl dX9_listAlone_84 ?_
        obtain ⟨hrc, hW⟩ := hW
        refine fr_callV_V (pc := 86) (As := [.int p1, .int (i29 + i33)]) (st := []) wd_X1_put w_773 ok_X1_put (by decide) rfl (Nat.le_of_ble_eq_true rfl) dX9_listAlone_86 ⟨Nat.le_refl 0, Nat.le_refl 0⟩ kc_X1 hrc hW (fun s37 hW => ?_)
        refine fr_aload (pc := 89) 2 rfl dX9_listAlone_89 ?_
        refine fr_aload_n (pc := 91) 4 rfl rfl dX9_listAlone_91 ?_
        obtain ⟨hrc, hW⟩ := hW
        refine fr_callV_I (pc := 92) (As := [.ref p0]) (st := []) wd_X2_covers w_785 ok_X2_covers (by decide) rfl (Nat.le_of_ble_eq_true rfl) dX9_listAlone_92 ⟨Nat.le_refl 0, Nat.le_refl 0⟩ kc_X2 hrc hW (fun i39 s38 hW => ?_)
        refine fr_if_ne (pc := 95) (tgt := 116) (by decide) dX9_listAlone_95 hW (fun hW => ?_) (fun hW => ?_)
        · exact fr_sub [3, 4, 5, 6, 2, 0] rfl hW
        · refine fr_iload (pc := 98) 0 rfl dX9_listAlone_98 ?_
          refine fr_aload_n (pc := 100) 3 rfl rfl dX9_listAlone_100 ?_
          refine fr_getR (pc := 101) (T := TX9) (k := 0) kc_X9 (by decide) w_538 dX9_listAlone_101 hW (fun r42 hW => ?_)
          refine fr_aload_n (pc := 104) 3 rfl rfl dX9_listAlone_104 ?_
          refine fr_getR (pc := 105) (T := TX9) (k := 6) kc_X9 (by decide) w_537 dX9_listAlone_105 hW (fun r43 hW => ?_)
          refine fr_iload_n (pc := 108) 5 rfl rfl dX9_listAlone_108 ?_
          refine fr_lald (pc := 109) dX9_listAlone_109 hW (fun l44 hW => ?_)
          obtain ⟨hrc, hW⟩ := hW
          refine fr_callV_I (pc := 110) (As := [.long l44]) (st := [.int (i29 + i33)]) wd_X8_pagesOf w_786 ok_X8_pagesOf (by decide) rfl (Nat.le_of_ble_eq_true rfl) dX9_listAlone_110 ⟨Nat.le_refl 0, Nat.le_refl 0⟩ kc_X8 hrc hW (fun i46 s45 hW => ?_)
          refine fr_iadd (pc := 113) dX9_listAlone_113 ?_
          refine fr_istore (pc := 114) (lv' := [(7, .int ((i29 + i33) + i46)), (5, .long l26), (4, .ref r5), (0, .ref r0), (1, .ref p0), (2, .int p1), (3, .int p2)]) (by decide) rfl dX9_listAlone_114 ?_
          exact fr_sub [3, 4, 5, 6, 2, 0] rfl hW
      · exact fr_ret (pc := 28) dX9_listAlone_28 rfl ⟨Nat.le_refl 0, Nat.le_refl 0⟩ hW
set_option maxHeartbeats 4000000 in
set_option maxRecDepth 100000 in
theorem q_X9_listAlone_116 {g : GG} {σ : Hs} {post : Option Value → Hs → Prop} (a0 : Nat) (a1 : Nat) (v2 : Int32) (v3 : Int32) (a4 : Nat) (v7 : Int32) (hW : Do g M_X11_with 0 0 [.int 0, .int v2] σ (kI (fun i50 s49 => Rc s49 a4 2 ∧ Do g M_X2_sortsFor 0 0 [.ref a4, .ref a1] s49 (kI (fun i54 s53 => (i54 = 0 → Rc s53 a0 9 ∧ Do g M_X9_add 0 0 [.ref a0, .int (1 + v2), .int i50, .int (v7 + v3)] s53 (kV (fun s57 => post none s57))) ∧ (¬ i54 = 0 → Rc s53 a0 9 ∧ Do g M_X9_add 0 0 [.ref a0, .int (1 + v2), .int i50, .int (v7 + 0)] s53 (kV (fun s58 => post none s58)))))))) : J_X9_listAlone_116 g post σ a0 a1 v2 v3 a4 v7 := by
  show Fr g M_X9_listAlone (0, 0, 0, 0) [(0, .ref a0), (1, .ref a1), (2, .int v2), (3, .int v3), (4, .ref a4), (7, .int v7)] [] 116 σ post
  refine fr_aload_n (pc := 116) 0 rfl rfl dX9_listAlone_116 ?_
  refine fr_iconst (pc := 117) 1 (by decide) dX9_listAlone_117 ?_
  refine fr_iload_n (pc := 118) 2 rfl rfl dX9_listAlone_118 ?_
  refine fr_iadd (pc := 119) dX9_listAlone_119 ?_
  refine fr_iconst (pc := 120) 0 (by decide) dX9_listAlone_120 ?_
  refine fr_iload_n (pc := 121) 2 rfl rfl dX9_listAlone_121 ?_
  refine fr_callSN_I (pc := 122) (As := [.int 0, .int v2]) (st := [.int (1 + v2), .ref a0]) wd_X11_with ⟨RX11, by decide +kernel⟩ ok_X11_with (by decide) rfl (Nat.le_of_ble_eq_true rfl) dX9_listAlone_122 ⟨Nat.le_refl 0, Nat.le_refl 0⟩ hW (fun i50 s49 hW => ?_)
  refine fr_iload (pc := 125) 5 rfl dX9_listAlone_125 ?_
  refine fr_aload (pc := 127) 4 rfl dX9_listAlone_127 ?_
  refine fr_aload_n (pc := 129) 1 rfl rfl dX9_listAlone_129 ?_
  obtain ⟨hrc, hW⟩ := hW
  refine fr_callV_I (pc := 130) (As := [.ref a1]) (st := [.int v7, .int i50, .int (1 + v2), .ref a0]) wd_X2_sortsFor w_787 ok_X2_sortsFor (by decide) rfl (Nat.le_of_ble_eq_true rfl) dX9_listAlone_130 ⟨Nat.le_refl 0, Nat.le_refl 0⟩ kc_X2 hrc hW (fun i54 s53 hW => ?_)
  refine fr_if_eq (pc := 133) (tgt := 140) (by decide) dX9_listAlone_133 hW (fun hW => ?_) (fun hW => ?_)
  · refine fr_iload_n (pc := 140) 3 rfl rfl dX9_listAlone_140 ?_
    refine fr_iadd (pc := 141) dX9_listAlone_141 ?_
    obtain ⟨hrc, hW⟩ := hW
    refine fr_callV_V (pc := 142) (As := [.int (1 + v2), .int i50, .int (v7 + v3)]) (st := []) wd_X9_add w_788 ok_X9_add (by decide) rfl (Nat.le_of_ble_eq_true rfl) dX9_listAlone_142 ⟨Nat.le_refl 0, Nat.le_refl 0⟩ kc_X9 hrc hW (fun s57 hW => ?_)
    exact fr_ret (pc := 145) dX9_listAlone_145 rfl ⟨Nat.le_refl 0, Nat.le_refl 0⟩ hW
  · refine fr_iconst (pc := 136) 0 (by decide) dX9_listAlone_136 ?_
    refine fr_goto (pc := 137) (tgt := 141) (by decide) dX9_listAlone_137 ?_
    refine fr_iadd (pc := 141) dX9_listAlone_141 ?_
    obtain ⟨hrc, hW⟩ := hW
    refine fr_callV_V (pc := 142) (As := [.int (1 + v2), .int i50, .int (v7 + 0)]) (st := []) wd_X9_add w_788 ok_X9_add (by decide) rfl (Nat.le_of_ble_eq_true rfl) dX9_listAlone_142 ⟨Nat.le_refl 0, Nat.le_refl 0⟩ kc_X9 hrc hW (fun s58 hW => ?_)
    exact fr_ret (pc := 145) dX9_listAlone_145 rfl ⟨Nat.le_refl 0, Nat.le_refl 0⟩ hW
set_option maxHeartbeats 4000000 in
set_option maxRecDepth 100000 in
theorem q_X9_leftBy {g : GG} {σ : Hs} {post : Option Value → Hs → Prop} (r0 : Nat) (p0 : Int32) (hW : (p0 < 0 → post (some (.long 0)) σ) ∧ (¬ p0 < 0 → FR σ r0 9 6 (fun r1 => AN g σ r1 3 (fun i2 => (i2 ≤ p0 → post (some (.long 0)) σ) ∧ (¬ i2 ≤ p0 → FR σ r0 9 6 (fun r3 => AJ g σ r3 p0 (fun l4 => post (some (.long l4)) σ))))))) : Do g M_X9_leftBy 0 0 [.ref r0, .int p0] σ post := by
  refine Do.of (by decide +kernel) (Nat.le_of_ble_eq_true rfl) ?_
  show Fr g M_X9_leftBy (0, 0, 0, 0) [(0, .ref r0), (1, .int p0)] [] 0 σ post
  refine fr_iload_n (pc := 0) 1 rfl rfl dX9_leftBy_0 ?_
  refine fr_if_lt (pc := 1) (tgt := 22) (by decide) dX9_leftBy_1 hW (fun hW => ?_) (fun hW => ?_)
  · refine fr_lconst (pc := 22) 0 (by decide) dX9_leftBy_22 ?_
    exact fr_lret (pc := 23) dX9_leftBy_23 rfl ⟨Nat.le_refl 0, Nat.le_refl 0⟩ hW
  · refine fr_iload_n (pc := 4) 1 rfl rfl dX9_leftBy_4 ?_
    refine fr_aload_n (pc := 5) 0 rfl rfl dX9_leftBy_5 ?_
    refine fr_getR (pc := 6) (T := TX9) (k := 6) kc_X9 (by decide) w_537 dX9_leftBy_6 hW (fun r1 hW => ?_)
    refine fr_alen (pc := 9) 3 (fun _ => rfl) dX9_leftBy_9 hW (fun i2 hW => ?_)
    refine fr_icmp_ge (pc := 10) (tgt := 22) (by decide) dX9_leftBy_10 hW (fun hW => ?_) (fun hW => ?_)
    · refine fr_lconst (pc := 22) 0 (by decide) dX9_leftBy_22 ?_
      exact fr_lret (pc := 23) dX9_leftBy_23 rfl ⟨Nat.le_refl 0, Nat.le_refl 0⟩ hW
    · refine fr_aload_n (pc := 13) 0 rfl rfl dX9_leftBy_13 ?_
      refine fr_getR (pc := 14) (T := TX9) (k := 6) kc_X9 (by decide) w_537 dX9_leftBy_14 hW (fun r3 hW => ?_)
      refine fr_iload_n (pc := 17) 1 rfl rfl dX9_leftBy_17 ?_
      refine fr_lald (pc := 18) dX9_leftBy_18 hW (fun l4 hW => ?_)
      refine fr_goto (pc := 19) (tgt := 23) (by decide) dX9_leftBy_19 ?_
      exact fr_lret (pc := 23) dX9_leftBy_23 rfl ⟨Nat.le_refl 0, Nat.le_refl 0⟩ hW
set_option maxHeartbeats 4000000 in
set_option maxRecDepth 100000 in
theorem q_X9_listBoth {g : GG} {σ : Hs} {post : Option Value → Hs → Prop} (r0 : Nat) (p0 : Int32) (p1 : Int32) (p2 : Int32) (hW : FR σ r0 9 1 (fun r1 => Rc σ r1 3 ∧ Do g M_X3_kept 0 0 [.ref r1, .int p0] σ (kA (fun s2 => post none s2) (fun r5 s2 => FR s2 r0 9 1 (fun r6 => Rc s2 r6 3 ∧ Do g M_X3_kept 0 0 [.ref r6, .int p1] s2 (kA (fun s7 => post none s7) (fun r10 s7 => FR s7 r0 9 5 (fun r11 => Rc s7 r11 1 ∧ Do g M_X1_at 0 0 [.ref r11, .int p0] s7 (kI (fun i13 s12 => FR s12 r0 9 5 (fun r16 => Rc s12 r16 1 ∧ Do g M_X1_at 0 0 [.ref r16, .int p1] s12 (kI (fun i18 s17 => FR s17 r0 9 0 (fun r21 => Rc s17 r0 9 ∧ Do g M_X9_leftBy 0 0 [.ref r0, .int p0] s17 (kL (fun l24 s22 => Rc s22 r0 9 ∧ Do g M_X9_leftBy 0 0 [.ref r0, .int p1] s22 (kL (fun l28 s26 => Rc s26 r21 8 ∧ Do g M_X8_pagesOf 0 0 [.ref r21, .long (l24 &&& l28)] s26 (kI (fun i31 s30 => Do g M_X11_with 0 0 [.int 0, .int p0] s30 (kI (fun i35 s34 => Do g M_X11_with 0 0 [.int i35, .int p1] s34 (kI (fun i39 s38 => Rc s38 r0 9 ∧ Do g M_X9_add 0 0 [.ref r0, .int ((100 + (10 * p0)) + p1), .int i39, .int (((i13 + i18) + i31) + p2)] s38 (kV (fun s42 => post none s42)))))))))))))))))))))))))) : Do g M_X9_listBoth 0 0 [.ref r0, .int p0, .int p1, .int p2] σ post := by
  refine Do.of (by decide +kernel) (Nat.le_of_ble_eq_true rfl) ?_
  show Fr g M_X9_listBoth (0, 0, 0, 0) [(0, .ref r0), (1, .int p0), (2, .int p1), (3, .int p2)] [] 0 σ post
  refine fr_aload_n (pc := 0) 0 rfl rfl dX9_listBoth_0 ?_
  refine fr_getR (pc := 1) (T := TX9) (k := 1) kc_X9 (by decide) w_539 dX9_listBoth_1 hW (fun r1 hW => ?_)
  refine fr_iload_n (pc := 4) 1 rfl rfl dX9_listBoth_4 ?_
  obtain ⟨hrc, hW⟩ := hW
  refine fr_callV_A (pc := 5) (As := [.int p0]) (st := []) wd_X3_kept w_779 ok_X3_kept (by decide) rfl (Nat.le_of_ble_eq_true rfl) dX9_listBoth_5 ⟨Nat.le_refl 0, Nat.le_refl 0⟩ kc_X3 hrc hW (fun s2 hW => ?_) (fun r5 s2 hW => ?_)
  · refine fr_ifnullN (pc := 8) (tgt := 22) (by decide) dX9_listBoth_8 ?_
    exact fr_ret (pc := 22) dX9_listBoth_22 rfl ⟨Nat.le_refl 0, Nat.le_refl 0⟩ hW
  · refine fr_ifnull (pc := 8) dX9_listBoth_8 ?_
    refine fr_aload_n (pc := 11) 0 rfl rfl dX9_listBoth_11 ?_
    refine fr_getR (pc := 12) (T := TX9) (k := 1) kc_X9 (by decide) w_539 dX9_listBoth_12 hW (fun r6 hW => ?_)
    refine fr_iload_n (pc := 15) 2 rfl rfl dX9_listBoth_15 ?_
    obtain ⟨hrc, hW⟩ := hW
    refine fr_callV_A (pc := 16) (As := [.int p1]) (st := []) wd_X3_kept w_779 ok_X3_kept (by decide) rfl (Nat.le_of_ble_eq_true rfl) dX9_listBoth_16 ⟨Nat.le_refl 0, Nat.le_refl 0⟩ kc_X3 hrc hW (fun s7 hW => ?_) (fun r10 s7 hW => ?_)
    · refine fr_ifnonnullN (pc := 19) dX9_listBoth_19 ?_
      exact fr_ret (pc := 22) dX9_listBoth_22 rfl ⟨Nat.le_refl 0, Nat.le_refl 0⟩ hW
    · refine fr_ifnonnull (pc := 19) (tgt := 23) (by decide) dX9_listBoth_19 ?_
      refine fr_aload_n (pc := 23) 0 rfl rfl dX9_listBoth_23 ?_
      refine fr_getR (pc := 24) (T := TX9) (k := 5) kc_X9 (by decide) w_535 dX9_listBoth_24 hW (fun r11 hW => ?_)
      refine fr_iload_n (pc := 27) 1 rfl rfl dX9_listBoth_27 ?_
      obtain ⟨hrc, hW⟩ := hW
      refine fr_callV_I (pc := 28) (As := [.int p0]) (st := []) wd_X1_at w_789 ok_X1_at (by decide) rfl (Nat.le_of_ble_eq_true rfl) dX9_listBoth_28 ⟨Nat.le_refl 0, Nat.le_refl 0⟩ kc_X1 hrc hW (fun i13 s12 hW => ?_)
      refine fr_aload_n (pc := 31) 0 rfl rfl dX9_listBoth_31 ?_
      refine fr_getR (pc := 32) (T := TX9) (k := 5) kc_X9 (by decide) w_535 dX9_listBoth_32 hW (fun r16 hW => ?_)
      refine fr_iload_n (pc := 35) 2 rfl rfl dX9_listBoth_35 ?_
      obtain ⟨hrc, hW⟩ := hW
      refine fr_callV_I (pc := 36) (As := [.int p1]) (st := [.int i13]) wd_X1_at w_789 ok_X1_at (by decide) rfl (Nat.le_of_ble_eq_true rfl) dX9_listBoth_36 ⟨Nat.le_refl 0, Nat.le_refl 0⟩ kc_X1 hrc hW (fun i18 s17 hW => ?_)
      refine fr_iadd (pc := 39) dX9_listBoth_39 ?_
      refine fr_aload_n (pc := 40) 0 rfl rfl dX9_listBoth_40 ?_
      refine fr_getR (pc := 41) (T := TX9) (k := 0) kc_X9 (by decide) w_538 dX9_listBoth_41 hW (fun r21 hW => ?_)
      refine fr_aload_n (pc := 44) 0 rfl rfl dX9_listBoth_44 ?_
      refine fr_iload_n (pc := 45) 1 rfl rfl dX9_listBoth_45 ?_
      obtain ⟨hrc, hW⟩ := hW
      refine fr_callV_L (pc := 46) (As := [.int p0]) (st := [.ref r21, .int (i13 + i18)]) wd_X9_leftBy w_790 ok_X9_leftBy (by decide) rfl (Nat.le_of_ble_eq_true rfl) dX9_listBoth_46 ⟨Nat.le_refl 0, Nat.le_refl 0⟩ kc_X9 hrc hW (fun l24 s22 hW => ?_)
      refine fr_aload_n (pc := 49) 0 rfl rfl dX9_listBoth_49 ?_
      refine fr_iload_n (pc := 50) 2 rfl rfl dX9_listBoth_50 ?_
      obtain ⟨hrc, hW⟩ := hW
      refine fr_callV_L (pc := 51) (As := [.int p1]) (st := [.long l24, .ref r21, .int (i13 + i18)]) wd_X9_leftBy w_790 ok_X9_leftBy (by decide) rfl (Nat.le_of_ble_eq_true rfl) dX9_listBoth_51 ⟨Nat.le_refl 0, Nat.le_refl 0⟩ kc_X9 hrc hW (fun l28 s26 hW => ?_)
      refine fr_land (pc := 54) dX9_listBoth_54 ?_
      obtain ⟨hrc, hW⟩ := hW
      refine fr_callV_I (pc := 55) (As := [.long (l24 &&& l28)]) (st := [.int (i13 + i18)]) wd_X8_pagesOf w_786 ok_X8_pagesOf (by decide) rfl (Nat.le_of_ble_eq_true rfl) dX9_listBoth_55 ⟨Nat.le_refl 0, Nat.le_refl 0⟩ kc_X8 hrc hW (fun i31 s30 hW => ?_)
      refine fr_iadd (pc := 58) dX9_listBoth_58 ?_
      refine fr_istore (pc := 59) (lv' := [(4, .int ((i13 + i18) + i31)), (0, .ref r0), (1, .int p0), (2, .int p1), (3, .int p2)]) (by decide) rfl dX9_listBoth_59 ?_
      refine fr_aload_n (pc := 61) 1 rfl rfl dX9_listBoth_61 ?_
      refine fr_bipush (pc := 62) 100 (by decide) dX9_listBoth_62 ?_
      refine fr_bipush (pc := 64) 10 (by decide) dX9_listBoth_64 ?_
      refine fr_iload_n (pc := 66) 2 rfl rfl dX9_listBoth_66 ?_
      refine fr_imul (pc := 67) dX9_listBoth_67 ?_
      refine fr_iadd (pc := 68) dX9_listBoth_68 ?_
      refine fr_iload_n (pc := 69) 3 rfl rfl dX9_listBoth_69 ?_
      refine fr_iadd (pc := 70) dX9_listBoth_70 ?_
      refine fr_iconst (pc := 71) 0 (by decide) dX9_listBoth_71 ?_
      refine fr_iload_n (pc := 72) 2 rfl rfl dX9_listBoth_72 ?_
      refine fr_callSN_I (pc := 73) (As := [.int 0, .int p0]) (st := [.int ((100 + (10 * p0)) + p1), .ref r0]) wd_X11_with ⟨RX11, by decide +kernel⟩ ok_X11_with (by decide) rfl (Nat.le_of_ble_eq_true rfl) dX9_listBoth_73 ⟨Nat.le_refl 0, Nat.le_refl 0⟩ hW (fun i35 s34 hW => ?_)
      refine fr_iload_n (pc := 76) 3 rfl rfl dX9_listBoth_76 ?_
      refine fr_callSN_I (pc := 77) (As := [.int i35, .int p1]) (st := [.int ((100 + (10 * p0)) + p1), .ref r0]) wd_X11_with ⟨RX11, by decide +kernel⟩ ok_X11_with (by decide) rfl (Nat.le_of_ble_eq_true rfl) dX9_listBoth_77 ⟨Nat.le_refl 0, Nat.le_refl 0⟩ hW (fun i39 s38 hW => ?_)
      refine fr_iload (pc := 80) 0 rfl dX9_listBoth_80 ?_
      refine fr_iload_n (pc := 82) 4 rfl rfl dX9_listBoth_82 ?_
      refine fr_iadd (pc := 83) dX9_listBoth_83 ?_
      obtain ⟨hrc, hW⟩ := hW
      refine fr_callV_V (pc := 84) (As := [.int ((100 + (10 * p0)) + p1), .int i39, .int (((i13 + i18) + i31) + p2)]) (st := []) wd_X9_add w_788 ok_X9_add (by decide) rfl (Nat.le_of_ble_eq_true rfl) dX9_listBoth_84 ⟨Nat.le_refl 0, Nat.le_refl 0⟩ kc_X9 hrc hW (fun s42 hW => ?_)
      exact fr_ret (pc := 87) dX9_listBoth_87 rfl ⟨Nat.le_refl 0, Nat.le_refl 0⟩ hW
def J_X9_list_23 (g : GG) (post : Option Value → Hs → Prop) (σ : Hs) (a0 : Nat) (a1 : Nat) (v2 : Int32) : Prop := Fr g M_X9_list (0, 0, 0, 0) [(0, .ref a0), (1, .ref a1), (2, .int v2)] [] 23 σ post
def J_X9_list_45 (g : GG) (post : Option Value → Hs → Prop) (σ : Hs) (a0 : Nat) (a1 : Nat) (v2 : Int32) (v3 : Int32) : Prop := Fr g M_X9_list (0, 0, 0, 0) [(0, .ref a0), (1, .ref a1), (2, .int v2), (3, .int v3)] [] 45 σ post
def J_X9_list_66 (g : GG) (post : Option Value → Hs → Prop) (σ : Hs) (a0 : Nat) (v2 : Int32) (v3 : Int32) : Prop := Fr g M_X9_list (0, 0, 0, 0) [(0, .ref a0), (2, .int v2), (3, .int v3)] [] 66 σ post
def J_X9_list_77 (g : GG) (post : Option Value → Hs → Prop) (σ : Hs) (a0 : Nat) (v2 : Int32) (v3 : Int32) (v4 : Int32) : Prop := Fr g M_X9_list (0, 0, 0, 0) [(0, .ref a0), (2, .int v2), (3, .int v3), (4, .int v4)] [] 77 σ post
set_option maxHeartbeats 4000000 in
set_option maxRecDepth 100000 in
theorem q_X9_list {g : GG} {σ : Hs} {post : Option Value → Hs → Prop} (r0 : Nat) (p0 : Nat) (hW : Rc σ p0 6 ∧ Do g M_X6_mustSort 0 0 [.ref p0] σ (kI (fun i2 s1 => (i2 = 0 → J_X9_list_23 g post s1 r0 p0 0 ) ∧ (¬ i2 = 0 → FR s1 r0 9 0 (fun r5 => Rc s1 p0 6 ∧ Do g M_X6_rowsWithin 0 0 [.ref p0, .ref r5, .int 15] s1 (kL (fun l8 s6 => Do g M_J13_bitCount_95d88 0 0 [.long l8] s6 (kI (fun i11 s10 => J_X9_list_23 g post s10 r0 p0 i11 ))))))))) : Do g M_X9_list 0 0 [.ref r0, .ref p0] σ post := by
  refine Do.of (by decide +kernel) (Nat.le_of_ble_eq_true rfl) ?_
  show Fr g M_X9_list (0, 0, 0, 0) [(0, .ref r0), (1, .ref p0)] [] 0 σ post
  refine fr_iconst (pc := 0) 0 (by decide) dX9_list_0 ?_
  refine fr_istore_n (pc := 1) (lv' := [(2, .int 0), (0, .ref r0), (1, .ref p0)]) rfl (by decide) rfl dX9_list_1 ?_
  refine fr_aload_n (pc := 2) 2 rfl rfl dX9_list_2 ?_
  obtain ⟨hrc, hW⟩ := hW
  refine fr_callV_I (pc := 3) (As := []) (st := []) wd_X6_mustSort w_791 ok_X6_mustSort (by decide) rfl (Nat.le_of_ble_eq_true rfl) dX9_list_3 ⟨Nat.le_refl 0, Nat.le_refl 0⟩ kc_X6 hrc hW (fun i2 s1 hW => ?_)
  refine fr_if_eq (pc := 6) (tgt := 23) (by decide) dX9_list_6 hW (fun hW => ?_) (fun hW => ?_)
  · exact fr_sub [1, 2, 0] rfl hW
  · refine fr_aload_n (pc := 9) 2 rfl rfl dX9_list_9 ?_
    refine fr_aload_n (pc := 10) 1 rfl rfl dX9_list_10 ?_
    refine fr_getR (pc := 11) (T := TX9) (k := 0) kc_X9 (by decide) w_538 dX9_list_11 hW (fun r5 hW => ?_)
    refine fr_bipush (pc := 14) 15 (by decide) dX9_list_14 ?_
    obtain ⟨hrc, hW⟩ := hW
    refine fr_callV_L (pc := 16) (As := [.ref r5, .int 15]) (st := []) wd_X6_rowsWithin w_781 ok_X6_rowsWithin (by decide) rfl (Nat.le_of_ble_eq_true rfl) dX9_list_16 ⟨Nat.le_refl 0, Nat.le_refl 0⟩ kc_X6 hrc hW (fun l8 s6 hW => ?_)
    refine fr_callS_I (pc := 19) (As := [.long l8]) (st := []) wd_J13_bitCount_95d88 w_792 ok_J13_bitCount_95d88 (by decide) rfl (Nat.le_of_ble_eq_true rfl) dX9_list_19 ⟨Nat.le_refl 0, Nat.le_refl 0⟩ hW (fun i11 s10 hW => ?_)
    refine fr_istore_n (pc := 22) (lv' := [(2, .int i11), (0, .ref r0), (1, .ref p0)]) rfl (by decide) rfl dX9_list_22 ?_
    exact fr_sub [1, 2, 0] rfl hW
set_option maxHeartbeats 4000000 in
set_option maxRecDepth 100000 in
theorem q_X9_list_23 {g : GG} {σ : Hs} {post : Option Value → Hs → Prop} (a0 : Nat) (a1 : Nat) (v2 : Int32) (hW : PF σ a0 9 7 (.int 0) (fun s14 => FR s14 a0 9 0 (fun r15 => Rc s14 r15 8 ∧ Do g M_X8_fullPages 0 0 [.ref r15] s14 (kI (fun i17 s16 => Rc s16 a0 9 ∧ Do g M_X9_add 0 0 [.ref a0, .int 0, .int 0, .int (i17 + v2)] s16 (kV (fun s20 => J_X9_list_45 g post s20 a0 a1 v2 0 ))))))) : J_X9_list_23 g post σ a0 a1 v2 := by
  show Fr g M_X9_list (0, 0, 0, 0) [(0, .ref a0), (1, .ref a1), (2, .int v2)] [] 23 σ post
  refine fr_aload_n (pc := 23) 0 rfl rfl dX9_list_23 ?_
  refine fr_iconst (pc := 24) 0 (by decide) dX9_list_24 ?_
  refine fr_put (pc := 25) (T := TX9) (k := 7) kc_X9 (by decide) w_772 rfl rfl rfl dX9_list_25 hW (fun s14 hW => ?_)
  refine fr_aload_n (pc := 28) 0 rfl rfl dX9_list_28 ?_
  refine fr_iconst (pc := 29) 0 (by decide) dX9_list_29 ?_
  refine fr_iconst (pc := 30) 0 (by decide) dX9_list_30 ?_
  refine fr_aload_n (pc := 31) 0 rfl rfl dX9_list_31 ?_
  refine fr_getR (pc := 32) (T := TX9) (k := 0) kc_X9 (by decide) w_538 dX9_list_32 hW (fun r15 hW => ?_)
  obtain ⟨hrc, hW⟩ := hW
  refine fr_callV_I (pc := 35) (As := []) (st := [.int 0, .int 0, .ref a0]) wd_X8_fullPages w_793 ok_X8_fullPages (by decide) rfl (Nat.le_of_ble_eq_true rfl) dX9_list_35 ⟨Nat.le_refl 0, Nat.le_refl 0⟩ kc_X8 hrc hW (fun i17 s16 hW => ?_)
  refine fr_iload_n (pc := 38) 2 rfl rfl dX9_list_38 ?_
  refine fr_iadd (pc := 39) dX9_list_39 ?_
  obtain ⟨hrc, hW⟩ := hW
  refine fr_callV_V (pc := 40) (As := [.int 0, .int 0, .int (i17 + v2)]) (st := []) wd_X9_add w_788 ok_X9_add (by decide) rfl (Nat.le_of_ble_eq_true rfl) dX9_list_40 ⟨Nat.le_refl 0, Nat.le_refl 0⟩ kc_X9 hrc hW (fun s20 hW => ?_)
  refine fr_iconst (pc := 43) 0 (by decide) dX9_list_43 ?_
  refine fr_istore_n (pc := 44) (lv' := [(3, .int 0), (0, .ref a0), (1, .ref a1), (2, .int v2)]) rfl (by decide) rfl dX9_list_44 ?_
  exact fr_sub [1, 2, 3, 0] rfl hW
set_option maxHeartbeats 4000000 in
set_option maxRecDepth 100000 in
theorem q_X9_list_45 {g : GG} {σ : Hs} {post : Option Value → Hs → Prop} (a0 : Nat) (a1 : Nat) (v2 : Int32) (v3 : Int32) (hW : (8 ≤ v3 → J_X9_list_66 g post σ a0 v2 0 ) ∧ (¬ 8 ≤ v3 → Rc σ a0 9 ∧ Do g M_X9_listAlone 0 0 [.ref a0, .ref a1, .int v3, .int v2] σ (kV (fun s21 => J_X9_list_45 g post s21 a0 a1 v2 ((v3 + 1)) )))) : J_X9_list_45 g post σ a0 a1 v2 v3 := by
  show Fr g M_X9_list (0, 0, 0, 0) [(0, .ref a0), (1, .ref a1), (2, .int v2), (3, .int v3)] [] 45 σ post
  refine fr_iload_n (pc := 45) 3 rfl rfl dX9_list_45 ?_
  refine fr_bipush (pc := 46) 8 (by decide) dX9_list_46 ?_
  refine fr_icmp_ge (pc := 48) (tgt := 64) (by decide) dX9_list_48 hW (fun hW => ?_) (fun hW => ?_)
  · refine fr_iconst (pc := 64) 0 (by decide) dX9_list_64 ?_
    refine fr_istore_n (pc := 65) (lv' := [(3, .int 0), (0, .ref a0), (1, .ref a1), (2, .int v2)]) rfl (by decide) rfl dX9_list_65 ?_
    exact fr_sub [1, 3, 0] rfl hW
  · refine fr_aload_n (pc := 51) 0 rfl rfl dX9_list_51 ?_
    refine fr_aload_n (pc := 52) 1 rfl rfl dX9_list_52 ?_
    refine fr_iload_n (pc := 53) 3 rfl rfl dX9_list_53 ?_
    refine fr_iload_n (pc := 54) 2 rfl rfl dX9_list_54 ?_
    obtain ⟨hrc, hW⟩ := hW
    refine fr_callV_V (pc := 55) (As := [.ref a1, .int v3, .int v2]) (st := []) wd_X9_listAlone w_794 ok_X9_listAlone (by decide) rfl (Nat.le_of_ble_eq_true rfl) dX9_list_55 ⟨Nat.le_refl 0, Nat.le_refl 0⟩ kc_X9 hrc hW (fun s21 hW => ?_)
    refine fr_iinc (pc := 58) (lv' := [(3, .int (v3 + 1)), (0, .ref a0), (1, .ref a1), (2, .int v2)]) (v3 + 1) 3 rfl (congrArg (fun z => v3 + z) (by decide)) (by decide) rfl dX9_list_58 ?_
    refine fr_goto (pc := 61) (tgt := 45) (by decide) dX9_list_61 ?_
    exact fr_sub [1, 2, 3, 0] rfl hW
set_option maxHeartbeats 4000000 in
set_option maxRecDepth 100000 in
theorem q_X9_list_66 {g : GG} {σ : Hs} {post : Option Value → Hs → Prop} (a0 : Nat) (v2 : Int32) (v3 : Int32) (hW : (8 ≤ v3 → post none σ) ∧ (¬ 8 ≤ v3 → J_X9_list_77 g post σ a0 v2 v3 ((v3 + 1)) )) : J_X9_list_66 g post σ a0 v2 v3 := by
  show Fr g M_X9_list (0, 0, 0, 0) [(0, .ref a0), (2, .int v2), (3, .int v3)] [] 66 σ post
  refine fr_iload_n (pc := 66) 2 rfl rfl dX9_list_66 ?_
  refine fr_bipush (pc := 67) 8 (by decide) dX9_list_67 ?_
  refine fr_icmp_ge (pc := 69) (tgt := 104) (by decide) dX9_list_69 hW (fun hW => ?_) (fun hW => ?_)
  · exact fr_ret (pc := 104) dX9_list_104 rfl ⟨Nat.le_refl 0, Nat.le_refl 0⟩ hW
  · refine fr_iload_n (pc := 72) 2 rfl rfl dX9_list_72 ?_
    refine fr_iconst (pc := 73) 1 (by decide) dX9_list_73 ?_
    refine fr_iadd (pc := 74) dX9_list_74 ?_
    refine fr_istore (pc := 75) (lv' := [(4, .int (v3 + 1)), (0, .ref a0), (2, .int v2), (3, .int v3)]) (by decide) rfl dX9_list_75 ?_
    exact fr_sub [1, 2, 3, 0] rfl hW
set_option maxHeartbeats 4000000 in
set_option maxRecDepth 100000 in
theorem q_X9_list_77 {g : GG} {σ : Hs} {post : Option Value → Hs → Prop} (a0 : Nat) (v2 : Int32) (v3 : Int32) (v4 : Int32) (hW : (8 ≤ v4 → J_X9_list_66 g post σ a0 v2 ((v3 + 1)) ) ∧ (¬ 8 ≤ v4 → Rc σ a0 9 ∧ Do g M_X9_listBoth 0 0 [.ref a0, .int v3, .int v4, .int v2] σ (kV (fun s22 => J_X9_list_77 g post s22 a0 v2 v3 ((v4 + 1)) )))) : J_X9_list_77 g post σ a0 v2 v3 v4 := by
  show Fr g M_X9_list (0, 0, 0, 0) [(0, .ref a0), (2, .int v2), (3, .int v3), (4, .int v4)] [] 77 σ post
  refine fr_iload (pc := 77) 3 rfl dX9_list_77 ?_
  refine fr_bipush (pc := 79) 8 (by decide) dX9_list_79 ?_
  refine fr_icmp_ge (pc := 81) (tgt := 98) (by decide) dX9_list_81 hW (fun hW => ?_) (fun hW => ?_)
  · refine fr_iinc (pc := 98) (lv' := [(3, .int (v3 + 1)), (0, .ref a0), (2, .int v2), (4, .int v4)]) (v3 + 1) 2 rfl (congrArg (fun z => v3 + z) (by decide)) (by decide) rfl dX9_list_98 ?_
    refine fr_goto (pc := 101) (tgt := 66) (by decide) dX9_list_101 ?_
    exact fr_sub [1, 2, 0] rfl hW
  · refine fr_aload_n (pc := 84) 0 rfl rfl dX9_list_84 ?_
    refine fr_iload_n (pc := 85) 2 rfl rfl dX9_list_85 ?_
    refine fr_iload (pc := 86) 3 rfl dX9_list_86 ?_
    refine fr_iload_n (pc := 88) 1 rfl rfl dX9_list_88 ?_
    obtain ⟨hrc, hW⟩ := hW
    refine fr_callV_V (pc := 89) (As := [.int v3, .int v4, .int v2]) (st := []) wd_X9_listBoth w_795 ok_X9_listBoth (by decide) rfl (Nat.le_of_ble_eq_true rfl) dX9_list_89 ⟨Nat.le_refl 0, Nat.le_refl 0⟩ kc_X9 hrc hW (fun s22 hW => ?_)
    refine fr_iinc (pc := 92) (lv' := [(4, .int (v4 + 1)), (0, .ref a0), (2, .int v2), (3, .int v3)]) (v4 + 1) 3 rfl (congrArg (fun z => v4 + z) (by decide)) (by decide) rfl dX9_list_92 ?_
    refine fr_goto (pc := 95) (tgt := 77) (by decide) dX9_list_95 ?_
    exact fr_sub [1, 2, 3, 0] rfl hW
set_option maxHeartbeats 4000000 in
set_option maxRecDepth 100000 in
theorem q_X9_placeOf {g : GG} {σ : Hs} {post : Option Value → Hs → Prop} (r0 : Nat) (p0 : Int32) (hW : FR σ r0 9 2 (fun r1 => FI σ r0 9 7 (fun i2 => Rc σ r1 1 ∧ Do g M_X1_placeOf 0 0 [.ref r1, .int p0, .int i2] σ (kI (fun i4 s3 => post (some (.int i4)) s3))))) : Do g M_X9_placeOf 0 0 [.ref r0, .int p0] σ post := by
  refine Do.of (by decide +kernel) (Nat.le_of_ble_eq_true rfl) ?_
  show Fr g M_X9_placeOf (0, 0, 0, 0) [(0, .ref r0), (1, .int p0)] [] 0 σ post
  refine fr_aload_n (pc := 0) 0 rfl rfl dX9_placeOf_0 ?_
  refine fr_getR (pc := 1) (T := TX9) (k := 2) kc_X9 (by decide) w_532 dX9_placeOf_1 hW (fun r1 hW => ?_)
  refine fr_iload_n (pc := 4) 1 rfl rfl dX9_placeOf_4 ?_
  refine fr_aload_n (pc := 5) 0 rfl rfl dX9_placeOf_5 ?_
  refine fr_getI (pc := 6) (T := TX9) (k := 7) kc_X9 (by decide) w_772 dX9_placeOf_6 hW (fun i2 hW => ?_)
  obtain ⟨hrc, hW⟩ := hW
  refine fr_callV_I (pc := 9) (As := [.int p0, .int i2]) (st := []) wd_X1_placeOf w_796 ok_X1_placeOf (by decide) rfl (Nat.le_of_ble_eq_true rfl) dX9_placeOf_9 ⟨Nat.le_refl 0, Nat.le_refl 0⟩ kc_X1 hrc hW (fun i4 s3 hW => ?_)
  exact fr_iret (pc := 12) dX9_placeOf_12 rfl ⟨Nat.le_refl 0, Nat.le_refl 0⟩ hW
set_option maxHeartbeats 4000000 in
set_option maxRecDepth 100000 in
theorem q_X9_costAt {g : GG} {σ : Hs} {post : Option Value → Hs → Prop} (r0 : Nat) (p0 : Int32) (hW : FR σ r0 9 4 (fun r1 => Rc σ r1 1 ∧ Do g M_X1_at 0 0 [.ref r1, .int p0] σ (kI (fun i3 s2 => post (some (.int i3)) s2)))) : Do g M_X9_costAt 0 0 [.ref r0, .int p0] σ post := by
  refine Do.of (by decide +kernel) (Nat.le_of_ble_eq_true rfl) ?_
  show Fr g M_X9_costAt (0, 0, 0, 0) [(0, .ref r0), (1, .int p0)] [] 0 σ post
  refine fr_aload_n (pc := 0) 0 rfl rfl dX9_costAt_0 ?_
  refine fr_getR (pc := 1) (T := TX9) (k := 4) kc_X9 (by decide) w_534 dX9_costAt_1 hW (fun r1 hW => ?_)
  refine fr_iload_n (pc := 4) 1 rfl rfl dX9_costAt_4 ?_
  obtain ⟨hrc, hW⟩ := hW
  refine fr_callV_I (pc := 5) (As := [.int p0]) (st := []) wd_X1_at w_789 ok_X1_at (by decide) rfl (Nat.le_of_ble_eq_true rfl) dX9_costAt_5 ⟨Nat.le_refl 0, Nat.le_refl 0⟩ kc_X1 hrc hW (fun i3 s2 hW => ?_)
  exact fr_iret (pc := 8) dX9_costAt_8 rfl ⟨Nat.le_refl 0, Nat.le_refl 0⟩ hW
set_option maxHeartbeats 4000000 in
set_option maxRecDepth 100000 in
theorem q_X11_looks {g : GG} {σ : Hs} {post : Option Value → Hs → Prop} (r0 : Nat) (p0 : Int32) (p1 : Int32) (hW : FR σ r0 11 3 (fun r1 => Rc σ r1 10 ∧ Do g M_X10_question 0 0 [.ref r1, .int p0] σ (kA (fun s2 => post (some (.int (-101))) s2) (fun r5 s2 => FR s2 r0 11 2 (fun r6 => Rc s2 r6 9 ∧ Do g M_X9_list 0 0 [.ref r6, .ref r5] s2 (kV (fun s7 => FR s7 r0 11 2 (fun r8 => Rc s7 r8 9 ∧ Do g M_X9_placeOf 0 0 [.ref r8, .int p1] s7 (kI (fun i10 s9 => (¬ i10 = (-1) → FR s9 r0 11 2 (fun r13 => Rc s9 r13 9 ∧ Do g M_X9_costAt 0 0 [.ref r13, .int i10] s9 (kI (fun i15 s14 => post (some (.int i15)) s14)))) ∧ (i10 = (-1) → post (some (.int (-101))) s9))))))))))) : Do g M_X11_looks 0 0 [.ref r0, .int p0, .int p1] σ post := by
  refine Do.of (by decide +kernel) (Nat.le_of_ble_eq_true rfl) ?_
  show Fr g M_X11_looks (0, 0, 0, 0) [(0, .ref r0), (1, .int p0), (2, .int p1)] [] 0 σ post
  refine fr_aload_n (pc := 0) 0 rfl rfl dX11_looks_0 ?_
  refine fr_getR (pc := 1) (T := TX11) (k := 3) kc_X11 (by decide) w_583 dX11_looks_1 hW (fun r1 hW => ?_)
  refine fr_iload_n (pc := 4) 1 rfl rfl dX11_looks_4 ?_
  obtain ⟨hrc, hW⟩ := hW
  refine fr_callV_A (pc := 5) (As := [.int p0]) (st := []) wd_X10_question w_733 ok_X10_question (by decide) rfl (Nat.le_of_ble_eq_true rfl) dX11_looks_5 ⟨Nat.le_refl 0, Nat.le_refl 0⟩ kc_X10 hrc hW (fun s2 hW => ?_) (fun r5 s2 hW => ?_)
  · refine fr_astore_nN (pc := 8) (lv' := [(3, .null), (0, .ref r0), (1, .int p0), (2, .int p1)]) rfl (by decide) rfl dX11_looks_8 ?_
    refine fr_aload_nN (pc := 9) 0 rfl rfl dX11_looks_9 ?_
    refine fr_ifnonnullN (pc := 10) dX11_looks_10 ?_
    refine fr_bipush (pc := 13) (-101) (by decide) dX11_looks_13 ?_
    exact fr_iret (pc := 15) dX11_looks_15 rfl ⟨Nat.le_refl 0, Nat.le_refl 0⟩ hW
  · refine fr_astore_n (pc := 8) (lv' := [(3, .ref r5), (0, .ref r0), (1, .int p0), (2, .int p1)]) rfl (by decide) rfl dX11_looks_8 ?_
    refine fr_aload_n (pc := 9) 0 rfl rfl dX11_looks_9 ?_
    refine fr_ifnonnull (pc := 10) (tgt := 16) (by decide) dX11_looks_10 ?_
    refine fr_aload_n (pc := 16) 1 rfl rfl dX11_looks_16 ?_
    refine fr_getR (pc := 17) (T := TX11) (k := 2) kc_X11 (by decide) w_580 dX11_looks_17 hW (fun r6 hW => ?_)
    refine fr_aload_n (pc := 20) 0 rfl rfl dX11_looks_20 ?_
    obtain ⟨hrc, hW⟩ := hW
    refine fr_callV_V (pc := 21) (As := [.ref r5]) (st := []) wd_X9_list w_797 ok_X9_list (by decide) rfl (Nat.le_of_ble_eq_true rfl) dX11_looks_21 ⟨Nat.le_refl 0, Nat.le_refl 0⟩ kc_X9 hrc hW (fun s7 hW => ?_)
    refine fr_aload_n (pc := 24) 1 rfl rfl dX11_looks_24 ?_
    refine fr_getR (pc := 25) (T := TX11) (k := 2) kc_X11 (by decide) w_580 dX11_looks_25 hW (fun r8 hW => ?_)
    refine fr_iload_n (pc := 28) 3 rfl rfl dX11_looks_28 ?_
    obtain ⟨hrc, hW⟩ := hW
    refine fr_callV_I (pc := 29) (As := [.int p1]) (st := []) wd_X9_placeOf w_798 ok_X9_placeOf (by decide) rfl (Nat.le_of_ble_eq_true rfl) dX11_looks_29 ⟨Nat.le_refl 0, Nat.le_refl 0⟩ kc_X9 hrc hW (fun i10 s9 hW => ?_)
    refine fr_istore (pc := 32) (lv' := [(4, .int i10), (3, .ref r5), (0, .ref r0), (1, .int p0), (2, .int p1)]) (by decide) rfl dX11_looks_32 ?_
    refine fr_iload (pc := 34) 0 rfl dX11_looks_34 ?_
    refine fr_iconst (pc := 36) (-1) (by decide) dX11_looks_36 ?_
    refine fr_icmp_ne (pc := 37) (tgt := 45) (by decide) dX11_looks_37 hW (fun hW => ?_) (fun hW => ?_)
    · refine fr_aload_n (pc := 45) 2 rfl rfl dX11_looks_45 ?_
      refine fr_getR (pc := 46) (T := TX11) (k := 2) kc_X11 (by decide) w_580 dX11_looks_46 hW (fun r13 hW => ?_)
      refine fr_iload (pc := 49) 0 rfl dX11_looks_49 ?_
      obtain ⟨hrc, hW⟩ := hW
      refine fr_callV_I (pc := 51) (As := [.int i10]) (st := []) wd_X9_costAt w_799 ok_X9_costAt (by decide) rfl (Nat.le_of_ble_eq_true rfl) dX11_looks_51 ⟨Nat.le_refl 0, Nat.le_refl 0⟩ kc_X9 hrc hW (fun i15 s14 hW => ?_)
      exact fr_iret (pc := 54) dX11_looks_54 rfl ⟨Nat.le_refl 0, Nat.le_refl 0⟩ hW
    · refine fr_bipush (pc := 40) (-101) (by decide) dX11_looks_40 ?_
      refine fr_goto (pc := 42) (tgt := 54) (by decide) dX11_looks_42 ?_
      exact fr_iret (pc := 54) dX11_looks_54 rfl ⟨Nat.le_refl 0, Nat.le_refl 0⟩ hW
set_option maxHeartbeats 4000000 in
set_option maxRecDepth 100000 in
theorem q_X10_upkeepNow {g : GG} {σ : Hs} {post : Option Value → Hs → Prop} (r0 : Nat) (hW : FI σ r0 10 8 (fun i1 => post (some (.int i1)) σ)) : Do g M_X10_upkeepNow 0 0 [.ref r0] σ post := by
  refine Do.of (by decide +kernel) (Nat.le_of_ble_eq_true rfl) ?_
  show Fr g M_X10_upkeepNow (0, 0, 0, 0) [(0, .ref r0)] [] 0 σ post
  refine fr_aload_n (pc := 0) 0 rfl rfl dX10_upkeepNow_0 ?_
  refine fr_getI (pc := 1) (T := TX10) (k := 8) kc_X10 (by decide) w_800 dX10_upkeepNow_1 hW (fun i1 hW => ?_)
  exact fr_iret (pc := 4) dX10_upkeepNow_4 rfl ⟨Nat.le_refl 0, Nat.le_refl 0⟩ hW
set_option maxHeartbeats 4000000 in
set_option maxRecDepth 100000 in
theorem q_X10_setUpkeep {g : GG} {σ : Hs} {post : Option Value → Hs → Prop} (r0 : Nat) (p0 : Int32) (hW : PF σ r0 10 8 (.int p0) (fun s1 => post none s1)) : Do g M_X10_setUpkeep 0 0 [.ref r0, .int p0] σ post := by
  refine Do.of (by decide +kernel) (Nat.le_of_ble_eq_true rfl) ?_
  show Fr g M_X10_setUpkeep (0, 0, 0, 0) [(0, .ref r0), (1, .int p0)] [] 0 σ post
  refine fr_aload_n (pc := 0) 0 rfl rfl dX10_setUpkeep_0 ?_
  refine fr_iload_n (pc := 1) 1 rfl rfl dX10_setUpkeep_1 ?_
  refine fr_put (pc := 2) (T := TX10) (k := 8) kc_X10 (by decide) w_800 rfl rfl rfl dX10_setUpkeep_2 hW (fun s1 hW => ?_)
  exact fr_ret (pc := 5) dX10_setUpkeep_5 rfl ⟨Nat.le_refl 0, Nat.le_refl 0⟩ hW
set_option maxHeartbeats 4000000 in
set_option maxRecDepth 100000 in
theorem q_X11_upkeep {g : GG} {σ : Hs} {post : Option Value → Hs → Prop} (r0 : Nat) (p0 : Int32) (hW : Do g M_X11_isNumber 0 0 [.int p0] σ (kI (fun i2 s1 => (¬ i2 = 0 → FR s1 r0 11 3 (fun r5 => Rc s1 r5 10 ∧ Do g M_X10_upkeepNow 0 0 [.ref r5] s1 (kI (fun i7 s6 => FR s6 r0 11 3 (fun r10 => Rc s6 r10 10 ∧ Do g M_X10_setUpkeep 0 0 [.ref r10, .int p0] s6 (kV (fun s11 => post (some (.int i7)) s11))))))) ∧ (i2 = 0 → post (some (.int (-102))) s1)))) : Do g M_X11_upkeep 0 0 [.ref r0, .int p0] σ post := by
  refine Do.of (by decide +kernel) (Nat.le_of_ble_eq_true rfl) ?_
  show Fr g M_X11_upkeep (0, 0, 0, 0) [(0, .ref r0), (1, .int p0)] [] 0 σ post
  refine fr_iload_n (pc := 0) 1 rfl rfl dX11_upkeep_0 ?_
  refine fr_callS_I (pc := 1) (As := [.int p0]) (st := []) wd_X11_isNumber w_670 ok_X11_isNumber (by decide) rfl (Nat.le_of_ble_eq_true rfl) dX11_upkeep_1 ⟨Nat.le_refl 0, Nat.le_refl 0⟩ hW (fun i2 s1 hW => ?_)
  refine fr_if_ne (pc := 4) (tgt := 10) (by decide) dX11_upkeep_4 hW (fun hW => ?_) (fun hW => ?_)
  · refine fr_aload_n (pc := 10) 0 rfl rfl dX11_upkeep_10 ?_
    refine fr_getR (pc := 11) (T := TX11) (k := 3) kc_X11 (by decide) w_583 dX11_upkeep_11 hW (fun r5 hW => ?_)
    obtain ⟨hrc, hW⟩ := hW
    refine fr_callV_I (pc := 14) (As := []) (st := []) wd_X10_upkeepNow w_801 ok_X10_upkeepNow (by decide) rfl (Nat.le_of_ble_eq_true rfl) dX11_upkeep_14 ⟨Nat.le_refl 0, Nat.le_refl 0⟩ kc_X10 hrc hW (fun i7 s6 hW => ?_)
    refine fr_istore_n (pc := 17) (lv' := [(2, .int i7), (0, .ref r0), (1, .int p0)]) rfl (by decide) rfl dX11_upkeep_17 ?_
    refine fr_aload_n (pc := 18) 1 rfl rfl dX11_upkeep_18 ?_
    refine fr_getR (pc := 19) (T := TX11) (k := 3) kc_X11 (by decide) w_583 dX11_upkeep_19 hW (fun r10 hW => ?_)
    refine fr_iload_n (pc := 22) 2 rfl rfl dX11_upkeep_22 ?_
    obtain ⟨hrc, hW⟩ := hW
    refine fr_callV_V (pc := 23) (As := [.int p0]) (st := []) wd_X10_setUpkeep w_802 ok_X10_setUpkeep (by decide) rfl (Nat.le_of_ble_eq_true rfl) dX11_upkeep_23 ⟨Nat.le_refl 0, Nat.le_refl 0⟩ kc_X10 hrc hW (fun s11 hW => ?_)
    refine fr_iload_n (pc := 26) 0 rfl rfl dX11_upkeep_26 ?_
    exact fr_iret (pc := 27) dX11_upkeep_27 rfl ⟨Nat.le_refl 0, Nat.le_refl 0⟩ hW
  · refine fr_bipush (pc := 7) (-102) (by decide) dX11_upkeep_7 ?_
    exact fr_iret (pc := 9) dX11_upkeep_9 rfl ⟨Nat.le_refl 0, Nat.le_refl 0⟩ hW
set_option maxHeartbeats 4000000 in
set_option maxRecDepth 100000 in
theorem q_X11_isSet {g : GG} {σ : Hs} {post : Option Value → Hs → Prop} (p0 : Int32) (hW : (p0 < 0 → post (some (.int 0)) σ) ∧ (¬ p0 < 0 → (255 < p0 → post (some (.int 0)) σ) ∧ (¬ 255 < p0 → post (some (.int 1)) σ))) : Do g M_X11_isSet 0 0 [.int p0] σ post := by
  refine Do.of (by decide +kernel) (Nat.le_of_ble_eq_true rfl) ?_
  show Fr g M_X11_isSet (0, 0, 0, 0) [(0, .int p0)] [] 0 σ post
  refine fr_iload_n (pc := 0) 0 rfl rfl dX11_isSet_0 ?_
  refine fr_if_lt (pc := 1) (tgt := 15) (by decide) dX11_isSet_1 hW (fun hW => ?_) (fun hW => ?_)
  · refine fr_iconst (pc := 15) 0 (by decide) dX11_isSet_15 ?_
    exact fr_zret (pc := 16) dX11_isSet_16 rfl ⟨Nat.le_refl 0, Nat.le_refl 0⟩ ⟨rfl, hW⟩
  · refine fr_iload_n (pc := 4) 0 rfl rfl dX11_isSet_4 ?_
    refine fr_sipush (pc := 5) 255 (by decide) dX11_isSet_5 ?_
    refine fr_icmp_gt (pc := 8) (tgt := 15) (by decide) dX11_isSet_8 hW (fun hW => ?_) (fun hW => ?_)
    · refine fr_iconst (pc := 15) 0 (by decide) dX11_isSet_15 ?_
      exact fr_zret (pc := 16) dX11_isSet_16 rfl ⟨Nat.le_refl 0, Nat.le_refl 0⟩ ⟨rfl, hW⟩
    · refine fr_iconst (pc := 11) 1 (by decide) dX11_isSet_11 ?_
      refine fr_goto (pc := 12) (tgt := 16) (by decide) dX11_isSet_12 ?_
      exact fr_zret (pc := 16) dX11_isSet_16 rfl ⟨Nat.le_refl 0, Nat.le_refl 0⟩ ⟨rfl, hW⟩
def J_X9_bestPlace_4 (g : GG) (post : Option Value → Hs → Prop) (σ : Hs) (a0 : Nat) (v1 : Int32) (v2 : Int32) (v3 : Int32) : Prop := Fr g M_X9_bestPlace (0, 0, 0, 0) [(0, .ref a0), (1, .int v1), (2, .int v2), (3, .int v3)] [] 4 σ post
set_option maxHeartbeats 4000000 in
set_option maxRecDepth 100000 in
theorem q_X9_bestPlace {g : GG} {σ : Hs} {post : Option Value → Hs → Prop} (r0 : Nat) (p0 : Int32) (hW : J_X9_bestPlace_4 g post σ r0 p0 0 1 ) : Do g M_X9_bestPlace 0 0 [.ref r0, .int p0] σ post := by
  refine Do.of (by decide +kernel) (Nat.le_of_ble_eq_true rfl) ?_
  show Fr g M_X9_bestPlace (0, 0, 0, 0) [(0, .ref r0), (1, .int p0)] [] 0 σ post
  refine fr_iconst (pc := 0) 0 (by decide) dX9_bestPlace_0 ?_
  refine fr_istore_n (pc := 1) (lv' := [(2, .int 0), (0, .ref r0), (1, .int p0)]) rfl (by decide) rfl dX9_bestPlace_1 ?_
  refine fr_iconst (pc := 2) 1 (by decide) dX9_bestPlace_2 ?_
  refine fr_istore_n (pc := 3) (lv' := [(3, .int 1), (2, .int 0), (0, .ref r0), (1, .int p0)]) rfl (by decide) rfl dX9_bestPlace_3 ?_
  exact fr_sub [2, 3, 1, 0] rfl hW
set_option maxHeartbeats 4000000 in
set_option maxRecDepth 100000 in
theorem q_X9_bestPlace_4 {g : GG} {σ : Hs} {post : Option Value → Hs → Prop} (a0 : Nat) (v1 : Int32) (v2 : Int32) (v3 : Int32) (hW : FI σ a0 9 7 (fun i1 => (i1 ≤ v3 → post (some (.int v2)) σ) ∧ (¬ i1 ≤ v3 → FR σ a0 9 3 (fun r2 => Rc σ r2 1 ∧ Do g M_X1_at 0 0 [.ref r2, .int v3] σ (kI (fun i4 s3 => (¬ (i4 &&& (v1 ^^^ (-1))) = 0 → J_X9_bestPlace_4 g post s3 a0 v1 v2 ((v3 + 1)) ) ∧ ((i4 &&& (v1 ^^^ (-1))) = 0 → FR s3 a0 9 4 (fun r7 => Rc s3 r7 1 ∧ Do g M_X1_at 0 0 [.ref r7, .int v3] s3 (kI (fun i9 s8 => FR s8 a0 9 4 (fun r12 => Rc s8 r12 1 ∧ Do g M_X1_at 0 0 [.ref r12, .int v2] s8 (kI (fun i14 s13 => (i14 ≤ i9 → J_X9_bestPlace_4 g post s13 a0 v1 v2 ((v3 + 1)) ) ∧ (¬ i14 ≤ i9 → J_X9_bestPlace_4 g post s13 a0 v1 v3 ((v3 + 1)) )))))))))))))) : J_X9_bestPlace_4 g post σ a0 v1 v2 v3 := by
  show Fr g M_X9_bestPlace (0, 0, 0, 0) [(0, .ref a0), (1, .int v1), (2, .int v2), (3, .int v3)] [] 4 σ post
  refine fr_iload_n (pc := 4) 3 rfl rfl dX9_bestPlace_4 ?_
  refine fr_aload_n (pc := 5) 0 rfl rfl dX9_bestPlace_5 ?_
  refine fr_getI (pc := 6) (T := TX9) (k := 7) kc_X9 (by decide) w_772 dX9_bestPlace_6 hW (fun i1 hW => ?_)
  refine fr_icmp_ge (pc := 9) (tgt := 54) (by decide) dX9_bestPlace_9 hW (fun hW => ?_) (fun hW => ?_)
  · refine fr_iload_n (pc := 54) 2 rfl rfl dX9_bestPlace_54 ?_
    exact fr_iret (pc := 55) dX9_bestPlace_55 rfl ⟨Nat.le_refl 0, Nat.le_refl 0⟩ hW
  · refine fr_aload_n (pc := 12) 0 rfl rfl dX9_bestPlace_12 ?_
    refine fr_getR (pc := 13) (T := TX9) (k := 3) kc_X9 (by decide) w_533 dX9_bestPlace_13 hW (fun r2 hW => ?_)
    refine fr_iload_n (pc := 16) 3 rfl rfl dX9_bestPlace_16 ?_
    obtain ⟨hrc, hW⟩ := hW
    refine fr_callV_I (pc := 17) (As := [.int v3]) (st := []) wd_X1_at w_789 ok_X1_at (by decide) rfl (Nat.le_of_ble_eq_true rfl) dX9_bestPlace_17 ⟨Nat.le_refl 0, Nat.le_refl 0⟩ kc_X1 hrc hW (fun i4 s3 hW => ?_)
    refine fr_iload_n (pc := 20) 1 rfl rfl dX9_bestPlace_20 ?_
    refine fr_iconst (pc := 21) (-1) (by decide) dX9_bestPlace_21 ?_
    refine fr_ixor (pc := 22) dX9_bestPlace_22 ?_
    refine fr_iand (pc := 23) dX9_bestPlace_23 ?_
    refine fr_if_ne (pc := 24) (tgt := 48) (by decide) dX9_bestPlace_24 hW (fun hW => ?_) (fun hW => ?_)
    · refine fr_iinc (pc := 48) (lv' := [(3, .int (v3 + 1)), (0, .ref a0), (1, .int v1), (2, .int v2)]) (v3 + 1) 3 rfl (congrArg (fun z => v3 + z) (by decide)) (by decide) rfl dX9_bestPlace_48 ?_
      refine fr_goto (pc := 51) (tgt := 4) (by decide) dX9_bestPlace_51 ?_
      exact fr_sub [1, 2, 3, 0] rfl hW
    · refine fr_aload_n (pc := 27) 0 rfl rfl dX9_bestPlace_27 ?_
      refine fr_getR (pc := 28) (T := TX9) (k := 4) kc_X9 (by decide) w_534 dX9_bestPlace_28 hW (fun r7 hW => ?_)
      refine fr_iload_n (pc := 31) 3 rfl rfl dX9_bestPlace_31 ?_
      obtain ⟨hrc, hW⟩ := hW
      refine fr_callV_I (pc := 32) (As := [.int v3]) (st := []) wd_X1_at w_789 ok_X1_at (by decide) rfl (Nat.le_of_ble_eq_true rfl) dX9_bestPlace_32 ⟨Nat.le_refl 0, Nat.le_refl 0⟩ kc_X1 hrc hW (fun i9 s8 hW => ?_)
      refine fr_aload_n (pc := 35) 0 rfl rfl dX9_bestPlace_35 ?_
      refine fr_getR (pc := 36) (T := TX9) (k := 4) kc_X9 (by decide) w_534 dX9_bestPlace_36 hW (fun r12 hW => ?_)
      refine fr_iload_n (pc := 39) 2 rfl rfl dX9_bestPlace_39 ?_
      obtain ⟨hrc, hW⟩ := hW
      refine fr_callV_I (pc := 40) (As := [.int v2]) (st := [.int i9]) wd_X1_at w_789 ok_X1_at (by decide) rfl (Nat.le_of_ble_eq_true rfl) dX9_bestPlace_40 ⟨Nat.le_refl 0, Nat.le_refl 0⟩ kc_X1 hrc hW (fun i14 s13 hW => ?_)
      refine fr_icmp_ge (pc := 43) (tgt := 48) (by decide) dX9_bestPlace_43 hW (fun hW => ?_) (fun hW => ?_)
      · refine fr_iinc (pc := 48) (lv' := [(3, .int (v3 + 1)), (0, .ref a0), (1, .int v1), (2, .int v2)]) (v3 + 1) 3 rfl (congrArg (fun z => v3 + z) (by decide)) (by decide) rfl dX9_bestPlace_48 ?_
        refine fr_goto (pc := 51) (tgt := 4) (by decide) dX9_bestPlace_51 ?_
        exact fr_sub [1, 2, 3, 0] rfl hW
      · refine fr_iload_n (pc := 46) 3 rfl rfl dX9_bestPlace_46 ?_
        refine fr_istore_n (pc := 47) (lv' := [(2, .int v3), (0, .ref a0), (1, .int v1), (3, .int v3)]) rfl (by decide) rfl dX9_bestPlace_47 ?_
        refine fr_iinc (pc := 48) (lv' := [(3, .int (v3 + 1)), (2, .int v3), (0, .ref a0), (1, .int v1)]) (v3 + 1) 3 rfl (congrArg (fun z => v3 + z) (by decide)) (by decide) rfl dX9_bestPlace_48 ?_
        refine fr_goto (pc := 51) (tgt := 4) (by decide) dX9_bestPlace_51 ?_
        exact fr_sub [2, 3, 1, 0] rfl hW
set_option maxHeartbeats 4000000 in
set_option maxRecDepth 100000 in
theorem q_X9_numberAt {g : GG} {σ : Hs} {post : Option Value → Hs → Prop} (r0 : Nat) (p0 : Int32) (hW : FR σ r0 9 2 (fun r1 => Rc σ r1 1 ∧ Do g M_X1_at 0 0 [.ref r1, .int p0] σ (kI (fun i3 s2 => post (some (.int i3)) s2)))) : Do g M_X9_numberAt 0 0 [.ref r0, .int p0] σ post := by
  refine Do.of (by decide +kernel) (Nat.le_of_ble_eq_true rfl) ?_
  show Fr g M_X9_numberAt (0, 0, 0, 0) [(0, .ref r0), (1, .int p0)] [] 0 σ post
  refine fr_aload_n (pc := 0) 0 rfl rfl dX9_numberAt_0 ?_
  refine fr_getR (pc := 1) (T := TX9) (k := 2) kc_X9 (by decide) w_532 dX9_numberAt_1 hW (fun r1 hW => ?_)
  refine fr_iload_n (pc := 4) 1 rfl rfl dX9_numberAt_4 ?_
  obtain ⟨hrc, hW⟩ := hW
  refine fr_callV_I (pc := 5) (As := [.int p0]) (st := []) wd_X1_at w_789 ok_X1_at (by decide) rfl (Nat.le_of_ble_eq_true rfl) dX9_numberAt_5 ⟨Nat.le_refl 0, Nat.le_refl 0⟩ kc_X1 hrc hW (fun i3 s2 hW => ?_)
  exact fr_iret (pc := 8) dX9_numberAt_8 rfl ⟨Nat.le_refl 0, Nat.le_refl 0⟩ hW
set_option maxHeartbeats 4000000 in
set_option maxRecDepth 100000 in
theorem q_X11_best {g : GG} {σ : Hs} {post : Option Value → Hs → Prop} (r0 : Nat) (p0 : Int32) (p1 : Int32) (hW : FR σ r0 11 3 (fun r1 => Rc σ r1 10 ∧ Do g M_X10_question 0 0 [.ref r1, .int p0] σ (kA (fun s2 => post (some (.int (-101))) s2) (fun r5 s2 => Do g M_X11_isSet 0 0 [.int p1] s2 (kI (fun i7 s6 => (¬ i7 = 0 → FR s6 r0 11 2 (fun r10 => Rc s6 r10 9 ∧ Do g M_X9_list 0 0 [.ref r10, .ref r5] s6 (kV (fun s11 => FR s11 r0 11 2 (fun r12 => FR s11 r0 11 2 (fun r13 => Rc s11 r13 9 ∧ Do g M_X9_bestPlace 0 0 [.ref r13, .int p1] s11 (kI (fun i15 s14 => Rc s14 r12 9 ∧ Do g M_X9_numberAt 0 0 [.ref r12, .int i15] s14 (kI (fun i19 s18 => post (some (.int i19)) s18)))))))))) ∧ (i7 = 0 → post (some (.int (-102))) s6))))))) : Do g M_X11_best 0 0 [.ref r0, .int p0, .int p1] σ post := by
  refine Do.of (by decide +kernel) (Nat.le_of_ble_eq_true rfl) ?_
  show Fr g M_X11_best (0, 0, 0, 0) [(0, .ref r0), (1, .int p0), (2, .int p1)] [] 0 σ post
  refine fr_aload_n (pc := 0) 0 rfl rfl dX11_best_0 ?_
  refine fr_getR (pc := 1) (T := TX11) (k := 3) kc_X11 (by decide) w_583 dX11_best_1 hW (fun r1 hW => ?_)
  refine fr_iload_n (pc := 4) 1 rfl rfl dX11_best_4 ?_
  obtain ⟨hrc, hW⟩ := hW
  refine fr_callV_A (pc := 5) (As := [.int p0]) (st := []) wd_X10_question w_733 ok_X10_question (by decide) rfl (Nat.le_of_ble_eq_true rfl) dX11_best_5 ⟨Nat.le_refl 0, Nat.le_refl 0⟩ kc_X10 hrc hW (fun s2 hW => ?_) (fun r5 s2 hW => ?_)
  · refine fr_astore_nN (pc := 8) (lv' := [(3, .null), (0, .ref r0), (1, .int p0), (2, .int p1)]) rfl (by decide) rfl dX11_best_8 ?_
    refine fr_aload_nN (pc := 9) 0 rfl rfl dX11_best_9 ?_
    refine fr_ifnonnullN (pc := 10) dX11_best_10 ?_
    refine fr_bipush (pc := 13) (-101) (by decide) dX11_best_13 ?_
    exact fr_iret (pc := 15) dX11_best_15 rfl ⟨Nat.le_refl 0, Nat.le_refl 0⟩ hW
  · refine fr_astore_n (pc := 8) (lv' := [(3, .ref r5), (0, .ref r0), (1, .int p0), (2, .int p1)]) rfl (by decide) rfl dX11_best_8 ?_
    refine fr_aload_n (pc := 9) 0 rfl rfl dX11_best_9 ?_
    refine fr_ifnonnull (pc := 10) (tgt := 16) (by decide) dX11_best_10 ?_
    refine fr_iload_n (pc := 16) 3 rfl rfl dX11_best_16 ?_
    refine fr_callS_I (pc := 17) (As := [.int p1]) (st := []) wd_X11_isSet w_803 ok_X11_isSet (by decide) rfl (Nat.le_of_ble_eq_true rfl) dX11_best_17 ⟨Nat.le_refl 0, Nat.le_refl 0⟩ hW (fun i7 s6 hW => ?_)
    refine fr_if_ne (pc := 20) (tgt := 26) (by decide) dX11_best_20 hW (fun hW => ?_) (fun hW => ?_)
    · refine fr_aload_n (pc := 26) 1 rfl rfl dX11_best_26 ?_
      refine fr_getR (pc := 27) (T := TX11) (k := 2) kc_X11 (by decide) w_580 dX11_best_27 hW (fun r10 hW => ?_)
      refine fr_aload_n (pc := 30) 0 rfl rfl dX11_best_30 ?_
      obtain ⟨hrc, hW⟩ := hW
      refine fr_callV_V (pc := 31) (As := [.ref r5]) (st := []) wd_X9_list w_797 ok_X9_list (by decide) rfl (Nat.le_of_ble_eq_true rfl) dX11_best_31 ⟨Nat.le_refl 0, Nat.le_refl 0⟩ kc_X9 hrc hW (fun s11 hW => ?_)
      refine fr_aload_n (pc := 34) 1 rfl rfl dX11_best_34 ?_
      refine fr_getR (pc := 35) (T := TX11) (k := 2) kc_X11 (by decide) w_580 dX11_best_35 hW (fun r12 hW => ?_)
      refine fr_aload_n (pc := 38) 1 rfl rfl dX11_best_38 ?_
      refine fr_getR (pc := 39) (T := TX11) (k := 2) kc_X11 (by decide) w_580 dX11_best_39 hW (fun r13 hW => ?_)
      refine fr_iload_n (pc := 42) 3 rfl rfl dX11_best_42 ?_
      obtain ⟨hrc, hW⟩ := hW
      refine fr_callV_I (pc := 43) (As := [.int p1]) (st := [.ref r12]) wd_X9_bestPlace w_804 ok_X9_bestPlace (by decide) rfl (Nat.le_of_ble_eq_true rfl) dX11_best_43 ⟨Nat.le_refl 0, Nat.le_refl 0⟩ kc_X9 hrc hW (fun i15 s14 hW => ?_)
      obtain ⟨hrc, hW⟩ := hW
      refine fr_callV_I (pc := 46) (As := [.int i15]) (st := []) wd_X9_numberAt w_805 ok_X9_numberAt (by decide) rfl (Nat.le_of_ble_eq_true rfl) dX11_best_46 ⟨Nat.le_refl 0, Nat.le_refl 0⟩ kc_X9 hrc hW (fun i19 s18 hW => ?_)
      exact fr_iret (pc := 49) dX11_best_49 rfl ⟨Nat.le_refl 0, Nat.le_refl 0⟩ hW
    · refine fr_bipush (pc := 23) (-102) (by decide) dX11_best_23 ?_
      exact fr_iret (pc := 25) dX11_best_25 rfl ⟨Nat.le_refl 0, Nat.le_refl 0⟩ hW
def J_X3_burdenOf_4 (g : GG) (post : Option Value → Hs → Prop) (σ : Hs) (a0 : Nat) (v1 : Int32) (v2 : Int32) (v3 : Int32) : Prop := Fr g M_X3_burdenOf (0, 0, 0, 0) [(0, .ref a0), (1, .int v1), (2, .int v2), (3, .int v3)] [] 4 σ post
set_option maxHeartbeats 4000000 in
set_option maxRecDepth 100000 in
theorem q_X3_burdenOf {g : GG} {σ : Hs} {post : Option Value → Hs → Prop} (r0 : Nat) (p0 : Int32) (hW : J_X3_burdenOf_4 g post σ r0 p0 0 0 ) : Do g M_X3_burdenOf 0 0 [.ref r0, .int p0] σ post := by
  refine Do.of (by decide +kernel) (Nat.le_of_ble_eq_true rfl) ?_
  show Fr g M_X3_burdenOf (0, 0, 0, 0) [(0, .ref r0), (1, .int p0)] [] 0 σ post
  refine fr_iconst (pc := 0) 0 (by decide) dX3_burdenOf_0 ?_
  refine fr_istore_n (pc := 1) (lv' := [(2, .int 0), (0, .ref r0), (1, .int p0)]) rfl (by decide) rfl dX3_burdenOf_1 ?_
  refine fr_iconst (pc := 2) 0 (by decide) dX3_burdenOf_2 ?_
  refine fr_istore_n (pc := 3) (lv' := [(3, .int 0), (2, .int 0), (0, .ref r0), (1, .int p0)]) rfl (by decide) rfl dX3_burdenOf_3 ?_
  exact fr_sub [2, 3, 1, 0] rfl hW
set_option maxHeartbeats 4000000 in
set_option maxRecDepth 100000 in
theorem q_X3_burdenOf_4 {g : GG} {σ : Hs} {post : Option Value → Hs → Prop} (a0 : Nat) (v1 : Int32) (v2 : Int32) (v3 : Int32) (hW : FI σ a0 3 2 (fun i1 => (i1 ≤ v3 → post (some (.int v2)) σ) ∧ (¬ i1 ≤ v3 → Do g M_X11_has 0 0 [.int v1, .int v3] σ (kI (fun i3 s2 => (i3 = 0 → J_X3_burdenOf_4 g post s2 a0 v1 v2 ((v3 + 1)) ) ∧ (¬ i3 = 0 → Rc s2 a0 3 ∧ Do g M_X3_kept 0 0 [.ref a0, .int v3] s2 (kA (fun s6 => J_X3_burdenOf_4 g post s6 a0 v1 v2 ((v3 + 1)) ) (fun r9 s6 => Rc s6 r9 2 ∧ Do g M_X2_height 0 0 [.ref r9] s6 (kI (fun i11 s10 => J_X3_burdenOf_4 g post s10 a0 v1 ((v2 + (i11 + 2))) ((v3 + 1)) )))))))))) : J_X3_burdenOf_4 g post σ a0 v1 v2 v3 := by
  show Fr g M_X3_burdenOf (0, 0, 0, 0) [(0, .ref a0), (1, .int v1), (2, .int v2), (3, .int v3)] [] 4 σ post
  refine fr_iload_n (pc := 4) 3 rfl rfl dX3_burdenOf_4 ?_
  refine fr_aload_n (pc := 5) 0 rfl rfl dX3_burdenOf_5 ?_
  refine fr_getI (pc := 6) (T := TX3) (k := 2) kc_X3 (by decide) w_623 dX3_burdenOf_6 hW (fun i1 hW => ?_)
  refine fr_icmp_ge (pc := 9) (tgt := 52) (by decide) dX3_burdenOf_9 hW (fun hW => ?_) (fun hW => ?_)
  · refine fr_iload_n (pc := 52) 2 rfl rfl dX3_burdenOf_52 ?_
    exact fr_iret (pc := 53) dX3_burdenOf_53 rfl ⟨Nat.le_refl 0, Nat.le_refl 0⟩ hW
  · refine fr_iload_n (pc := 12) 1 rfl rfl dX3_burdenOf_12 ?_
    refine fr_iload_n (pc := 13) 3 rfl rfl dX3_burdenOf_13 ?_
    refine fr_callSN_I (pc := 14) (As := [.int v1, .int v3]) (st := []) wd_X11_has ⟨RX11, by decide +kernel⟩ ok_X11_has (by decide) rfl (Nat.le_of_ble_eq_true rfl) dX3_burdenOf_14 ⟨Nat.le_refl 0, Nat.le_refl 0⟩ hW (fun i3 s2 hW => ?_)
    refine fr_if_eq (pc := 17) (tgt := 28) (by decide) dX3_burdenOf_17 hW (fun hW => ?_) (fun hW => ?_)
    · refine fr_null (pc := 28) dX3_burdenOf_28 ?_
      refine fr_astoreN (pc := 29) (lv' := [(4, .null), (0, .ref a0), (1, .int v1), (2, .int v2), (3, .int v3)]) (by decide) rfl dX3_burdenOf_29 ?_
      refine fr_aloadN (pc := 31) 0 rfl dX3_burdenOf_31 ?_
      refine fr_ifnullN (pc := 33) (tgt := 46) (by decide) dX3_burdenOf_33 ?_
      refine fr_iinc (pc := 46) (lv' := [(3, .int (v3 + 1)), (4, .null), (0, .ref a0), (1, .int v1), (2, .int v2)]) (v3 + 1) 4 rfl (congrArg (fun z => v3 + z) (by decide)) (by decide) rfl dX3_burdenOf_46 ?_
      refine fr_goto (pc := 49) (tgt := 4) (by decide) dX3_burdenOf_49 ?_
      exact fr_sub [2, 3, 4, 0] rfl hW
    · refine fr_aload_n (pc := 20) 0 rfl rfl dX3_burdenOf_20 ?_
      refine fr_iload_n (pc := 21) 3 rfl rfl dX3_burdenOf_21 ?_
      obtain ⟨hrc, hW⟩ := hW
      refine fr_callV_A (pc := 22) (As := [.int v3]) (st := []) wd_X3_kept w_624 ok_X3_kept (by decide) rfl (Nat.le_of_ble_eq_true rfl) dX3_burdenOf_22 ⟨Nat.le_refl 0, Nat.le_refl 0⟩ kc_X3 hrc hW (fun s6 hW => ?_) (fun r9 s6 hW => ?_)
      · refine fr_goto (pc := 25) (tgt := 29) (by decide) dX3_burdenOf_25 ?_
        refine fr_astoreN (pc := 29) (lv' := [(4, .null), (0, .ref a0), (1, .int v1), (2, .int v2), (3, .int v3)]) (by decide) rfl dX3_burdenOf_29 ?_
        refine fr_aloadN (pc := 31) 0 rfl dX3_burdenOf_31 ?_
        refine fr_ifnullN (pc := 33) (tgt := 46) (by decide) dX3_burdenOf_33 ?_
        refine fr_iinc (pc := 46) (lv' := [(3, .int (v3 + 1)), (4, .null), (0, .ref a0), (1, .int v1), (2, .int v2)]) (v3 + 1) 4 rfl (congrArg (fun z => v3 + z) (by decide)) (by decide) rfl dX3_burdenOf_46 ?_
        refine fr_goto (pc := 49) (tgt := 4) (by decide) dX3_burdenOf_49 ?_
        exact fr_sub [2, 3, 4, 0] rfl hW
      · refine fr_goto (pc := 25) (tgt := 29) (by decide) dX3_burdenOf_25 ?_
        refine fr_astore (pc := 29) (lv' := [(4, .ref r9), (0, .ref a0), (1, .int v1), (2, .int v2), (3, .int v3)]) (by decide) rfl dX3_burdenOf_29 ?_
        refine fr_aload (pc := 31) 0 rfl dX3_burdenOf_31 ?_
        refine fr_ifnull (pc := 33) dX3_burdenOf_33 ?_
        refine fr_iload_n (pc := 36) 3 rfl rfl dX3_burdenOf_36 ?_
        refine fr_aload (pc := 37) 0 rfl dX3_burdenOf_37 ?_
        obtain ⟨hrc, hW⟩ := hW
        refine fr_callV_I (pc := 39) (As := []) (st := [.int v2]) wd_X2_height w_806 ok_X2_height (by decide) rfl (Nat.le_of_ble_eq_true rfl) dX3_burdenOf_39 ⟨Nat.le_refl 0, Nat.le_refl 0⟩ kc_X2 hrc hW (fun i11 s10 hW => ?_)
        refine fr_iconst (pc := 42) 2 (by decide) dX3_burdenOf_42 ?_
        refine fr_iadd (pc := 43) dX3_burdenOf_43 ?_
        refine fr_iadd (pc := 44) dX3_burdenOf_44 ?_
        refine fr_istore_n (pc := 45) (lv' := [(2, .int (v2 + (i11 + 2))), (4, .ref r9), (0, .ref a0), (1, .int v1), (3, .int v3)]) rfl (by decide) rfl dX3_burdenOf_45 ?_
        refine fr_iinc (pc := 46) (lv' := [(3, .int (v3 + 1)), (2, .int (v2 + (i11 + 2))), (4, .ref r9), (0, .ref a0), (1, .int v1)]) (v3 + 1) 4 rfl (congrArg (fun z => v3 + z) (by decide)) (by decide) rfl dX3_burdenOf_46 ?_
        refine fr_goto (pc := 49) (tgt := 4) (by decide) dX3_burdenOf_49 ?_
        exact fr_sub [3, 4, 1, 0] rfl hW
def J_X10_workOf_16 (g : GG) (post : Option Value → Hs → Prop) (σ : Hs) (a0 : Nat) (v1 : Int32) (v2 : Int32) (v3 : Int32) : Prop := Fr g M_X10_workOf (0, 0, 0, 0) [(0, .ref a0), (1, .int v1), (2, .int v2), (3, .int v3)] [] 16 σ post
set_option maxHeartbeats 4000000 in
set_option maxRecDepth 100000 in
theorem q_X10_workOf {g : GG} {σ : Hs} {post : Option Value → Hs → Prop} (r0 : Nat) (p0 : Int32) (hW : FI σ r0 10 8 (fun i1 => FR σ r0 10 0 (fun r2 => Rc σ r2 3 ∧ Do g M_X3_burdenOf 0 0 [.ref r2, .int p0] σ (kI (fun i4 s3 => J_X10_workOf_16 g post s3 r0 p0 ((i1 * i4)) 0 ))))) : Do g M_X10_workOf 0 0 [.ref r0, .int p0] σ post := by
  refine Do.of (by decide +kernel) (Nat.le_of_ble_eq_true rfl) ?_
  show Fr g M_X10_workOf (0, 0, 0, 0) [(0, .ref r0), (1, .int p0)] [] 0 σ post
  refine fr_aload_n (pc := 0) 0 rfl rfl dX10_workOf_0 ?_
  refine fr_getI (pc := 1) (T := TX10) (k := 8) kc_X10 (by decide) w_800 dX10_workOf_1 hW (fun i1 hW => ?_)
  refine fr_aload_n (pc := 4) 0 rfl rfl dX10_workOf_4 ?_
  refine fr_getR (pc := 5) (T := TX10) (k := 0) kc_X10 (by decide) w_548 dX10_workOf_5 hW (fun r2 hW => ?_)
  refine fr_iload_n (pc := 8) 1 rfl rfl dX10_workOf_8 ?_
  obtain ⟨hrc, hW⟩ := hW
  refine fr_callV_I (pc := 9) (As := [.int p0]) (st := [.int i1]) wd_X3_burdenOf w_807 ok_X3_burdenOf (by decide) rfl (Nat.le_of_ble_eq_true rfl) dX10_workOf_9 ⟨Nat.le_refl 0, Nat.le_refl 0⟩ kc_X3 hrc hW (fun i4 s3 hW => ?_)
  refine fr_imul (pc := 12) dX10_workOf_12 ?_
  refine fr_istore_n (pc := 13) (lv' := [(2, .int (i1 * i4)), (0, .ref r0), (1, .int p0)]) rfl (by decide) rfl dX10_workOf_13 ?_
  refine fr_iconst (pc := 14) 0 (by decide) dX10_workOf_14 ?_
  refine fr_istore_n (pc := 15) (lv' := [(3, .int 0), (2, .int (i1 * i4)), (0, .ref r0), (1, .int p0)]) rfl (by decide) rfl dX10_workOf_15 ?_
  exact fr_sub [2, 3, 1, 0] rfl hW
set_option maxHeartbeats 4000000 in
set_option maxRecDepth 100000 in
theorem q_X10_workOf_16 {g : GG} {σ : Hs} {post : Option Value → Hs → Prop} (a0 : Nat) (v1 : Int32) (v2 : Int32) (v3 : Int32) (hW : FI σ a0 10 6 (fun i7 => (i7 ≤ v3 → post (some (.int v2)) σ) ∧ (¬ i7 ≤ v3 → Rc σ a0 10 ∧ Do g M_X10_question 0 0 [.ref a0, .int v3] σ (kA (fun s8 => J_X10_workOf_16 g post s8 a0 v1 v2 ((v3 + 1)) ) (fun r11 s8 => FR s8 a0 10 1 (fun r12 => Rc s8 r12 9 ∧ Do g M_X9_list 0 0 [.ref r12, .ref r11] s8 (kV (fun s13 => Rc s13 r11 6 ∧ Do g M_X6_heft 0 0 [.ref r11] s13 (kI (fun i15 s14 => FR s14 a0 10 1 (fun r18 => FR s14 a0 10 1 (fun r19 => Rc s14 r19 9 ∧ Do g M_X9_bestPlace 0 0 [.ref r19, .int v1] s14 (kI (fun i21 s20 => Rc s20 r18 9 ∧ Do g M_X9_costAt 0 0 [.ref r18, .int i21] s20 (kI (fun i25 s24 => J_X10_workOf_16 g post s24 a0 v1 ((v2 + (i15 * i25))) ((v3 + 1)) )))))))))))))))) : J_X10_workOf_16 g post σ a0 v1 v2 v3 := by
  show Fr g M_X10_workOf (0, 0, 0, 0) [(0, .ref a0), (1, .int v1), (2, .int v2), (3, .int v3)] [] 16 σ post
  refine fr_iload_n (pc := 16) 3 rfl rfl dX10_workOf_16 ?_
  refine fr_aload_n (pc := 17) 0 rfl rfl dX10_workOf_17 ?_
  refine fr_getI (pc := 18) (T := TX10) (k := 6) kc_X10 (by decide) w_714 dX10_workOf_18 hW (fun i7 hW => ?_)
  refine fr_icmp_ge (pc := 21) (tgt := 75) (by decide) dX10_workOf_21 hW (fun hW => ?_) (fun hW => ?_)
  · refine fr_iload_n (pc := 75) 2 rfl rfl dX10_workOf_75 ?_
    exact fr_iret (pc := 76) dX10_workOf_76 rfl ⟨Nat.le_refl 0, Nat.le_refl 0⟩ hW
  · refine fr_aload_n (pc := 24) 0 rfl rfl dX10_workOf_24 ?_
    refine fr_iload_n (pc := 25) 3 rfl rfl dX10_workOf_25 ?_
    obtain ⟨hrc, hW⟩ := hW
    refine fr_callV_A (pc := 26) (As := [.int v3]) (st := []) wd_X10_question w_808 ok_X10_question (by decide) rfl (Nat.le_of_ble_eq_true rfl) dX10_workOf_26 ⟨Nat.le_refl 0, Nat.le_refl 0⟩ kc_X10 hrc hW (fun s8 hW => ?_) (fun r11 s8 hW => ?_)
    · refine fr_astoreN (pc := 29) (lv' := [(4, .null), (0, .ref a0), (1, .int v1), (2, .int v2), (3, .int v3)]) (by decide) rfl dX10_workOf_29 ?_
      refine fr_aloadN (pc := 31) 0 rfl dX10_workOf_31 ?_
      refine fr_ifnullN (pc := 33) (tgt := 69) (by decide) dX10_workOf_33 ?_
      refine fr_iinc (pc := 69) (lv' := [(3, .int (v3 + 1)), (4, .null), (0, .ref a0), (1, .int v1), (2, .int v2)]) (v3 + 1) 4 rfl (congrArg (fun z => v3 + z) (by decide)) (by decide) rfl dX10_workOf_69 ?_
      refine fr_goto (pc := 72) (tgt := 16) (by decide) dX10_workOf_72 ?_
      exact fr_sub [2, 3, 4, 0] rfl hW
    · refine fr_astore (pc := 29) (lv' := [(4, .ref r11), (0, .ref a0), (1, .int v1), (2, .int v2), (3, .int v3)]) (by decide) rfl dX10_workOf_29 ?_
      refine fr_aload (pc := 31) 0 rfl dX10_workOf_31 ?_
      refine fr_ifnull (pc := 33) dX10_workOf_33 ?_
      refine fr_aload_n (pc := 36) 1 rfl rfl dX10_workOf_36 ?_
      refine fr_getR (pc := 37) (T := TX10) (k := 1) kc_X10 (by decide) w_549 dX10_workOf_37 hW (fun r12 hW => ?_)
      refine fr_aload (pc := 40) 0 rfl dX10_workOf_40 ?_
      obtain ⟨hrc, hW⟩ := hW
      refine fr_callV_V (pc := 42) (As := [.ref r11]) (st := []) wd_X9_list w_809 ok_X9_list (by decide) rfl (Nat.le_of_ble_eq_true rfl) dX10_workOf_42 ⟨Nat.le_refl 0, Nat.le_refl 0⟩ kc_X9 hrc hW (fun s13 hW => ?_)
      refine fr_iload_n (pc := 45) 3 rfl rfl dX10_workOf_45 ?_
      refine fr_aload (pc := 46) 0 rfl dX10_workOf_46 ?_
      obtain ⟨hrc, hW⟩ := hW
      refine fr_callV_I (pc := 48) (As := []) (st := [.int v2]) wd_X6_heft w_810 ok_X6_heft (by decide) rfl (Nat.le_of_ble_eq_true rfl) dX10_workOf_48 ⟨Nat.le_refl 0, Nat.le_refl 0⟩ kc_X6 hrc hW (fun i15 s14 hW => ?_)
      refine fr_aload_n (pc := 51) 1 rfl rfl dX10_workOf_51 ?_
      refine fr_getR (pc := 52) (T := TX10) (k := 1) kc_X10 (by decide) w_549 dX10_workOf_52 hW (fun r18 hW => ?_)
      refine fr_aload_n (pc := 55) 1 rfl rfl dX10_workOf_55 ?_
      refine fr_getR (pc := 56) (T := TX10) (k := 1) kc_X10 (by decide) w_549 dX10_workOf_56 hW (fun r19 hW => ?_)
      refine fr_iload_n (pc := 59) 2 rfl rfl dX10_workOf_59 ?_
      obtain ⟨hrc, hW⟩ := hW
      refine fr_callV_I (pc := 60) (As := [.int v1]) (st := [.ref r18, .int i15, .int v2]) wd_X9_bestPlace w_811 ok_X9_bestPlace (by decide) rfl (Nat.le_of_ble_eq_true rfl) dX10_workOf_60 ⟨Nat.le_refl 0, Nat.le_refl 0⟩ kc_X9 hrc hW (fun i21 s20 hW => ?_)
      obtain ⟨hrc, hW⟩ := hW
      refine fr_callV_I (pc := 63) (As := [.int i21]) (st := [.int i15, .int v2]) wd_X9_costAt w_812 ok_X9_costAt (by decide) rfl (Nat.le_of_ble_eq_true rfl) dX10_workOf_63 ⟨Nat.le_refl 0, Nat.le_refl 0⟩ kc_X9 hrc hW (fun i25 s24 hW => ?_)
      refine fr_imul (pc := 66) dX10_workOf_66 ?_
      refine fr_iadd (pc := 67) dX10_workOf_67 ?_
      refine fr_istore_n (pc := 68) (lv' := [(2, .int (v2 + (i15 * i25))), (4, .ref r11), (0, .ref a0), (1, .int v1), (3, .int v3)]) rfl (by decide) rfl dX10_workOf_68 ?_
      refine fr_iinc (pc := 69) (lv' := [(3, .int (v3 + 1)), (2, .int (v2 + (i15 * i25))), (4, .ref r11), (0, .ref a0), (1, .int v1)]) (v3 + 1) 4 rfl (congrArg (fun z => v3 + z) (by decide)) (by decide) rfl dX10_workOf_69 ?_
      refine fr_goto (pc := 72) (tgt := 16) (by decide) dX10_workOf_72 ?_
      exact fr_sub [3, 4, 1, 0] rfl hW
set_option maxHeartbeats 4000000 in
set_option maxRecDepth 100000 in
theorem q_X11_work {g : GG} {σ : Hs} {post : Option Value → Hs → Prop} (r0 : Nat) (p0 : Int32) (hW : Do g M_X11_isSet 0 0 [.int p0] σ (kI (fun i2 s1 => (i2 = 0 → post (some (.int (-102))) s1) ∧ (¬ i2 = 0 → FR s1 r0 11 3 (fun r5 => Rc s1 r5 10 ∧ Do g M_X10_workOf 0 0 [.ref r5, .int p0] s1 (kI (fun i7 s6 => post (some (.int i7)) s6))))))) : Do g M_X11_work 0 0 [.ref r0, .int p0] σ post := by
  refine Do.of (by decide +kernel) (Nat.le_of_ble_eq_true rfl) ?_
  show Fr g M_X11_work (0, 0, 0, 0) [(0, .ref r0), (1, .int p0)] [] 0 σ post
  refine fr_iload_n (pc := 0) 1 rfl rfl dX11_work_0 ?_
  refine fr_callS_I (pc := 1) (As := [.int p0]) (st := []) wd_X11_isSet w_803 ok_X11_isSet (by decide) rfl (Nat.le_of_ble_eq_true rfl) dX11_work_1 ⟨Nat.le_refl 0, Nat.le_refl 0⟩ hW (fun i2 s1 hW => ?_)
  refine fr_if_eq (pc := 4) (tgt := 18) (by decide) dX11_work_4 hW (fun hW => ?_) (fun hW => ?_)
  · refine fr_bipush (pc := 18) (-102) (by decide) dX11_work_18 ?_
    exact fr_iret (pc := 20) dX11_work_20 rfl ⟨Nat.le_refl 0, Nat.le_refl 0⟩ hW
  · refine fr_aload_n (pc := 7) 0 rfl rfl dX11_work_7 ?_
    refine fr_getR (pc := 8) (T := TX11) (k := 3) kc_X11 (by decide) w_583 dX11_work_8 hW (fun r5 hW => ?_)
    refine fr_iload_n (pc := 11) 1 rfl rfl dX11_work_11 ?_
    obtain ⟨hrc, hW⟩ := hW
    refine fr_callV_I (pc := 12) (As := [.int p0]) (st := []) wd_X10_workOf w_813 ok_X10_workOf (by decide) rfl (Nat.le_of_ble_eq_true rfl) dX11_work_12 ⟨Nat.le_refl 0, Nat.le_refl 0⟩ kc_X10 hrc hW (fun i7 s6 hW => ?_)
    refine fr_goto (pc := 15) (tgt := 20) (by decide) dX11_work_15 ?_
    exact fr_iret (pc := 20) dX11_work_20 rfl ⟨Nat.le_refl 0, Nat.le_refl 0⟩ hW
set_option maxHeartbeats 4000000 in
set_option maxRecDepth 100000 in
theorem q_X11_isSpace {g : GG} {σ : Hs} {post : Option Value → Hs → Prop} (p0 : Int32) (hW : (p0 < 0 → post (some (.int 0)) σ) ∧ (¬ p0 < 0 → (9999 < p0 → post (some (.int 0)) σ) ∧ (¬ 9999 < p0 → post (some (.int 1)) σ))) : Do g M_X11_isSpace 0 0 [.int p0] σ post := by
  refine Do.of (by decide +kernel) (Nat.le_of_ble_eq_true rfl) ?_
  show Fr g M_X11_isSpace (0, 0, 0, 0) [(0, .int p0)] [] 0 σ post
  refine fr_iload_n (pc := 0) 0 rfl rfl dX11_isSpace_0 ?_
  refine fr_if_lt (pc := 1) (tgt := 15) (by decide) dX11_isSpace_1 hW (fun hW => ?_) (fun hW => ?_)
  · refine fr_iconst (pc := 15) 0 (by decide) dX11_isSpace_15 ?_
    exact fr_zret (pc := 16) dX11_isSpace_16 rfl ⟨Nat.le_refl 0, Nat.le_refl 0⟩ ⟨rfl, hW⟩
  · refine fr_iload_n (pc := 4) 0 rfl rfl dX11_isSpace_4 ?_
    refine fr_sipush (pc := 5) 9999 (by decide) dX11_isSpace_5 ?_
    refine fr_icmp_gt (pc := 8) (tgt := 15) (by decide) dX11_isSpace_8 hW (fun hW => ?_) (fun hW => ?_)
    · refine fr_iconst (pc := 15) 0 (by decide) dX11_isSpace_15 ?_
      exact fr_zret (pc := 16) dX11_isSpace_16 rfl ⟨Nat.le_refl 0, Nat.le_refl 0⟩ ⟨rfl, hW⟩
    · refine fr_iconst (pc := 11) 1 (by decide) dX11_isSpace_11 ?_
      refine fr_goto (pc := 12) (tgt := 16) (by decide) dX11_isSpace_12 ?_
      exact fr_zret (pc := 16) dX11_isSpace_16 rfl ⟨Nat.le_refl 0, Nat.le_refl 0⟩ ⟨rfl, hW⟩
def J_X9_fewestOfAll_2 (g : GG) (post : Option Value → Hs → Prop) (σ : Hs) (a0 : Nat) (a1 : Nat) (v2 : Int32) : Prop := Fr g M_X9_fewestOfAll (0, 0, 0, 0) [(0, .ref a0), (1, .ref a1), (2, .int v2)] [] 2 σ post
def J_X9_fewestOfAll_30 (g : GG) (post : Option Value → Hs → Prop) (σ : Hs) (a0 : Nat) (a1 : Nat) (v2 : Int32) : Prop := Fr g M_X9_fewestOfAll (0, 0, 0, 0) [(0, .ref a0), (1, .ref a1), (2, .int v2)] [] 30 σ post
def J_X9_fewestOfAll_77 (g : GG) (post : Option Value → Hs → Prop) (σ : Hs) (a1 : Nat) (v2 : Int32) : Prop := Fr g M_X9_fewestOfAll (0, 0, 0, 0) [(1, .ref a1), (2, .int v2)] [] 77 σ post
def J_X9_fewestOfAll_85 (g : GG) (post : Option Value → Hs → Prop) (σ : Hs) (a1 : Nat) (v2 : Int32) (v3 : Int32) : Prop := Fr g M_X9_fewestOfAll (0, 0, 0, 0) [(1, .ref a1), (2, .int v2), (3, .int v3)] [] 85 σ post
set_option maxHeartbeats 4000000 in
set_option maxRecDepth 100000 in
theorem q_X9_fewestOfAll {g : GG} {σ : Hs} {post : Option Value → Hs → Prop} (r0 : Nat) (p0 : Nat) (hW : J_X9_fewestOfAll_2 g post σ r0 p0 0 ) : Do g M_X9_fewestOfAll 0 0 [.ref r0, .ref p0] σ post := by
  refine Do.of (by decide +kernel) (Nat.le_of_ble_eq_true rfl) ?_
  show Fr g M_X9_fewestOfAll (0, 0, 0, 0) [(0, .ref r0), (1, .ref p0)] [] 0 σ post
  refine fr_iconst (pc := 0) 0 (by decide) dX9_fewestOfAll_0 ?_
  refine fr_istore_n (pc := 1) (lv' := [(2, .int 0), (0, .ref r0), (1, .ref p0)]) rfl (by decide) rfl dX9_fewestOfAll_1 ?_
  exact fr_sub [1, 2, 0] rfl hW
set_option maxHeartbeats 4000000 in
set_option maxRecDepth 100000 in
theorem q_X9_fewestOfAll_2 {g : GG} {σ : Hs} {post : Option Value → Hs → Prop} (a0 : Nat) (a1 : Nat) (v2 : Int32) (hW : (256 ≤ v2 → J_X9_fewestOfAll_30 g post σ a0 a1 1 ) ∧ (¬ 256 ≤ v2 → FR σ a0 9 4 (fun r1 => Rc σ r1 1 ∧ Do g M_X1_at 0 0 [.ref r1, .int 0] σ (kI (fun i3 s2 => Rc s2 a1 1 ∧ Do g M_X1_put 0 0 [.ref a1, .int v2, .int i3] s2 (kV (fun s6 => J_X9_fewestOfAll_2 g post s6 a0 a1 ((v2 + 1)) ))))))) : J_X9_fewestOfAll_2 g post σ a0 a1 v2 := by
  show Fr g M_X9_fewestOfAll (0, 0, 0, 0) [(0, .ref a0), (1, .ref a1), (2, .int v2)] [] 2 σ post
  refine fr_iload_n (pc := 2) 2 rfl rfl dX9_fewestOfAll_2 ?_
  refine fr_sipush (pc := 3) 256 (by decide) dX9_fewestOfAll_3 ?_
  refine fr_icmp_ge (pc := 6) (tgt := 28) (by decide) dX9_fewestOfAll_6 hW (fun hW => ?_) (fun hW => ?_)
  · refine fr_iconst (pc := 28) 1 (by decide) dX9_fewestOfAll_28 ?_
    refine fr_istore_n (pc := 29) (lv' := [(2, .int 1), (0, .ref a0), (1, .ref a1)]) rfl (by decide) rfl dX9_fewestOfAll_29 ?_
    exact fr_sub [1, 2, 0] rfl hW
  · refine fr_aload_n (pc := 9) 1 rfl rfl dX9_fewestOfAll_9 ?_
    refine fr_iload_n (pc := 10) 2 rfl rfl dX9_fewestOfAll_10 ?_
    refine fr_aload_n (pc := 11) 0 rfl rfl dX9_fewestOfAll_11 ?_
    refine fr_getR (pc := 12) (T := TX9) (k := 4) kc_X9 (by decide) w_534 dX9_fewestOfAll_12 hW (fun r1 hW => ?_)
    refine fr_iconst (pc := 15) 0 (by decide) dX9_fewestOfAll_15 ?_
    obtain ⟨hrc, hW⟩ := hW
    refine fr_callV_I (pc := 16) (As := [.int 0]) (st := [.int v2, .ref a1]) wd_X1_at w_789 ok_X1_at (by decide) rfl (Nat.le_of_ble_eq_true rfl) dX9_fewestOfAll_16 ⟨Nat.le_refl 0, Nat.le_refl 0⟩ kc_X1 hrc hW (fun i3 s2 hW => ?_)
    obtain ⟨hrc, hW⟩ := hW
    refine fr_callV_V (pc := 19) (As := [.int v2, .int i3]) (st := []) wd_X1_put w_773 ok_X1_put (by decide) rfl (Nat.le_of_ble_eq_true rfl) dX9_fewestOfAll_19 ⟨Nat.le_refl 0, Nat.le_refl 0⟩ kc_X1 hrc hW (fun s6 hW => ?_)
    refine fr_iinc (pc := 22) (lv' := [(2, .int (v2 + 1)), (0, .ref a0), (1, .ref a1)]) (v2 + 1) 2 rfl (congrArg (fun z => v2 + z) (by decide)) (by decide) rfl dX9_fewestOfAll_22 ?_
    refine fr_goto (pc := 25) (tgt := 2) (by decide) dX9_fewestOfAll_25 ?_
    exact fr_sub [1, 2, 0] rfl hW
set_option maxHeartbeats 4000000 in
set_option maxRecDepth 100000 in
theorem q_X9_fewestOfAll_30 {g : GG} {σ : Hs} {post : Option Value → Hs → Prop} (a0 : Nat) (a1 : Nat) (v2 : Int32) (hW : FI σ a0 9 7 (fun i7 => (i7 ≤ v2 → J_X9_fewestOfAll_77 g post σ a1 0 ) ∧ (¬ i7 ≤ v2 → FR σ a0 9 3 (fun r8 => Rc σ r8 1 ∧ Do g M_X1_at 0 0 [.ref r8, .int v2] σ (kI (fun i10 s9 => FR s9 a0 9 4 (fun r13 => Rc s9 r13 1 ∧ Do g M_X1_at 0 0 [.ref r13, .int 0] s9 (kI (fun i15 s14 => FR s14 a0 9 4 (fun r18 => Rc s14 r18 1 ∧ Do g M_X1_at 0 0 [.ref r18, .int v2] s14 (kI (fun i20 s19 => Rc s19 a1 1 ∧ Do g M_X1_put 0 0 [.ref a1, .int i10, .int (if i20 < i15 then i20 else i15)] s19 (kV (fun s23 => J_X9_fewestOfAll_30 g post s23 a0 a1 ((v2 + 1)) )))))))))))))) : J_X9_fewestOfAll_30 g post σ a0 a1 v2 := by
  show Fr g M_X9_fewestOfAll (0, 0, 0, 0) [(0, .ref a0), (1, .ref a1), (2, .int v2)] [] 30 σ post
  refine fr_iload_n (pc := 30) 2 rfl rfl dX9_fewestOfAll_30 ?_
  refine fr_aload_n (pc := 31) 0 rfl rfl dX9_fewestOfAll_31 ?_
  refine fr_getI (pc := 32) (T := TX9) (k := 7) kc_X9 (by decide) w_772 dX9_fewestOfAll_32 hW (fun i7 hW => ?_)
  refine fr_icmp_ge (pc := 35) (tgt := 75) (by decide) dX9_fewestOfAll_35 hW (fun hW => ?_) (fun hW => ?_)
  · refine fr_iconst (pc := 75) 0 (by decide) dX9_fewestOfAll_75 ?_
    refine fr_istore_n (pc := 76) (lv' := [(2, .int 0), (0, .ref a0), (1, .ref a1)]) rfl (by decide) rfl dX9_fewestOfAll_76 ?_
    exact fr_sub [2, 0] rfl hW
  · refine fr_aload_n (pc := 38) 1 rfl rfl dX9_fewestOfAll_38 ?_
    refine fr_aload_n (pc := 39) 0 rfl rfl dX9_fewestOfAll_39 ?_
    refine fr_getR (pc := 40) (T := TX9) (k := 3) kc_X9 (by decide) w_533 dX9_fewestOfAll_40 hW (fun r8 hW => ?_)
    refine fr_iload_n (pc := 43) 2 rfl rfl dX9_fewestOfAll_43 ?_
    obtain ⟨hrc, hW⟩ := hW
    refine fr_callV_I (pc := 44) (As := [.int v2]) (st := [.ref a1]) wd_X1_at w_789 ok_X1_at (by decide) rfl (Nat.le_of_ble_eq_true rfl) dX9_fewestOfAll_44 ⟨Nat.le_refl 0, Nat.le_refl 0⟩ kc_X1 hrc hW (fun i10 s9 hW => ?_)
    refine fr_aload_n (pc := 47) 0 rfl rfl dX9_fewestOfAll_47 ?_
    refine fr_getR (pc := 48) (T := TX9) (k := 4) kc_X9 (by decide) w_534 dX9_fewestOfAll_48 hW (fun r13 hW => ?_)
    refine fr_iconst (pc := 51) 0 (by decide) dX9_fewestOfAll_51 ?_
    obtain ⟨hrc, hW⟩ := hW
    refine fr_callV_I (pc := 52) (As := [.int 0]) (st := [.int i10, .ref a1]) wd_X1_at w_789 ok_X1_at (by decide) rfl (Nat.le_of_ble_eq_true rfl) dX9_fewestOfAll_52 ⟨Nat.le_refl 0, Nat.le_refl 0⟩ kc_X1 hrc hW (fun i15 s14 hW => ?_)
    refine fr_aload_n (pc := 55) 0 rfl rfl dX9_fewestOfAll_55 ?_
    refine fr_getR (pc := 56) (T := TX9) (k := 4) kc_X9 (by decide) w_534 dX9_fewestOfAll_56 hW (fun r18 hW => ?_)
    refine fr_iload_n (pc := 59) 2 rfl rfl dX9_fewestOfAll_59 ?_
    obtain ⟨hrc, hW⟩ := hW
    refine fr_callV_I (pc := 60) (As := [.int v2]) (st := [.int i15, .int i10, .ref a1]) wd_X1_at w_789 ok_X1_at (by decide) rfl (Nat.le_of_ble_eq_true rfl) dX9_fewestOfAll_60 ⟨Nat.le_refl 0, Nat.le_refl 0⟩ kc_X1 hrc hW (fun i20 s19 hW => ?_)
    refine fr_mmin (pc := 63) ⟨w_814, w_643, w_644, w_645⟩ (by decide) (Nat.le_of_ble_eq_true rfl) dX9_fewestOfAll_63 ⟨Nat.le_refl 0, Nat.le_refl 0⟩ ?_
    obtain ⟨hrc, hW⟩ := hW
    refine fr_callV_V (pc := 66) (As := [.int i10, .int (if i20 < i15 then i20 else i15)]) (st := []) wd_X1_put w_773 ok_X1_put (by decide) rfl (Nat.le_of_ble_eq_true rfl) dX9_fewestOfAll_66 ⟨Nat.le_refl 0, Nat.le_refl 0⟩ kc_X1 hrc hW (fun s23 hW => ?_)
    refine fr_iinc (pc := 69) (lv' := [(2, .int (v2 + 1)), (0, .ref a0), (1, .ref a1)]) (v2 + 1) 2 rfl (congrArg (fun z => v2 + z) (by decide)) (by decide) rfl dX9_fewestOfAll_69 ?_
    refine fr_goto (pc := 72) (tgt := 30) (by decide) dX9_fewestOfAll_72 ?_
    exact fr_sub [1, 2, 0] rfl hW
set_option maxHeartbeats 4000000 in
set_option maxRecDepth 100000 in
theorem q_X9_fewestOfAll_77 {g : GG} {σ : Hs} {post : Option Value → Hs → Prop} (a1 : Nat) (v2 : Int32) (hW : (8 ≤ v2 → post none σ) ∧ (¬ 8 ≤ v2 → J_X9_fewestOfAll_85 g post σ a1 v2 0 )) : J_X9_fewestOfAll_77 g post σ a1 v2 := by
  show Fr g M_X9_fewestOfAll (0, 0, 0, 0) [(1, .ref a1), (2, .int v2)] [] 77 σ post
  refine fr_iload_n (pc := 77) 1 rfl rfl dX9_fewestOfAll_77 ?_
  refine fr_bipush (pc := 78) 8 (by decide) dX9_fewestOfAll_78 ?_
  refine fr_icmp_ge (pc := 80) (tgt := 126) (by decide) dX9_fewestOfAll_80 hW (fun hW => ?_) (fun hW => ?_)
  · exact fr_ret (pc := 126) dX9_fewestOfAll_126 rfl ⟨Nat.le_refl 0, Nat.le_refl 0⟩ hW
  · refine fr_iconst (pc := 83) 0 (by decide) dX9_fewestOfAll_83 ?_
    refine fr_istore_n (pc := 84) (lv' := [(3, .int 0), (1, .ref a1), (2, .int v2)]) rfl (by decide) rfl dX9_fewestOfAll_84 ?_
    exact fr_sub [1, 2, 0] rfl hW
set_option maxHeartbeats 4000000 in
set_option maxRecDepth 100000 in
theorem q_X9_fewestOfAll_85 {g : GG} {σ : Hs} {post : Option Value → Hs → Prop} (a1 : Nat) (v2 : Int32) (v3 : Int32) (hW : (256 ≤ v3 → J_X9_fewestOfAll_77 g post σ a1 ((v2 + 1)) ) ∧ (¬ 256 ≤ v3 → Rc σ a1 1 ∧ Do g M_X1_at 0 0 [.ref a1, .int v3] σ (kI (fun i25 s24 => Do g M_X11_without 0 0 [.int v3, .int v2] s24 (kI (fun i29 s28 => Rc s28 a1 1 ∧ Do g M_X1_at 0 0 [.ref a1, .int i29] s28 (kI (fun i33 s32 => Rc s32 a1 1 ∧ Do g M_X1_put 0 0 [.ref a1, .int v3, .int (if i33 < i25 then i33 else i25)] s32 (kV (fun s36 => J_X9_fewestOfAll_85 g post s36 a1 v2 ((v3 + 1)) )))))))))) : J_X9_fewestOfAll_85 g post σ a1 v2 v3 := by
  show Fr g M_X9_fewestOfAll (0, 0, 0, 0) [(1, .ref a1), (2, .int v2), (3, .int v3)] [] 85 σ post
  refine fr_iload_n (pc := 85) 2 rfl rfl dX9_fewestOfAll_85 ?_
  refine fr_sipush (pc := 86) 256 (by decide) dX9_fewestOfAll_86 ?_
  refine fr_icmp_ge (pc := 89) (tgt := 120) (by decide) dX9_fewestOfAll_89 hW (fun hW => ?_) (fun hW => ?_)
  · refine fr_iinc (pc := 120) (lv' := [(2, .int (v2 + 1)), (1, .ref a1), (3, .int v3)]) (v2 + 1) 1 rfl (congrArg (fun z => v2 + z) (by decide)) (by decide) rfl dX9_fewestOfAll_120 ?_
    refine fr_goto (pc := 123) (tgt := 77) (by decide) dX9_fewestOfAll_123 ?_
    exact fr_sub [1, 0] rfl hW
  · refine fr_aload_n (pc := 92) 0 rfl rfl dX9_fewestOfAll_92 ?_
    refine fr_iload_n (pc := 93) 2 rfl rfl dX9_fewestOfAll_93 ?_
    refine fr_aload_n (pc := 94) 0 rfl rfl dX9_fewestOfAll_94 ?_
    refine fr_iload_n (pc := 95) 2 rfl rfl dX9_fewestOfAll_95 ?_
    obtain ⟨hrc, hW⟩ := hW
    refine fr_callV_I (pc := 96) (As := [.int v3]) (st := [.int v3, .ref a1]) wd_X1_at w_789 ok_X1_at (by decide) rfl (Nat.le_of_ble_eq_true rfl) dX9_fewestOfAll_96 ⟨Nat.le_refl 0, Nat.le_refl 0⟩ kc_X1 hrc hW (fun i25 s24 hW => ?_)
    refine fr_aload_n (pc := 99) 0 rfl rfl dX9_fewestOfAll_99 ?_
    refine fr_iload_n (pc := 100) 2 rfl rfl dX9_fewestOfAll_100 ?_
    refine fr_iload_n (pc := 101) 1 rfl rfl dX9_fewestOfAll_101 ?_
    refine fr_callSN_I (pc := 102) (As := [.int v3, .int v2]) (st := [.ref a1, .int i25, .int v3, .ref a1]) wd_X11_without ⟨RX11, by decide +kernel⟩ ok_X11_without (by decide) rfl (Nat.le_of_ble_eq_true rfl) dX9_fewestOfAll_102 ⟨Nat.le_refl 0, Nat.le_refl 0⟩ hW (fun i29 s28 hW => ?_)
    obtain ⟨hrc, hW⟩ := hW
    refine fr_callV_I (pc := 105) (As := [.int i29]) (st := [.int i25, .int v3, .ref a1]) wd_X1_at w_789 ok_X1_at (by decide) rfl (Nat.le_of_ble_eq_true rfl) dX9_fewestOfAll_105 ⟨Nat.le_refl 0, Nat.le_refl 0⟩ kc_X1 hrc hW (fun i33 s32 hW => ?_)
    refine fr_mmin (pc := 108) ⟨w_814, w_643, w_644, w_645⟩ (by decide) (Nat.le_of_ble_eq_true rfl) dX9_fewestOfAll_108 ⟨Nat.le_refl 0, Nat.le_refl 0⟩ ?_
    obtain ⟨hrc, hW⟩ := hW
    refine fr_callV_V (pc := 111) (As := [.int v3, .int (if i33 < i25 then i33 else i25)]) (st := []) wd_X1_put w_773 ok_X1_put (by decide) rfl (Nat.le_of_ble_eq_true rfl) dX9_fewestOfAll_111 ⟨Nat.le_refl 0, Nat.le_refl 0⟩ kc_X1 hrc hW (fun s36 hW => ?_)
    refine fr_iinc (pc := 114) (lv' := [(3, .int (v3 + 1)), (1, .ref a1), (2, .int v2)]) (v3 + 1) 2 rfl (congrArg (fun z => v3 + z) (by decide)) (by decide) rfl dX9_fewestOfAll_114 ?_
    refine fr_goto (pc := 117) (tgt := 85) (by decide) dX9_fewestOfAll_117 ?_
    exact fr_sub [1, 2, 0] rfl hW
