set_option maxHeartbeats 4000000 in
set_option maxRecDepth 100000 in
theorem q_X12_count {g : GG} {σ : Hs} {post : Option Value → Hs → Prop} (r0 : Nat) (p0 : Int32) (hW : Rc σ r0 12 ∧ Do g M_X12_countOf 0 0 [.ref r0, .int p0] σ (kI (fun i2 s1 => post (some (.int i2)) s1))) : Do g M_X12_count 0 0 [.ref r0, .int p0] σ post := by
  refine Do.of (by decide +kernel) (Nat.le_of_ble_eq_true rfl) ?_
  show Fr g M_X12_count (0, 0, 0, 0) [(0, .ref r0), (1, .int p0)] [] 0 σ post
  refine fr_aload_n (pc := 0) 0 rfl rfl dX12_count_0 ?_
  refine fr_iload_n (pc := 1) 1 rfl rfl dX12_count_1 ?_
  obtain ⟨hrc, hW⟩ := hW
  refine fr_callV_I (pc := 2) (As := [.int p0]) (st := []) wd_X12_countOf w_1390 ok_X12_countOf (by decide) rfl (Nat.le_of_ble_eq_true rfl) dX12_count_2 ⟨Nat.le_refl 0, Nat.le_refl 0⟩ kc_X12 hrc hW (fun i2 s1 hW => ?_)
  exact fr_iret (pc := 5) dX12_count_5 rfl ⟨Nat.le_refl 0, Nat.le_refl 0⟩ hW
set_option maxHeartbeats 4000000 in
set_option maxRecDepth 100000 in
theorem q_X11_mixed {g : GG} {σ : Hs} {post : Option Value → Hs → Prop} (p0 : Int64) (p1 : Int64) (hW : post (some (.long (((31 : Int64) * p0) + p1))) σ) : Do g M_X11_mixed 0 0 [.long p0, .long p1] σ post := by
  refine Do.of (by decide +kernel) (Nat.le_of_ble_eq_true rfl) ?_
  show Fr g M_X11_mixed (0, 0, 0, 0) [(0, .long p0), (2, .long p1)] [] 0 σ post
  refine fr_ldc2 (pc := 0) w_1391 dX11_mixed_0 ?_
  refine fr_lload_n (pc := 3) 0 rfl rfl dX11_mixed_3 ?_
  refine fr_lmul (pc := 4) dX11_mixed_4 ?_
  refine fr_lload_n (pc := 5) 1 rfl rfl dX11_mixed_5 ?_
  refine fr_ladd (pc := 6) dX11_mixed_6 ?_
  exact fr_lret (pc := 7) dX11_mixed_7 rfl ⟨Nat.le_refl 0, Nat.le_refl 0⟩ hW
def J_X11_mixTable_5 (g : GG) (post : Option Value → Hs → Prop) (σ : Hs) (a0 : Nat) (w3 : Int64) (v5 : Int32) : Prop := Fr g M_X11_mixTable (0, 0, 0, 0) [(0, .ref a0), (3, .long w3), (5, .int v5)] [] 5 σ post
def J_X11_mixTable_15 (g : GG) (post : Option Value → Hs → Prop) (σ : Hs) (a0 : Nat) (w3 : Int64) (v5 : Int32) (v6 : Int32) : Prop := Fr g M_X11_mixTable (0, 0, 0, 0) [(0, .ref a0), (3, .long w3), (5, .int v5), (6, .int v6)] [] 15 σ post
set_option maxHeartbeats 4000000 in
set_option maxRecDepth 100000 in
theorem q_X11_mixTable {g : GG} {σ : Hs} {post : Option Value → Hs → Prop} (r0 : Nat) (p0 : Int64) (hW : J_X11_mixTable_5 g post σ r0 p0 0 ) : Do g M_X11_mixTable 0 0 [.ref r0, .long p0] σ post := by
  refine Do.of (by decide +kernel) (Nat.le_of_ble_eq_true rfl) ?_
  show Fr g M_X11_mixTable (0, 0, 0, 0) [(0, .ref r0), (1, .long p0)] [] 0 σ post
  refine fr_lload_n (pc := 0) 1 rfl rfl dX11_mixTable_0 ?_
  refine fr_lstore_n (pc := 1) (lv' := [(3, .long p0), (0, .ref r0), (1, .long p0)]) rfl (by decide) rfl dX11_mixTable_1 ?_
  refine fr_iconst (pc := 2) 0 (by decide) dX11_mixTable_2 ?_
  refine fr_istore (pc := 3) (lv' := [(5, .int 0), (3, .long p0), (0, .ref r0), (1, .long p0)]) (by decide) rfl dX11_mixTable_3 ?_
  exact fr_sub [2, 1, 0] rfl hW
set_option maxHeartbeats 4000000 in
set_option maxRecDepth 100000 in
theorem q_X11_mixTable_5 {g : GG} {σ : Hs} {post : Option Value → Hs → Prop} (a0 : Nat) (w3 : Int64) (v5 : Int32) (hW : (64 ≤ v5 → post (some (.long w3)) σ) ∧ (¬ 64 ≤ v5 → J_X11_mixTable_15 g post σ a0 w3 v5 0 )) : J_X11_mixTable_5 g post σ a0 w3 v5 := by
  show Fr g M_X11_mixTable (0, 0, 0, 0) [(0, .ref a0), (3, .long w3), (5, .int v5)] [] 5 σ post
  refine fr_iload (pc := 5) 2 rfl dX11_mixTable_5 ?_
  refine fr_bipush (pc := 7) 64 (by decide) dX11_mixTable_7 ?_
  refine fr_icmp_ge (pc := 9) (tgt := 47) (by decide) dX11_mixTable_9 hW (fun hW => ?_) (fun hW => ?_)
  · refine fr_lload_n (pc := 47) 1 rfl rfl dX11_mixTable_47 ?_
    exact fr_lret (pc := 48) dX11_mixTable_48 rfl ⟨Nat.le_refl 0, Nat.le_refl 0⟩ hW
  · refine fr_iconst (pc := 12) 0 (by decide) dX11_mixTable_12 ?_
    refine fr_istore (pc := 13) (lv' := [(6, .int 0), (0, .ref a0), (3, .long w3), (5, .int v5)]) (by decide) rfl dX11_mixTable_13 ?_
    exact fr_sub [1, 2, 3, 0] rfl hW
set_option maxHeartbeats 4000000 in
set_option maxRecDepth 100000 in
theorem q_X11_mixTable_15 {g : GG} {σ : Hs} {post : Option Value → Hs → Prop} (a0 : Nat) (w3 : Int64) (v5 : Int32) (v6 : Int32) (hW : (4 ≤ v6 → J_X11_mixTable_5 g post σ a0 w3 ((v5 + 1)) ) ∧ (¬ 4 ≤ v6 → Rc σ a0 11 ∧ Do g M_X11_get 0 0 [.ref a0, .int v5, .int v6] σ (kI (fun i2 s1 => Do g M_X11_mixed 0 0 [.long w3, .long i2.toInt64] s1 (kL (fun l7 s5 => J_X11_mixTable_15 g post s5 a0 l7 v5 ((v6 + 1)) )))))) : J_X11_mixTable_15 g post σ a0 w3 v5 v6 := by
  show Fr g M_X11_mixTable (0, 0, 0, 0) [(0, .ref a0), (3, .long w3), (5, .int v5), (6, .int v6)] [] 15 σ post
  refine fr_iload (pc := 15) 3 rfl dX11_mixTable_15 ?_
  refine fr_iconst (pc := 17) 4 (by decide) dX11_mixTable_17 ?_
  refine fr_icmp_ge (pc := 18) (tgt := 41) (by decide) dX11_mixTable_18 hW (fun hW => ?_) (fun hW => ?_)
  · refine fr_iinc (pc := 41) (lv' := [(5, .int (v5 + 1)), (0, .ref a0), (3, .long w3), (6, .int v6)]) (v5 + 1) 2 rfl (congrArg (fun z => v5 + z) (by decide)) (by decide) rfl dX11_mixTable_41 ?_
    refine fr_goto (pc := 44) (tgt := 5) (by decide) dX11_mixTable_44 ?_
    exact fr_sub [1, 2, 0] rfl hW
  · refine fr_lload_n (pc := 21) 1 rfl rfl dX11_mixTable_21 ?_
    refine fr_aload_n (pc := 22) 0 rfl rfl dX11_mixTable_22 ?_
    refine fr_iload (pc := 23) 2 rfl dX11_mixTable_23 ?_
    refine fr_iload (pc := 25) 3 rfl dX11_mixTable_25 ?_
    obtain ⟨hrc, hW⟩ := hW
    refine fr_callV_I (pc := 27) (As := [.int v5, .int v6]) (st := [.long w3]) wd_X11_get w_1392 ok_X11_get (by decide) rfl (Nat.le_of_ble_eq_true rfl) dX11_mixTable_27 ⟨Nat.le_refl 0, Nat.le_refl 0⟩ kc_X11 hrc hW (fun i2 s1 hW => ?_)
    refine fr_i2l (pc := 30) dX11_mixTable_30 ?_
    refine fr_callS_L (pc := 31) (As := [.long w3, .long i2.toInt64]) (st := []) wd_X11_mixed w_1393 ok_X11_mixed (by decide) rfl (Nat.le_of_ble_eq_true rfl) dX11_mixTable_31 ⟨Nat.le_refl 0, Nat.le_refl 0⟩ hW (fun l7 s5 hW => ?_)
    refine fr_lstore_n (pc := 34) (lv' := [(3, .long l7), (0, .ref a0), (5, .int v5), (6, .int v6)]) rfl (by decide) rfl dX11_mixTable_34 ?_
    refine fr_iinc (pc := 35) (lv' := [(6, .int (v6 + 1)), (3, .long l7), (0, .ref a0), (5, .int v5)]) (v6 + 1) 3 rfl (congrArg (fun z => v6 + z) (by decide)) (by decide) rfl dX11_mixTable_35 ?_
    refine fr_goto (pc := 38) (tgt := 15) (by decide) dX11_mixTable_38 ?_
    exact fr_sub [2, 1, 3, 0] rfl hW
set_option maxHeartbeats 4000000 in
set_option maxRecDepth 100000 in
theorem q_X2_entries {g : GG} {σ : Hs} {post : Option Value → Hs → Prop} (r0 : Nat) (hW : FI σ r0 2 8 (fun i1 => post (some (.int i1)) σ)) : Do g M_X2_entries 0 0 [.ref r0] σ post := by
  refine Do.of (by decide +kernel) (Nat.le_of_ble_eq_true rfl) ?_
  show Fr g M_X2_entries (0, 0, 0, 0) [(0, .ref r0)] [] 0 σ post
  refine fr_aload_n (pc := 0) 0 rfl rfl dX2_entries_0 ?_
  refine fr_getI (pc := 1) (T := TX2) (k := 8) kc_X2 (by decide) w_1041 dX2_entries_1 hW (fun i1 hW => ?_)
  exact fr_iret (pc := 4) dX2_entries_4 rfl ⟨Nat.le_refl 0, Nat.le_refl 0⟩ hW
def J_X11_mixOrder_23 (g : GG) (post : Option Value → Hs → Prop) (σ : Hs) (a0 : Nat) (v3 : Int32) (a4 : Nat) (w5 : Int64) (v7 : Int32) : Prop := Fr g M_X11_mixOrder (0, 0, 0, 0) [(0, .ref a0), (3, .int v3), (4, .ref a4), (5, .long w5), (7, .int v7)] [] 23 σ post
def J_X11_mixOrder_53 (g : GG) (post : Option Value → Hs → Prop) (σ : Hs) (a4 : Nat) (w5 : Int64) (v7 : Int32) : Prop := Fr g M_X11_mixOrder (0, 0, 0, 0) [(4, .ref a4), (5, .long w5), (7, .int v7)] [] 53 σ post
set_option maxHeartbeats 4000000 in
set_option maxRecDepth 100000 in
theorem q_X11_mixOrder {g : GG} {σ : Hs} {post : Option Value → Hs → Prop} (r0 : Nat) (p0 : Int64) (p1 : Int32) (hW : FR σ r0 11 1 (fun r1 => Rc σ r1 3 ∧ Do g M_X3_kept 0 0 [.ref r1, .int p1] σ (kA (fun s2 => post (some (.long p0)) s2) (fun r5 s2 => J_X11_mixOrder_23 g post s2 r0 p1 r5 p0 0 )))) : Do g M_X11_mixOrder 0 0 [.ref r0, .long p0, .int p1] σ post := by
  refine Do.of (by decide +kernel) (Nat.le_of_ble_eq_true rfl) ?_
  show Fr g M_X11_mixOrder (0, 0, 0, 0) [(0, .ref r0), (1, .long p0), (3, .int p1)] [] 0 σ post
  refine fr_aload_n (pc := 0) 0 rfl rfl dX11_mixOrder_0 ?_
  refine fr_getR (pc := 1) (T := TX11) (k := 1) kc_X11 (by decide) w_991 dX11_mixOrder_1 hW (fun r1 hW => ?_)
  refine fr_iload_n (pc := 4) 2 rfl rfl dX11_mixOrder_4 ?_
  obtain ⟨hrc, hW⟩ := hW
  refine fr_callV_A (pc := 5) (As := [.int p1]) (st := []) wd_X3_kept w_1132 ok_X3_kept (by decide) rfl (Nat.le_of_ble_eq_true rfl) dX11_mixOrder_5 ⟨Nat.le_refl 0, Nat.le_refl 0⟩ kc_X3 hrc hW (fun s2 hW => ?_) (fun r5 s2 hW => ?_)
  · refine fr_astoreN (pc := 8) (lv' := [(4, .null), (0, .ref r0), (1, .long p0), (3, .int p1)]) (by decide) rfl dX11_mixOrder_8 ?_
    refine fr_aloadN (pc := 10) 0 rfl dX11_mixOrder_10 ?_
    refine fr_ifnonnullN (pc := 12) dX11_mixOrder_12 ?_
    refine fr_lload_n (pc := 15) 2 rfl rfl dX11_mixOrder_15 ?_
    exact fr_lret (pc := 16) dX11_mixOrder_16 rfl ⟨Nat.le_refl 0, Nat.le_refl 0⟩ hW
  · refine fr_astore (pc := 8) (lv' := [(4, .ref r5), (0, .ref r0), (1, .long p0), (3, .int p1)]) (by decide) rfl dX11_mixOrder_8 ?_
    refine fr_aload (pc := 10) 0 rfl dX11_mixOrder_10 ?_
    refine fr_ifnonnull (pc := 12) (tgt := 17) (by decide) dX11_mixOrder_12 ?_
    refine fr_lload_n (pc := 17) 2 rfl rfl dX11_mixOrder_17 ?_
    refine fr_lstore (pc := 18) (lv' := [(5, .long p0), (4, .ref r5), (0, .ref r0), (1, .long p0), (3, .int p1)]) (by decide) rfl dX11_mixOrder_18 ?_
    refine fr_iconst (pc := 20) 0 (by decide) dX11_mixOrder_20 ?_
    refine fr_istore (pc := 21) (lv' := [(7, .int 0), (5, .long p0), (4, .ref r5), (0, .ref r0), (1, .long p0), (3, .int p1)]) (by decide) rfl dX11_mixOrder_21 ?_
    exact fr_sub [3, 5, 2, 1, 0] rfl hW
set_option maxHeartbeats 4000000 in
set_option maxRecDepth 100000 in
theorem q_X11_mixOrder_23 {g : GG} {σ : Hs} {post : Option Value → Hs → Prop} (a0 : Nat) (v3 : Int32) (a4 : Nat) (w5 : Int64) (v7 : Int32) (hW : (5 ≤ v7 → J_X11_mixOrder_53 g post σ a4 w5 0 ) ∧ (¬ 5 ≤ v7 → Rc σ a0 11 ∧ Do g M_X11_about 0 0 [.ref a0, .int v3, .int v7] σ (kI (fun i7 s6 => Do g M_X11_mixed 0 0 [.long w5, .long i7.toInt64] s6 (kL (fun l12 s10 => J_X11_mixOrder_23 g post s10 a0 v3 a4 l12 ((v7 + 1)) )))))) : J_X11_mixOrder_23 g post σ a0 v3 a4 w5 v7 := by
  show Fr g M_X11_mixOrder (0, 0, 0, 0) [(0, .ref a0), (3, .int v3), (4, .ref a4), (5, .long w5), (7, .int v7)] [] 23 σ post
  refine fr_iload (pc := 23) 4 rfl dX11_mixOrder_23 ?_
  refine fr_iconst (pc := 25) 5 (by decide) dX11_mixOrder_25 ?_
  refine fr_icmp_ge (pc := 26) (tgt := 50) (by decide) dX11_mixOrder_26 hW (fun hW => ?_) (fun hW => ?_)
  · refine fr_iconst (pc := 50) 0 (by decide) dX11_mixOrder_50 ?_
    refine fr_istore (pc := 51) (lv' := [(7, .int 0), (0, .ref a0), (3, .int v3), (4, .ref a4), (5, .long w5)]) (by decide) rfl dX11_mixOrder_51 ?_
    exact fr_sub [3, 4, 0] rfl hW
  · refine fr_lload (pc := 29) 3 rfl dX11_mixOrder_29 ?_
    refine fr_aload_n (pc := 31) 0 rfl rfl dX11_mixOrder_31 ?_
    refine fr_iload_n (pc := 32) 1 rfl rfl dX11_mixOrder_32 ?_
    refine fr_iload (pc := 33) 4 rfl dX11_mixOrder_33 ?_
    obtain ⟨hrc, hW⟩ := hW
    refine fr_callV_I (pc := 35) (As := [.int v3, .int v7]) (st := [.long w5]) wd_X11_about w_1394 ok_X11_about (by decide) rfl (Nat.le_of_ble_eq_true rfl) dX11_mixOrder_35 ⟨Nat.le_refl 0, Nat.le_refl 0⟩ kc_X11 hrc hW (fun i7 s6 hW => ?_)
    refine fr_i2l (pc := 38) dX11_mixOrder_38 ?_
    refine fr_callS_L (pc := 39) (As := [.long w5, .long i7.toInt64]) (st := []) wd_X11_mixed w_1393 ok_X11_mixed (by decide) rfl (Nat.le_of_ble_eq_true rfl) dX11_mixOrder_39 ⟨Nat.le_refl 0, Nat.le_refl 0⟩ hW (fun l12 s10 hW => ?_)
    refine fr_lstore (pc := 42) (lv' := [(5, .long l12), (0, .ref a0), (3, .int v3), (4, .ref a4), (7, .int v7)]) (by decide) rfl dX11_mixOrder_42 ?_
    refine fr_iinc (pc := 44) (lv' := [(7, .int (v7 + 1)), (5, .long l12), (0, .ref a0), (3, .int v3), (4, .ref a4)]) (v7 + 1) 4 rfl (congrArg (fun z => v7 + z) (by decide)) (by decide) rfl dX11_mixOrder_44 ?_
    refine fr_goto (pc := 47) (tgt := 23) (by decide) dX11_mixOrder_47 ?_
    exact fr_sub [2, 3, 4, 1, 0] rfl hW
set_option maxHeartbeats 4000000 in
set_option maxRecDepth 100000 in
theorem q_X11_mixOrder_53 {g : GG} {σ : Hs} {post : Option Value → Hs → Prop} (a4 : Nat) (w5 : Int64) (v7 : Int32) (hW : Rc σ a4 2 ∧ Do g M_X2_entries 0 0 [.ref a4] σ (kI (fun i15 s14 => (i15 ≤ v7 → post (some (.long w5)) s14) ∧ (¬ i15 ≤ v7 → Rc s14 a4 2 ∧ Do g M_X2_slotAt 0 0 [.ref a4, .int v7] s14 (kI (fun i19 s18 => Do g M_X11_mixed 0 0 [.long w5, .long i19.toInt64] s18 (kL (fun l24 s22 => J_X11_mixOrder_53 g post s22 a4 l24 ((v7 + 1)) )))))))) : J_X11_mixOrder_53 g post σ a4 w5 v7 := by
  show Fr g M_X11_mixOrder (0, 0, 0, 0) [(4, .ref a4), (5, .long w5), (7, .int v7)] [] 53 σ post
  refine fr_iload (pc := 53) 2 rfl dX11_mixOrder_53 ?_
  refine fr_aload (pc := 55) 0 rfl dX11_mixOrder_55 ?_
  obtain ⟨hrc, hW⟩ := hW
  refine fr_callV_I (pc := 57) (As := []) (st := [.int v7]) wd_X2_entries w_1395 ok_X2_entries (by decide) rfl (Nat.le_of_ble_eq_true rfl) dX11_mixOrder_57 ⟨Nat.le_refl 0, Nat.le_refl 0⟩ kc_X2 hrc hW (fun i15 s14 hW => ?_)
  refine fr_icmp_ge (pc := 60) (tgt := 84) (by decide) dX11_mixOrder_60 hW (fun hW => ?_) (fun hW => ?_)
  · refine fr_lload (pc := 84) 1 rfl dX11_mixOrder_84 ?_
    exact fr_lret (pc := 86) dX11_mixOrder_86 rfl ⟨Nat.le_refl 0, Nat.le_refl 0⟩ hW
  · refine fr_lload (pc := 63) 1 rfl dX11_mixOrder_63 ?_
    refine fr_aload (pc := 65) 0 rfl dX11_mixOrder_65 ?_
    refine fr_iload (pc := 67) 2 rfl dX11_mixOrder_67 ?_
    obtain ⟨hrc, hW⟩ := hW
    refine fr_callV_I (pc := 69) (As := [.int v7]) (st := [.long w5]) wd_X2_slotAt w_1144 ok_X2_slotAt (by decide) rfl (Nat.le_of_ble_eq_true rfl) dX11_mixOrder_69 ⟨Nat.le_refl 0, Nat.le_refl 0⟩ kc_X2 hrc hW (fun i19 s18 hW => ?_)
    refine fr_i2l (pc := 72) dX11_mixOrder_72 ?_
    refine fr_callS_L (pc := 73) (As := [.long w5, .long i19.toInt64]) (st := []) wd_X11_mixed w_1393 ok_X11_mixed (by decide) rfl (Nat.le_of_ble_eq_true rfl) dX11_mixOrder_73 ⟨Nat.le_refl 0, Nat.le_refl 0⟩ hW (fun l24 s22 hW => ?_)
    refine fr_lstore (pc := 76) (lv' := [(5, .long l24), (4, .ref a4), (7, .int v7)]) (by decide) rfl dX11_mixOrder_76 ?_
    refine fr_iinc (pc := 78) (lv' := [(7, .int (v7 + 1)), (5, .long l24), (4, .ref a4)]) (v7 + 1) 2 rfl (congrArg (fun z => v7 + z) (by decide)) (by decide) rfl dX11_mixOrder_78 ?_
    refine fr_goto (pc := 81) (tgt := 53) (by decide) dX11_mixOrder_81 ?_
    exact fr_sub [2, 1, 0] rfl hW
def J_X11_mixQuestion_23 (g : GG) (post : Option Value → Hs → Prop) (σ : Hs) (a0 : Nat) (v3 : Int32) (a4 : Nat) (w5 : Int64) (v7 : Int32) : Prop := Fr g M_X11_mixQuestion (0, 0, 0, 0) [(0, .ref a0), (3, .int v3), (4, .ref a4), (5, .long w5), (7, .int v7)] [] 23 σ post
set_option maxHeartbeats 4000000 in
set_option maxRecDepth 100000 in
theorem q_X11_mixQuestion {g : GG} {σ : Hs} {post : Option Value → Hs → Prop} (r0 : Nat) (p0 : Int64) (p1 : Int32) (hW : FR σ r0 11 3 (fun r1 => Rc σ r1 10 ∧ Do g M_X10_question 0 0 [.ref r1, .int p1] σ (kA (fun s2 => post (some (.long p0)) s2) (fun r5 s2 => J_X11_mixQuestion_23 g post s2 r0 p1 r5 p0 0 )))) : Do g M_X11_mixQuestion 0 0 [.ref r0, .long p0, .int p1] σ post := by
  refine Do.of (by decide +kernel) (Nat.le_of_ble_eq_true rfl) ?_
  show Fr g M_X11_mixQuestion (0, 0, 0, 0) [(0, .ref r0), (1, .long p0), (3, .int p1)] [] 0 σ post
  refine fr_aload_n (pc := 0) 0 rfl rfl dX11_mixQuestion_0 ?_
  refine fr_getR (pc := 1) (T := TX11) (k := 3) kc_X11 (by decide) w_995 dX11_mixQuestion_1 hW (fun r1 hW => ?_)
  refine fr_iload_n (pc := 4) 2 rfl rfl dX11_mixQuestion_4 ?_
  obtain ⟨hrc, hW⟩ := hW
  refine fr_callV_A (pc := 5) (As := [.int p1]) (st := []) wd_X10_question w_1201 ok_X10_question (by decide) rfl (Nat.le_of_ble_eq_true rfl) dX11_mixQuestion_5 ⟨Nat.le_refl 0, Nat.le_refl 0⟩ kc_X10 hrc hW (fun s2 hW => ?_) (fun r5 s2 hW => ?_)
  · refine fr_astoreN (pc := 8) (lv' := [(4, .null), (0, .ref r0), (1, .long p0), (3, .int p1)]) (by decide) rfl dX11_mixQuestion_8 ?_
    refine fr_aloadN (pc := 10) 0 rfl dX11_mixQuestion_10 ?_
    refine fr_ifnonnullN (pc := 12) dX11_mixQuestion_12 ?_
    refine fr_lload_n (pc := 15) 2 rfl rfl dX11_mixQuestion_15 ?_
    exact fr_lret (pc := 16) dX11_mixQuestion_16 rfl ⟨Nat.le_refl 0, Nat.le_refl 0⟩ hW
  · refine fr_astore (pc := 8) (lv' := [(4, .ref r5), (0, .ref r0), (1, .long p0), (3, .int p1)]) (by decide) rfl dX11_mixQuestion_8 ?_
    refine fr_aload (pc := 10) 0 rfl dX11_mixQuestion_10 ?_
    refine fr_ifnonnull (pc := 12) (tgt := 17) (by decide) dX11_mixQuestion_12 ?_
    refine fr_lload_n (pc := 17) 2 rfl rfl dX11_mixQuestion_17 ?_
    refine fr_lstore (pc := 18) (lv' := [(5, .long p0), (4, .ref r5), (0, .ref r0), (1, .long p0), (3, .int p1)]) (by decide) rfl dX11_mixQuestion_18 ?_
    refine fr_iconst (pc := 20) 0 (by decide) dX11_mixQuestion_20 ?_
    refine fr_istore (pc := 21) (lv' := [(7, .int 0), (5, .long p0), (4, .ref r5), (0, .ref r0), (1, .long p0), (3, .int p1)]) (by decide) rfl dX11_mixQuestion_21 ?_
    exact fr_sub [3, 5, 2, 1, 0] rfl hW
set_option maxHeartbeats 4000000 in
set_option maxRecDepth 100000 in
theorem q_X11_mixQuestion_23 {g : GG} {σ : Hs} {post : Option Value → Hs → Prop} (a0 : Nat) (v3 : Int32) (a4 : Nat) (w5 : Int64) (v7 : Int32) (hW : (4 ≤ v7 → Rc σ a4 6 ∧ Do g M_X6_heft 0 0 [.ref a4] σ (kI (fun i7 s6 => Do g M_X11_mixed 0 0 [.long w5, .long i7.toInt64] s6 (kL (fun l12 s10 => post (some (.long l12)) s10))))) ∧ (¬ 4 ≤ v7 → Rc σ a0 11 ∧ Do g M_X11_bound 0 0 [.ref a0, .int v3, .int v7, .int 0] σ (kI (fun i15 s14 => Do g M_X11_mixed 0 0 [.long w5, .long i15.toInt64] s14 (kL (fun l20 s18 => Rc s18 a0 11 ∧ Do g M_X11_bound 0 0 [.ref a0, .int v3, .int v7, .int 1] s18 (kI (fun i23 s22 => Do g M_X11_mixed 0 0 [.long l20, .long i23.toInt64] s22 (kL (fun l28 s26 => J_X11_mixQuestion_23 g post s26 a0 v3 a4 l28 ((v7 + 1)) )))))))))) : J_X11_mixQuestion_23 g post σ a0 v3 a4 w5 v7 := by
  show Fr g M_X11_mixQuestion (0, 0, 0, 0) [(0, .ref a0), (3, .int v3), (4, .ref a4), (5, .long w5), (7, .int v7)] [] 23 σ post
  refine fr_iload (pc := 23) 4 rfl dX11_mixQuestion_23 ?_
  refine fr_iconst (pc := 25) 4 (by decide) dX11_mixQuestion_25 ?_
  refine fr_icmp_ge (pc := 26) (tgt := 67) (by decide) dX11_mixQuestion_26 hW (fun hW => ?_) (fun hW => ?_)
  · refine fr_lload (pc := 67) 3 rfl dX11_mixQuestion_67 ?_
    refine fr_aload (pc := 69) 2 rfl dX11_mixQuestion_69 ?_
    obtain ⟨hrc, hW⟩ := hW
    refine fr_callV_I (pc := 71) (As := []) (st := [.long w5]) wd_X6_heft w_1206 ok_X6_heft (by decide) rfl (Nat.le_of_ble_eq_true rfl) dX11_mixQuestion_71 ⟨Nat.le_refl 0, Nat.le_refl 0⟩ kc_X6 hrc hW (fun i7 s6 hW => ?_)
    refine fr_i2l (pc := 74) dX11_mixQuestion_74 ?_
    refine fr_callS_L (pc := 75) (As := [.long w5, .long i7.toInt64]) (st := []) wd_X11_mixed w_1393 ok_X11_mixed (by decide) rfl (Nat.le_of_ble_eq_true rfl) dX11_mixQuestion_75 ⟨Nat.le_refl 0, Nat.le_refl 0⟩ hW (fun l12 s10 hW => ?_)
    exact fr_lret (pc := 78) dX11_mixQuestion_78 rfl ⟨Nat.le_refl 0, Nat.le_refl 0⟩ hW
  · refine fr_lload (pc := 29) 3 rfl dX11_mixQuestion_29 ?_
    refine fr_aload_n (pc := 31) 0 rfl rfl dX11_mixQuestion_31 ?_
    refine fr_iload_n (pc := 32) 1 rfl rfl dX11_mixQuestion_32 ?_
    refine fr_iload (pc := 33) 4 rfl dX11_mixQuestion_33 ?_
    refine fr_iconst (pc := 35) 0 (by decide) dX11_mixQuestion_35 ?_
    obtain ⟨hrc, hW⟩ := hW
    refine fr_callV_I (pc := 36) (As := [.int v3, .int v7, .int 0]) (st := [.long w5]) wd_X11_bound w_1396 ok_X11_bound (by decide) rfl (Nat.le_of_ble_eq_true rfl) dX11_mixQuestion_36 ⟨Nat.le_refl 0, Nat.le_refl 0⟩ kc_X11 hrc hW (fun i15 s14 hW => ?_)
    refine fr_i2l (pc := 39) dX11_mixQuestion_39 ?_
    refine fr_callS_L (pc := 40) (As := [.long w5, .long i15.toInt64]) (st := []) wd_X11_mixed w_1393 ok_X11_mixed (by decide) rfl (Nat.le_of_ble_eq_true rfl) dX11_mixQuestion_40 ⟨Nat.le_refl 0, Nat.le_refl 0⟩ hW (fun l20 s18 hW => ?_)
    refine fr_lstore (pc := 43) (lv' := [(5, .long l20), (0, .ref a0), (3, .int v3), (4, .ref a4), (7, .int v7)]) (by decide) rfl dX11_mixQuestion_43 ?_
    refine fr_lload (pc := 45) 0 rfl dX11_mixQuestion_45 ?_
    refine fr_aload_n (pc := 47) 1 rfl rfl dX11_mixQuestion_47 ?_
    refine fr_iload_n (pc := 48) 2 rfl rfl dX11_mixQuestion_48 ?_
    refine fr_iload (pc := 49) 4 rfl dX11_mixQuestion_49 ?_
    refine fr_iconst (pc := 51) 1 (by decide) dX11_mixQuestion_51 ?_
    obtain ⟨hrc, hW⟩ := hW
    refine fr_callV_I (pc := 52) (As := [.int v3, .int v7, .int 1]) (st := [.long l20]) wd_X11_bound w_1396 ok_X11_bound (by decide) rfl (Nat.le_of_ble_eq_true rfl) dX11_mixQuestion_52 ⟨Nat.le_refl 0, Nat.le_refl 0⟩ kc_X11 hrc hW (fun i23 s22 hW => ?_)
    refine fr_i2l (pc := 55) dX11_mixQuestion_55 ?_
    refine fr_callS_L (pc := 56) (As := [.long l20, .long i23.toInt64]) (st := []) wd_X11_mixed w_1393 ok_X11_mixed (by decide) rfl (Nat.le_of_ble_eq_true rfl) dX11_mixQuestion_56 ⟨Nat.le_refl 0, Nat.le_refl 0⟩ hW (fun l28 s26 hW => ?_)
    refine fr_lstore (pc := 59) (lv' := [(5, .long l28), (0, .ref a0), (3, .int v3), (4, .ref a4), (7, .int v7)]) (by decide) rfl dX11_mixQuestion_59 ?_
    refine fr_iinc (pc := 61) (lv' := [(7, .int (v7 + 1)), (5, .long l28), (0, .ref a0), (3, .int v3), (4, .ref a4)]) (v7 + 1) 4 rfl (congrArg (fun z => v7 + z) (by decide)) (by decide) rfl dX11_mixQuestion_61 ?_
    refine fr_goto (pc := 64) (tgt := 23) (by decide) dX11_mixQuestion_64 ?_
    exact fr_sub [2, 3, 4, 1, 0] rfl hW
def J_X11_mixPictures_5 (g : GG) (post : Option Value → Hs → Prop) (σ : Hs) (a0 : Nat) (w3 : Int64) (v5 : Int32) : Prop := Fr g M_X11_mixPictures (0, 0, 0, 0) [(0, .ref a0), (3, .long w3), (5, .int v5)] [] 5 σ post
def J_X11_mixPictures_14 (g : GG) (post : Option Value → Hs → Prop) (σ : Hs) (a0 : Nat) (w3 : Int64) (v5 : Int32) (v6 : Int32) : Prop := Fr g M_X11_mixPictures (0, 0, 0, 0) [(0, .ref a0), (3, .long w3), (5, .int v5), (6, .int v6)] [] 14 σ post
def J_X11_mixPictures_23 (g : GG) (post : Option Value → Hs → Prop) (σ : Hs) (a0 : Nat) (w3 : Int64) (v5 : Int32) (v6 : Int32) (v7 : Int32) : Prop := Fr g M_X11_mixPictures (0, 0, 0, 0) [(0, .ref a0), (3, .long w3), (5, .int v5), (6, .int v6), (7, .int v7)] [] 23 σ post
set_option maxHeartbeats 4000000 in
set_option maxRecDepth 100000 in
theorem q_X11_mixPictures {g : GG} {σ : Hs} {post : Option Value → Hs → Prop} (r0 : Nat) (p0 : Int64) (hW : J_X11_mixPictures_5 g post σ r0 p0 0 ) : Do g M_X11_mixPictures 0 0 [.ref r0, .long p0] σ post := by
  refine Do.of (by decide +kernel) (Nat.le_of_ble_eq_true rfl) ?_
  show Fr g M_X11_mixPictures (0, 0, 0, 0) [(0, .ref r0), (1, .long p0)] [] 0 σ post
  refine fr_lload_n (pc := 0) 1 rfl rfl dX11_mixPictures_0 ?_
  refine fr_lstore_n (pc := 1) (lv' := [(3, .long p0), (0, .ref r0), (1, .long p0)]) rfl (by decide) rfl dX11_mixPictures_1 ?_
  refine fr_iconst (pc := 2) 0 (by decide) dX11_mixPictures_2 ?_
  refine fr_istore (pc := 3) (lv' := [(5, .int 0), (3, .long p0), (0, .ref r0), (1, .long p0)]) (by decide) rfl dX11_mixPictures_3 ?_
  exact fr_sub [2, 1, 0] rfl hW
set_option maxHeartbeats 4000000 in
set_option maxRecDepth 100000 in
theorem q_X11_mixPictures_5 {g : GG} {σ : Hs} {post : Option Value → Hs → Prop} (a0 : Nat) (w3 : Int64) (v5 : Int32) (hW : (4 ≤ v5 → post (some (.long w3)) σ) ∧ (¬ 4 ≤ v5 → J_X11_mixPictures_14 g post σ a0 w3 v5 0 )) : J_X11_mixPictures_5 g post σ a0 w3 v5 := by
  show Fr g M_X11_mixPictures (0, 0, 0, 0) [(0, .ref a0), (3, .long w3), (5, .int v5)] [] 5 σ post
  refine fr_iload (pc := 5) 2 rfl dX11_mixPictures_5 ?_
  refine fr_iconst (pc := 7) 4 (by decide) dX11_mixPictures_7 ?_
  refine fr_icmp_ge (pc := 8) (tgt := 63) (by decide) dX11_mixPictures_8 hW (fun hW => ?_) (fun hW => ?_)
  · refine fr_lload_n (pc := 63) 1 rfl rfl dX11_mixPictures_63 ?_
    exact fr_lret (pc := 64) dX11_mixPictures_64 rfl ⟨Nat.le_refl 0, Nat.le_refl 0⟩ hW
  · refine fr_iconst (pc := 11) 0 (by decide) dX11_mixPictures_11 ?_
    refine fr_istore (pc := 12) (lv' := [(6, .int 0), (0, .ref a0), (3, .long w3), (5, .int v5)]) (by decide) rfl dX11_mixPictures_12 ?_
    exact fr_sub [1, 2, 3, 0] rfl hW
set_option maxHeartbeats 4000000 in
set_option maxRecDepth 100000 in
theorem q_X11_mixPictures_14 {g : GG} {σ : Hs} {post : Option Value → Hs → Prop} (a0 : Nat) (w3 : Int64) (v5 : Int32) (v6 : Int32) (hW : (4 ≤ v6 → J_X11_mixPictures_5 g post σ a0 w3 ((v5 + 1)) ) ∧ (¬ 4 ≤ v6 → J_X11_mixPictures_23 g post σ a0 w3 v5 v6 0 )) : J_X11_mixPictures_14 g post σ a0 w3 v5 v6 := by
  show Fr g M_X11_mixPictures (0, 0, 0, 0) [(0, .ref a0), (3, .long w3), (5, .int v5), (6, .int v6)] [] 14 σ post
  refine fr_iload (pc := 14) 3 rfl dX11_mixPictures_14 ?_
  refine fr_iconst (pc := 16) 4 (by decide) dX11_mixPictures_16 ?_
  refine fr_icmp_ge (pc := 17) (tgt := 57) (by decide) dX11_mixPictures_17 hW (fun hW => ?_) (fun hW => ?_)
  · refine fr_iinc (pc := 57) (lv' := [(5, .int (v5 + 1)), (0, .ref a0), (3, .long w3), (6, .int v6)]) (v5 + 1) 2 rfl (congrArg (fun z => v5 + z) (by decide)) (by decide) rfl dX11_mixPictures_57 ?_
    refine fr_goto (pc := 60) (tgt := 5) (by decide) dX11_mixPictures_60 ?_
    exact fr_sub [1, 2, 0] rfl hW
  · refine fr_iconst (pc := 20) 0 (by decide) dX11_mixPictures_20 ?_
    refine fr_istore (pc := 21) (lv' := [(7, .int 0), (0, .ref a0), (3, .long w3), (5, .int v5), (6, .int v6)]) (by decide) rfl dX11_mixPictures_21 ?_
    exact fr_sub [1, 2, 3, 4, 0] rfl hW
set_option maxHeartbeats 4000000 in
set_option maxRecDepth 100000 in
theorem q_X11_mixPictures_23 {g : GG} {σ : Hs} {post : Option Value → Hs → Prop} (a0 : Nat) (w3 : Int64) (v5 : Int32) (v6 : Int32) (v7 : Int32) (hW : (3 ≤ v7 → J_X11_mixPictures_14 g post σ a0 w3 v5 ((v6 + 1)) ) ∧ (¬ 3 ≤ v7 → Rc σ a0 11 ∧ Do g M_X11_part 0 0 [.ref a0, .int v5, .int v6, .int v7] σ (kI (fun i2 s1 => Do g M_X11_mixed 0 0 [.long w3, .long i2.toInt64] s1 (kL (fun l7 s5 => J_X11_mixPictures_23 g post s5 a0 l7 v5 v6 ((v7 + 1)) )))))) : J_X11_mixPictures_23 g post σ a0 w3 v5 v6 v7 := by
  show Fr g M_X11_mixPictures (0, 0, 0, 0) [(0, .ref a0), (3, .long w3), (5, .int v5), (6, .int v6), (7, .int v7)] [] 23 σ post
  refine fr_iload (pc := 23) 4 rfl dX11_mixPictures_23 ?_
  refine fr_iconst (pc := 25) 3 (by decide) dX11_mixPictures_25 ?_
  refine fr_icmp_ge (pc := 26) (tgt := 51) (by decide) dX11_mixPictures_26 hW (fun hW => ?_) (fun hW => ?_)
  · refine fr_iinc (pc := 51) (lv' := [(6, .int (v6 + 1)), (0, .ref a0), (3, .long w3), (5, .int v5), (7, .int v7)]) (v6 + 1) 3 rfl (congrArg (fun z => v6 + z) (by decide)) (by decide) rfl dX11_mixPictures_51 ?_
    refine fr_goto (pc := 54) (tgt := 14) (by decide) dX11_mixPictures_54 ?_
    exact fr_sub [1, 2, 3, 0] rfl hW
  · refine fr_lload_n (pc := 29) 1 rfl rfl dX11_mixPictures_29 ?_
    refine fr_aload_n (pc := 30) 0 rfl rfl dX11_mixPictures_30 ?_
    refine fr_iload (pc := 31) 2 rfl dX11_mixPictures_31 ?_
    refine fr_iload (pc := 33) 3 rfl dX11_mixPictures_33 ?_
    refine fr_iload (pc := 35) 4 rfl dX11_mixPictures_35 ?_
    obtain ⟨hrc, hW⟩ := hW
    refine fr_callV_I (pc := 37) (As := [.int v5, .int v6, .int v7]) (st := [.long w3]) wd_X11_part w_1397 ok_X11_part (by decide) rfl (Nat.le_of_ble_eq_true rfl) dX11_mixPictures_37 ⟨Nat.le_refl 0, Nat.le_refl 0⟩ kc_X11 hrc hW (fun i2 s1 hW => ?_)
    refine fr_i2l (pc := 40) dX11_mixPictures_40 ?_
    refine fr_callS_L (pc := 41) (As := [.long w3, .long i2.toInt64]) (st := []) wd_X11_mixed w_1393 ok_X11_mixed (by decide) rfl (Nat.le_of_ble_eq_true rfl) dX11_mixPictures_41 ⟨Nat.le_refl 0, Nat.le_refl 0⟩ hW (fun l7 s5 hW => ?_)
    refine fr_lstore_n (pc := 44) (lv' := [(3, .long l7), (0, .ref a0), (5, .int v5), (6, .int v6), (7, .int v7)]) rfl (by decide) rfl dX11_mixPictures_44 ?_
    refine fr_iinc (pc := 45) (lv' := [(7, .int (v7 + 1)), (3, .long l7), (0, .ref a0), (5, .int v5), (6, .int v6)]) (v7 + 1) 4 rfl (congrArg (fun z => v7 + z) (by decide)) (by decide) rfl dX11_mixPictures_45 ?_
    refine fr_goto (pc := 48) (tgt := 23) (by decide) dX11_mixPictures_48 ?_
    exact fr_sub [2, 1, 3, 4, 0] rfl hW
set_option maxHeartbeats 4000000 in
set_option maxRecDepth 100000 in
theorem q_X7_letterAt {g : GG} {σ : Hs} {post : Option Value → Hs → Prop} (r0 : Nat) (p0 : Int32) (hW : FR σ r0 7 0 (fun r1 => Rc σ r1 1 ∧ Do g M_X1_at 0 0 [.ref r1, .int p0] σ (kI (fun i3 s2 => post (some (.int i3)) s2)))) : Do g M_X7_letterAt 0 0 [.ref r0, .int p0] σ post := by
  refine Do.of (by decide +kernel) (Nat.le_of_ble_eq_true rfl) ?_
  show Fr g M_X7_letterAt (0, 0, 0, 0) [(0, .ref r0), (1, .int p0)] [] 0 σ post
  refine fr_aload_n (pc := 0) 0 rfl rfl dX7_letterAt_0 ?_
  refine fr_getR (pc := 1) (T := TX7) (k := 0) kc_X7 (by decide) w_924 dX7_letterAt_1 hW (fun r1 hW => ?_)
  refine fr_iload_n (pc := 4) 1 rfl rfl dX7_letterAt_4 ?_
  obtain ⟨hrc, hW⟩ := hW
  refine fr_callV_I (pc := 5) (As := [.int p0]) (st := []) wd_X1_at w_1184 ok_X1_at (by decide) rfl (Nat.le_of_ble_eq_true rfl) dX7_letterAt_5 ⟨Nat.le_refl 0, Nat.le_refl 0⟩ kc_X1 hrc hW (fun i3 s2 hW => ?_)
  exact fr_iret (pc := 8) dX7_letterAt_8 rfl ⟨Nat.le_refl 0, Nat.le_refl 0⟩ hW
def J_X11_digest_23 (g : GG) (post : Option Value → Hs → Prop) (σ : Hs) (a0 : Nat) (w1 : Int64) (v3 : Int32) : Prop := Fr g M_X11_digest (0, 0, 0, 0) [(0, .ref a0), (1, .long w1), (3, .int v3)] [] 23 σ post
def J_X11_digest_44 (g : GG) (post : Option Value → Hs → Prop) (σ : Hs) (a0 : Nat) (w1 : Int64) (v3 : Int32) : Prop := Fr g M_X11_digest (0, 0, 0, 0) [(0, .ref a0), (1, .long w1), (3, .int v3)] [] 44 σ post
def J_X11_digest_89 (g : GG) (post : Option Value → Hs → Prop) (σ : Hs) (a0 : Nat) (w1 : Int64) (v3 : Int32) : Prop := Fr g M_X11_digest (0, 0, 0, 0) [(0, .ref a0), (1, .long w1), (3, .int v3)] [] 89 σ post
def J_X11_digest_122 (g : GG) (post : Option Value → Hs → Prop) (σ : Hs) (a0 : Nat) (w1 : Int64) (v3 : Int32) : Prop := Fr g M_X11_digest (0, 0, 0, 0) [(0, .ref a0), (1, .long w1), (3, .int v3)] [] 122 σ post
set_option maxHeartbeats 4000000 in
set_option maxRecDepth 100000 in
theorem q_X11_digest {g : GG} {σ : Hs} {post : Option Value → Hs → Prop} (r0 : Nat) (hW : FR σ r0 11 0 (fun r1 => Rc σ r1 8 ∧ Do g M_X8_pageWidth 0 0 [.ref r1] σ (kI (fun i3 s2 => Do g M_X11_mixed 0 0 [.long 241, .long i3.toInt64] s2 (kL (fun l8 s6 => Rc s6 r0 11 ∧ Do g M_X11_mixTable 0 0 [.ref r0, .long l8] s6 (kL (fun l12 s10 => J_X11_digest_23 g post s10 r0 l12 0 )))))))) : Do g M_X11_digest 0 0 [.ref r0] σ post := by
  refine Do.of (by decide +kernel) (Nat.le_of_ble_eq_true rfl) ?_
  show Fr g M_X11_digest (0, 0, 0, 0) [(0, .ref r0)] [] 0 σ post
  refine fr_ldc2 (pc := 0) w_1398 dX11_digest_0 ?_
  refine fr_aload_n (pc := 3) 0 rfl rfl dX11_digest_3 ?_
  refine fr_getR (pc := 4) (T := TX11) (k := 0) kc_X11 (by decide) w_990 dX11_digest_4 hW (fun r1 hW => ?_)
  obtain ⟨hrc, hW⟩ := hW
  refine fr_callV_I (pc := 7) (As := []) (st := [.long 241]) wd_X8_pageWidth w_1108 ok_X8_pageWidth (by decide) rfl (Nat.le_of_ble_eq_true rfl) dX11_digest_7 ⟨Nat.le_refl 0, Nat.le_refl 0⟩ kc_X8 hrc hW (fun i3 s2 hW => ?_)
  refine fr_i2l (pc := 10) dX11_digest_10 ?_
  refine fr_callS_L (pc := 11) (As := [.long 241, .long i3.toInt64]) (st := []) wd_X11_mixed w_1393 ok_X11_mixed (by decide) rfl (Nat.le_of_ble_eq_true rfl) dX11_digest_11 ⟨Nat.le_refl 0, Nat.le_refl 0⟩ hW (fun l8 s6 hW => ?_)
  refine fr_lstore_n (pc := 14) (lv' := [(1, .long l8), (0, .ref r0)]) rfl (by decide) rfl dX11_digest_14 ?_
  refine fr_aload_n (pc := 15) 1 rfl rfl dX11_digest_15 ?_
  refine fr_lload_n (pc := 16) 0 rfl rfl dX11_digest_16 ?_
  obtain ⟨hrc, hW⟩ := hW
  refine fr_callV_L (pc := 17) (As := [.long l8]) (st := []) wd_X11_mixTable w_1399 ok_X11_mixTable (by decide) rfl (Nat.le_of_ble_eq_true rfl) dX11_digest_17 ⟨Nat.le_refl 0, Nat.le_refl 0⟩ kc_X11 hrc hW (fun l12 s10 hW => ?_)
  refine fr_lstore_n (pc := 20) (lv' := [(1, .long l12), (0, .ref r0)]) rfl (by decide) rfl dX11_digest_20 ?_
  refine fr_iconst (pc := 21) 0 (by decide) dX11_digest_21 ?_
  refine fr_istore_n (pc := 22) (lv' := [(3, .int 0), (1, .long l12), (0, .ref r0)]) rfl (by decide) rfl dX11_digest_22 ?_
  exact fr_sub [2, 1, 0] rfl hW
set_option maxHeartbeats 4000000 in
set_option maxRecDepth 100000 in
theorem q_X11_digest_23 {g : GG} {σ : Hs} {post : Option Value → Hs → Prop} (a0 : Nat) (w1 : Int64) (v3 : Int32) (hW : (8 ≤ v3 → J_X11_digest_44 g post σ a0 w1 0 ) ∧ (¬ 8 ≤ v3 → Rc σ a0 11 ∧ Do g M_X11_mixOrder 0 0 [.ref a0, .long w1, .int v3] σ (kL (fun l16 s14 => J_X11_digest_23 g post s14 a0 l16 ((v3 + 1)) )))) : J_X11_digest_23 g post σ a0 w1 v3 := by
  show Fr g M_X11_digest (0, 0, 0, 0) [(0, .ref a0), (1, .long w1), (3, .int v3)] [] 23 σ post
  refine fr_iload_n (pc := 23) 2 rfl rfl dX11_digest_23 ?_
  refine fr_bipush (pc := 24) 8 (by decide) dX11_digest_24 ?_
  refine fr_icmp_ge (pc := 26) (tgt := 42) (by decide) dX11_digest_26 hW (fun hW => ?_) (fun hW => ?_)
  · refine fr_iconst (pc := 42) 0 (by decide) dX11_digest_42 ?_
    refine fr_istore_n (pc := 43) (lv' := [(3, .int 0), (0, .ref a0), (1, .long w1)]) rfl (by decide) rfl dX11_digest_43 ?_
    exact fr_sub [1, 2, 0] rfl hW
  · refine fr_aload_n (pc := 29) 0 rfl rfl dX11_digest_29 ?_
    refine fr_lload_n (pc := 30) 1 rfl rfl dX11_digest_30 ?_
    refine fr_iload_n (pc := 31) 2 rfl rfl dX11_digest_31 ?_
    obtain ⟨hrc, hW⟩ := hW
    refine fr_callV_L (pc := 32) (As := [.long w1, .int v3]) (st := []) wd_X11_mixOrder w_1400 ok_X11_mixOrder (by decide) rfl (Nat.le_of_ble_eq_true rfl) dX11_digest_32 ⟨Nat.le_refl 0, Nat.le_refl 0⟩ kc_X11 hrc hW (fun l16 s14 hW => ?_)
    refine fr_lstore_n (pc := 35) (lv' := [(1, .long l16), (0, .ref a0), (3, .int v3)]) rfl (by decide) rfl dX11_digest_35 ?_
    refine fr_iinc (pc := 36) (lv' := [(3, .int (v3 + 1)), (1, .long l16), (0, .ref a0)]) (v3 + 1) 2 rfl (congrArg (fun z => v3 + z) (by decide)) (by decide) rfl dX11_digest_36 ?_
    refine fr_goto (pc := 39) (tgt := 23) (by decide) dX11_digest_39 ?_
    exact fr_sub [2, 1, 0] rfl hW
set_option maxHeartbeats 4000000 in
set_option maxRecDepth 100000 in
theorem q_X11_digest_44 {g : GG} {σ : Hs} {post : Option Value → Hs → Prop} (a0 : Nat) (w1 : Int64) (v3 : Int32) (hW : FR σ a0 11 3 (fun r18 => Rc σ r18 10 ∧ Do g M_X10_asked 0 0 [.ref r18] σ (kI (fun i20 s19 => (i20 ≤ v3 → FR s19 a0 11 3 (fun r23 => Rc s19 r23 10 ∧ Do g M_X10_upkeepNow 0 0 [.ref r23] s19 (kI (fun i25 s24 => Do g M_X11_mixed 0 0 [.long w1, .long i25.toInt64] s24 (kL (fun l30 s28 => Rc s28 a0 11 ∧ Do g M_X11_mixPictures 0 0 [.ref a0, .long l30] s28 (kL (fun l34 s32 => J_X11_digest_89 g post s32 a0 l34 0 )))))))) ∧ (¬ i20 ≤ v3 → Rc s19 a0 11 ∧ Do g M_X11_mixQuestion 0 0 [.ref a0, .long w1, .int v3] s19 (kL (fun l38 s36 => J_X11_digest_44 g post s36 a0 l38 ((v3 + 1)) ))))))) : J_X11_digest_44 g post σ a0 w1 v3 := by
  show Fr g M_X11_digest (0, 0, 0, 0) [(0, .ref a0), (1, .long w1), (3, .int v3)] [] 44 σ post
  refine fr_iload_n (pc := 44) 2 rfl rfl dX11_digest_44 ?_
  refine fr_aload_n (pc := 45) 0 rfl rfl dX11_digest_45 ?_
  refine fr_getR (pc := 46) (T := TX11) (k := 3) kc_X11 (by decide) w_995 dX11_digest_46 hW (fun r18 hW => ?_)
  obtain ⟨hrc, hW⟩ := hW
  refine fr_callV_I (pc := 49) (As := []) (st := [.int v3]) wd_X10_asked w_1195 ok_X10_asked (by decide) rfl (Nat.le_of_ble_eq_true rfl) dX11_digest_49 ⟨Nat.le_refl 0, Nat.le_refl 0⟩ kc_X10 hrc hW (fun i20 s19 hW => ?_)
  refine fr_icmp_ge (pc := 52) (tgt := 68) (by decide) dX11_digest_52 hW (fun hW => ?_) (fun hW => ?_)
  · refine fr_lload_n (pc := 68) 1 rfl rfl dX11_digest_68 ?_
    refine fr_aload_n (pc := 69) 0 rfl rfl dX11_digest_69 ?_
    refine fr_getR (pc := 70) (T := TX11) (k := 3) kc_X11 (by decide) w_995 dX11_digest_70 hW (fun r23 hW => ?_)
    obtain ⟨hrc, hW⟩ := hW
    refine fr_callV_I (pc := 73) (As := []) (st := [.long w1]) wd_X10_upkeepNow w_1290 ok_X10_upkeepNow (by decide) rfl (Nat.le_of_ble_eq_true rfl) dX11_digest_73 ⟨Nat.le_refl 0, Nat.le_refl 0⟩ kc_X10 hrc hW (fun i25 s24 hW => ?_)
    refine fr_i2l (pc := 76) dX11_digest_76 ?_
    refine fr_callS_L (pc := 77) (As := [.long w1, .long i25.toInt64]) (st := []) wd_X11_mixed w_1393 ok_X11_mixed (by decide) rfl (Nat.le_of_ble_eq_true rfl) dX11_digest_77 ⟨Nat.le_refl 0, Nat.le_refl 0⟩ hW (fun l30 s28 hW => ?_)
    refine fr_lstore_n (pc := 80) (lv' := [(1, .long l30), (0, .ref a0), (3, .int v3)]) rfl (by decide) rfl dX11_digest_80 ?_
    refine fr_aload_n (pc := 81) 1 rfl rfl dX11_digest_81 ?_
    refine fr_lload_n (pc := 82) 0 rfl rfl dX11_digest_82 ?_
    obtain ⟨hrc, hW⟩ := hW
    refine fr_callV_L (pc := 83) (As := [.long l30]) (st := []) wd_X11_mixPictures w_1402 ok_X11_mixPictures (by decide) rfl (Nat.le_of_ble_eq_true rfl) dX11_digest_83 ⟨Nat.le_refl 0, Nat.le_refl 0⟩ kc_X11 hrc hW (fun l34 s32 hW => ?_)
    refine fr_lstore_n (pc := 86) (lv' := [(1, .long l34), (0, .ref a0), (3, .int v3)]) rfl (by decide) rfl dX11_digest_86 ?_
    refine fr_iconst (pc := 87) 0 (by decide) dX11_digest_87 ?_
    refine fr_istore_n (pc := 88) (lv' := [(3, .int 0), (1, .long l34), (0, .ref a0)]) rfl (by decide) rfl dX11_digest_88 ?_
    exact fr_sub [2, 1, 0] rfl hW
  · refine fr_aload_n (pc := 55) 0 rfl rfl dX11_digest_55 ?_
    refine fr_lload_n (pc := 56) 1 rfl rfl dX11_digest_56 ?_
    refine fr_iload_n (pc := 57) 2 rfl rfl dX11_digest_57 ?_
    obtain ⟨hrc, hW⟩ := hW
    refine fr_callV_L (pc := 58) (As := [.long w1, .int v3]) (st := []) wd_X11_mixQuestion w_1401 ok_X11_mixQuestion (by decide) rfl (Nat.le_of_ble_eq_true rfl) dX11_digest_58 ⟨Nat.le_refl 0, Nat.le_refl 0⟩ kc_X11 hrc hW (fun l38 s36 hW => ?_)
    refine fr_lstore_n (pc := 61) (lv' := [(1, .long l38), (0, .ref a0), (3, .int v3)]) rfl (by decide) rfl dX11_digest_61 ?_
    refine fr_iinc (pc := 62) (lv' := [(3, .int (v3 + 1)), (1, .long l38), (0, .ref a0)]) (v3 + 1) 2 rfl (congrArg (fun z => v3 + z) (by decide)) (by decide) rfl dX11_digest_62 ?_
    refine fr_goto (pc := 65) (tgt := 44) (by decide) dX11_digest_65 ?_
    exact fr_sub [2, 1, 0] rfl hW
set_option maxHeartbeats 4000000 in
set_option maxRecDepth 100000 in
theorem q_X11_digest_89 {g : GG} {σ : Hs} {post : Option Value → Hs → Prop} (a0 : Nat) (w1 : Int64) (v3 : Int32) (hW : FR σ a0 11 5 (fun r40 => Rc σ r40 7 ∧ Do g M_X7_length 0 0 [.ref r40] σ (kI (fun i42 s41 => (i42 ≤ v3 → J_X11_digest_122 g post s41 a0 w1 0 ) ∧ (¬ i42 ≤ v3 → FR s41 a0 11 5 (fun r45 => Rc s41 r45 7 ∧ Do g M_X7_letterAt 0 0 [.ref r45, .int v3] s41 (kI (fun i47 s46 => Do g M_X11_mixed 0 0 [.long w1, .long i47.toInt64] s46 (kL (fun l52 s50 => J_X11_digest_89 g post s50 a0 l52 ((v3 + 1)) )))))))))) : J_X11_digest_89 g post σ a0 w1 v3 := by
  show Fr g M_X11_digest (0, 0, 0, 0) [(0, .ref a0), (1, .long w1), (3, .int v3)] [] 89 σ post
  refine fr_iload_n (pc := 89) 2 rfl rfl dX11_digest_89 ?_
  refine fr_aload_n (pc := 90) 0 rfl rfl dX11_digest_90 ?_
  refine fr_getR (pc := 91) (T := TX11) (k := 5) kc_X11 (by decide) w_981 dX11_digest_91 hW (fun r40 hW => ?_)
  obtain ⟨hrc, hW⟩ := hW
  refine fr_callV_I (pc := 94) (As := []) (st := [.int v3]) wd_X7_length w_1151 ok_X7_length (by decide) rfl (Nat.le_of_ble_eq_true rfl) dX11_digest_94 ⟨Nat.le_refl 0, Nat.le_refl 0⟩ kc_X7 hrc hW (fun i42 s41 hW => ?_)
  refine fr_icmp_ge (pc := 97) (tgt := 120) (by decide) dX11_digest_97 hW (fun hW => ?_) (fun hW => ?_)
  · refine fr_iconst (pc := 120) 0 (by decide) dX11_digest_120 ?_
    refine fr_istore_n (pc := 121) (lv' := [(3, .int 0), (0, .ref a0), (1, .long w1)]) rfl (by decide) rfl dX11_digest_121 ?_
    exact fr_sub [1, 2, 0] rfl hW
  · refine fr_lload_n (pc := 100) 1 rfl rfl dX11_digest_100 ?_
    refine fr_aload_n (pc := 101) 0 rfl rfl dX11_digest_101 ?_
    refine fr_getR (pc := 102) (T := TX11) (k := 5) kc_X11 (by decide) w_981 dX11_digest_102 hW (fun r45 hW => ?_)
    refine fr_iload_n (pc := 105) 2 rfl rfl dX11_digest_105 ?_
    obtain ⟨hrc, hW⟩ := hW
    refine fr_callV_I (pc := 106) (As := [.int v3]) (st := [.long w1]) wd_X7_letterAt w_1403 ok_X7_letterAt (by decide) rfl (Nat.le_of_ble_eq_true rfl) dX11_digest_106 ⟨Nat.le_refl 0, Nat.le_refl 0⟩ kc_X7 hrc hW (fun i47 s46 hW => ?_)
    refine fr_i2l (pc := 109) dX11_digest_109 ?_
    refine fr_callS_L (pc := 110) (As := [.long w1, .long i47.toInt64]) (st := []) wd_X11_mixed w_1393 ok_X11_mixed (by decide) rfl (Nat.le_of_ble_eq_true rfl) dX11_digest_110 ⟨Nat.le_refl 0, Nat.le_refl 0⟩ hW (fun l52 s50 hW => ?_)
    refine fr_lstore_n (pc := 113) (lv' := [(1, .long l52), (0, .ref a0), (3, .int v3)]) rfl (by decide) rfl dX11_digest_113 ?_
    refine fr_iinc (pc := 114) (lv' := [(3, .int (v3 + 1)), (1, .long l52), (0, .ref a0)]) (v3 + 1) 2 rfl (congrArg (fun z => v3 + z) (by decide)) (by decide) rfl dX11_digest_114 ?_
    refine fr_goto (pc := 117) (tgt := 89) (by decide) dX11_digest_117 ?_
    exact fr_sub [2, 1, 0] rfl hW
set_option maxHeartbeats 4000000 in
set_option maxRecDepth 100000 in
theorem q_X11_digest_122 {g : GG} {σ : Hs} {post : Option Value → Hs → Prop} (a0 : Nat) (w1 : Int64) (v3 : Int32) (hW : (9 ≤ v3 → post (some (.long w1)) σ) ∧ (¬ 9 ≤ v3 → Rc σ a0 11 ∧ Do g M_X11_count 0 0 [.ref a0, .int v3] σ (kI (fun i55 s54 => Do g M_X11_mixed 0 0 [.long w1, .long i55.toInt64] s54 (kL (fun l60 s58 => J_X11_digest_122 g post s58 a0 l60 ((v3 + 1)) )))))) : J_X11_digest_122 g post σ a0 w1 v3 := by
  show Fr g M_X11_digest (0, 0, 0, 0) [(0, .ref a0), (1, .long w1), (3, .int v3)] [] 122 σ post
  refine fr_iload_n (pc := 122) 2 rfl rfl dX11_digest_122 ?_
  refine fr_bipush (pc := 123) 9 (by decide) dX11_digest_123 ?_
  refine fr_icmp_ge (pc := 125) (tgt := 145) (by decide) dX11_digest_125 hW (fun hW => ?_) (fun hW => ?_)
  · refine fr_lload_n (pc := 145) 1 rfl rfl dX11_digest_145 ?_
    exact fr_lret (pc := 146) dX11_digest_146 rfl ⟨Nat.le_refl 0, Nat.le_refl 0⟩ hW
  · refine fr_lload_n (pc := 128) 1 rfl rfl dX11_digest_128 ?_
    refine fr_aload_n (pc := 129) 0 rfl rfl dX11_digest_129 ?_
    refine fr_iload_n (pc := 130) 2 rfl rfl dX11_digest_130 ?_
    obtain ⟨hrc, hW⟩ := hW
    refine fr_callV_I (pc := 131) (As := [.int v3]) (st := [.long w1]) wd_X11_count w_1404 ok_X11_count (by decide) rfl (Nat.le_of_ble_eq_true rfl) dX11_digest_131 ⟨Nat.le_refl 0, Nat.le_refl 0⟩ kc_X11 hrc hW (fun i55 s54 hW => ?_)
    refine fr_i2l (pc := 134) dX11_digest_134 ?_
    refine fr_callS_L (pc := 135) (As := [.long w1, .long i55.toInt64]) (st := []) wd_X11_mixed w_1393 ok_X11_mixed (by decide) rfl (Nat.le_of_ble_eq_true rfl) dX11_digest_135 ⟨Nat.le_refl 0, Nat.le_refl 0⟩ hW (fun l60 s58 hW => ?_)
    refine fr_lstore_n (pc := 138) (lv' := [(1, .long l60), (0, .ref a0), (3, .int v3)]) rfl (by decide) rfl dX11_digest_138 ?_
    refine fr_iinc (pc := 139) (lv' := [(3, .int (v3 + 1)), (1, .long l60), (0, .ref a0)]) (v3 + 1) 2 rfl (congrArg (fun z => v3 + z) (by decide)) (by decide) rfl dX11_digest_139 ?_
    refine fr_goto (pc := 142) (tgt := 122) (by decide) dX11_digest_142 ?_
    exact fr_sub [2, 1, 0] rfl hW
set_option maxHeartbeats 4000000 in
set_option maxRecDepth 100000 in
theorem q_X12_mix {g : GG} {σ : Hs} {post : Option Value → Hs → Prop} (r0 : Nat) (p0 : Int64) (hW : FL σ r0 12 39 (fun l1 => PF σ r0 12 39 (.long (((31 : Int64) * l1) + p0)) (fun s2 => post none s2))) : Do g M_X12_mix 0 0 [.ref r0, .long p0] σ post := by
  refine Do.of (by decide +kernel) (Nat.le_of_ble_eq_true rfl) ?_
  show Fr g M_X12_mix (0, 0, 0, 0) [(0, .ref r0), (1, .long p0)] [] 0 σ post
  refine fr_aload_n (pc := 0) 0 rfl rfl dX12_mix_0 ?_
  refine fr_ldc2 (pc := 1) w_1405 dX12_mix_1 ?_
  refine fr_aload_n (pc := 4) 0 rfl rfl dX12_mix_4 ?_
  refine fr_getL (pc := 5) (T := TX12) (k := 39) kc_X12 (by decide) w_1406 dX12_mix_5 hW (fun l1 hW => ?_)
  refine fr_lmul (pc := 8) dX12_mix_8 ?_
  refine fr_lload_n (pc := 9) 1 rfl rfl dX12_mix_9 ?_
  refine fr_ladd (pc := 10) dX12_mix_10 ?_
  refine fr_put (pc := 11) (T := TX12) (k := 39) kc_X12 (by decide) w_1406 rfl rfl rfl dX12_mix_11 hW (fun s2 hW => ?_)
  exact fr_ret (pc := 14) dX12_mix_14 rfl ⟨Nat.le_refl 0, Nat.le_refl 0⟩ hW
def J_X12_mixTable_11 (g : GG) (post : Option Value → Hs → Prop) (σ : Hs) (a0 : Nat) (v1 : Int32) : Prop := Fr g M_X12_mixTable (0, 0, 0, 0) [(0, .ref a0), (1, .int v1)] [] 11 σ post
def J_X12_mixTable_68 (g : GG) (post : Option Value → Hs → Prop) (σ : Hs) (a0 : Nat) (v1 : Int32) : Prop := Fr g M_X12_mixTable (0, 0, 0, 0) [(0, .ref a0), (1, .int v1)] [] 68 σ post
def J_X12_mixTable_19 (g : GG) (post : Option Value → Hs → Prop) (σ : Hs) (a0 : Nat) (v1 : Int32) (v2 : Int32) : Prop := Fr g M_X12_mixTable (0, 0, 0, 0) [(0, .ref a0), (1, .int v1), (2, .int v2)] [] 19 σ post
def J_X12_mixTable_87 (g : GG) (post : Option Value → Hs → Prop) (σ : Hs) (a0 : Nat) (v1 : Int32) (v2 : Int32) : Prop := Fr g M_X12_mixTable (0, 0, 0, 0) [(0, .ref a0), (1, .int v1), (2, .int v2)] [] 87 σ post
def J_X12_mixTable_111 (g : GG) (post : Option Value → Hs → Prop) (σ : Hs) (a0 : Nat) (v1 : Int32) (v2 : Int32) : Prop := Fr g M_X12_mixTable (0, 0, 0, 0) [(0, .ref a0), (1, .int v1), (2, .int v2)] [] 111 σ post
set_option maxHeartbeats 4000000 in
set_option maxRecDepth 100000 in
theorem q_X12_mixTable {g : GG} {σ : Hs} {post : Option Value → Hs → Prop} (r0 : Nat) (hW : FI σ r0 12 3 (fun i1 => Rc σ r0 12 ∧ Do g M_X12_mix 0 0 [.ref r0, .long i1.toInt64] σ (kV (fun s2 => J_X12_mixTable_11 g post s2 r0 0 )))) : Do g M_X12_mixTable 0 0 [.ref r0] σ post := by
  refine Do.of (by decide +kernel) (Nat.le_of_ble_eq_true rfl) ?_
  show Fr g M_X12_mixTable (0, 0, 0, 0) [(0, .ref r0)] [] 0 σ post
  refine fr_aload_n (pc := 0) 0 rfl rfl dX12_mixTable_0 ?_
  refine fr_aload_n (pc := 1) 0 rfl rfl dX12_mixTable_1 ?_
  refine fr_getI (pc := 2) (T := TX12) (k := 3) kc_X12 (by decide) w_1008 dX12_mixTable_2 hW (fun i1 hW => ?_)
  refine fr_i2l (pc := 5) dX12_mixTable_5 ?_
  obtain ⟨hrc, hW⟩ := hW
  refine fr_callV_V (pc := 6) (As := [.long i1.toInt64]) (st := []) wd_X12_mix w_1408 ok_X12_mix (by decide) rfl (Nat.le_of_ble_eq_true rfl) dX12_mixTable_6 ⟨Nat.le_refl 0, Nat.le_refl 0⟩ kc_X12 hrc hW (fun s2 hW => ?_)
  refine fr_iconst (pc := 9) 0 (by decide) dX12_mixTable_9 ?_
  refine fr_istore_n (pc := 10) (lv' := [(1, .int 0), (0, .ref r0)]) rfl (by decide) rfl dX12_mixTable_10 ?_
  exact fr_sub [1, 0] rfl hW
set_option maxHeartbeats 4000000 in
set_option maxRecDepth 100000 in
theorem q_X12_mixTable_11 {g : GG} {σ : Hs} {post : Option Value → Hs → Prop} (a0 : Nat) (v1 : Int32) (hW : (64 ≤ v1 → J_X12_mixTable_68 g post σ a0 0 ) ∧ (¬ 64 ≤ v1 → J_X12_mixTable_19 g post σ a0 v1 0 )) : J_X12_mixTable_11 g post σ a0 v1 := by
  show Fr g M_X12_mixTable (0, 0, 0, 0) [(0, .ref a0), (1, .int v1)] [] 11 σ post
  refine fr_iload_n (pc := 11) 1 rfl rfl dX12_mixTable_11 ?_
  refine fr_bipush (pc := 12) 64 (by decide) dX12_mixTable_12 ?_
  refine fr_icmp_ge (pc := 14) (tgt := 66) (by decide) dX12_mixTable_14 hW (fun hW => ?_) (fun hW => ?_)
  · refine fr_iconst (pc := 66) 0 (by decide) dX12_mixTable_66 ?_
    refine fr_istore_n (pc := 67) (lv' := [(1, .int 0), (0, .ref a0)]) rfl (by decide) rfl dX12_mixTable_67 ?_
    exact fr_sub [1, 0] rfl hW
  · refine fr_iconst (pc := 17) 0 (by decide) dX12_mixTable_17 ?_
    refine fr_istore_n (pc := 18) (lv' := [(2, .int 0), (0, .ref a0), (1, .int v1)]) rfl (by decide) rfl dX12_mixTable_18 ?_
    exact fr_sub [1, 2, 0] rfl hW
set_option maxHeartbeats 4000000 in
set_option maxRecDepth 100000 in
theorem q_X12_mixTable_68 {g : GG} {σ : Hs} {post : Option Value → Hs → Prop} (a0 : Nat) (v1 : Int32) (hW : FI σ a0 12 4 (fun i3 => (i3 ≤ v1 → post none σ) ∧ (¬ i3 ≤ v1 → FR σ a0 12 6 (fun r4 => AI g σ r4 1 v1 (fun i5 => (¬ i5 = 0 → J_X12_mixTable_68 g post σ a0 ((v1 + 1)) ) ∧ (i5 = 0 → J_X12_mixTable_87 g post σ a0 v1 0 )))))) : J_X12_mixTable_68 g post σ a0 v1 := by
  show Fr g M_X12_mixTable (0, 0, 0, 0) [(0, .ref a0), (1, .int v1)] [] 68 σ post
  refine fr_iload_n (pc := 68) 1 rfl rfl dX12_mixTable_68 ?_
  refine fr_aload_n (pc := 69) 0 rfl rfl dX12_mixTable_69 ?_
  refine fr_getI (pc := 70) (T := TX12) (k := 4) kc_X12 (by decide) w_1073 dX12_mixTable_70 hW (fun i3 hW => ?_)
  refine fr_icmp_ge (pc := 73) (tgt := 149) (by decide) dX12_mixTable_73 hW (fun hW => ?_) (fun hW => ?_)
  · exact fr_ret (pc := 149) dX12_mixTable_149 rfl ⟨Nat.le_refl 0, Nat.le_refl 0⟩ hW
  · refine fr_aload_n (pc := 76) 0 rfl rfl dX12_mixTable_76 ?_
    refine fr_getR (pc := 77) (T := TX12) (k := 6) kc_X12 (by decide) w_1010 dX12_mixTable_77 hW (fun r4 hW => ?_)
    refine fr_iload_n (pc := 80) 1 rfl rfl dX12_mixTable_80 ?_
    refine fr_zald (pc := 81) dX12_mixTable_81 hW (fun i5 hW => ?_)
    refine fr_if_ne (pc := 82) (tgt := 143) (by decide) dX12_mixTable_82 hW (fun hW => ?_) (fun hW => ?_)
    · refine fr_iinc (pc := 143) (lv' := [(1, .int (v1 + 1)), (0, .ref a0)]) (v1 + 1) 1 rfl (congrArg (fun z => v1 + z) (by decide)) (by decide) rfl dX12_mixTable_143 ?_
      refine fr_goto (pc := 146) (tgt := 68) (by decide) dX12_mixTable_146 ?_
      exact fr_sub [1, 0] rfl hW
    · refine fr_iconst (pc := 85) 0 (by decide) dX12_mixTable_85 ?_
      refine fr_istore_n (pc := 86) (lv' := [(2, .int 0), (0, .ref a0), (1, .int v1)]) rfl (by decide) rfl dX12_mixTable_86 ?_
      exact fr_sub [1, 2, 0] rfl hW
set_option maxHeartbeats 4000000 in
set_option maxRecDepth 100000 in
theorem q_X12_mixTable_19 {g : GG} {σ : Hs} {post : Option Value → Hs → Prop} (a0 : Nat) (v1 : Int32) (v2 : Int32) (hW : (4 ≤ v2 → J_X12_mixTable_11 g post σ a0 ((v1 + 1)) ) ∧ (¬ 4 ≤ v2 → FR σ a0 12 0 (fun r6 => AI g σ r6 1 v1 (fun i7 => (i7 = 0 → Rc σ a0 12 ∧ Do g M_X12_mix 0 0 [.ref a0, .long (-1)] σ (kV (fun s8 => J_X12_mixTable_19 g post s8 a0 v1 ((v2 + 1)) ))) ∧ (¬ i7 = 0 → FR σ a0 12 1 (fun r9 => AI g σ r9 0 ((4 * v1) + v2) (fun i10 => Rc σ a0 12 ∧ Do g M_X12_mix 0 0 [.ref a0, .long i10.toInt64] σ (kV (fun s11 => J_X12_mixTable_19 g post s11 a0 v1 ((v2 + 1)) ))))))))) : J_X12_mixTable_19 g post σ a0 v1 v2 := by
  show Fr g M_X12_mixTable (0, 0, 0, 0) [(0, .ref a0), (1, .int v1), (2, .int v2)] [] 19 σ post
  refine fr_iload_n (pc := 19) 2 rfl rfl dX12_mixTable_19 ?_
  refine fr_iconst (pc := 20) 4 (by decide) dX12_mixTable_20 ?_
  refine fr_icmp_ge (pc := 21) (tgt := 60) (by decide) dX12_mixTable_21 hW (fun hW => ?_) (fun hW => ?_)
  · refine fr_iinc (pc := 60) (lv' := [(1, .int (v1 + 1)), (0, .ref a0), (2, .int v2)]) (v1 + 1) 1 rfl (congrArg (fun z => v1 + z) (by decide)) (by decide) rfl dX12_mixTable_60 ?_
    refine fr_goto (pc := 63) (tgt := 11) (by decide) dX12_mixTable_63 ?_
    exact fr_sub [1, 0] rfl hW
  · refine fr_aload_n (pc := 24) 0 rfl rfl dX12_mixTable_24 ?_
    refine fr_aload_n (pc := 25) 0 rfl rfl dX12_mixTable_25 ?_
    refine fr_getR (pc := 26) (T := TX12) (k := 0) kc_X12 (by decide) w_1006 dX12_mixTable_26 hW (fun r6 hW => ?_)
    refine fr_iload_n (pc := 29) 1 rfl rfl dX12_mixTable_29 ?_
    refine fr_zald (pc := 30) dX12_mixTable_30 hW (fun i7 hW => ?_)
    refine fr_if_eq (pc := 31) (tgt := 48) (by decide) dX12_mixTable_31 hW (fun hW => ?_) (fun hW => ?_)
    · refine fr_ldc2 (pc := 48) w_1407 dX12_mixTable_48 ?_
      obtain ⟨hrc, hW⟩ := hW
      refine fr_callV_V (pc := 51) (As := [.long (-1)]) (st := []) wd_X12_mix w_1408 ok_X12_mix (by decide) rfl (Nat.le_of_ble_eq_true rfl) dX12_mixTable_51 ⟨Nat.le_refl 0, Nat.le_refl 0⟩ kc_X12 hrc hW (fun s8 hW => ?_)
      refine fr_iinc (pc := 54) (lv' := [(2, .int (v2 + 1)), (0, .ref a0), (1, .int v1)]) (v2 + 1) 2 rfl (congrArg (fun z => v2 + z) (by decide)) (by decide) rfl dX12_mixTable_54 ?_
      refine fr_goto (pc := 57) (tgt := 19) (by decide) dX12_mixTable_57 ?_
      exact fr_sub [1, 2, 0] rfl hW
    · refine fr_aload_n (pc := 34) 0 rfl rfl dX12_mixTable_34 ?_
      refine fr_getR (pc := 35) (T := TX12) (k := 1) kc_X12 (by decide) w_1007 dX12_mixTable_35 hW (fun r9 hW => ?_)
      refine fr_iconst (pc := 38) 4 (by decide) dX12_mixTable_38 ?_
      refine fr_iload_n (pc := 39) 1 rfl rfl dX12_mixTable_39 ?_
      refine fr_imul (pc := 40) dX12_mixTable_40 ?_
      refine fr_iload_n (pc := 41) 2 rfl rfl dX12_mixTable_41 ?_
      refine fr_iadd (pc := 42) dX12_mixTable_42 ?_
      refine fr_iald (pc := 43) dX12_mixTable_43 hW (fun i10 hW => ?_)
      refine fr_i2l (pc := 44) dX12_mixTable_44 ?_
      refine fr_goto (pc := 45) (tgt := 51) (by decide) dX12_mixTable_45 ?_
      obtain ⟨hrc, hW⟩ := hW
      refine fr_callV_V (pc := 51) (As := [.long i10.toInt64]) (st := []) wd_X12_mix w_1408 ok_X12_mix (by decide) rfl (Nat.le_of_ble_eq_true rfl) dX12_mixTable_51 ⟨Nat.le_refl 0, Nat.le_refl 0⟩ kc_X12 hrc hW (fun s11 hW => ?_)
      refine fr_iinc (pc := 54) (lv' := [(2, .int (v2 + 1)), (0, .ref a0), (1, .int v1)]) (v2 + 1) 2 rfl (congrArg (fun z => v2 + z) (by decide)) (by decide) rfl dX12_mixTable_54 ?_
      refine fr_goto (pc := 57) (tgt := 19) (by decide) dX12_mixTable_57 ?_
      exact fr_sub [1, 2, 0] rfl hW
set_option maxHeartbeats 4000000 in
set_option maxRecDepth 100000 in
theorem q_X12_mixTable_87 {g : GG} {σ : Hs} {post : Option Value → Hs → Prop} (a0 : Nat) (v1 : Int32) (v2 : Int32) (hW : (5 ≤ v2 → J_X12_mixTable_111 g post σ a0 v1 0 ) ∧ (¬ 5 ≤ v2 → Rc σ a0 12 ∧ Do g M_X12_aboutOf 0 0 [.ref a0, .int v1, .int v2] σ (kI (fun i13 s12 => Rc s12 a0 12 ∧ Do g M_X12_mix 0 0 [.ref a0, .long i13.toInt64] s12 (kV (fun s16 => J_X12_mixTable_87 g post s16 a0 v1 ((v2 + 1)) )))))) : J_X12_mixTable_87 g post σ a0 v1 v2 := by
  show Fr g M_X12_mixTable (0, 0, 0, 0) [(0, .ref a0), (1, .int v1), (2, .int v2)] [] 87 σ post
  refine fr_iload_n (pc := 87) 2 rfl rfl dX12_mixTable_87 ?_
  refine fr_iconst (pc := 88) 5 (by decide) dX12_mixTable_88 ?_
  refine fr_icmp_ge (pc := 89) (tgt := 109) (by decide) dX12_mixTable_89 hW (fun hW => ?_) (fun hW => ?_)
  · refine fr_iconst (pc := 109) 0 (by decide) dX12_mixTable_109 ?_
    refine fr_istore_n (pc := 110) (lv' := [(2, .int 0), (0, .ref a0), (1, .int v1)]) rfl (by decide) rfl dX12_mixTable_110 ?_
    exact fr_sub [1, 2, 0] rfl hW
  · refine fr_aload_n (pc := 92) 0 rfl rfl dX12_mixTable_92 ?_
    refine fr_aload_n (pc := 93) 0 rfl rfl dX12_mixTable_93 ?_
    refine fr_iload_n (pc := 94) 1 rfl rfl dX12_mixTable_94 ?_
    refine fr_iload_n (pc := 95) 2 rfl rfl dX12_mixTable_95 ?_
    obtain ⟨hrc, hW⟩ := hW
    refine fr_callV_I (pc := 96) (As := [.int v1, .int v2]) (st := [.ref a0]) wd_X12_aboutOf w_1143 ok_X12_aboutOf (by decide) rfl (Nat.le_of_ble_eq_true rfl) dX12_mixTable_96 ⟨Nat.le_refl 0, Nat.le_refl 0⟩ kc_X12 hrc hW (fun i13 s12 hW => ?_)
    refine fr_i2l (pc := 99) dX12_mixTable_99 ?_
    obtain ⟨hrc, hW⟩ := hW
    refine fr_callV_V (pc := 100) (As := [.long i13.toInt64]) (st := []) wd_X12_mix w_1408 ok_X12_mix (by decide) rfl (Nat.le_of_ble_eq_true rfl) dX12_mixTable_100 ⟨Nat.le_refl 0, Nat.le_refl 0⟩ kc_X12 hrc hW (fun s16 hW => ?_)
    refine fr_iinc (pc := 103) (lv' := [(2, .int (v2 + 1)), (0, .ref a0), (1, .int v1)]) (v2 + 1) 2 rfl (congrArg (fun z => v2 + z) (by decide)) (by decide) rfl dX12_mixTable_103 ?_
    refine fr_goto (pc := 106) (tgt := 87) (by decide) dX12_mixTable_106 ?_
    exact fr_sub [1, 2, 0] rfl hW
set_option maxHeartbeats 4000000 in
set_option maxRecDepth 100000 in
theorem q_X12_mixTable_111 {g : GG} {σ : Hs} {post : Option Value → Hs → Prop} (a0 : Nat) (v1 : Int32) (v2 : Int32) (hW : FR σ a0 12 9 (fun r17 => AI g σ r17 0 v1 (fun i18 => (i18 ≤ v2 → J_X12_mixTable_68 g post σ a0 ((v1 + 1)) ) ∧ (¬ i18 ≤ v2 → FR σ a0 12 8 (fun r19 => AI g σ r19 0 ((64 * v1) + v2) (fun i20 => Rc σ a0 12 ∧ Do g M_X12_mix 0 0 [.ref a0, .long i20.toInt64] σ (kV (fun s21 => J_X12_mixTable_111 g post s21 a0 v1 ((v2 + 1)) )))))))) : J_X12_mixTable_111 g post σ a0 v1 v2 := by
  show Fr g M_X12_mixTable (0, 0, 0, 0) [(0, .ref a0), (1, .int v1), (2, .int v2)] [] 111 σ post
  refine fr_iload_n (pc := 111) 2 rfl rfl dX12_mixTable_111 ?_
  refine fr_aload_n (pc := 112) 0 rfl rfl dX12_mixTable_112 ?_
  refine fr_getR (pc := 113) (T := TX12) (k := 9) kc_X12 (by decide) w_1013 dX12_mixTable_113 hW (fun r17 hW => ?_)
  refine fr_iload_n (pc := 116) 1 rfl rfl dX12_mixTable_116 ?_
  refine fr_iald (pc := 117) dX12_mixTable_117 hW (fun i18 hW => ?_)
  refine fr_icmp_ge (pc := 118) (tgt := 143) (by decide) dX12_mixTable_118 hW (fun hW => ?_) (fun hW => ?_)
  · refine fr_iinc (pc := 143) (lv' := [(1, .int (v1 + 1)), (0, .ref a0), (2, .int v2)]) (v1 + 1) 1 rfl (congrArg (fun z => v1 + z) (by decide)) (by decide) rfl dX12_mixTable_143 ?_
    refine fr_goto (pc := 146) (tgt := 68) (by decide) dX12_mixTable_146 ?_
    exact fr_sub [1, 0] rfl hW
  · refine fr_aload_n (pc := 121) 0 rfl rfl dX12_mixTable_121 ?_
    refine fr_aload_n (pc := 122) 0 rfl rfl dX12_mixTable_122 ?_
    refine fr_getR (pc := 123) (T := TX12) (k := 8) kc_X12 (by decide) w_1012 dX12_mixTable_123 hW (fun r19 hW => ?_)
    refine fr_bipush (pc := 126) 64 (by decide) dX12_mixTable_126 ?_
    refine fr_iload_n (pc := 128) 1 rfl rfl dX12_mixTable_128 ?_
    refine fr_imul (pc := 129) dX12_mixTable_129 ?_
    refine fr_iload_n (pc := 130) 2 rfl rfl dX12_mixTable_130 ?_
    refine fr_iadd (pc := 131) dX12_mixTable_131 ?_
    refine fr_iald (pc := 132) dX12_mixTable_132 hW (fun i20 hW => ?_)
    refine fr_i2l (pc := 133) dX12_mixTable_133 ?_
    obtain ⟨hrc, hW⟩ := hW
    refine fr_callV_V (pc := 134) (As := [.long i20.toInt64]) (st := []) wd_X12_mix w_1408 ok_X12_mix (by decide) rfl (Nat.le_of_ble_eq_true rfl) dX12_mixTable_134 ⟨Nat.le_refl 0, Nat.le_refl 0⟩ kc_X12 hrc hW (fun s21 hW => ?_)
    refine fr_iinc (pc := 137) (lv' := [(2, .int (v2 + 1)), (0, .ref a0), (1, .int v1)]) (v2 + 1) 2 rfl (congrArg (fun z => v2 + z) (by decide)) (by decide) rfl dX12_mixTable_137 ?_
    refine fr_goto (pc := 140) (tgt := 111) (by decide) dX12_mixTable_140 ?_
    exact fr_sub [1, 2, 0] rfl hW
def J_X12_digest_13 (g : GG) (post : Option Value → Hs → Prop) (σ : Hs) (a0 : Nat) (v1 : Int32) : Prop := Fr g M_X12_digest (0, 0, 0, 0) [(0, .ref a0), (1, .int v1)] [] 13 σ post
def J_X12_digest_79 (g : GG) (post : Option Value → Hs → Prop) (σ : Hs) (a0 : Nat) (v1 : Int32) : Prop := Fr g M_X12_digest (0, 0, 0, 0) [(0, .ref a0), (1, .int v1)] [] 79 σ post
def J_X12_digest_23 (g : GG) (post : Option Value → Hs → Prop) (σ : Hs) (a0 : Nat) (v1 : Int32) (v2 : Int32) : Prop := Fr g M_X12_digest (0, 0, 0, 0) [(0, .ref a0), (1, .int v1), (2, .int v2)] [] 23 σ post
def J_X12_digest_141 (g : GG) (post : Option Value → Hs → Prop) (σ : Hs) (a0 : Nat) (v1 : Int32) : Prop := Fr g M_X12_digest (0, 0, 0, 0) [(0, .ref a0), (1, .int v1)] [] 141 σ post
def J_X12_digest_86 (g : GG) (post : Option Value → Hs → Prop) (σ : Hs) (a0 : Nat) (v1 : Int32) (v2 : Int32) : Prop := Fr g M_X12_digest (0, 0, 0, 0) [(0, .ref a0), (1, .int v1), (2, .int v2)] [] 86 σ post
def J_X12_digest_168 (g : GG) (post : Option Value → Hs → Prop) (σ : Hs) (a0 : Nat) (v1 : Int32) : Prop := Fr g M_X12_digest (0, 0, 0, 0) [(0, .ref a0), (1, .int v1)] [] 168 σ post
set_option maxHeartbeats 4000000 in
set_option maxRecDepth 100000 in
theorem q_X12_digest {g : GG} {σ : Hs} {post : Option Value → Hs → Prop} (r0 : Nat) (hW : PF σ r0 12 39 (.long 241) (fun s1 => Rc s1 r0 12 ∧ Do g M_X12_mixTable 0 0 [.ref r0] s1 (kV (fun s2 => J_X12_digest_13 g post s2 r0 0 )))) : Do g M_X12_digest 0 0 [.ref r0] σ post := by
  refine Do.of (by decide +kernel) (Nat.le_of_ble_eq_true rfl) ?_
  show Fr g M_X12_digest (0, 0, 0, 0) [(0, .ref r0)] [] 0 σ post
  refine fr_aload_n (pc := 0) 0 rfl rfl dX12_digest_0 ?_
  refine fr_ldc2 (pc := 1) w_1409 dX12_digest_1 ?_
  refine fr_put (pc := 4) (T := TX12) (k := 39) kc_X12 (by decide) w_1406 rfl rfl rfl dX12_digest_4 hW (fun s1 hW => ?_)
  refine fr_aload_n (pc := 7) 0 rfl rfl dX12_digest_7 ?_
  obtain ⟨hrc, hW⟩ := hW
  refine fr_callV_V (pc := 8) (As := []) (st := []) wd_X12_mixTable w_1410 ok_X12_mixTable (by decide) rfl (Nat.le_of_ble_eq_true rfl) dX12_digest_8 ⟨Nat.le_refl 0, Nat.le_refl 0⟩ kc_X12 hrc hW (fun s2 hW => ?_)
  refine fr_iconst (pc := 11) 0 (by decide) dX12_digest_11 ?_
  refine fr_istore_n (pc := 12) (lv' := [(1, .int 0), (0, .ref r0)]) rfl (by decide) rfl dX12_digest_12 ?_
  exact fr_sub [1, 0] rfl hW
set_option maxHeartbeats 4000000 in
set_option maxRecDepth 100000 in
theorem q_X12_digest_13 {g : GG} {σ : Hs} {post : Option Value → Hs → Prop} (a0 : Nat) (v1 : Int32) (hW : FI σ a0 12 14 (fun i3 => (i3 ≤ v1 → FI σ a0 12 19 (fun i4 => Rc σ a0 12 ∧ Do g M_X12_mix 0 0 [.ref a0, .long i4.toInt64] σ (kV (fun s5 => J_X12_digest_79 g post s5 a0 0 )))) ∧ (¬ i3 ≤ v1 → J_X12_digest_23 g post σ a0 v1 0 ))) : J_X12_digest_13 g post σ a0 v1 := by
  show Fr g M_X12_digest (0, 0, 0, 0) [(0, .ref a0), (1, .int v1)] [] 13 σ post
  refine fr_iload_n (pc := 13) 1 rfl rfl dX12_digest_13 ?_
  refine fr_aload_n (pc := 14) 0 rfl rfl dX12_digest_14 ?_
  refine fr_getI (pc := 15) (T := TX12) (k := 14) kc_X12 (by decide) w_1198 dX12_digest_15 hW (fun i3 hW => ?_)
  refine fr_icmp_ge (pc := 18) (tgt := 68) (by decide) dX12_digest_18 hW (fun hW => ?_) (fun hW => ?_)
  · refine fr_aload_n (pc := 68) 0 rfl rfl dX12_digest_68 ?_
    refine fr_aload_n (pc := 69) 0 rfl rfl dX12_digest_69 ?_
    refine fr_getI (pc := 70) (T := TX12) (k := 19) kc_X12 (by decide) w_1287 dX12_digest_70 hW (fun i4 hW => ?_)
    refine fr_i2l (pc := 73) dX12_digest_73 ?_
    obtain ⟨hrc, hW⟩ := hW
    refine fr_callV_V (pc := 74) (As := [.long i4.toInt64]) (st := []) wd_X12_mix w_1408 ok_X12_mix (by decide) rfl (Nat.le_of_ble_eq_true rfl) dX12_digest_74 ⟨Nat.le_refl 0, Nat.le_refl 0⟩ kc_X12 hrc hW (fun s5 hW => ?_)
    refine fr_iconst (pc := 77) 0 (by decide) dX12_digest_77 ?_
    refine fr_istore_n (pc := 78) (lv' := [(1, .int 0), (0, .ref a0)]) rfl (by decide) rfl dX12_digest_78 ?_
    exact fr_sub [1, 0] rfl hW
  · refine fr_iconst (pc := 21) 0 (by decide) dX12_digest_21 ?_
    refine fr_istore_n (pc := 22) (lv' := [(2, .int 0), (0, .ref a0), (1, .int v1)]) rfl (by decide) rfl dX12_digest_22 ?_
    exact fr_sub [1, 2, 0] rfl hW
set_option maxHeartbeats 4000000 in
set_option maxRecDepth 100000 in
theorem q_X12_digest_79 {g : GG} {σ : Hs} {post : Option Value → Hs → Prop} (a0 : Nat) (v1 : Int32) (hW : (4 ≤ v1 → J_X12_digest_141 g post σ a0 0 ) ∧ (¬ 4 ≤ v1 → J_X12_digest_86 g post σ a0 v1 0 )) : J_X12_digest_79 g post σ a0 v1 := by
  show Fr g M_X12_digest (0, 0, 0, 0) [(0, .ref a0), (1, .int v1)] [] 79 σ post
  refine fr_iload_n (pc := 79) 1 rfl rfl dX12_digest_79 ?_
  refine fr_iconst (pc := 80) 4 (by decide) dX12_digest_80 ?_
  refine fr_icmp_ge (pc := 81) (tgt := 139) (by decide) dX12_digest_81 hW (fun hW => ?_) (fun hW => ?_)
  · refine fr_iconst (pc := 139) 0 (by decide) dX12_digest_139 ?_
    refine fr_istore_n (pc := 140) (lv' := [(1, .int 0), (0, .ref a0)]) rfl (by decide) rfl dX12_digest_140 ?_
    exact fr_sub [1, 0] rfl hW
  · refine fr_iconst (pc := 84) 0 (by decide) dX12_digest_84 ?_
    refine fr_istore_n (pc := 85) (lv' := [(2, .int 0), (0, .ref a0), (1, .int v1)]) rfl (by decide) rfl dX12_digest_85 ?_
    exact fr_sub [1, 2, 0] rfl hW
set_option maxHeartbeats 4000000 in
set_option maxRecDepth 100000 in
theorem q_X12_digest_23 {g : GG} {σ : Hs} {post : Option Value → Hs → Prop} (a0 : Nat) (v1 : Int32) (v2 : Int32) (hW : (8 ≤ v2 → FR σ a0 12 18 (fun r6 => AI g σ r6 0 v1 (fun i7 => Rc σ a0 12 ∧ Do g M_X12_mix 0 0 [.ref a0, .long i7.toInt64] σ (kV (fun s8 => J_X12_digest_13 g post s8 a0 ((v1 + 1)) ))))) ∧ (¬ 8 ≤ v2 → FR σ a0 12 15 (fun r9 => AI g σ r9 0 ((8 * v1) + v2) (fun i10 => Rc σ a0 12 ∧ Do g M_X12_mix 0 0 [.ref a0, .long i10.toInt64] σ (kV (fun s11 => J_X12_digest_23 g post s11 a0 v1 ((v2 + 1)) )))))) : J_X12_digest_23 g post σ a0 v1 v2 := by
  show Fr g M_X12_digest (0, 0, 0, 0) [(0, .ref a0), (1, .int v1), (2, .int v2)] [] 23 σ post
  refine fr_iload_n (pc := 23) 2 rfl rfl dX12_digest_23 ?_
  refine fr_bipush (pc := 24) 8 (by decide) dX12_digest_24 ?_
  refine fr_icmp_ge (pc := 26) (tgt := 51) (by decide) dX12_digest_26 hW (fun hW => ?_) (fun hW => ?_)
  · refine fr_aload_n (pc := 51) 0 rfl rfl dX12_digest_51 ?_
    refine fr_aload_n (pc := 52) 0 rfl rfl dX12_digest_52 ?_
    refine fr_getR (pc := 53) (T := TX12) (k := 18) kc_X12 (by decide) w_1021 dX12_digest_53 hW (fun r6 hW => ?_)
    refine fr_iload_n (pc := 56) 1 rfl rfl dX12_digest_56 ?_
    refine fr_iald (pc := 57) dX12_digest_57 hW (fun i7 hW => ?_)
    refine fr_i2l (pc := 58) dX12_digest_58 ?_
    obtain ⟨hrc, hW⟩ := hW
    refine fr_callV_V (pc := 59) (As := [.long i7.toInt64]) (st := []) wd_X12_mix w_1408 ok_X12_mix (by decide) rfl (Nat.le_of_ble_eq_true rfl) dX12_digest_59 ⟨Nat.le_refl 0, Nat.le_refl 0⟩ kc_X12 hrc hW (fun s8 hW => ?_)
    refine fr_iinc (pc := 62) (lv' := [(1, .int (v1 + 1)), (0, .ref a0), (2, .int v2)]) (v1 + 1) 1 rfl (congrArg (fun z => v1 + z) (by decide)) (by decide) rfl dX12_digest_62 ?_
    refine fr_goto (pc := 65) (tgt := 13) (by decide) dX12_digest_65 ?_
    exact fr_sub [1, 0] rfl hW
  · refine fr_aload_n (pc := 29) 0 rfl rfl dX12_digest_29 ?_
    refine fr_aload_n (pc := 30) 0 rfl rfl dX12_digest_30 ?_
    refine fr_getR (pc := 31) (T := TX12) (k := 15) kc_X12 (by decide) w_1018 dX12_digest_31 hW (fun r9 hW => ?_)
    refine fr_bipush (pc := 34) 8 (by decide) dX12_digest_34 ?_
    refine fr_iload_n (pc := 36) 1 rfl rfl dX12_digest_36 ?_
    refine fr_imul (pc := 37) dX12_digest_37 ?_
    refine fr_iload_n (pc := 38) 2 rfl rfl dX12_digest_38 ?_
    refine fr_iadd (pc := 39) dX12_digest_39 ?_
    refine fr_iald (pc := 40) dX12_digest_40 hW (fun i10 hW => ?_)
    refine fr_i2l (pc := 41) dX12_digest_41 ?_
    obtain ⟨hrc, hW⟩ := hW
    refine fr_callV_V (pc := 42) (As := [.long i10.toInt64]) (st := []) wd_X12_mix w_1408 ok_X12_mix (by decide) rfl (Nat.le_of_ble_eq_true rfl) dX12_digest_42 ⟨Nat.le_refl 0, Nat.le_refl 0⟩ kc_X12 hrc hW (fun s11 hW => ?_)
    refine fr_iinc (pc := 45) (lv' := [(2, .int (v2 + 1)), (0, .ref a0), (1, .int v1)]) (v2 + 1) 2 rfl (congrArg (fun z => v2 + z) (by decide)) (by decide) rfl dX12_digest_45 ?_
    refine fr_goto (pc := 48) (tgt := 23) (by decide) dX12_digest_48 ?_
    exact fr_sub [1, 2, 0] rfl hW
set_option maxHeartbeats 4000000 in
set_option maxRecDepth 100000 in
theorem q_X12_digest_141 {g : GG} {σ : Hs} {post : Option Value → Hs → Prop} (a0 : Nat) (v1 : Int32) (hW : FI σ a0 12 12 (fun i12 => (i12 ≤ v1 → J_X12_digest_168 g post σ a0 0 ) ∧ (¬ i12 ≤ v1 → FR σ a0 12 13 (fun r13 => AI g σ r13 2 v1 (fun i14 => Rc σ a0 12 ∧ Do g M_X12_mix 0 0 [.ref a0, .long i14.toInt64] σ (kV (fun s15 => J_X12_digest_141 g post s15 a0 ((v1 + 1)) ))))))) : J_X12_digest_141 g post σ a0 v1 := by
  show Fr g M_X12_digest (0, 0, 0, 0) [(0, .ref a0), (1, .int v1)] [] 141 σ post
  refine fr_iload_n (pc := 141) 1 rfl rfl dX12_digest_141 ?_
  refine fr_aload_n (pc := 142) 0 rfl rfl dX12_digest_142 ?_
  refine fr_getI (pc := 143) (T := TX12) (k := 12) kc_X12 (by decide) w_1154 dX12_digest_143 hW (fun i12 hW => ?_)
  refine fr_icmp_ge (pc := 146) (tgt := 166) (by decide) dX12_digest_146 hW (fun hW => ?_) (fun hW => ?_)
  · refine fr_iconst (pc := 166) 0 (by decide) dX12_digest_166 ?_
    refine fr_istore_n (pc := 167) (lv' := [(1, .int 0), (0, .ref a0)]) rfl (by decide) rfl dX12_digest_167 ?_
    exact fr_sub [1, 0] rfl hW
  · refine fr_aload_n (pc := 149) 0 rfl rfl dX12_digest_149 ?_
    refine fr_aload_n (pc := 150) 0 rfl rfl dX12_digest_150 ?_
    refine fr_getR (pc := 151) (T := TX12) (k := 13) kc_X12 (by decide) w_1017 dX12_digest_151 hW (fun r13 hW => ?_)
    refine fr_iload_n (pc := 154) 1 rfl rfl dX12_digest_154 ?_
    refine fr_bald (pc := 155) dX12_digest_155 hW (fun i14 hW => ?_)
    refine fr_i2l (pc := 156) dX12_digest_156 ?_
    obtain ⟨hrc, hW⟩ := hW
    refine fr_callV_V (pc := 157) (As := [.long i14.toInt64]) (st := []) wd_X12_mix w_1408 ok_X12_mix (by decide) rfl (Nat.le_of_ble_eq_true rfl) dX12_digest_157 ⟨Nat.le_refl 0, Nat.le_refl 0⟩ kc_X12 hrc hW (fun s15 hW => ?_)
    refine fr_iinc (pc := 160) (lv' := [(1, .int (v1 + 1)), (0, .ref a0)]) (v1 + 1) 1 rfl (congrArg (fun z => v1 + z) (by decide)) (by decide) rfl dX12_digest_160 ?_
    refine fr_goto (pc := 163) (tgt := 141) (by decide) dX12_digest_163 ?_
    exact fr_sub [1, 0] rfl hW
set_option maxHeartbeats 4000000 in
set_option maxRecDepth 100000 in
theorem q_X12_digest_86 {g : GG} {σ : Hs} {post : Option Value → Hs → Prop} (a0 : Nat) (v1 : Int32) (v2 : Int32) (hW : (4 ≤ v2 → J_X12_digest_79 g post σ a0 ((v1 + 1)) ) ∧ (¬ 4 ≤ v2 → Rc σ a0 12 ∧ Do g M_X12_partOf 0 0 [.ref a0, .int v1, .int v2, .int 0] σ (kI (fun i17 s16 => Rc s16 a0 12 ∧ Do g M_X12_mix 0 0 [.ref a0, .long i17.toInt64] s16 (kV (fun s20 => Rc s20 a0 12 ∧ Do g M_X12_partOf 0 0 [.ref a0, .int v1, .int v2, .int 1] s20 (kI (fun i22 s21 => Rc s21 a0 12 ∧ Do g M_X12_mix 0 0 [.ref a0, .long i22.toInt64] s21 (kV (fun s25 => Rc s25 a0 12 ∧ Do g M_X12_partOf 0 0 [.ref a0, .int v1, .int v2, .int 2] s25 (kI (fun i27 s26 => Rc s26 a0 12 ∧ Do g M_X12_mix 0 0 [.ref a0, .long i27.toInt64] s26 (kV (fun s30 => J_X12_digest_86 g post s30 a0 v1 ((v2 + 1)) )))))))))))))) : J_X12_digest_86 g post σ a0 v1 v2 := by
  show Fr g M_X12_digest (0, 0, 0, 0) [(0, .ref a0), (1, .int v1), (2, .int v2)] [] 86 σ post
  refine fr_iload_n (pc := 86) 2 rfl rfl dX12_digest_86 ?_
  refine fr_iconst (pc := 87) 4 (by decide) dX12_digest_87 ?_
  refine fr_icmp_ge (pc := 88) (tgt := 133) (by decide) dX12_digest_88 hW (fun hW => ?_) (fun hW => ?_)
  · refine fr_iinc (pc := 133) (lv' := [(1, .int (v1 + 1)), (0, .ref a0), (2, .int v2)]) (v1 + 1) 1 rfl (congrArg (fun z => v1 + z) (by decide)) (by decide) rfl dX12_digest_133 ?_
    refine fr_goto (pc := 136) (tgt := 79) (by decide) dX12_digest_136 ?_
    exact fr_sub [1, 0] rfl hW
  · refine fr_aload_n (pc := 91) 0 rfl rfl dX12_digest_91 ?_
    refine fr_aload_n (pc := 92) 0 rfl rfl dX12_digest_92 ?_
    refine fr_iload_n (pc := 93) 1 rfl rfl dX12_digest_93 ?_
    refine fr_iload_n (pc := 94) 2 rfl rfl dX12_digest_94 ?_
    refine fr_iconst (pc := 95) 0 (by decide) dX12_digest_95 ?_
    obtain ⟨hrc, hW⟩ := hW
    refine fr_callV_I (pc := 96) (As := [.int v1, .int v2, .int 0]) (st := [.ref a0]) wd_X12_partOf w_1340 ok_X12_partOf (by decide) rfl (Nat.le_of_ble_eq_true rfl) dX12_digest_96 ⟨Nat.le_refl 0, Nat.le_refl 0⟩ kc_X12 hrc hW (fun i17 s16 hW => ?_)
    refine fr_i2l (pc := 99) dX12_digest_99 ?_
    obtain ⟨hrc, hW⟩ := hW
    refine fr_callV_V (pc := 100) (As := [.long i17.toInt64]) (st := []) wd_X12_mix w_1408 ok_X12_mix (by decide) rfl (Nat.le_of_ble_eq_true rfl) dX12_digest_100 ⟨Nat.le_refl 0, Nat.le_refl 0⟩ kc_X12 hrc hW (fun s20 hW => ?_)
    refine fr_aload_n (pc := 103) 0 rfl rfl dX12_digest_103 ?_
    refine fr_aload_n (pc := 104) 0 rfl rfl dX12_digest_104 ?_
    refine fr_iload_n (pc := 105) 1 rfl rfl dX12_digest_105 ?_
    refine fr_iload_n (pc := 106) 2 rfl rfl dX12_digest_106 ?_
    refine fr_iconst (pc := 107) 1 (by decide) dX12_digest_107 ?_
    obtain ⟨hrc, hW⟩ := hW
    refine fr_callV_I (pc := 108) (As := [.int v1, .int v2, .int 1]) (st := [.ref a0]) wd_X12_partOf w_1340 ok_X12_partOf (by decide) rfl (Nat.le_of_ble_eq_true rfl) dX12_digest_108 ⟨Nat.le_refl 0, Nat.le_refl 0⟩ kc_X12 hrc hW (fun i22 s21 hW => ?_)
    refine fr_i2l (pc := 111) dX12_digest_111 ?_
    obtain ⟨hrc, hW⟩ := hW
    refine fr_callV_V (pc := 112) (As := [.long i22.toInt64]) (st := []) wd_X12_mix w_1408 ok_X12_mix (by decide) rfl (Nat.le_of_ble_eq_true rfl) dX12_digest_112 ⟨Nat.le_refl 0, Nat.le_refl 0⟩ kc_X12 hrc hW (fun s25 hW => ?_)
    refine fr_aload_n (pc := 115) 0 rfl rfl dX12_digest_115 ?_
    refine fr_aload_n (pc := 116) 0 rfl rfl dX12_digest_116 ?_
    refine fr_iload_n (pc := 117) 1 rfl rfl dX12_digest_117 ?_
    refine fr_iload_n (pc := 118) 2 rfl rfl dX12_digest_118 ?_
    refine fr_iconst (pc := 119) 2 (by decide) dX12_digest_119 ?_
    obtain ⟨hrc, hW⟩ := hW
    refine fr_callV_I (pc := 120) (As := [.int v1, .int v2, .int 2]) (st := [.ref a0]) wd_X12_partOf w_1340 ok_X12_partOf (by decide) rfl (Nat.le_of_ble_eq_true rfl) dX12_digest_120 ⟨Nat.le_refl 0, Nat.le_refl 0⟩ kc_X12 hrc hW (fun i27 s26 hW => ?_)
    refine fr_i2l (pc := 123) dX12_digest_123 ?_
    obtain ⟨hrc, hW⟩ := hW
    refine fr_callV_V (pc := 124) (As := [.long i27.toInt64]) (st := []) wd_X12_mix w_1408 ok_X12_mix (by decide) rfl (Nat.le_of_ble_eq_true rfl) dX12_digest_124 ⟨Nat.le_refl 0, Nat.le_refl 0⟩ kc_X12 hrc hW (fun s30 hW => ?_)
    refine fr_iinc (pc := 127) (lv' := [(2, .int (v2 + 1)), (0, .ref a0), (1, .int v1)]) (v2 + 1) 2 rfl (congrArg (fun z => v2 + z) (by decide)) (by decide) rfl dX12_digest_127 ?_
    refine fr_goto (pc := 130) (tgt := 86) (by decide) dX12_digest_130 ?_
    exact fr_sub [1, 2, 0] rfl hW
set_option maxHeartbeats 4000000 in
set_option maxRecDepth 100000 in
theorem q_X12_digest_168 {g : GG} {σ : Hs} {post : Option Value → Hs → Prop} (a0 : Nat) (v1 : Int32) (hW : (9 ≤ v1 → FL σ a0 12 39 (fun l31 => post (some (.long l31)) σ)) ∧ (¬ 9 ≤ v1 → Rc σ a0 12 ∧ Do g M_X12_countOf 0 0 [.ref a0, .int v1] σ (kI (fun i33 s32 => Rc s32 a0 12 ∧ Do g M_X12_mix 0 0 [.ref a0, .long i33.toInt64] s32 (kV (fun s36 => J_X12_digest_168 g post s36 a0 ((v1 + 1)) )))))) : J_X12_digest_168 g post σ a0 v1 := by
  show Fr g M_X12_digest (0, 0, 0, 0) [(0, .ref a0), (1, .int v1)] [] 168 σ post
  refine fr_iload_n (pc := 168) 1 rfl rfl dX12_digest_168 ?_
  refine fr_bipush (pc := 169) 9 (by decide) dX12_digest_169 ?_
  refine fr_icmp_ge (pc := 171) (tgt := 190) (by decide) dX12_digest_171 hW (fun hW => ?_) (fun hW => ?_)
  · refine fr_aload_n (pc := 190) 0 rfl rfl dX12_digest_190 ?_
    refine fr_getL (pc := 191) (T := TX12) (k := 39) kc_X12 (by decide) w_1406 dX12_digest_191 hW (fun l31 hW => ?_)
    exact fr_lret (pc := 194) dX12_digest_194 rfl ⟨Nat.le_refl 0, Nat.le_refl 0⟩ hW
  · refine fr_aload_n (pc := 174) 0 rfl rfl dX12_digest_174 ?_
    refine fr_aload_n (pc := 175) 0 rfl rfl dX12_digest_175 ?_
    refine fr_iload_n (pc := 176) 1 rfl rfl dX12_digest_176 ?_
    obtain ⟨hrc, hW⟩ := hW
    refine fr_callV_I (pc := 177) (As := [.int v1]) (st := [.ref a0]) wd_X12_countOf w_1390 ok_X12_countOf (by decide) rfl (Nat.le_of_ble_eq_true rfl) dX12_digest_177 ⟨Nat.le_refl 0, Nat.le_refl 0⟩ kc_X12 hrc hW (fun i33 s32 hW => ?_)
    refine fr_i2l (pc := 180) dX12_digest_180 ?_
    obtain ⟨hrc, hW⟩ := hW
    refine fr_callV_V (pc := 181) (As := [.long i33.toInt64]) (st := []) wd_X12_mix w_1408 ok_X12_mix (by decide) rfl (Nat.le_of_ble_eq_true rfl) dX12_digest_181 ⟨Nat.le_refl 0, Nat.le_refl 0⟩ kc_X12 hrc hW (fun s36 hW => ?_)
    refine fr_iinc (pc := 184) (lv' := [(1, .int (v1 + 1)), (0, .ref a0)]) (v1 + 1) 1 rfl (congrArg (fun z => v1 + z) (by decide)) (by decide) rfl dX12_digest_184 ?_
    refine fr_goto (pc := 187) (tgt := 168) (by decide) dX12_digest_187 ?_
    exact fr_sub [1, 0] rfl hW
