def J_X12_isSortedBy_2 (g : GG) (post : Option Value → Hs → Prop) (σ : Hs) (a0 : Nat) (v1 : Int32) (v2 : Int32) (v3 : Int32) : Prop := Fr g M_X12_isSortedBy (0, 0, 0, 0) [(0, .ref a0), (1, .int v1), (2, .int v2), (3, .int v3)] [] 2 σ post
def J_X12_isSortedBy_39 (g : GG) (post : Option Value → Hs → Prop) (σ : Hs) (a0 : Nat) (v1 : Int32) (v2 : Int32) (v3 : Int32) : Prop := Fr g M_X12_isSortedBy (0, 0, 0, 0) [(0, .ref a0), (1, .int v1), (2, .int v2), (3, .int v3)] [] 39 σ post
set_option maxHeartbeats 4000000 in
set_option maxRecDepth 100000 in
theorem q_X12_isSortedBy {g : GG} {σ : Hs} {post : Option Value → Hs → Prop} (r0 : Nat) (p0 : Int32) (p1 : Int32) (hW : J_X12_isSortedBy_2 g post σ r0 p0 p1 0 ) : Do g M_X12_isSortedBy 0 0 [.ref r0, .int p0, .int p1] σ post := by
  refine Do.of (by decide +kernel) (Nat.le_of_ble_eq_true rfl) ?_
  show Fr g M_X12_isSortedBy (0, 0, 0, 0) [(0, .ref r0), (1, .int p0), (2, .int p1)] [] 0 σ post
  refine fr_iconst (pc := 0) 0 (by decide) dX12_isSortedBy_0 ?_
  refine fr_istore_n (pc := 1) (lv' := [(3, .int 0), (0, .ref r0), (1, .int p0), (2, .int p1)]) rfl (by decide) rfl dX12_isSortedBy_1 ?_
  exact fr_sub [1, 2, 3, 0] rfl hW
set_option maxHeartbeats 4000000 in
set_option maxRecDepth 100000 in
theorem q_X12_isSortedBy_2 {g : GG} {σ : Hs} {post : Option Value → Hs → Prop} (a0 : Nat) (v1 : Int32) (v2 : Int32) (v3 : Int32) (hW : FR σ a0 12 5 (fun r1 => AI g σ r1 0 v2 (fun i2 => Do g M_X12_keySize 0 0 [.int i2] σ (kI (fun i4 s3 => (i4 ≤ v3 → J_X12_isSortedBy_39 g post s3 a0 v1 v2 v3 ) ∧ (¬ i4 ≤ v3 → FR s3 a0 12 5 (fun r7 => AI g s3 r7 0 v2 (fun i8 => Do g M_X12_keyAt 0 0 [.int i8, .int v3] s3 (kI (fun i10 s9 => Rc s9 a0 12 ∧ Do g M_X12_isFixed 0 0 [.ref a0, .int v1, .int i10] s9 (kI (fun i14 s13 => (i14 = 0 → J_X12_isSortedBy_39 g post s13 a0 v1 v2 v3 ) ∧ (¬ i14 = 0 → J_X12_isSortedBy_2 g post s13 a0 v1 v2 ((v3 + 1)) ))))))))))))) : J_X12_isSortedBy_2 g post σ a0 v1 v2 v3 := by
  show Fr g M_X12_isSortedBy (0, 0, 0, 0) [(0, .ref a0), (1, .int v1), (2, .int v2), (3, .int v3)] [] 2 σ post
  refine fr_iload_n (pc := 2) 3 rfl rfl dX12_isSortedBy_2 ?_
  refine fr_aload_n (pc := 3) 0 rfl rfl dX12_isSortedBy_3 ?_
  refine fr_getR (pc := 4) (T := TX12) (k := 5) kc_X12 (by decide) w_1009 dX12_isSortedBy_4 hW (fun r1 hW => ?_)
  refine fr_iload_n (pc := 7) 2 rfl rfl dX12_isSortedBy_7 ?_
  refine fr_iald (pc := 8) dX12_isSortedBy_8 hW (fun i2 hW => ?_)
  refine fr_callS_I (pc := 9) (As := [.int i2]) (st := [.int v3]) wd_X12_keySize w_1068 ok_X12_keySize (by decide) rfl (Nat.le_of_ble_eq_true rfl) dX12_isSortedBy_9 ⟨Nat.le_refl 0, Nat.le_refl 0⟩ hW (fun i4 s3 hW => ?_)
  refine fr_icmp_ge (pc := 12) (tgt := 39) (by decide) dX12_isSortedBy_12 hW (fun hW => ?_) (fun hW => ?_)
  · exact fr_sub [0, 1, 2, 3] rfl hW
  · refine fr_aload_n (pc := 15) 0 rfl rfl dX12_isSortedBy_15 ?_
    refine fr_iload_n (pc := 16) 1 rfl rfl dX12_isSortedBy_16 ?_
    refine fr_aload_n (pc := 17) 0 rfl rfl dX12_isSortedBy_17 ?_
    refine fr_getR (pc := 18) (T := TX12) (k := 5) kc_X12 (by decide) w_1009 dX12_isSortedBy_18 hW (fun r7 hW => ?_)
    refine fr_iload_n (pc := 21) 2 rfl rfl dX12_isSortedBy_21 ?_
    refine fr_iald (pc := 22) dX12_isSortedBy_22 hW (fun i8 hW => ?_)
    refine fr_iload_n (pc := 23) 3 rfl rfl dX12_isSortedBy_23 ?_
    refine fr_callS_I (pc := 24) (As := [.int i8, .int v3]) (st := [.int v1, .ref a0]) wd_X12_keyAt w_1069 ok_X12_keyAt (by decide) rfl (Nat.le_of_ble_eq_true rfl) dX12_isSortedBy_24 ⟨Nat.le_refl 0, Nat.le_refl 0⟩ hW (fun i10 s9 hW => ?_)
    obtain ⟨hrc, hW⟩ := hW
    refine fr_callV_I (pc := 27) (As := [.int v1, .int i10]) (st := []) wd_X12_isFixed w_1252 ok_X12_isFixed (by decide) rfl (Nat.le_of_ble_eq_true rfl) dX12_isSortedBy_27 ⟨Nat.le_refl 0, Nat.le_refl 0⟩ kc_X12 hrc hW (fun i14 s13 hW => ?_)
    refine fr_if_eq (pc := 30) (tgt := 39) (by decide) dX12_isSortedBy_30 hW (fun hW => ?_) (fun hW => ?_)
    · exact fr_sub [0, 1, 2, 3] rfl hW
    · refine fr_iinc (pc := 33) (lv' := [(3, .int (v3 + 1)), (0, .ref a0), (1, .int v1), (2, .int v2)]) (v3 + 1) 3 rfl (congrArg (fun z => v3 + z) (by decide)) (by decide) rfl dX12_isSortedBy_33 ?_
      refine fr_goto (pc := 36) (tgt := 2) (by decide) dX12_isSortedBy_36 ?_
      exact fr_sub [1, 2, 3, 0] rfl hW
set_option maxHeartbeats 4000000 in
set_option maxRecDepth 100000 in
theorem q_X12_isSortedBy_39 {g : GG} {σ : Hs} {post : Option Value → Hs → Prop} (a0 : Nat) (v1 : Int32) (v2 : Int32) (v3 : Int32) (hW : Rc σ a0 12 ∧ Do g M_X12_isSorted 0 0 [.ref a0, .int v1] σ (kI (fun i18 s17 => (¬ i18 = 0 → post (some (.int 1)) s17) ∧ (i18 = 0 → FR s17 a0 12 5 (fun r21 => AI g s17 r21 0 v2 (fun i22 => Do g M_X12_keySize 0 0 [.int i22] s17 (kI (fun i24 s23 => (i24 ≤ v3 → post (some (.int 0)) s23) ∧ (¬ i24 ≤ v3 → FR s23 a0 12 5 (fun r27 => AI g s23 r27 0 v2 (fun i28 => Do g M_X12_keyAt 0 0 [.int i28, .int v3] s23 (kI (fun i30 s29 => FR s29 a0 12 17 (fun r33 => AI g s29 r33 0 v1 (fun i34 => (¬ i30 = i34 → post (some (.int 0)) s29) ∧ (i30 = i34 → post (some (.int 1)) s29)))))))))))))))) : J_X12_isSortedBy_39 g post σ a0 v1 v2 v3 := by
  show Fr g M_X12_isSortedBy (0, 0, 0, 0) [(0, .ref a0), (1, .int v1), (2, .int v2), (3, .int v3)] [] 39 σ post
  refine fr_aload_n (pc := 39) 0 rfl rfl dX12_isSortedBy_39 ?_
  refine fr_iload_n (pc := 40) 1 rfl rfl dX12_isSortedBy_40 ?_
  obtain ⟨hrc, hW⟩ := hW
  refine fr_callV_I (pc := 41) (As := [.int v1]) (st := []) wd_X12_isSorted w_1254 ok_X12_isSorted (by decide) rfl (Nat.le_of_ble_eq_true rfl) dX12_isSortedBy_41 ⟨Nat.le_refl 0, Nat.le_refl 0⟩ kc_X12 hrc hW (fun i18 s17 hW => ?_)
  refine fr_if_ne (pc := 44) (tgt := 79) (by decide) dX12_isSortedBy_44 hW (fun hW => ?_) (fun hW => ?_)
  · refine fr_iconst (pc := 79) 1 (by decide) dX12_isSortedBy_79 ?_
    refine fr_goto (pc := 80) (tgt := 84) (by decide) dX12_isSortedBy_80 ?_
    exact fr_zret (pc := 84) dX12_isSortedBy_84 rfl ⟨Nat.le_refl 0, Nat.le_refl 0⟩ ⟨rfl, hW⟩
  · refine fr_iload_n (pc := 47) 3 rfl rfl dX12_isSortedBy_47 ?_
    refine fr_aload_n (pc := 48) 0 rfl rfl dX12_isSortedBy_48 ?_
    refine fr_getR (pc := 49) (T := TX12) (k := 5) kc_X12 (by decide) w_1009 dX12_isSortedBy_49 hW (fun r21 hW => ?_)
    refine fr_iload_n (pc := 52) 2 rfl rfl dX12_isSortedBy_52 ?_
    refine fr_iald (pc := 53) dX12_isSortedBy_53 hW (fun i22 hW => ?_)
    refine fr_callS_I (pc := 54) (As := [.int i22]) (st := [.int v3]) wd_X12_keySize w_1068 ok_X12_keySize (by decide) rfl (Nat.le_of_ble_eq_true rfl) dX12_isSortedBy_54 ⟨Nat.le_refl 0, Nat.le_refl 0⟩ hW (fun i24 s23 hW => ?_)
    refine fr_icmp_ge (pc := 57) (tgt := 83) (by decide) dX12_isSortedBy_57 hW (fun hW => ?_) (fun hW => ?_)
    · refine fr_iconst (pc := 83) 0 (by decide) dX12_isSortedBy_83 ?_
      exact fr_zret (pc := 84) dX12_isSortedBy_84 rfl ⟨Nat.le_refl 0, Nat.le_refl 0⟩ ⟨rfl, hW⟩
    · refine fr_aload_n (pc := 60) 0 rfl rfl dX12_isSortedBy_60 ?_
      refine fr_getR (pc := 61) (T := TX12) (k := 5) kc_X12 (by decide) w_1009 dX12_isSortedBy_61 hW (fun r27 hW => ?_)
      refine fr_iload_n (pc := 64) 2 rfl rfl dX12_isSortedBy_64 ?_
      refine fr_iald (pc := 65) dX12_isSortedBy_65 hW (fun i28 hW => ?_)
      refine fr_iload_n (pc := 66) 3 rfl rfl dX12_isSortedBy_66 ?_
      refine fr_callS_I (pc := 67) (As := [.int i28, .int v3]) (st := []) wd_X12_keyAt w_1069 ok_X12_keyAt (by decide) rfl (Nat.le_of_ble_eq_true rfl) dX12_isSortedBy_67 ⟨Nat.le_refl 0, Nat.le_refl 0⟩ hW (fun i30 s29 hW => ?_)
      refine fr_aload_n (pc := 70) 0 rfl rfl dX12_isSortedBy_70 ?_
      refine fr_getR (pc := 71) (T := TX12) (k := 17) kc_X12 (by decide) w_1020 dX12_isSortedBy_71 hW (fun r33 hW => ?_)
      refine fr_iload_n (pc := 74) 1 rfl rfl dX12_isSortedBy_74 ?_
      refine fr_iald (pc := 75) dX12_isSortedBy_75 hW (fun i34 hW => ?_)
      refine fr_icmp_ne (pc := 76) (tgt := 83) (by decide) dX12_isSortedBy_76 hW (fun hW => ?_) (fun hW => ?_)
      · refine fr_iconst (pc := 83) 0 (by decide) dX12_isSortedBy_83 ?_
        exact fr_zret (pc := 84) dX12_isSortedBy_84 rfl ⟨Nat.le_refl 0, Nat.le_refl 0⟩ ⟨rfl, hW⟩
      · refine fr_iconst (pc := 79) 1 (by decide) dX12_isSortedBy_79 ?_
        refine fr_goto (pc := 80) (tgt := 84) (by decide) dX12_isSortedBy_80 ?_
        exact fr_zret (pc := 84) dX12_isSortedBy_84 rfl ⟨Nat.le_refl 0, Nat.le_refl 0⟩ ⟨rfl, hW⟩
def J_X12_looksBy_26 (g : GG) (post : Option Value → Hs → Prop) (σ : Hs) (a0 : Nat) (v1 : Int32) (v2 : Int32) (t0 : Int32) (t1 : Int32) : Prop := Fr g M_X12_looksBy (0, 0, 0, 0) [(0, .ref a0), (1, .int v1), (2, .int v2)] [.int t0, .int t1] 26 σ post
set_option maxHeartbeats 4000000 in
set_option maxRecDepth 100000 in
theorem q_X12_looksBy {g : GG} {σ : Hs} {post : Option Value → Hs → Prop} (r0 : Nat) (p0 : Int32) (p1 : Int32) (hW : Rc σ r0 12 ∧ Do g M_X12_wayDown 0 0 [.ref r0, .int p0, .int p1] σ (kI (fun i2 s1 => Rc s1 r0 12 ∧ Do g M_X12_isCovered 0 0 [.ref r0, .int p0, .int p1] s1 (kI (fun i6 s5 => (i6 = 0 → Rc s5 r0 12 ∧ Do g M_X12_pagesLeft 0 0 [.ref r0, .int p0, .int p1, .int p1] s5 (kI (fun i10 s9 => J_X12_looksBy_26 g post s9 r0 p0 p1 i10 i2))) ∧ (¬ i6 = 0 → J_X12_looksBy_26 g post s5 r0 p0 p1 0 i2)))))) : Do g M_X12_looksBy 0 0 [.ref r0, .int p0, .int p1] σ post := by
  refine Do.of (by decide +kernel) (Nat.le_of_ble_eq_true rfl) ?_
  show Fr g M_X12_looksBy (0, 0, 0, 0) [(0, .ref r0), (1, .int p0), (2, .int p1)] [] 0 σ post
  refine fr_aload_n (pc := 0) 0 rfl rfl dX12_looksBy_0 ?_
  refine fr_iload_n (pc := 1) 1 rfl rfl dX12_looksBy_1 ?_
  refine fr_iload_n (pc := 2) 2 rfl rfl dX12_looksBy_2 ?_
  obtain ⟨hrc, hW⟩ := hW
  refine fr_callV_I (pc := 3) (As := [.int p0, .int p1]) (st := []) wd_X12_wayDown w_1260 ok_X12_wayDown (by decide) rfl (Nat.le_of_ble_eq_true rfl) dX12_looksBy_3 ⟨Nat.le_refl 0, Nat.le_refl 0⟩ kc_X12 hrc hW (fun i2 s1 hW => ?_)
  refine fr_aload_n (pc := 6) 0 rfl rfl dX12_looksBy_6 ?_
  refine fr_iload_n (pc := 7) 1 rfl rfl dX12_looksBy_7 ?_
  refine fr_iload_n (pc := 8) 2 rfl rfl dX12_looksBy_8 ?_
  obtain ⟨hrc, hW⟩ := hW
  refine fr_callV_I (pc := 9) (As := [.int p0, .int p1]) (st := [.int i2]) wd_X12_isCovered w_1261 ok_X12_isCovered (by decide) rfl (Nat.le_of_ble_eq_true rfl) dX12_looksBy_9 ⟨Nat.le_refl 0, Nat.le_refl 0⟩ kc_X12 hrc hW (fun i6 s5 hW => ?_)
  refine fr_if_eq (pc := 12) (tgt := 19) (by decide) dX12_looksBy_12 hW (fun hW => ?_) (fun hW => ?_)
  · refine fr_aload_n (pc := 19) 0 rfl rfl dX12_looksBy_19 ?_
    refine fr_iload_n (pc := 20) 1 rfl rfl dX12_looksBy_20 ?_
    refine fr_iload_n (pc := 21) 2 rfl rfl dX12_looksBy_21 ?_
    refine fr_iload_n (pc := 22) 2 rfl rfl dX12_looksBy_22 ?_
    obtain ⟨hrc, hW⟩ := hW
    refine fr_callV_I (pc := 23) (As := [.int p0, .int p1, .int p1]) (st := [.int i2]) wd_X12_pagesLeft w_1262 ok_X12_pagesLeft (by decide) rfl (Nat.le_of_ble_eq_true rfl) dX12_looksBy_23 ⟨Nat.le_refl 0, Nat.le_refl 0⟩ kc_X12 hrc hW (fun i10 s9 hW => ?_)
    exact fr_sub [0, 1, 2] rfl hW
  · refine fr_iconst (pc := 15) 0 (by decide) dX12_looksBy_15 ?_
    refine fr_goto (pc := 16) (tgt := 26) (by decide) dX12_looksBy_16 ?_
    exact fr_sub [0, 1, 2] rfl hW
set_option maxHeartbeats 4000000 in
set_option maxRecDepth 100000 in
theorem q_X12_looksBy_26 {g : GG} {σ : Hs} {post : Option Value → Hs → Prop} (a0 : Nat) (v1 : Int32) (v2 : Int32) (t0 : Int32) (t1 : Int32) (hW : Rc σ a0 12 ∧ Do g M_X12_isSortedBy 0 0 [.ref a0, .int v1, .int v2] σ (kI (fun i14 s13 => (i14 = 0 → Rc s13 a0 12 ∧ Do g M_X12_answersOf 0 0 [.ref a0, .int v1] s13 (kI (fun i18 s17 => post (some (.int ((t1 + t0) + i18))) s17))) ∧ (¬ i14 = 0 → post (some (.int ((t1 + t0) + 0))) s13)))) : J_X12_looksBy_26 g post σ a0 v1 v2 t0 t1 := by
  show Fr g M_X12_looksBy (0, 0, 0, 0) [(0, .ref a0), (1, .int v1), (2, .int v2)] [.int t0, .int t1] 26 σ post
  refine fr_iadd (pc := 26) dX12_looksBy_26 ?_
  refine fr_aload_n (pc := 27) 0 rfl rfl dX12_looksBy_27 ?_
  refine fr_iload_n (pc := 28) 1 rfl rfl dX12_looksBy_28 ?_
  refine fr_iload_n (pc := 29) 2 rfl rfl dX12_looksBy_29 ?_
  obtain ⟨hrc, hW⟩ := hW
  refine fr_callV_I (pc := 30) (As := [.int v1, .int v2]) (st := [.int (t1 + t0)]) wd_X12_isSortedBy w_1263 ok_X12_isSortedBy (by decide) rfl (Nat.le_of_ble_eq_true rfl) dX12_looksBy_30 ⟨Nat.le_refl 0, Nat.le_refl 0⟩ kc_X12 hrc hW (fun i14 s13 hW => ?_)
  refine fr_if_eq (pc := 33) (tgt := 40) (by decide) dX12_looksBy_33 hW (fun hW => ?_) (fun hW => ?_)
  · refine fr_aload_n (pc := 40) 0 rfl rfl dX12_looksBy_40 ?_
    refine fr_iload_n (pc := 41) 1 rfl rfl dX12_looksBy_41 ?_
    obtain ⟨hrc, hW⟩ := hW
    refine fr_callV_I (pc := 42) (As := [.int v1]) (st := [.int (t1 + t0)]) wd_X12_answersOf w_1216 ok_X12_answersOf (by decide) rfl (Nat.le_of_ble_eq_true rfl) dX12_looksBy_42 ⟨Nat.le_refl 0, Nat.le_refl 0⟩ kc_X12 hrc hW (fun i18 s17 hW => ?_)
    refine fr_iadd (pc := 45) dX12_looksBy_45 ?_
    exact fr_iret (pc := 46) dX12_looksBy_46 rfl ⟨Nat.le_refl 0, Nat.le_refl 0⟩ hW
  · refine fr_iconst (pc := 36) 0 (by decide) dX12_looksBy_36 ?_
    refine fr_goto (pc := 37) (tgt := 45) (by decide) dX12_looksBy_37 ?_
    refine fr_iadd (pc := 45) dX12_looksBy_45 ?_
    exact fr_iret (pc := 46) dX12_looksBy_46 rfl ⟨Nat.le_refl 0, Nat.le_refl 0⟩ hW
set_option maxHeartbeats 4000000 in
set_option maxRecDepth 100000 in
theorem q_X12_looksByBoth {g : GG} {σ : Hs} {post : Option Value → Hs → Prop} (r0 : Nat) (p0 : Int32) (p1 : Int32) (p2 : Int32) (hW : Rc σ r0 12 ∧ Do g M_X12_wayDown 0 0 [.ref r0, .int p0, .int p1] σ (kI (fun i2 s1 => Rc s1 r0 12 ∧ Do g M_X12_wayDown 0 0 [.ref r0, .int p0, .int p2] s1 (kI (fun i6 s5 => Rc s5 r0 12 ∧ Do g M_X12_pagesLeft 0 0 [.ref r0, .int p0, .int p1, .int p2] s5 (kI (fun i10 s9 => Rc s9 r0 12 ∧ Do g M_X12_isSorted 0 0 [.ref r0, .int p0] s9 (kI (fun i14 s13 => (i14 = 0 → Rc s13 r0 12 ∧ Do g M_X12_answersOf 0 0 [.ref r0, .int p0] s13 (kI (fun i18 s17 => post (some (.int (((i2 + i6) + i10) + i18))) s17))) ∧ (¬ i14 = 0 → post (some (.int (((i2 + i6) + i10) + 0))) s13)))))))))) : Do g M_X12_looksByBoth 0 0 [.ref r0, .int p0, .int p1, .int p2] σ post := by
  refine Do.of (by decide +kernel) (Nat.le_of_ble_eq_true rfl) ?_
  show Fr g M_X12_looksByBoth (0, 0, 0, 0) [(0, .ref r0), (1, .int p0), (2, .int p1), (3, .int p2)] [] 0 σ post
  refine fr_aload_n (pc := 0) 0 rfl rfl dX12_looksByBoth_0 ?_
  refine fr_iload_n (pc := 1) 1 rfl rfl dX12_looksByBoth_1 ?_
  refine fr_iload_n (pc := 2) 2 rfl rfl dX12_looksByBoth_2 ?_
  obtain ⟨hrc, hW⟩ := hW
  refine fr_callV_I (pc := 3) (As := [.int p0, .int p1]) (st := []) wd_X12_wayDown w_1260 ok_X12_wayDown (by decide) rfl (Nat.le_of_ble_eq_true rfl) dX12_looksByBoth_3 ⟨Nat.le_refl 0, Nat.le_refl 0⟩ kc_X12 hrc hW (fun i2 s1 hW => ?_)
  refine fr_aload_n (pc := 6) 0 rfl rfl dX12_looksByBoth_6 ?_
  refine fr_iload_n (pc := 7) 1 rfl rfl dX12_looksByBoth_7 ?_
  refine fr_iload_n (pc := 8) 3 rfl rfl dX12_looksByBoth_8 ?_
  obtain ⟨hrc, hW⟩ := hW
  refine fr_callV_I (pc := 9) (As := [.int p0, .int p2]) (st := [.int i2]) wd_X12_wayDown w_1260 ok_X12_wayDown (by decide) rfl (Nat.le_of_ble_eq_true rfl) dX12_looksByBoth_9 ⟨Nat.le_refl 0, Nat.le_refl 0⟩ kc_X12 hrc hW (fun i6 s5 hW => ?_)
  refine fr_iadd (pc := 12) dX12_looksByBoth_12 ?_
  refine fr_aload_n (pc := 13) 0 rfl rfl dX12_looksByBoth_13 ?_
  refine fr_iload_n (pc := 14) 1 rfl rfl dX12_looksByBoth_14 ?_
  refine fr_iload_n (pc := 15) 2 rfl rfl dX12_looksByBoth_15 ?_
  refine fr_iload_n (pc := 16) 3 rfl rfl dX12_looksByBoth_16 ?_
  obtain ⟨hrc, hW⟩ := hW
  refine fr_callV_I (pc := 17) (As := [.int p0, .int p1, .int p2]) (st := [.int (i2 + i6)]) wd_X12_pagesLeft w_1262 ok_X12_pagesLeft (by decide) rfl (Nat.le_of_ble_eq_true rfl) dX12_looksByBoth_17 ⟨Nat.le_refl 0, Nat.le_refl 0⟩ kc_X12 hrc hW (fun i10 s9 hW => ?_)
  refine fr_iadd (pc := 20) dX12_looksByBoth_20 ?_
  refine fr_aload_n (pc := 21) 0 rfl rfl dX12_looksByBoth_21 ?_
  refine fr_iload_n (pc := 22) 1 rfl rfl dX12_looksByBoth_22 ?_
  obtain ⟨hrc, hW⟩ := hW
  refine fr_callV_I (pc := 23) (As := [.int p0]) (st := [.int ((i2 + i6) + i10)]) wd_X12_isSorted w_1254 ok_X12_isSorted (by decide) rfl (Nat.le_of_ble_eq_true rfl) dX12_looksByBoth_23 ⟨Nat.le_refl 0, Nat.le_refl 0⟩ kc_X12 hrc hW (fun i14 s13 hW => ?_)
  refine fr_if_eq (pc := 26) (tgt := 33) (by decide) dX12_looksByBoth_26 hW (fun hW => ?_) (fun hW => ?_)
  · refine fr_aload_n (pc := 33) 0 rfl rfl dX12_looksByBoth_33 ?_
    refine fr_iload_n (pc := 34) 1 rfl rfl dX12_looksByBoth_34 ?_
    obtain ⟨hrc, hW⟩ := hW
    refine fr_callV_I (pc := 35) (As := [.int p0]) (st := [.int ((i2 + i6) + i10)]) wd_X12_answersOf w_1216 ok_X12_answersOf (by decide) rfl (Nat.le_of_ble_eq_true rfl) dX12_looksByBoth_35 ⟨Nat.le_refl 0, Nat.le_refl 0⟩ kc_X12 hrc hW (fun i18 s17 hW => ?_)
    refine fr_iadd (pc := 38) dX12_looksByBoth_38 ?_
    exact fr_iret (pc := 39) dX12_looksByBoth_39 rfl ⟨Nat.le_refl 0, Nat.le_refl 0⟩ hW
  · refine fr_iconst (pc := 29) 0 (by decide) dX12_looksByBoth_29 ?_
    refine fr_goto (pc := 30) (tgt := 38) (by decide) dX12_looksByBoth_30 ?_
    refine fr_iadd (pc := 38) dX12_looksByBoth_38 ?_
    exact fr_iret (pc := 39) dX12_looksByBoth_39 rfl ⟨Nat.le_refl 0, Nat.le_refl 0⟩ hW
set_option maxHeartbeats 4000000 in
set_option maxRecDepth 100000 in
theorem q_X12_looksOf {g : GG} {σ : Hs} {post : Option Value → Hs → Prop} (r0 : Nat) (p0 : Int32) (p1 : Int32) (hW : (¬ p1 = 0 → Do g M_X12_in 0 0 [.int p1, .int 1, .int 8] σ (kI (fun i2 s1 => (i2 = 0 → (p1 < 100 → post (some (.int (-1))) s1) ∧ (¬ p1 < 100 → (((p1 - 100) - (p1 - 100) / 10 * 10) ≤ ((p1 - 100) / 10) → post (some (.int (-1))) s1) ∧ (¬ ((p1 - 100) - (p1 - 100) / 10 * 10) ≤ ((p1 - 100) / 10) → Rc s1 r0 12 ∧ Do g M_X12_isOrder 0 0 [.ref r0, .int ((p1 - 100) / 10)] s1 (kI (fun i6 s5 => (i6 = 0 → post (some (.int (-1))) s5) ∧ (¬ i6 = 0 → Rc s5 r0 12 ∧ Do g M_X12_isOrder 0 0 [.ref r0, .int ((p1 - 100) - (p1 - 100) / 10 * 10)] s5 (kI (fun i10 s9 => (i10 = 0 → post (some (.int (-1))) s9) ∧ (¬ i10 = 0 → Rc s9 r0 12 ∧ Do g M_X12_looksByBoth 0 0 [.ref r0, .int p0, .int ((p1 - 100) / 10), .int ((p1 - 100) - (p1 - 100) / 10 * 10)] s9 (kI (fun i14 s13 => post (some (.int i14)) s13))))))))))) ∧ (¬ i2 = 0 → Rc s1 r0 12 ∧ Do g M_X12_isOrder 0 0 [.ref r0, .int (p1 - 1)] s1 (kI (fun i18 s17 => (i18 = 0 → post (some (.int (-1))) s17) ∧ (¬ i18 = 0 → Rc s17 r0 12 ∧ Do g M_X12_looksBy 0 0 [.ref r0, .int p0, .int (p1 - 1)] s17 (kI (fun i22 s21 => post (some (.int i22)) s21))))))))) ∧ (p1 = 0 → Rc σ r0 12 ∧ Do g M_X12_looksByTable 0 0 [.ref r0, .int p0] σ (kI (fun i26 s25 => post (some (.int i26)) s25)))) : Do g M_X12_looksOf 0 0 [.ref r0, .int p0, .int p1] σ post := by
  refine Do.of (by decide +kernel) (Nat.le_of_ble_eq_true rfl) ?_
  show Fr g M_X12_looksOf (0, 0, 0, 0) [(0, .ref r0), (1, .int p0), (2, .int p1)] [] 0 σ post
  refine fr_iload_n (pc := 0) 2 rfl rfl dX12_looksOf_0 ?_
  refine fr_if_ne (pc := 1) (tgt := 10) (by decide) dX12_looksOf_1 hW (fun hW => ?_) (fun hW => ?_)
  · refine fr_iload_n (pc := 10) 2 rfl rfl dX12_looksOf_10 ?_
    refine fr_iconst (pc := 11) 1 (by decide) dX12_looksOf_11 ?_
    refine fr_bipush (pc := 12) 8 (by decide) dX12_looksOf_12 ?_
    refine fr_callS_I (pc := 14) (As := [.int p1, .int 1, .int 8]) (st := []) wd_X12_in w_1067 ok_X12_in (by decide) rfl (Nat.le_of_ble_eq_true rfl) dX12_looksOf_14 ⟨Nat.le_refl 0, Nat.le_refl 0⟩ hW (fun i2 s1 hW => ?_)
    refine fr_if_eq (pc := 17) (tgt := 43) (by decide) dX12_looksOf_17 hW (fun hW => ?_) (fun hW => ?_)
    · refine fr_iload_n (pc := 43) 2 rfl rfl dX12_looksOf_43 ?_
      refine fr_bipush (pc := 44) 100 (by decide) dX12_looksOf_44 ?_
      refine fr_isub (pc := 46) dX12_looksOf_46 ?_
      refine fr_bipush (pc := 47) 10 (by decide) dX12_looksOf_47 ?_
      refine fr_idiv (pc := 49) (by decide) dX12_looksOf_49 ?_
      refine fr_istore_n (pc := 50) (lv' := [(3, .int ((p1 - 100) / 10)), (0, .ref r0), (1, .int p0), (2, .int p1)]) rfl (by decide) rfl dX12_looksOf_50 ?_
      refine fr_iload_n (pc := 51) 3 rfl rfl dX12_looksOf_51 ?_
      refine fr_bipush (pc := 52) 100 (by decide) dX12_looksOf_52 ?_
      refine fr_isub (pc := 54) dX12_looksOf_54 ?_
      refine fr_bipush (pc := 55) 10 (by decide) dX12_looksOf_55 ?_
      refine fr_irem (pc := 57) (by decide) dX12_looksOf_57 ?_
      refine fr_istore (pc := 58) (lv' := [(4, .int ((p1 - 100) - (p1 - 100) / 10 * 10)), (3, .int ((p1 - 100) / 10)), (0, .ref r0), (1, .int p0), (2, .int p1)]) (by decide) rfl dX12_looksOf_58 ?_
      refine fr_iload_n (pc := 60) 4 rfl rfl dX12_looksOf_60 ?_
      refine fr_bipush (pc := 61) 100 (by decide) dX12_looksOf_61 ?_
      refine fr_icmp_lt (pc := 63) (tgt := 100) (by decide) dX12_looksOf_63 hW (fun hW => ?_) (fun hW => ?_)
      · refine fr_iconst (pc := 100) (-1) (by decide) dX12_looksOf_100 ?_
        exact fr_iret (pc := 101) dX12_looksOf_101 rfl ⟨Nat.le_refl 0, Nat.le_refl 0⟩ hW
      · refine fr_iload_n (pc := 66) 1 rfl rfl dX12_looksOf_66 ?_
        refine fr_iload (pc := 67) 0 rfl dX12_looksOf_67 ?_
        refine fr_icmp_ge (pc := 69) (tgt := 100) (by decide) dX12_looksOf_69 hW (fun hW => ?_) (fun hW => ?_)
        · refine fr_iconst (pc := 100) (-1) (by decide) dX12_looksOf_100 ?_
          exact fr_iret (pc := 101) dX12_looksOf_101 rfl ⟨Nat.le_refl 0, Nat.le_refl 0⟩ hW
        · refine fr_aload_n (pc := 72) 2 rfl rfl dX12_looksOf_72 ?_
          refine fr_iload_n (pc := 73) 1 rfl rfl dX12_looksOf_73 ?_
          obtain ⟨hrc, hW⟩ := hW
          refine fr_callV_I (pc := 74) (As := [.int ((p1 - 100) / 10)]) (st := []) wd_X12_isOrder w_1135 ok_X12_isOrder (by decide) rfl (Nat.le_of_ble_eq_true rfl) dX12_looksOf_74 ⟨Nat.le_refl 0, Nat.le_refl 0⟩ kc_X12 hrc hW (fun i6 s5 hW => ?_)
          refine fr_if_eq (pc := 77) (tgt := 100) (by decide) dX12_looksOf_77 hW (fun hW => ?_) (fun hW => ?_)
          · refine fr_iconst (pc := 100) (-1) (by decide) dX12_looksOf_100 ?_
            exact fr_iret (pc := 101) dX12_looksOf_101 rfl ⟨Nat.le_refl 0, Nat.le_refl 0⟩ hW
          · refine fr_aload_n (pc := 80) 2 rfl rfl dX12_looksOf_80 ?_
            refine fr_iload (pc := 81) 0 rfl dX12_looksOf_81 ?_
            obtain ⟨hrc, hW⟩ := hW
            refine fr_callV_I (pc := 83) (As := [.int ((p1 - 100) - (p1 - 100) / 10 * 10)]) (st := []) wd_X12_isOrder w_1135 ok_X12_isOrder (by decide) rfl (Nat.le_of_ble_eq_true rfl) dX12_looksOf_83 ⟨Nat.le_refl 0, Nat.le_refl 0⟩ kc_X12 hrc hW (fun i10 s9 hW => ?_)
            refine fr_if_eq (pc := 86) (tgt := 100) (by decide) dX12_looksOf_86 hW (fun hW => ?_) (fun hW => ?_)
            · refine fr_iconst (pc := 100) (-1) (by decide) dX12_looksOf_100 ?_
              exact fr_iret (pc := 101) dX12_looksOf_101 rfl ⟨Nat.le_refl 0, Nat.le_refl 0⟩ hW
            · refine fr_aload_n (pc := 89) 2 rfl rfl dX12_looksOf_89 ?_
              refine fr_iload_n (pc := 90) 3 rfl rfl dX12_looksOf_90 ?_
              refine fr_iload_n (pc := 91) 1 rfl rfl dX12_looksOf_91 ?_
              refine fr_iload (pc := 92) 0 rfl dX12_looksOf_92 ?_
              obtain ⟨hrc, hW⟩ := hW
              refine fr_callV_I (pc := 94) (As := [.int p0, .int ((p1 - 100) / 10), .int ((p1 - 100) - (p1 - 100) / 10 * 10)]) (st := []) wd_X12_looksByBoth w_1266 ok_X12_looksByBoth (by decide) rfl (Nat.le_of_ble_eq_true rfl) dX12_looksOf_94 ⟨Nat.le_refl 0, Nat.le_refl 0⟩ kc_X12 hrc hW (fun i14 s13 hW => ?_)
              refine fr_goto (pc := 97) (tgt := 101) (by decide) dX12_looksOf_97 ?_
              exact fr_iret (pc := 101) dX12_looksOf_101 rfl ⟨Nat.le_refl 0, Nat.le_refl 0⟩ hW
    · refine fr_aload_n (pc := 20) 0 rfl rfl dX12_looksOf_20 ?_
      refine fr_iload_n (pc := 21) 2 rfl rfl dX12_looksOf_21 ?_
      refine fr_iconst (pc := 22) 1 (by decide) dX12_looksOf_22 ?_
      refine fr_isub (pc := 23) dX12_looksOf_23 ?_
      obtain ⟨hrc, hW⟩ := hW
      refine fr_callV_I (pc := 24) (As := [.int (p1 - 1)]) (st := []) wd_X12_isOrder w_1135 ok_X12_isOrder (by decide) rfl (Nat.le_of_ble_eq_true rfl) dX12_looksOf_24 ⟨Nat.le_refl 0, Nat.le_refl 0⟩ kc_X12 hrc hW (fun i18 s17 hW => ?_)
      refine fr_if_eq (pc := 27) (tgt := 41) (by decide) dX12_looksOf_27 hW (fun hW => ?_) (fun hW => ?_)
      · refine fr_iconst (pc := 41) (-1) (by decide) dX12_looksOf_41 ?_
        exact fr_iret (pc := 42) dX12_looksOf_42 rfl ⟨Nat.le_refl 0, Nat.le_refl 0⟩ hW
      · refine fr_aload_n (pc := 30) 0 rfl rfl dX12_looksOf_30 ?_
        refine fr_iload_n (pc := 31) 1 rfl rfl dX12_looksOf_31 ?_
        refine fr_iload_n (pc := 32) 2 rfl rfl dX12_looksOf_32 ?_
        refine fr_iconst (pc := 33) 1 (by decide) dX12_looksOf_33 ?_
        refine fr_isub (pc := 34) dX12_looksOf_34 ?_
        obtain ⟨hrc, hW⟩ := hW
        refine fr_callV_I (pc := 35) (As := [.int p0, .int (p1 - 1)]) (st := []) wd_X12_looksBy w_1265 ok_X12_looksBy (by decide) rfl (Nat.le_of_ble_eq_true rfl) dX12_looksOf_35 ⟨Nat.le_refl 0, Nat.le_refl 0⟩ kc_X12 hrc hW (fun i22 s21 hW => ?_)
        refine fr_goto (pc := 38) (tgt := 42) (by decide) dX12_looksOf_38 ?_
        exact fr_iret (pc := 42) dX12_looksOf_42 rfl ⟨Nat.le_refl 0, Nat.le_refl 0⟩ hW
  · refine fr_aload_n (pc := 4) 0 rfl rfl dX12_looksOf_4 ?_
    refine fr_iload_n (pc := 5) 1 rfl rfl dX12_looksOf_5 ?_
    obtain ⟨hrc, hW⟩ := hW
    refine fr_callV_I (pc := 6) (As := [.int p0]) (st := []) wd_X12_looksByTable w_1264 ok_X12_looksByTable (by decide) rfl (Nat.le_of_ble_eq_true rfl) dX12_looksOf_6 ⟨Nat.le_refl 0, Nat.le_refl 0⟩ kc_X12 hrc hW (fun i26 s25 hW => ?_)
    exact fr_iret (pc := 9) dX12_looksOf_9 rfl ⟨Nat.le_refl 0, Nat.le_refl 0⟩ hW
set_option maxHeartbeats 4000000 in
set_option maxRecDepth 100000 in
theorem q_X12_looks {g : GG} {σ : Hs} {post : Option Value → Hs → Prop} (r0 : Nat) (p0 : Int32) (p1 : Int32) (hW : Rc σ r0 12 ∧ Do g M_X12_isQuestion 0 0 [.ref r0, .int p0] σ (kI (fun i2 s1 => (¬ i2 = 0 → Rc s1 r0 12 ∧ Do g M_X12_looksOf 0 0 [.ref r0, .int p0, .int p1] s1 (kI (fun i6 s5 => (¬ i6 = (-1) → post (some (.int i6)) s5) ∧ (i6 = (-1) → post (some (.int (-101))) s5)))) ∧ (i2 = 0 → post (some (.int (-101))) s1)))) : Do g M_X12_looks 0 0 [.ref r0, .int p0, .int p1] σ post := by
  refine Do.of (by decide +kernel) (Nat.le_of_ble_eq_true rfl) ?_
  show Fr g M_X12_looks (0, 0, 0, 0) [(0, .ref r0), (1, .int p0), (2, .int p1)] [] 0 σ post
  refine fr_aload_n (pc := 0) 0 rfl rfl dX12_looks_0 ?_
  refine fr_iload_n (pc := 1) 1 rfl rfl dX12_looks_1 ?_
  obtain ⟨hrc, hW⟩ := hW
  refine fr_callV_I (pc := 2) (As := [.int p0]) (st := []) wd_X12_isQuestion w_1205 ok_X12_isQuestion (by decide) rfl (Nat.le_of_ble_eq_true rfl) dX12_looks_2 ⟨Nat.le_refl 0, Nat.le_refl 0⟩ kc_X12 hrc hW (fun i2 s1 hW => ?_)
  refine fr_if_ne (pc := 5) (tgt := 11) (by decide) dX12_looks_5 hW (fun hW => ?_) (fun hW => ?_)
  · refine fr_aload_n (pc := 11) 0 rfl rfl dX12_looks_11 ?_
    refine fr_iload_n (pc := 12) 1 rfl rfl dX12_looks_12 ?_
    refine fr_iload_n (pc := 13) 2 rfl rfl dX12_looks_13 ?_
    obtain ⟨hrc, hW⟩ := hW
    refine fr_callV_I (pc := 14) (As := [.int p0, .int p1]) (st := []) wd_X12_looksOf w_1267 ok_X12_looksOf (by decide) rfl (Nat.le_of_ble_eq_true rfl) dX12_looks_14 ⟨Nat.le_refl 0, Nat.le_refl 0⟩ kc_X12 hrc hW (fun i6 s5 hW => ?_)
    refine fr_istore_n (pc := 17) (lv' := [(3, .int i6), (0, .ref r0), (1, .int p0), (2, .int p1)]) rfl (by decide) rfl dX12_looks_17 ?_
    refine fr_iload_n (pc := 18) 0 rfl rfl dX12_looks_18 ?_
    refine fr_iconst (pc := 19) (-1) (by decide) dX12_looks_19 ?_
    refine fr_icmp_ne (pc := 20) (tgt := 28) (by decide) dX12_looks_20 hW (fun hW => ?_) (fun hW => ?_)
    · refine fr_iload_n (pc := 28) 0 rfl rfl dX12_looks_28 ?_
      exact fr_iret (pc := 29) dX12_looks_29 rfl ⟨Nat.le_refl 0, Nat.le_refl 0⟩ hW
    · refine fr_bipush (pc := 23) (-101) (by decide) dX12_looks_23 ?_
      refine fr_goto (pc := 25) (tgt := 29) (by decide) dX12_looks_25 ?_
      exact fr_iret (pc := 29) dX12_looks_29 rfl ⟨Nat.le_refl 0, Nat.le_refl 0⟩ hW
  · refine fr_bipush (pc := 8) (-101) (by decide) dX12_looks_8 ?_
    exact fr_iret (pc := 10) dX12_looks_10 rfl ⟨Nat.le_refl 0, Nat.le_refl 0⟩ hW
set_option maxHeartbeats 4000000 in
set_option maxRecDepth 100000 in
theorem q_X11_run {g : GG} {σ : Hs} {post : Option Value → Hs → Prop} (r0 : Nat) (p0 : Int32) (p1 : Int32) (hW : FR σ r0 11 3 (fun r1 => Rc σ r1 10 ∧ Do g M_X10_question 0 0 [.ref r1, .int p0] σ (kA (fun s2 => FR s2 r0 11 1 (fun r6 => Rc s2 r6 3 ∧ Do g M_X3_kept 0 0 [.ref r6, .int p1] s2 (kA (fun s7 => post (some (.int (-101))) s7) (fun r10 s7 => post (some (.int (-101))) s7)))) (fun r5 s2 => FR s2 r0 11 1 (fun r11 => Rc s2 r11 3 ∧ Do g M_X3_kept 0 0 [.ref r11, .int p1] s2 (kA (fun s12 => post (some (.int (-101))) s12) (fun r15 s12 => FR s12 r0 11 0 (fun r16 => Rc s12 r15 2 ∧ Do g M_X2_runColumns 0 0 [.ref r15, .ref r5] s12 (kI (fun i18 s17 => Rc s17 r5 6 ∧ Do g M_X6_rowsWithin 0 0 [.ref r5, .ref r16, .int i18] s17 (kL (fun l23 s21 => Do g M_J13_bitCount_95d88 0 0 [.long l23] s21 (kI (fun i26 s25 => post (some (.int i26)) s25)))))))))))))) : Do g M_X11_run 0 0 [.ref r0, .int p0, .int p1] σ post := by
  refine Do.of (by decide +kernel) (Nat.le_of_ble_eq_true rfl) ?_
  show Fr g M_X11_run (0, 0, 0, 0) [(0, .ref r0), (1, .int p0), (2, .int p1)] [] 0 σ post
  refine fr_aload_n (pc := 0) 0 rfl rfl dX11_run_0 ?_
  refine fr_getR (pc := 1) (T := TX11) (k := 3) kc_X11 (by decide) w_995 dX11_run_1 hW (fun r1 hW => ?_)
  refine fr_iload_n (pc := 4) 1 rfl rfl dX11_run_4 ?_
  obtain ⟨hrc, hW⟩ := hW
  refine fr_callV_A (pc := 5) (As := [.int p0]) (st := []) wd_X10_question w_1201 ok_X10_question (by decide) rfl (Nat.le_of_ble_eq_true rfl) dX11_run_5 ⟨Nat.le_refl 0, Nat.le_refl 0⟩ kc_X10 hrc hW (fun s2 hW => ?_) (fun r5 s2 hW => ?_)
  · refine fr_astore_nN (pc := 8) (lv' := [(3, .null), (0, .ref r0), (1, .int p0), (2, .int p1)]) rfl (by decide) rfl dX11_run_8 ?_
    refine fr_aload_n (pc := 9) 1 rfl rfl dX11_run_9 ?_
    refine fr_getR (pc := 10) (T := TX11) (k := 1) kc_X11 (by decide) w_991 dX11_run_10 hW (fun r6 hW => ?_)
    refine fr_iload_n (pc := 13) 3 rfl rfl dX11_run_13 ?_
    obtain ⟨hrc, hW⟩ := hW
    refine fr_callV_A (pc := 14) (As := [.int p1]) (st := []) wd_X3_kept w_1132 ok_X3_kept (by decide) rfl (Nat.le_of_ble_eq_true rfl) dX11_run_14 ⟨Nat.le_refl 0, Nat.le_refl 0⟩ kc_X3 hrc hW (fun s7 hW => ?_) (fun r10 s7 hW => ?_)
    · refine fr_astoreN (pc := 17) (lv' := [(4, .null), (3, .null), (0, .ref r0), (1, .int p0), (2, .int p1)]) (by decide) rfl dX11_run_17 ?_
      refine fr_aload_nN (pc := 19) 1 rfl rfl dX11_run_19 ?_
      refine fr_ifnullN (pc := 20) (tgt := 28) (by decide) dX11_run_20 ?_
      refine fr_bipush (pc := 28) (-101) (by decide) dX11_run_28 ?_
      exact fr_iret (pc := 30) dX11_run_30 rfl ⟨Nat.le_refl 0, Nat.le_refl 0⟩ hW
    · refine fr_astore (pc := 17) (lv' := [(4, .ref r10), (3, .null), (0, .ref r0), (1, .int p0), (2, .int p1)]) (by decide) rfl dX11_run_17 ?_
      refine fr_aload_nN (pc := 19) 1 rfl rfl dX11_run_19 ?_
      refine fr_ifnullN (pc := 20) (tgt := 28) (by decide) dX11_run_20 ?_
      refine fr_bipush (pc := 28) (-101) (by decide) dX11_run_28 ?_
      exact fr_iret (pc := 30) dX11_run_30 rfl ⟨Nat.le_refl 0, Nat.le_refl 0⟩ hW
  · refine fr_astore_n (pc := 8) (lv' := [(3, .ref r5), (0, .ref r0), (1, .int p0), (2, .int p1)]) rfl (by decide) rfl dX11_run_8 ?_
    refine fr_aload_n (pc := 9) 1 rfl rfl dX11_run_9 ?_
    refine fr_getR (pc := 10) (T := TX11) (k := 1) kc_X11 (by decide) w_991 dX11_run_10 hW (fun r11 hW => ?_)
    refine fr_iload_n (pc := 13) 3 rfl rfl dX11_run_13 ?_
    obtain ⟨hrc, hW⟩ := hW
    refine fr_callV_A (pc := 14) (As := [.int p1]) (st := []) wd_X3_kept w_1132 ok_X3_kept (by decide) rfl (Nat.le_of_ble_eq_true rfl) dX11_run_14 ⟨Nat.le_refl 0, Nat.le_refl 0⟩ kc_X3 hrc hW (fun s12 hW => ?_) (fun r15 s12 hW => ?_)
    · refine fr_astoreN (pc := 17) (lv' := [(4, .null), (3, .ref r5), (0, .ref r0), (1, .int p0), (2, .int p1)]) (by decide) rfl dX11_run_17 ?_
      refine fr_aload_n (pc := 19) 1 rfl rfl dX11_run_19 ?_
      refine fr_ifnull (pc := 20) dX11_run_20 ?_
      refine fr_aloadN (pc := 23) 0 rfl dX11_run_23 ?_
      refine fr_ifnonnullN (pc := 25) dX11_run_25 ?_
      refine fr_bipush (pc := 28) (-101) (by decide) dX11_run_28 ?_
      exact fr_iret (pc := 30) dX11_run_30 rfl ⟨Nat.le_refl 0, Nat.le_refl 0⟩ hW
    · refine fr_astore (pc := 17) (lv' := [(4, .ref r15), (3, .ref r5), (0, .ref r0), (1, .int p0), (2, .int p1)]) (by decide) rfl dX11_run_17 ?_
      refine fr_aload_n (pc := 19) 1 rfl rfl dX11_run_19 ?_
      refine fr_ifnull (pc := 20) dX11_run_20 ?_
      refine fr_aload (pc := 23) 0 rfl dX11_run_23 ?_
      refine fr_ifnonnull (pc := 25) (tgt := 31) (by decide) dX11_run_25 ?_
      refine fr_aload_n (pc := 31) 1 rfl rfl dX11_run_31 ?_
      refine fr_aload_n (pc := 32) 2 rfl rfl dX11_run_32 ?_
      refine fr_getR (pc := 33) (T := TX11) (k := 0) kc_X11 (by decide) w_990 dX11_run_33 hW (fun r16 hW => ?_)
      refine fr_aload (pc := 36) 0 rfl dX11_run_36 ?_
      refine fr_aload_n (pc := 38) 1 rfl rfl dX11_run_38 ?_
      obtain ⟨hrc, hW⟩ := hW
      refine fr_callV_I (pc := 39) (As := [.ref r5]) (st := [.ref r16, .ref r5]) wd_X2_runColumns w_1268 ok_X2_runColumns (by decide) rfl (Nat.le_of_ble_eq_true rfl) dX11_run_39 ⟨Nat.le_refl 0, Nat.le_refl 0⟩ kc_X2 hrc hW (fun i18 s17 hW => ?_)
      obtain ⟨hrc, hW⟩ := hW
      refine fr_callV_L (pc := 42) (As := [.ref r16, .int i18]) (st := []) wd_X6_rowsWithin w_1210 ok_X6_rowsWithin (by decide) rfl (Nat.le_of_ble_eq_true rfl) dX11_run_42 ⟨Nat.le_refl 0, Nat.le_refl 0⟩ kc_X6 hrc hW (fun l23 s21 hW => ?_)
      refine fr_callS_I (pc := 45) (As := [.long l23]) (st := []) wd_J13_bitCount_95d88 w_1211 ok_J13_bitCount_95d88 (by decide) rfl (Nat.le_of_ble_eq_true rfl) dX11_run_45 ⟨Nat.le_refl 0, Nat.le_refl 0⟩ hW (fun i26 s25 hW => ?_)
      exact fr_iret (pc := 48) dX11_run_48 rfl ⟨Nat.le_refl 0, Nat.le_refl 0⟩ hW
def J_X12_runOf_13 (g : GG) (post : Option Value → Hs → Prop) (σ : Hs) (a0 : Nat) (v1 : Int32) (v2 : Int32) (v3 : Int32) (v4 : Int32) (v5 : Int32) : Prop := Fr g M_X12_runOf (0, 0, 0, 0) [(0, .ref a0), (1, .int v1), (2, .int v2), (3, .int v3), (4, .int v4), (5, .int v5)] [] 13 σ post
set_option maxHeartbeats 4000000 in
set_option maxRecDepth 100000 in
theorem q_X12_runOf {g : GG} {σ : Hs} {post : Option Value → Hs → Prop} (r0 : Nat) (p0 : Int32) (p1 : Int32) (hW : Rc σ r0 12 ∧ Do g M_X12_runColumns 0 0 [.ref r0, .int p0, .int p1] σ (kI (fun i2 s1 => J_X12_runOf_13 g post s1 r0 p0 p1 0 i2 0 ))) : Do g M_X12_runOf 0 0 [.ref r0, .int p0, .int p1] σ post := by
  refine Do.of (by decide +kernel) (Nat.le_of_ble_eq_true rfl) ?_
  show Fr g M_X12_runOf (0, 0, 0, 0) [(0, .ref r0), (1, .int p0), (2, .int p1)] [] 0 σ post
  refine fr_iconst (pc := 0) 0 (by decide) dX12_runOf_0 ?_
  refine fr_istore_n (pc := 1) (lv' := [(3, .int 0), (0, .ref r0), (1, .int p0), (2, .int p1)]) rfl (by decide) rfl dX12_runOf_1 ?_
  refine fr_aload_n (pc := 2) 1 rfl rfl dX12_runOf_2 ?_
  refine fr_iload_n (pc := 3) 2 rfl rfl dX12_runOf_3 ?_
  refine fr_iload_n (pc := 4) 3 rfl rfl dX12_runOf_4 ?_
  obtain ⟨hrc, hW⟩ := hW
  refine fr_callV_I (pc := 5) (As := [.int p0, .int p1]) (st := []) wd_X12_runColumns w_1256 ok_X12_runColumns (by decide) rfl (Nat.le_of_ble_eq_true rfl) dX12_runOf_5 ⟨Nat.le_refl 0, Nat.le_refl 0⟩ kc_X12 hrc hW (fun i2 s1 hW => ?_)
  refine fr_istore (pc := 8) (lv' := [(4, .int i2), (3, .int 0), (0, .ref r0), (1, .int p0), (2, .int p1)]) (by decide) rfl dX12_runOf_8 ?_
  refine fr_iconst (pc := 10) 0 (by decide) dX12_runOf_10 ?_
  refine fr_istore (pc := 11) (lv' := [(5, .int 0), (4, .int i2), (3, .int 0), (0, .ref r0), (1, .int p0), (2, .int p1)]) (by decide) rfl dX12_runOf_11 ?_
  exact fr_sub [3, 4, 5, 2, 1, 0] rfl hW
set_option maxHeartbeats 4000000 in
set_option maxRecDepth 100000 in
theorem q_X12_runOf_13 {g : GG} {σ : Hs} {post : Option Value → Hs → Prop} (a0 : Nat) (v1 : Int32) (v2 : Int32) (v3 : Int32) (v4 : Int32) (v5 : Int32) (hW : FR σ a0 12 9 (fun r5 => AI g σ r5 0 v2 (fun i6 => (i6 ≤ v5 → post (some (.int v3)) σ) ∧ (¬ i6 ≤ v5 → FR σ a0 12 8 (fun r7 => AI g σ r7 0 ((64 * v2) + v5) (fun i8 => Rc σ a0 12 ∧ Do g M_X12_isInRun 0 0 [.ref a0, .int v1, .int v2, .int i8, .int v4] σ (kI (fun i10 s9 => (i10 = 0 → J_X12_runOf_13 g post s9 a0 v1 v2 ((v3 + 0)) v4 ((v5 + 1)) ) ∧ (¬ i10 = 0 → J_X12_runOf_13 g post s9 a0 v1 v2 ((v3 + 1)) v4 ((v5 + 1)) ))))))))) : J_X12_runOf_13 g post σ a0 v1 v2 v3 v4 v5 := by
  show Fr g M_X12_runOf (0, 0, 0, 0) [(0, .ref a0), (1, .int v1), (2, .int v2), (3, .int v3), (4, .int v4), (5, .int v5)] [] 13 σ post
  refine fr_iload (pc := 13) 5 rfl dX12_runOf_13 ?_
  refine fr_aload_n (pc := 15) 0 rfl rfl dX12_runOf_15 ?_
  refine fr_getR (pc := 16) (T := TX12) (k := 9) kc_X12 (by decide) w_1013 dX12_runOf_16 hW (fun r5 hW => ?_)
  refine fr_iload_n (pc := 19) 2 rfl rfl dX12_runOf_19 ?_
  refine fr_iald (pc := 20) dX12_runOf_20 hW (fun i6 hW => ?_)
  refine fr_icmp_ge (pc := 21) (tgt := 61) (by decide) dX12_runOf_21 hW (fun hW => ?_) (fun hW => ?_)
  · refine fr_iload_n (pc := 61) 3 rfl rfl dX12_runOf_61 ?_
    exact fr_iret (pc := 62) dX12_runOf_62 rfl ⟨Nat.le_refl 0, Nat.le_refl 0⟩ hW
  · refine fr_iload_n (pc := 24) 3 rfl rfl dX12_runOf_24 ?_
    refine fr_aload_n (pc := 25) 0 rfl rfl dX12_runOf_25 ?_
    refine fr_iload_n (pc := 26) 1 rfl rfl dX12_runOf_26 ?_
    refine fr_iload_n (pc := 27) 2 rfl rfl dX12_runOf_27 ?_
    refine fr_aload_n (pc := 28) 0 rfl rfl dX12_runOf_28 ?_
    refine fr_getR (pc := 29) (T := TX12) (k := 8) kc_X12 (by decide) w_1012 dX12_runOf_29 hW (fun r7 hW => ?_)
    refine fr_bipush (pc := 32) 64 (by decide) dX12_runOf_32 ?_
    refine fr_iload_n (pc := 34) 2 rfl rfl dX12_runOf_34 ?_
    refine fr_imul (pc := 35) dX12_runOf_35 ?_
    refine fr_iload (pc := 36) 5 rfl dX12_runOf_36 ?_
    refine fr_iadd (pc := 38) dX12_runOf_38 ?_
    refine fr_iald (pc := 39) dX12_runOf_39 hW (fun i8 hW => ?_)
    refine fr_iload (pc := 40) 4 rfl dX12_runOf_40 ?_
    obtain ⟨hrc, hW⟩ := hW
    refine fr_callV_I (pc := 42) (As := [.int v1, .int v2, .int i8, .int v4]) (st := [.int v3]) wd_X12_isInRun w_1257 ok_X12_isInRun (by decide) rfl (Nat.le_of_ble_eq_true rfl) dX12_runOf_42 ⟨Nat.le_refl 0, Nat.le_refl 0⟩ kc_X12 hrc hW (fun i10 s9 hW => ?_)
    refine fr_if_eq (pc := 45) (tgt := 52) (by decide) dX12_runOf_45 hW (fun hW => ?_) (fun hW => ?_)
    · refine fr_iconst (pc := 52) 0 (by decide) dX12_runOf_52 ?_
      refine fr_iadd (pc := 53) dX12_runOf_53 ?_
      refine fr_istore_n (pc := 54) (lv' := [(3, .int (v3 + 0)), (0, .ref a0), (1, .int v1), (2, .int v2), (4, .int v4), (5, .int v5)]) rfl (by decide) rfl dX12_runOf_54 ?_
      refine fr_iinc (pc := 55) (lv' := [(5, .int (v5 + 1)), (3, .int (v3 + 0)), (0, .ref a0), (1, .int v1), (2, .int v2), (4, .int v4)]) (v5 + 1) 5 rfl (congrArg (fun z => v5 + z) (by decide)) (by decide) rfl dX12_runOf_55 ?_
      refine fr_goto (pc := 58) (tgt := 13) (by decide) dX12_runOf_58 ?_
      exact fr_sub [2, 3, 4, 1, 5, 0] rfl hW
    · refine fr_iconst (pc := 48) 1 (by decide) dX12_runOf_48 ?_
      refine fr_goto (pc := 49) (tgt := 53) (by decide) dX12_runOf_49 ?_
      refine fr_iadd (pc := 53) dX12_runOf_53 ?_
      refine fr_istore_n (pc := 54) (lv' := [(3, .int (v3 + 1)), (0, .ref a0), (1, .int v1), (2, .int v2), (4, .int v4), (5, .int v5)]) rfl (by decide) rfl dX12_runOf_54 ?_
      refine fr_iinc (pc := 55) (lv' := [(5, .int (v5 + 1)), (3, .int (v3 + 1)), (0, .ref a0), (1, .int v1), (2, .int v2), (4, .int v4)]) (v5 + 1) 5 rfl (congrArg (fun z => v5 + z) (by decide)) (by decide) rfl dX12_runOf_55 ?_
      refine fr_goto (pc := 58) (tgt := 13) (by decide) dX12_runOf_58 ?_
      exact fr_sub [2, 3, 4, 1, 5, 0] rfl hW
set_option maxHeartbeats 4000000 in
set_option maxRecDepth 100000 in
theorem q_X12_run {g : GG} {σ : Hs} {post : Option Value → Hs → Prop} (r0 : Nat) (p0 : Int32) (p1 : Int32) (hW : Rc σ r0 12 ∧ Do g M_X12_isQuestion 0 0 [.ref r0, .int p0] σ (kI (fun i2 s1 => (i2 = 0 → post (some (.int (-101))) s1) ∧ (¬ i2 = 0 → Rc s1 r0 12 ∧ Do g M_X12_isOrder 0 0 [.ref r0, .int p1] s1 (kI (fun i6 s5 => (i6 = 0 → post (some (.int (-101))) s5) ∧ (¬ i6 = 0 → Rc s5 r0 12 ∧ Do g M_X12_runOf 0 0 [.ref r0, .int p0, .int p1] s5 (kI (fun i10 s9 => post (some (.int i10)) s9))))))))) : Do g M_X12_run 0 0 [.ref r0, .int p0, .int p1] σ post := by
  refine Do.of (by decide +kernel) (Nat.le_of_ble_eq_true rfl) ?_
  show Fr g M_X12_run (0, 0, 0, 0) [(0, .ref r0), (1, .int p0), (2, .int p1)] [] 0 σ post
  refine fr_aload_n (pc := 0) 0 rfl rfl dX12_run_0 ?_
  refine fr_iload_n (pc := 1) 1 rfl rfl dX12_run_1 ?_
  obtain ⟨hrc, hW⟩ := hW
  refine fr_callV_I (pc := 2) (As := [.int p0]) (st := []) wd_X12_isQuestion w_1205 ok_X12_isQuestion (by decide) rfl (Nat.le_of_ble_eq_true rfl) dX12_run_2 ⟨Nat.le_refl 0, Nat.le_refl 0⟩ kc_X12 hrc hW (fun i2 s1 hW => ?_)
  refine fr_if_eq (pc := 5) (tgt := 25) (by decide) dX12_run_5 hW (fun hW => ?_) (fun hW => ?_)
  · refine fr_bipush (pc := 25) (-101) (by decide) dX12_run_25 ?_
    exact fr_iret (pc := 27) dX12_run_27 rfl ⟨Nat.le_refl 0, Nat.le_refl 0⟩ hW
  · refine fr_aload_n (pc := 8) 0 rfl rfl dX12_run_8 ?_
    refine fr_iload_n (pc := 9) 2 rfl rfl dX12_run_9 ?_
    obtain ⟨hrc, hW⟩ := hW
    refine fr_callV_I (pc := 10) (As := [.int p1]) (st := []) wd_X12_isOrder w_1135 ok_X12_isOrder (by decide) rfl (Nat.le_of_ble_eq_true rfl) dX12_run_10 ⟨Nat.le_refl 0, Nat.le_refl 0⟩ kc_X12 hrc hW (fun i6 s5 hW => ?_)
    refine fr_if_eq (pc := 13) (tgt := 25) (by decide) dX12_run_13 hW (fun hW => ?_) (fun hW => ?_)
    · refine fr_bipush (pc := 25) (-101) (by decide) dX12_run_25 ?_
      exact fr_iret (pc := 27) dX12_run_27 rfl ⟨Nat.le_refl 0, Nat.le_refl 0⟩ hW
    · refine fr_aload_n (pc := 16) 0 rfl rfl dX12_run_16 ?_
      refine fr_iload_n (pc := 17) 1 rfl rfl dX12_run_17 ?_
      refine fr_iload_n (pc := 18) 2 rfl rfl dX12_run_18 ?_
      obtain ⟨hrc, hW⟩ := hW
      refine fr_callV_I (pc := 19) (As := [.int p0, .int p1]) (st := []) wd_X12_runOf w_1269 ok_X12_runOf (by decide) rfl (Nat.le_of_ble_eq_true rfl) dX12_run_19 ⟨Nat.le_refl 0, Nat.le_refl 0⟩ kc_X12 hrc hW (fun i10 s9 hW => ?_)
      refine fr_goto (pc := 22) (tgt := 27) (by decide) dX12_run_22 ?_
      exact fr_iret (pc := 27) dX12_run_27 rfl ⟨Nat.le_refl 0, Nat.le_refl 0⟩ hW
set_option maxHeartbeats 4000000 in
set_option maxRecDepth 100000 in
theorem q_X11_isSet {g : GG} {σ : Hs} {post : Option Value → Hs → Prop} (p0 : Int32) (hW : (p0 < 0 → post (some (.int 0)) σ) ∧ (¬ p0 < 0 → (255 < p0 → post (some (.int 0)) σ) ∧ (¬ 255 < p0 → post (some (.int 1)) σ))) : Do g M_X11_isSet 0 0 [.int p0] σ post := by
  refine Do.of (by decide +kernel) (Nat.le_of_ble_eq_true rfl) ?_
  show Fr g M_X11_isSet (0, 0, 0, 0) [(0, .int p0)] [] 0 σ post
  refine fr_iload_n (pc := 0) 0 rfl rfl dX11_isSet_0 ?_
  refine fr_if_lt (pc := 1) (tgt := 15) (by decide) dX11_isSet_1 hW (fun hW => ?_) (fun hW => ?_)
  · refine fr_iconst (pc := 15) 0 (by decide) dX11_isSet_15 ?_
    exact fr_zret (pc := 16) dX11_isSet_16 rfl ⟨Nat.le_refl 0, Nat.le_refl 0⟩ ⟨rfl, hW⟩
  · refine fr_iload_n (pc := 4) 0 rfl rfl dX11_isSet_4 ?_
    refine fr_sipush (pc := 5) 255 (by decide) dX11_isSet_5 ?_
    refine fr_icmp_gt (pc := 8) (tgt := 15) (by decide) dX11_isSet_8 hW (fun hW => ?_) (fun hW => ?_)
    · refine fr_iconst (pc := 15) 0 (by decide) dX11_isSet_15 ?_
      exact fr_zret (pc := 16) dX11_isSet_16 rfl ⟨Nat.le_refl 0, Nat.le_refl 0⟩ ⟨rfl, hW⟩
    · refine fr_iconst (pc := 11) 1 (by decide) dX11_isSet_11 ?_
      refine fr_goto (pc := 12) (tgt := 16) (by decide) dX11_isSet_12 ?_
      exact fr_zret (pc := 16) dX11_isSet_16 rfl ⟨Nat.le_refl 0, Nat.le_refl 0⟩ ⟨rfl, hW⟩
def J_X9_bestPlace_4 (g : GG) (post : Option Value → Hs → Prop) (σ : Hs) (a0 : Nat) (v1 : Int32) (v2 : Int32) (v3 : Int32) : Prop := Fr g M_X9_bestPlace (0, 0, 0, 0) [(0, .ref a0), (1, .int v1), (2, .int v2), (3, .int v3)] [] 4 σ post
set_option maxHeartbeats 4000000 in
set_option maxRecDepth 100000 in
theorem q_X9_bestPlace {g : GG} {σ : Hs} {post : Option Value → Hs → Prop} (r0 : Nat) (p0 : Int32) (hW : J_X9_bestPlace_4 g post σ r0 p0 0 1 ) : Do g M_X9_bestPlace 0 0 [.ref r0, .int p0] σ post := by
  refine Do.of (by decide +kernel) (Nat.le_of_ble_eq_true rfl) ?_
  show Fr g M_X9_bestPlace (0, 0, 0, 0) [(0, .ref r0), (1, .int p0)] [] 0 σ post
  refine fr_iconst (pc := 0) 0 (by decide) dX9_bestPlace_0 ?_
  refine fr_istore_n (pc := 1) (lv' := [(2, .int 0), (0, .ref r0), (1, .int p0)]) rfl (by decide) rfl dX9_bestPlace_1 ?_
  refine fr_iconst (pc := 2) 1 (by decide) dX9_bestPlace_2 ?_
  refine fr_istore_n (pc := 3) (lv' := [(3, .int 1), (2, .int 0), (0, .ref r0), (1, .int p0)]) rfl (by decide) rfl dX9_bestPlace_3 ?_
  exact fr_sub [2, 3, 1, 0] rfl hW
set_option maxHeartbeats 4000000 in
set_option maxRecDepth 100000 in
theorem q_X9_bestPlace_4 {g : GG} {σ : Hs} {post : Option Value → Hs → Prop} (a0 : Nat) (v1 : Int32) (v2 : Int32) (v3 : Int32) (hW : FI σ a0 9 7 (fun i1 => (i1 ≤ v3 → post (some (.int v2)) σ) ∧ (¬ i1 ≤ v3 → FR σ a0 9 3 (fun r2 => Rc σ r2 1 ∧ Do g M_X1_at 0 0 [.ref r2, .int v3] σ (kI (fun i4 s3 => (¬ (i4 &&& (v1 ^^^ (-1))) = 0 → J_X9_bestPlace_4 g post s3 a0 v1 v2 ((v3 + 1)) ) ∧ ((i4 &&& (v1 ^^^ (-1))) = 0 → FR s3 a0 9 4 (fun r7 => Rc s3 r7 1 ∧ Do g M_X1_at 0 0 [.ref r7, .int v3] s3 (kI (fun i9 s8 => FR s8 a0 9 4 (fun r12 => Rc s8 r12 1 ∧ Do g M_X1_at 0 0 [.ref r12, .int v2] s8 (kI (fun i14 s13 => (i14 ≤ i9 → J_X9_bestPlace_4 g post s13 a0 v1 v2 ((v3 + 1)) ) ∧ (¬ i14 ≤ i9 → J_X9_bestPlace_4 g post s13 a0 v1 v3 ((v3 + 1)) )))))))))))))) : J_X9_bestPlace_4 g post σ a0 v1 v2 v3 := by
  show Fr g M_X9_bestPlace (0, 0, 0, 0) [(0, .ref a0), (1, .int v1), (2, .int v2), (3, .int v3)] [] 4 σ post
  refine fr_iload_n (pc := 4) 3 rfl rfl dX9_bestPlace_4 ?_
  refine fr_aload_n (pc := 5) 0 rfl rfl dX9_bestPlace_5 ?_
  refine fr_getI (pc := 6) (T := TX9) (k := 7) kc_X9 (by decide) w_1224 dX9_bestPlace_6 hW (fun i1 hW => ?_)
  refine fr_icmp_ge (pc := 9) (tgt := 54) (by decide) dX9_bestPlace_9 hW (fun hW => ?_) (fun hW => ?_)
  · refine fr_iload_n (pc := 54) 2 rfl rfl dX9_bestPlace_54 ?_
    exact fr_iret (pc := 55) dX9_bestPlace_55 rfl ⟨Nat.le_refl 0, Nat.le_refl 0⟩ hW
  · refine fr_aload_n (pc := 12) 0 rfl rfl dX9_bestPlace_12 ?_
    refine fr_getR (pc := 13) (T := TX9) (k := 3) kc_X9 (by decide) w_945 dX9_bestPlace_13 hW (fun r2 hW => ?_)
    refine fr_iload_n (pc := 16) 3 rfl rfl dX9_bestPlace_16 ?_
    obtain ⟨hrc, hW⟩ := hW
    refine fr_callV_I (pc := 17) (As := [.int v3]) (st := []) wd_X1_at w_1241 ok_X1_at (by decide) rfl (Nat.le_of_ble_eq_true rfl) dX9_bestPlace_17 ⟨Nat.le_refl 0, Nat.le_refl 0⟩ kc_X1 hrc hW (fun i4 s3 hW => ?_)
    refine fr_iload_n (pc := 20) 1 rfl rfl dX9_bestPlace_20 ?_
    refine fr_iconst (pc := 21) (-1) (by decide) dX9_bestPlace_21 ?_
    refine fr_ixor (pc := 22) dX9_bestPlace_22 ?_
    refine fr_iand (pc := 23) dX9_bestPlace_23 ?_
    refine fr_if_ne (pc := 24) (tgt := 48) (by decide) dX9_bestPlace_24 hW (fun hW => ?_) (fun hW => ?_)
    · refine fr_iinc (pc := 48) (lv' := [(3, .int (v3 + 1)), (0, .ref a0), (1, .int v1), (2, .int v2)]) (v3 + 1) 3 rfl (congrArg (fun z => v3 + z) (by decide)) (by decide) rfl dX9_bestPlace_48 ?_
      refine fr_goto (pc := 51) (tgt := 4) (by decide) dX9_bestPlace_51 ?_
      exact fr_sub [1, 2, 3, 0] rfl hW
    · refine fr_aload_n (pc := 27) 0 rfl rfl dX9_bestPlace_27 ?_
      refine fr_getR (pc := 28) (T := TX9) (k := 4) kc_X9 (by decide) w_946 dX9_bestPlace_28 hW (fun r7 hW => ?_)
      refine fr_iload_n (pc := 31) 3 rfl rfl dX9_bestPlace_31 ?_
      obtain ⟨hrc, hW⟩ := hW
      refine fr_callV_I (pc := 32) (As := [.int v3]) (st := []) wd_X1_at w_1241 ok_X1_at (by decide) rfl (Nat.le_of_ble_eq_true rfl) dX9_bestPlace_32 ⟨Nat.le_refl 0, Nat.le_refl 0⟩ kc_X1 hrc hW (fun i9 s8 hW => ?_)
      refine fr_aload_n (pc := 35) 0 rfl rfl dX9_bestPlace_35 ?_
      refine fr_getR (pc := 36) (T := TX9) (k := 4) kc_X9 (by decide) w_946 dX9_bestPlace_36 hW (fun r12 hW => ?_)
      refine fr_iload_n (pc := 39) 2 rfl rfl dX9_bestPlace_39 ?_
      obtain ⟨hrc, hW⟩ := hW
      refine fr_callV_I (pc := 40) (As := [.int v2]) (st := [.int i9]) wd_X1_at w_1241 ok_X1_at (by decide) rfl (Nat.le_of_ble_eq_true rfl) dX9_bestPlace_40 ⟨Nat.le_refl 0, Nat.le_refl 0⟩ kc_X1 hrc hW (fun i14 s13 hW => ?_)
      refine fr_icmp_ge (pc := 43) (tgt := 48) (by decide) dX9_bestPlace_43 hW (fun hW => ?_) (fun hW => ?_)
      · refine fr_iinc (pc := 48) (lv' := [(3, .int (v3 + 1)), (0, .ref a0), (1, .int v1), (2, .int v2)]) (v3 + 1) 3 rfl (congrArg (fun z => v3 + z) (by decide)) (by decide) rfl dX9_bestPlace_48 ?_
        refine fr_goto (pc := 51) (tgt := 4) (by decide) dX9_bestPlace_51 ?_
        exact fr_sub [1, 2, 3, 0] rfl hW
      · refine fr_iload_n (pc := 46) 3 rfl rfl dX9_bestPlace_46 ?_
        refine fr_istore_n (pc := 47) (lv' := [(2, .int v3), (0, .ref a0), (1, .int v1), (3, .int v3)]) rfl (by decide) rfl dX9_bestPlace_47 ?_
        refine fr_iinc (pc := 48) (lv' := [(3, .int (v3 + 1)), (2, .int v3), (0, .ref a0), (1, .int v1)]) (v3 + 1) 3 rfl (congrArg (fun z => v3 + z) (by decide)) (by decide) rfl dX9_bestPlace_48 ?_
        refine fr_goto (pc := 51) (tgt := 4) (by decide) dX9_bestPlace_51 ?_
        exact fr_sub [2, 3, 1, 0] rfl hW
set_option maxHeartbeats 4000000 in
set_option maxRecDepth 100000 in
theorem q_X9_numberAt {g : GG} {σ : Hs} {post : Option Value → Hs → Prop} (r0 : Nat) (p0 : Int32) (hW : FR σ r0 9 2 (fun r1 => Rc σ r1 1 ∧ Do g M_X1_at 0 0 [.ref r1, .int p0] σ (kI (fun i3 s2 => post (some (.int i3)) s2)))) : Do g M_X9_numberAt 0 0 [.ref r0, .int p0] σ post := by
  refine Do.of (by decide +kernel) (Nat.le_of_ble_eq_true rfl) ?_
  show Fr g M_X9_numberAt (0, 0, 0, 0) [(0, .ref r0), (1, .int p0)] [] 0 σ post
  refine fr_aload_n (pc := 0) 0 rfl rfl dX9_numberAt_0 ?_
  refine fr_getR (pc := 1) (T := TX9) (k := 2) kc_X9 (by decide) w_944 dX9_numberAt_1 hW (fun r1 hW => ?_)
  refine fr_iload_n (pc := 4) 1 rfl rfl dX9_numberAt_4 ?_
  obtain ⟨hrc, hW⟩ := hW
  refine fr_callV_I (pc := 5) (As := [.int p0]) (st := []) wd_X1_at w_1241 ok_X1_at (by decide) rfl (Nat.le_of_ble_eq_true rfl) dX9_numberAt_5 ⟨Nat.le_refl 0, Nat.le_refl 0⟩ kc_X1 hrc hW (fun i3 s2 hW => ?_)
  exact fr_iret (pc := 8) dX9_numberAt_8 rfl ⟨Nat.le_refl 0, Nat.le_refl 0⟩ hW
set_option maxHeartbeats 4000000 in
set_option maxRecDepth 100000 in
theorem q_X11_best {g : GG} {σ : Hs} {post : Option Value → Hs → Prop} (r0 : Nat) (p0 : Int32) (p1 : Int32) (hW : FR σ r0 11 3 (fun r1 => Rc σ r1 10 ∧ Do g M_X10_question 0 0 [.ref r1, .int p0] σ (kA (fun s2 => post (some (.int (-101))) s2) (fun r5 s2 => Do g M_X11_isSet 0 0 [.int p1] s2 (kI (fun i7 s6 => (¬ i7 = 0 → FR s6 r0 11 2 (fun r10 => Rc s6 r10 9 ∧ Do g M_X9_list 0 0 [.ref r10, .ref r5] s6 (kV (fun s11 => FR s11 r0 11 2 (fun r12 => FR s11 r0 11 2 (fun r13 => Rc s11 r13 9 ∧ Do g M_X9_bestPlace 0 0 [.ref r13, .int p1] s11 (kI (fun i15 s14 => Rc s14 r12 9 ∧ Do g M_X9_numberAt 0 0 [.ref r12, .int i15] s14 (kI (fun i19 s18 => post (some (.int i19)) s18)))))))))) ∧ (i7 = 0 → post (some (.int (-102))) s6))))))) : Do g M_X11_best 0 0 [.ref r0, .int p0, .int p1] σ post := by
  refine Do.of (by decide +kernel) (Nat.le_of_ble_eq_true rfl) ?_
  show Fr g M_X11_best (0, 0, 0, 0) [(0, .ref r0), (1, .int p0), (2, .int p1)] [] 0 σ post
  refine fr_aload_n (pc := 0) 0 rfl rfl dX11_best_0 ?_
  refine fr_getR (pc := 1) (T := TX11) (k := 3) kc_X11 (by decide) w_995 dX11_best_1 hW (fun r1 hW => ?_)
  refine fr_iload_n (pc := 4) 1 rfl rfl dX11_best_4 ?_
  obtain ⟨hrc, hW⟩ := hW
  refine fr_callV_A (pc := 5) (As := [.int p0]) (st := []) wd_X10_question w_1201 ok_X10_question (by decide) rfl (Nat.le_of_ble_eq_true rfl) dX11_best_5 ⟨Nat.le_refl 0, Nat.le_refl 0⟩ kc_X10 hrc hW (fun s2 hW => ?_) (fun r5 s2 hW => ?_)
  · refine fr_astore_nN (pc := 8) (lv' := [(3, .null), (0, .ref r0), (1, .int p0), (2, .int p1)]) rfl (by decide) rfl dX11_best_8 ?_
    refine fr_aload_nN (pc := 9) 0 rfl rfl dX11_best_9 ?_
    refine fr_ifnonnullN (pc := 10) dX11_best_10 ?_
    refine fr_bipush (pc := 13) (-101) (by decide) dX11_best_13 ?_
    exact fr_iret (pc := 15) dX11_best_15 rfl ⟨Nat.le_refl 0, Nat.le_refl 0⟩ hW
  · refine fr_astore_n (pc := 8) (lv' := [(3, .ref r5), (0, .ref r0), (1, .int p0), (2, .int p1)]) rfl (by decide) rfl dX11_best_8 ?_
    refine fr_aload_n (pc := 9) 0 rfl rfl dX11_best_9 ?_
    refine fr_ifnonnull (pc := 10) (tgt := 16) (by decide) dX11_best_10 ?_
    refine fr_iload_n (pc := 16) 3 rfl rfl dX11_best_16 ?_
    refine fr_callS_I (pc := 17) (As := [.int p1]) (st := []) wd_X11_isSet w_1270 ok_X11_isSet (by decide) rfl (Nat.le_of_ble_eq_true rfl) dX11_best_17 ⟨Nat.le_refl 0, Nat.le_refl 0⟩ hW (fun i7 s6 hW => ?_)
    refine fr_if_ne (pc := 20) (tgt := 26) (by decide) dX11_best_20 hW (fun hW => ?_) (fun hW => ?_)
    · refine fr_aload_n (pc := 26) 1 rfl rfl dX11_best_26 ?_
      refine fr_getR (pc := 27) (T := TX11) (k := 2) kc_X11 (by decide) w_992 dX11_best_27 hW (fun r10 hW => ?_)
      refine fr_aload_n (pc := 30) 0 rfl rfl dX11_best_30 ?_
      obtain ⟨hrc, hW⟩ := hW
      refine fr_callV_V (pc := 31) (As := [.ref r5]) (st := []) wd_X9_list w_1249 ok_X9_list (by decide) rfl (Nat.le_of_ble_eq_true rfl) dX11_best_31 ⟨Nat.le_refl 0, Nat.le_refl 0⟩ kc_X9 hrc hW (fun s11 hW => ?_)
      refine fr_aload_n (pc := 34) 1 rfl rfl dX11_best_34 ?_
      refine fr_getR (pc := 35) (T := TX11) (k := 2) kc_X11 (by decide) w_992 dX11_best_35 hW (fun r12 hW => ?_)
      refine fr_aload_n (pc := 38) 1 rfl rfl dX11_best_38 ?_
      refine fr_getR (pc := 39) (T := TX11) (k := 2) kc_X11 (by decide) w_992 dX11_best_39 hW (fun r13 hW => ?_)
      refine fr_iload_n (pc := 42) 3 rfl rfl dX11_best_42 ?_
      obtain ⟨hrc, hW⟩ := hW
      refine fr_callV_I (pc := 43) (As := [.int p1]) (st := [.ref r12]) wd_X9_bestPlace w_1271 ok_X9_bestPlace (by decide) rfl (Nat.le_of_ble_eq_true rfl) dX11_best_43 ⟨Nat.le_refl 0, Nat.le_refl 0⟩ kc_X9 hrc hW (fun i15 s14 hW => ?_)
      obtain ⟨hrc, hW⟩ := hW
      refine fr_callV_I (pc := 46) (As := [.int i15]) (st := []) wd_X9_numberAt w_1272 ok_X9_numberAt (by decide) rfl (Nat.le_of_ble_eq_true rfl) dX11_best_46 ⟨Nat.le_refl 0, Nat.le_refl 0⟩ kc_X9 hrc hW (fun i19 s18 hW => ?_)
      exact fr_iret (pc := 49) dX11_best_49 rfl ⟨Nat.le_refl 0, Nat.le_refl 0⟩ hW
    · refine fr_bipush (pc := 23) (-102) (by decide) dX11_best_23 ?_
      exact fr_iret (pc := 25) dX11_best_25 rfl ⟨Nat.le_refl 0, Nat.le_refl 0⟩ hW
def J_X12_lookAll_16 (g : GG) (post : Option Value → Hs → Prop) (σ : Hs) (a0 : Nat) (v1 : Int32) (v2 : Int32) : Prop := Fr g M_X12_lookAll (0, 0, 0, 0) [(0, .ref a0), (1, .int v1), (2, .int v2)] [] 16 σ post
def J_X12_lookAll_60 (g : GG) (post : Option Value → Hs → Prop) (σ : Hs) (a0 : Nat) (v1 : Int32) (v2 : Int32) (v3 : Int32) : Prop := Fr g M_X12_lookAll (0, 0, 0, 0) [(0, .ref a0), (1, .int v1), (2, .int v2), (3, .int v3)] [] 60 σ post
set_option maxHeartbeats 4000000 in
set_option maxRecDepth 100000 in
theorem q_X12_lookAll {g : GG} {σ : Hs} {post : Option Value → Hs → Prop} (r0 : Nat) (p0 : Int32) (hW : FR σ r0 12 34 (fun r1 => Rc σ r0 12 ∧ Do g M_X12_looksByTable 0 0 [.ref r0, .int p0] σ (kI (fun i3 s2 => SI g s2 r1 0 (81 * p0) i3 (fun s6 => J_X12_lookAll_16 g post s6 r0 p0 0 ))))) : Do g M_X12_lookAll 0 0 [.ref r0, .int p0] σ post := by
  refine Do.of (by decide +kernel) (Nat.le_of_ble_eq_true rfl) ?_
  show Fr g M_X12_lookAll (0, 0, 0, 0) [(0, .ref r0), (1, .int p0)] [] 0 σ post
  refine fr_aload_n (pc := 0) 0 rfl rfl dX12_lookAll_0 ?_
  refine fr_getR (pc := 1) (T := TX12) (k := 34) kc_X12 (by decide) w_1027 dX12_lookAll_1 hW (fun r1 hW => ?_)
  refine fr_bipush (pc := 4) 81 (by decide) dX12_lookAll_4 ?_
  refine fr_iload_n (pc := 6) 1 rfl rfl dX12_lookAll_6 ?_
  refine fr_imul (pc := 7) dX12_lookAll_7 ?_
  refine fr_aload_n (pc := 8) 0 rfl rfl dX12_lookAll_8 ?_
  refine fr_iload_n (pc := 9) 1 rfl rfl dX12_lookAll_9 ?_
  obtain ⟨hrc, hW⟩ := hW
  refine fr_callV_I (pc := 10) (As := [.int p0]) (st := [.int (81 * p0), .ref r1]) wd_X12_looksByTable w_1264 ok_X12_looksByTable (by decide) rfl (Nat.le_of_ble_eq_true rfl) dX12_lookAll_10 ⟨Nat.le_refl 0, Nat.le_refl 0⟩ kc_X12 hrc hW (fun i3 s2 hW => ?_)
  refine fr_iast (pc := 13) dX12_lookAll_13 hW (fun s6 hW => ?_)
  refine fr_iconst (pc := 14) 0 (by decide) dX12_lookAll_14 ?_
  refine fr_istore_n (pc := 15) (lv' := [(2, .int 0), (0, .ref r0), (1, .int p0)]) rfl (by decide) rfl dX12_lookAll_15 ?_
  exact fr_sub [1, 2, 0] rfl hW
set_option maxHeartbeats 4000000 in
set_option maxRecDepth 100000 in
theorem q_X12_lookAll_16 {g : GG} {σ : Hs} {post : Option Value → Hs → Prop} (a0 : Nat) (v1 : Int32) (v2 : Int32) (hW : FI σ a0 12 4 (fun i7 => (i7 ≤ v2 → post none σ) ∧ (¬ i7 ≤ v2 → FR σ a0 12 34 (fun r8 => FR σ a0 12 6 (fun r9 => AI g σ r9 1 v2 (fun i10 => (i10 = 0 → Rc σ a0 12 ∧ Do g M_X12_looksBy 0 0 [.ref a0, .int v1, .int v2] σ (kI (fun i12 s11 => SI g s11 r8 0 (((81 * v1) + 1) + v2) i12 (fun s15 => J_X12_lookAll_60 g post s15 a0 v1 v2 ((v2 + 1)) )))) ∧ (¬ i10 = 0 → SI g σ r8 0 (((81 * v1) + 1) + v2) (-1) (fun s16 => J_X12_lookAll_60 g post s16 a0 v1 v2 ((v2 + 1)) )))))))) : J_X12_lookAll_16 g post σ a0 v1 v2 := by
  show Fr g M_X12_lookAll (0, 0, 0, 0) [(0, .ref a0), (1, .int v1), (2, .int v2)] [] 16 σ post
  refine fr_iload_n (pc := 16) 2 rfl rfl dX12_lookAll_16 ?_
  refine fr_aload_n (pc := 17) 0 rfl rfl dX12_lookAll_17 ?_
  refine fr_getI (pc := 18) (T := TX12) (k := 4) kc_X12 (by decide) w_1073 dX12_lookAll_18 hW (fun i7 hW => ?_)
  refine fr_icmp_ge (pc := 21) (tgt := 128) (by decide) dX12_lookAll_21 hW (fun hW => ?_) (fun hW => ?_)
  · exact fr_ret (pc := 128) dX12_lookAll_128 rfl ⟨Nat.le_refl 0, Nat.le_refl 0⟩ hW
  · refine fr_aload_n (pc := 24) 0 rfl rfl dX12_lookAll_24 ?_
    refine fr_getR (pc := 25) (T := TX12) (k := 34) kc_X12 (by decide) w_1027 dX12_lookAll_25 hW (fun r8 hW => ?_)
    refine fr_bipush (pc := 28) 81 (by decide) dX12_lookAll_28 ?_
    refine fr_iload_n (pc := 30) 1 rfl rfl dX12_lookAll_30 ?_
    refine fr_imul (pc := 31) dX12_lookAll_31 ?_
    refine fr_iconst (pc := 32) 1 (by decide) dX12_lookAll_32 ?_
    refine fr_iadd (pc := 33) dX12_lookAll_33 ?_
    refine fr_iload_n (pc := 34) 2 rfl rfl dX12_lookAll_34 ?_
    refine fr_iadd (pc := 35) dX12_lookAll_35 ?_
    refine fr_aload_n (pc := 36) 0 rfl rfl dX12_lookAll_36 ?_
    refine fr_getR (pc := 37) (T := TX12) (k := 6) kc_X12 (by decide) w_1010 dX12_lookAll_37 hW (fun r9 hW => ?_)
    refine fr_iload_n (pc := 40) 2 rfl rfl dX12_lookAll_40 ?_
    refine fr_zald (pc := 41) dX12_lookAll_41 hW (fun i10 hW => ?_)
    refine fr_if_eq (pc := 42) (tgt := 49) (by decide) dX12_lookAll_42 hW (fun hW => ?_) (fun hW => ?_)
    · refine fr_aload_n (pc := 49) 0 rfl rfl dX12_lookAll_49 ?_
      refine fr_iload_n (pc := 50) 1 rfl rfl dX12_lookAll_50 ?_
      refine fr_iload_n (pc := 51) 2 rfl rfl dX12_lookAll_51 ?_
      obtain ⟨hrc, hW⟩ := hW
      refine fr_callV_I (pc := 52) (As := [.int v1, .int v2]) (st := [.int (((81 * v1) + 1) + v2), .ref r8]) wd_X12_looksBy w_1265 ok_X12_looksBy (by decide) rfl (Nat.le_of_ble_eq_true rfl) dX12_lookAll_52 ⟨Nat.le_refl 0, Nat.le_refl 0⟩ kc_X12 hrc hW (fun i12 s11 hW => ?_)
      refine fr_iast (pc := 55) dX12_lookAll_55 hW (fun s15 hW => ?_)
      refine fr_iload_n (pc := 56) 2 rfl rfl dX12_lookAll_56 ?_
      refine fr_iconst (pc := 57) 1 (by decide) dX12_lookAll_57 ?_
      refine fr_iadd (pc := 58) dX12_lookAll_58 ?_
      refine fr_istore_n (pc := 59) (lv' := [(3, .int (v2 + 1)), (0, .ref a0), (1, .int v1), (2, .int v2)]) rfl (by decide) rfl dX12_lookAll_59 ?_
      exact fr_sub [1, 2, 3, 0] rfl hW
    · refine fr_iconst (pc := 45) (-1) (by decide) dX12_lookAll_45 ?_
      refine fr_goto (pc := 46) (tgt := 55) (by decide) dX12_lookAll_46 ?_
      refine fr_iast (pc := 55) dX12_lookAll_55 hW (fun s16 hW => ?_)
      refine fr_iload_n (pc := 56) 2 rfl rfl dX12_lookAll_56 ?_
      refine fr_iconst (pc := 57) 1 (by decide) dX12_lookAll_57 ?_
      refine fr_iadd (pc := 58) dX12_lookAll_58 ?_
      refine fr_istore_n (pc := 59) (lv' := [(3, .int (v2 + 1)), (0, .ref a0), (1, .int v1), (2, .int v2)]) rfl (by decide) rfl dX12_lookAll_59 ?_
      exact fr_sub [1, 2, 3, 0] rfl hW
set_option maxHeartbeats 4000000 in
set_option maxRecDepth 100000 in
theorem q_X12_lookAll_60 {g : GG} {σ : Hs} {post : Option Value → Hs → Prop} (a0 : Nat) (v1 : Int32) (v2 : Int32) (v3 : Int32) (hW : FI σ a0 12 4 (fun i17 => (i17 ≤ v3 → J_X12_lookAll_16 g post σ a0 v1 ((v2 + 1)) ) ∧ (¬ i17 ≤ v3 → FR σ a0 12 34 (fun r18 => FR σ a0 12 6 (fun r19 => AI g σ r19 1 v2 (fun i20 => (¬ i20 = 0 → SI g σ r18 0 ((((81 * v1) + 9) + (8 * v2)) + v3) (-1) (fun s21 => J_X12_lookAll_60 g post s21 a0 v1 v2 ((v3 + 1)) )) ∧ (i20 = 0 → FR σ a0 12 6 (fun r22 => AI g σ r22 1 v3 (fun i23 => (i23 = 0 → Rc σ a0 12 ∧ Do g M_X12_looksByBoth 0 0 [.ref a0, .int v1, .int v2, .int v3] σ (kI (fun i25 s24 => SI g s24 r18 0 ((((81 * v1) + 9) + (8 * v2)) + v3) i25 (fun s28 => J_X12_lookAll_60 g post s28 a0 v1 v2 ((v3 + 1)) )))) ∧ (¬ i23 = 0 → SI g σ r18 0 ((((81 * v1) + 9) + (8 * v2)) + v3) (-1) (fun s29 => J_X12_lookAll_60 g post s29 a0 v1 v2 ((v3 + 1)) ))))))))))) : J_X12_lookAll_60 g post σ a0 v1 v2 v3 := by
  show Fr g M_X12_lookAll (0, 0, 0, 0) [(0, .ref a0), (1, .int v1), (2, .int v2), (3, .int v3)] [] 60 σ post
  refine fr_iload_n (pc := 60) 3 rfl rfl dX12_lookAll_60 ?_
  refine fr_aload_n (pc := 61) 0 rfl rfl dX12_lookAll_61 ?_
  refine fr_getI (pc := 62) (T := TX12) (k := 4) kc_X12 (by decide) w_1073 dX12_lookAll_62 hW (fun i17 hW => ?_)
  refine fr_icmp_ge (pc := 65) (tgt := 122) (by decide) dX12_lookAll_65 hW (fun hW => ?_) (fun hW => ?_)
  · refine fr_iinc (pc := 122) (lv' := [(2, .int (v2 + 1)), (0, .ref a0), (1, .int v1), (3, .int v3)]) (v2 + 1) 2 rfl (congrArg (fun z => v2 + z) (by decide)) (by decide) rfl dX12_lookAll_122 ?_
    refine fr_goto (pc := 125) (tgt := 16) (by decide) dX12_lookAll_125 ?_
    exact fr_sub [1, 2, 0] rfl hW
  · refine fr_aload_n (pc := 68) 0 rfl rfl dX12_lookAll_68 ?_
    refine fr_getR (pc := 69) (T := TX12) (k := 34) kc_X12 (by decide) w_1027 dX12_lookAll_69 hW (fun r18 hW => ?_)
    refine fr_bipush (pc := 72) 81 (by decide) dX12_lookAll_72 ?_
    refine fr_iload_n (pc := 74) 1 rfl rfl dX12_lookAll_74 ?_
    refine fr_imul (pc := 75) dX12_lookAll_75 ?_
    refine fr_bipush (pc := 76) 9 (by decide) dX12_lookAll_76 ?_
    refine fr_iadd (pc := 78) dX12_lookAll_78 ?_
    refine fr_bipush (pc := 79) 8 (by decide) dX12_lookAll_79 ?_
    refine fr_iload_n (pc := 81) 2 rfl rfl dX12_lookAll_81 ?_
    refine fr_imul (pc := 82) dX12_lookAll_82 ?_
    refine fr_iadd (pc := 83) dX12_lookAll_83 ?_
    refine fr_iload_n (pc := 84) 3 rfl rfl dX12_lookAll_84 ?_
    refine fr_iadd (pc := 85) dX12_lookAll_85 ?_
    refine fr_aload_n (pc := 86) 0 rfl rfl dX12_lookAll_86 ?_
    refine fr_getR (pc := 87) (T := TX12) (k := 6) kc_X12 (by decide) w_1010 dX12_lookAll_87 hW (fun r19 hW => ?_)
    refine fr_iload_n (pc := 90) 2 rfl rfl dX12_lookAll_90 ?_
    refine fr_zald (pc := 91) dX12_lookAll_91 hW (fun i20 hW => ?_)
    refine fr_if_ne (pc := 92) (tgt := 104) (by decide) dX12_lookAll_92 hW (fun hW => ?_) (fun hW => ?_)
    · refine fr_iconst (pc := 104) (-1) (by decide) dX12_lookAll_104 ?_
      refine fr_goto (pc := 105) (tgt := 115) (by decide) dX12_lookAll_105 ?_
      refine fr_iast (pc := 115) dX12_lookAll_115 hW (fun s21 hW => ?_)
      refine fr_iinc (pc := 116) (lv' := [(3, .int (v3 + 1)), (0, .ref a0), (1, .int v1), (2, .int v2)]) (v3 + 1) 3 rfl (congrArg (fun z => v3 + z) (by decide)) (by decide) rfl dX12_lookAll_116 ?_
      refine fr_goto (pc := 119) (tgt := 60) (by decide) dX12_lookAll_119 ?_
      exact fr_sub [1, 2, 3, 0] rfl hW
    · refine fr_aload_n (pc := 95) 0 rfl rfl dX12_lookAll_95 ?_
      refine fr_getR (pc := 96) (T := TX12) (k := 6) kc_X12 (by decide) w_1010 dX12_lookAll_96 hW (fun r22 hW => ?_)
      refine fr_iload_n (pc := 99) 3 rfl rfl dX12_lookAll_99 ?_
      refine fr_zald (pc := 100) dX12_lookAll_100 hW (fun i23 hW => ?_)
      refine fr_if_eq (pc := 101) (tgt := 108) (by decide) dX12_lookAll_101 hW (fun hW => ?_) (fun hW => ?_)
      · refine fr_aload_n (pc := 108) 0 rfl rfl dX12_lookAll_108 ?_
        refine fr_iload_n (pc := 109) 1 rfl rfl dX12_lookAll_109 ?_
        refine fr_iload_n (pc := 110) 2 rfl rfl dX12_lookAll_110 ?_
        refine fr_iload_n (pc := 111) 3 rfl rfl dX12_lookAll_111 ?_
        obtain ⟨hrc, hW⟩ := hW
        refine fr_callV_I (pc := 112) (As := [.int v1, .int v2, .int v3]) (st := [.int ((((81 * v1) + 9) + (8 * v2)) + v3), .ref r18]) wd_X12_looksByBoth w_1266 ok_X12_looksByBoth (by decide) rfl (Nat.le_of_ble_eq_true rfl) dX12_lookAll_112 ⟨Nat.le_refl 0, Nat.le_refl 0⟩ kc_X12 hrc hW (fun i25 s24 hW => ?_)
        refine fr_iast (pc := 115) dX12_lookAll_115 hW (fun s28 hW => ?_)
        refine fr_iinc (pc := 116) (lv' := [(3, .int (v3 + 1)), (0, .ref a0), (1, .int v1), (2, .int v2)]) (v3 + 1) 3 rfl (congrArg (fun z => v3 + z) (by decide)) (by decide) rfl dX12_lookAll_116 ?_
        refine fr_goto (pc := 119) (tgt := 60) (by decide) dX12_lookAll_119 ?_
        exact fr_sub [1, 2, 3, 0] rfl hW
      · refine fr_iconst (pc := 104) (-1) (by decide) dX12_lookAll_104 ?_
        refine fr_goto (pc := 105) (tgt := 115) (by decide) dX12_lookAll_105 ?_
        refine fr_iast (pc := 115) dX12_lookAll_115 hW (fun s29 hW => ?_)
        refine fr_iinc (pc := 116) (lv' := [(3, .int (v3 + 1)), (0, .ref a0), (1, .int v1), (2, .int v2)]) (v3 + 1) 3 rfl (congrArg (fun z => v3 + z) (by decide)) (by decide) rfl dX12_lookAll_116 ?_
        refine fr_goto (pc := 119) (tgt := 60) (by decide) dX12_lookAll_119 ?_
        exact fr_sub [1, 2, 3, 0] rfl hW
set_option maxHeartbeats 4000000 in
set_option maxRecDepth 100000 in
theorem q_X12_better {g : GG} {σ : Hs} {post : Option Value → Hs → Prop} (r0 : Nat) (p0 : Int32) (p1 : Int32) (hW : FI σ r0 12 35 (fun i1 => (i1 ≤ p0 → post none σ) ∧ (¬ i1 ≤ p0 → PF σ r0 12 35 (.int p0) (fun s2 => PF s2 r0 12 36 (.int p1) (fun s3 => post none s3))))) : Do g M_X12_better 0 0 [.ref r0, .int p0, .int p1] σ post := by
  refine Do.of (by decide +kernel) (Nat.le_of_ble_eq_true rfl) ?_
  show Fr g M_X12_better (0, 0, 0, 0) [(0, .ref r0), (1, .int p0), (2, .int p1)] [] 0 σ post
  refine fr_iload_n (pc := 0) 1 rfl rfl dX12_better_0 ?_
  refine fr_aload_n (pc := 1) 0 rfl rfl dX12_better_1 ?_
  refine fr_getI (pc := 2) (T := TX12) (k := 35) kc_X12 (by decide) w_1273 dX12_better_2 hW (fun i1 hW => ?_)
  refine fr_icmp_ge (pc := 5) (tgt := 18) (by decide) dX12_better_5 hW (fun hW => ?_) (fun hW => ?_)
  · exact fr_ret (pc := 18) dX12_better_18 rfl ⟨Nat.le_refl 0, Nat.le_refl 0⟩ hW
  · refine fr_aload_n (pc := 8) 0 rfl rfl dX12_better_8 ?_
    refine fr_iload_n (pc := 9) 1 rfl rfl dX12_better_9 ?_
    refine fr_put (pc := 10) (T := TX12) (k := 35) kc_X12 (by decide) w_1273 rfl rfl rfl dX12_better_10 hW (fun s2 hW => ?_)
    refine fr_aload_n (pc := 13) 0 rfl rfl dX12_better_13 ?_
    refine fr_iload_n (pc := 14) 2 rfl rfl dX12_better_14 ?_
    refine fr_put (pc := 15) (T := TX12) (k := 36) kc_X12 (by decide) w_1274 rfl rfl rfl dX12_better_15 hW (fun s3 hW => ?_)
    exact fr_ret (pc := 18) dX12_better_18 rfl ⟨Nat.le_refl 0, Nat.le_refl 0⟩ hW
def J_X12_seekBest_20 (g : GG) (post : Option Value → Hs → Prop) (σ : Hs) (a0 : Nat) (v1 : Int32) (v2 : Int32) (v3 : Int32) : Prop := Fr g M_X12_seekBest (0, 0, 0, 0) [(0, .ref a0), (1, .int v1), (2, .int v2), (3, .int v3)] [] 20 σ post
def J_X12_seekBest_74 (g : GG) (post : Option Value → Hs → Prop) (σ : Hs) (a0 : Nat) (v1 : Int32) (v2 : Int32) (v3 : Int32) : Prop := Fr g M_X12_seekBest (0, 0, 0, 0) [(0, .ref a0), (1, .int v1), (2, .int v2), (3, .int v3)] [] 74 σ post
def J_X12_seekBest_87 (g : GG) (post : Option Value → Hs → Prop) (σ : Hs) (a0 : Nat) (v1 : Int32) (v2 : Int32) (v3 : Int32) (v4 : Int32) : Prop := Fr g M_X12_seekBest (0, 0, 0, 0) [(0, .ref a0), (1, .int v1), (2, .int v2), (3, .int v3), (4, .int v4)] [] 87 σ post
set_option maxHeartbeats 4000000 in
set_option maxRecDepth 100000 in
theorem q_X12_seekBest {g : GG} {σ : Hs} {post : Option Value → Hs → Prop} (r0 : Nat) (p0 : Int32) (p1 : Int32) (hW : FR σ r0 12 34 (fun r1 => AI g σ r1 0 (81 * p0) (fun i2 => PF σ r0 12 35 (.int i2) (fun s3 => PF s3 r0 12 36 (.int 0) (fun s4 => J_X12_seekBest_20 g post s4 r0 p0 p1 0 ))))) : Do g M_X12_seekBest 0 0 [.ref r0, .int p0, .int p1] σ post := by
  refine Do.of (by decide +kernel) (Nat.le_of_ble_eq_true rfl) ?_
  show Fr g M_X12_seekBest (0, 0, 0, 0) [(0, .ref r0), (1, .int p0), (2, .int p1)] [] 0 σ post
  refine fr_aload_n (pc := 0) 0 rfl rfl dX12_seekBest_0 ?_
  refine fr_aload_n (pc := 1) 0 rfl rfl dX12_seekBest_1 ?_
  refine fr_getR (pc := 2) (T := TX12) (k := 34) kc_X12 (by decide) w_1027 dX12_seekBest_2 hW (fun r1 hW => ?_)
  refine fr_bipush (pc := 5) 81 (by decide) dX12_seekBest_5 ?_
  refine fr_iload_n (pc := 7) 1 rfl rfl dX12_seekBest_7 ?_
  refine fr_imul (pc := 8) dX12_seekBest_8 ?_
  refine fr_iald (pc := 9) dX12_seekBest_9 hW (fun i2 hW => ?_)
  refine fr_put (pc := 10) (T := TX12) (k := 35) kc_X12 (by decide) w_1273 rfl rfl rfl dX12_seekBest_10 hW (fun s3 hW => ?_)
  refine fr_aload_n (pc := 13) 0 rfl rfl dX12_seekBest_13 ?_
  refine fr_iconst (pc := 14) 0 (by decide) dX12_seekBest_14 ?_
  refine fr_put (pc := 15) (T := TX12) (k := 36) kc_X12 (by decide) w_1274 rfl rfl rfl dX12_seekBest_15 hW (fun s4 hW => ?_)
  refine fr_iconst (pc := 18) 0 (by decide) dX12_seekBest_18 ?_
  refine fr_istore_n (pc := 19) (lv' := [(3, .int 0), (0, .ref r0), (1, .int p0), (2, .int p1)]) rfl (by decide) rfl dX12_seekBest_19 ?_
  exact fr_sub [1, 2, 3, 0] rfl hW
set_option maxHeartbeats 4000000 in
set_option maxRecDepth 100000 in
theorem q_X12_seekBest_20 {g : GG} {σ : Hs} {post : Option Value → Hs → Prop} (a0 : Nat) (v1 : Int32) (v2 : Int32) (v3 : Int32) (hW : FI σ a0 12 4 (fun i5 => (i5 ≤ v3 → J_X12_seekBest_74 g post σ a0 v1 v2 0 ) ∧ (¬ i5 ≤ v3 → (¬ ((v2 >>> (v3 &&& 31)) &&& 1) = 1 → J_X12_seekBest_20 g post σ a0 v1 v2 ((v3 + 1)) ) ∧ (((v2 >>> (v3 &&& 31)) &&& 1) = 1 → FR σ a0 12 6 (fun r6 => AI g σ r6 1 v3 (fun i7 => (¬ i7 = 0 → J_X12_seekBest_20 g post σ a0 v1 v2 ((v3 + 1)) ) ∧ (i7 = 0 → FR σ a0 12 34 (fun r8 => AI g σ r8 0 (((81 * v1) + 1) + v3) (fun i9 => Rc σ a0 12 ∧ Do g M_X12_better 0 0 [.ref a0, .int i9, .int (1 + v3)] σ (kV (fun s10 => J_X12_seekBest_20 g post s10 a0 v1 v2 ((v3 + 1)) ))))))))))) : J_X12_seekBest_20 g post σ a0 v1 v2 v3 := by
  show Fr g M_X12_seekBest (0, 0, 0, 0) [(0, .ref a0), (1, .int v1), (2, .int v2), (3, .int v3)] [] 20 σ post
  refine fr_iload_n (pc := 20) 3 rfl rfl dX12_seekBest_20 ?_
  refine fr_aload_n (pc := 21) 0 rfl rfl dX12_seekBest_21 ?_
  refine fr_getI (pc := 22) (T := TX12) (k := 4) kc_X12 (by decide) w_1073 dX12_seekBest_22 hW (fun i5 hW => ?_)
  refine fr_icmp_ge (pc := 25) (tgt := 72) (by decide) dX12_seekBest_25 hW (fun hW => ?_) (fun hW => ?_)
  · refine fr_iconst (pc := 72) 0 (by decide) dX12_seekBest_72 ?_
    refine fr_istore_n (pc := 73) (lv' := [(3, .int 0), (0, .ref a0), (1, .int v1), (2, .int v2)]) rfl (by decide) rfl dX12_seekBest_73 ?_
    exact fr_sub [1, 2, 3, 0] rfl hW
  · refine fr_iload_n (pc := 28) 2 rfl rfl dX12_seekBest_28 ?_
    refine fr_iload_n (pc := 29) 3 rfl rfl dX12_seekBest_29 ?_
    refine fr_ishr (pc := 30) dX12_seekBest_30 ?_
    refine fr_iconst (pc := 31) 1 (by decide) dX12_seekBest_31 ?_
    refine fr_iand (pc := 32) dX12_seekBest_32 ?_
    refine fr_iconst (pc := 33) 1 (by decide) dX12_seekBest_33 ?_
    refine fr_icmp_ne (pc := 34) (tgt := 66) (by decide) dX12_seekBest_34 hW (fun hW => ?_) (fun hW => ?_)
    · refine fr_iinc (pc := 66) (lv' := [(3, .int (v3 + 1)), (0, .ref a0), (1, .int v1), (2, .int v2)]) (v3 + 1) 3 rfl (congrArg (fun z => v3 + z) (by decide)) (by decide) rfl dX12_seekBest_66 ?_
      refine fr_goto (pc := 69) (tgt := 20) (by decide) dX12_seekBest_69 ?_
      exact fr_sub [1, 2, 3, 0] rfl hW
    · refine fr_aload_n (pc := 37) 0 rfl rfl dX12_seekBest_37 ?_
      refine fr_getR (pc := 38) (T := TX12) (k := 6) kc_X12 (by decide) w_1010 dX12_seekBest_38 hW (fun r6 hW => ?_)
      refine fr_iload_n (pc := 41) 3 rfl rfl dX12_seekBest_41 ?_
      refine fr_zald (pc := 42) dX12_seekBest_42 hW (fun i7 hW => ?_)
      refine fr_if_ne (pc := 43) (tgt := 66) (by decide) dX12_seekBest_43 hW (fun hW => ?_) (fun hW => ?_)
      · refine fr_iinc (pc := 66) (lv' := [(3, .int (v3 + 1)), (0, .ref a0), (1, .int v1), (2, .int v2)]) (v3 + 1) 3 rfl (congrArg (fun z => v3 + z) (by decide)) (by decide) rfl dX12_seekBest_66 ?_
        refine fr_goto (pc := 69) (tgt := 20) (by decide) dX12_seekBest_69 ?_
        exact fr_sub [1, 2, 3, 0] rfl hW
      · refine fr_aload_n (pc := 46) 0 rfl rfl dX12_seekBest_46 ?_
        refine fr_aload_n (pc := 47) 0 rfl rfl dX12_seekBest_47 ?_
        refine fr_getR (pc := 48) (T := TX12) (k := 34) kc_X12 (by decide) w_1027 dX12_seekBest_48 hW (fun r8 hW => ?_)
        refine fr_bipush (pc := 51) 81 (by decide) dX12_seekBest_51 ?_
        refine fr_iload_n (pc := 53) 1 rfl rfl dX12_seekBest_53 ?_
        refine fr_imul (pc := 54) dX12_seekBest_54 ?_
        refine fr_iconst (pc := 55) 1 (by decide) dX12_seekBest_55 ?_
        refine fr_iadd (pc := 56) dX12_seekBest_56 ?_
        refine fr_iload_n (pc := 57) 3 rfl rfl dX12_seekBest_57 ?_
        refine fr_iadd (pc := 58) dX12_seekBest_58 ?_
        refine fr_iald (pc := 59) dX12_seekBest_59 hW (fun i9 hW => ?_)
        refine fr_iconst (pc := 60) 1 (by decide) dX12_seekBest_60 ?_
        refine fr_iload_n (pc := 61) 3 rfl rfl dX12_seekBest_61 ?_
        refine fr_iadd (pc := 62) dX12_seekBest_62 ?_
        obtain ⟨hrc, hW⟩ := hW
        refine fr_callV_V (pc := 63) (As := [.int i9, .int (1 + v3)]) (st := []) wd_X12_better w_1275 ok_X12_better (by decide) rfl (Nat.le_of_ble_eq_true rfl) dX12_seekBest_63 ⟨Nat.le_refl 0, Nat.le_refl 0⟩ kc_X12 hrc hW (fun s10 hW => ?_)
        refine fr_iinc (pc := 66) (lv' := [(3, .int (v3 + 1)), (0, .ref a0), (1, .int v1), (2, .int v2)]) (v3 + 1) 3 rfl (congrArg (fun z => v3 + z) (by decide)) (by decide) rfl dX12_seekBest_66 ?_
        refine fr_goto (pc := 69) (tgt := 20) (by decide) dX12_seekBest_69 ?_
        exact fr_sub [1, 2, 3, 0] rfl hW
set_option maxHeartbeats 4000000 in
set_option maxRecDepth 100000 in
theorem q_X12_seekBest_74 {g : GG} {σ : Hs} {post : Option Value → Hs → Prop} (a0 : Nat) (v1 : Int32) (v2 : Int32) (v3 : Int32) (hW : FI σ a0 12 4 (fun i11 => (i11 ≤ v3 → post none σ) ∧ (¬ i11 ≤ v3 → J_X12_seekBest_87 g post σ a0 v1 v2 v3 ((v3 + 1)) ))) : J_X12_seekBest_74 g post σ a0 v1 v2 v3 := by
  show Fr g M_X12_seekBest (0, 0, 0, 0) [(0, .ref a0), (1, .int v1), (2, .int v2), (3, .int v3)] [] 74 σ post
  refine fr_iload_n (pc := 74) 3 rfl rfl dX12_seekBest_74 ?_
  refine fr_aload_n (pc := 75) 0 rfl rfl dX12_seekBest_75 ?_
  refine fr_getI (pc := 76) (T := TX12) (k := 4) kc_X12 (by decide) w_1073 dX12_seekBest_76 hW (fun i11 hW => ?_)
  refine fr_icmp_ge (pc := 79) (tgt := 175) (by decide) dX12_seekBest_79 hW (fun hW => ?_) (fun hW => ?_)
  · exact fr_ret (pc := 175) dX12_seekBest_175 rfl ⟨Nat.le_refl 0, Nat.le_refl 0⟩ hW
  · refine fr_iload_n (pc := 82) 3 rfl rfl dX12_seekBest_82 ?_
    refine fr_iconst (pc := 83) 1 (by decide) dX12_seekBest_83 ?_
    refine fr_iadd (pc := 84) dX12_seekBest_84 ?_
    refine fr_istore (pc := 85) (lv' := [(4, .int (v3 + 1)), (0, .ref a0), (1, .int v1), (2, .int v2), (3, .int v3)]) (by decide) rfl dX12_seekBest_85 ?_
    exact fr_sub [1, 2, 3, 4, 0] rfl hW
set_option maxHeartbeats 4000000 in
set_option maxRecDepth 100000 in
theorem q_X12_seekBest_87 {g : GG} {σ : Hs} {post : Option Value → Hs → Prop} (a0 : Nat) (v1 : Int32) (v2 : Int32) (v3 : Int32) (v4 : Int32) (hW : FI σ a0 12 4 (fun i12 => (i12 ≤ v4 → J_X12_seekBest_74 g post σ a0 v1 v2 ((v3 + 1)) ) ∧ (¬ i12 ≤ v4 → (¬ (((v2 >>> (v3 &&& 31)) &&& (v2 >>> (v4 &&& 31))) &&& 1) = 1 → J_X12_seekBest_87 g post σ a0 v1 v2 v3 ((v4 + 1)) ) ∧ ((((v2 >>> (v3 &&& 31)) &&& (v2 >>> (v4 &&& 31))) &&& 1) = 1 → FR σ a0 12 6 (fun r13 => AI g σ r13 1 v3 (fun i14 => (¬ i14 = 0 → J_X12_seekBest_87 g post σ a0 v1 v2 v3 ((v4 + 1)) ) ∧ (i14 = 0 → FR σ a0 12 6 (fun r15 => AI g σ r15 1 v4 (fun i16 => (¬ i16 = 0 → J_X12_seekBest_87 g post σ a0 v1 v2 v3 ((v4 + 1)) ) ∧ (i16 = 0 → FR σ a0 12 34 (fun r17 => AI g σ r17 0 ((((81 * v1) + 9) + (8 * v3)) + v4) (fun i18 => Rc σ a0 12 ∧ Do g M_X12_better 0 0 [.ref a0, .int i18, .int ((100 + (10 * v3)) + v4)] σ (kV (fun s19 => J_X12_seekBest_87 g post s19 a0 v1 v2 v3 ((v4 + 1)) )))))))))))))) : J_X12_seekBest_87 g post σ a0 v1 v2 v3 v4 := by
  show Fr g M_X12_seekBest (0, 0, 0, 0) [(0, .ref a0), (1, .int v1), (2, .int v2), (3, .int v3), (4, .int v4)] [] 87 σ post
  refine fr_iload (pc := 87) 4 rfl dX12_seekBest_87 ?_
  refine fr_aload_n (pc := 89) 0 rfl rfl dX12_seekBest_89 ?_
  refine fr_getI (pc := 90) (T := TX12) (k := 4) kc_X12 (by decide) w_1073 dX12_seekBest_90 hW (fun i12 hW => ?_)
  refine fr_icmp_ge (pc := 93) (tgt := 169) (by decide) dX12_seekBest_93 hW (fun hW => ?_) (fun hW => ?_)
  · refine fr_iinc (pc := 169) (lv' := [(3, .int (v3 + 1)), (0, .ref a0), (1, .int v1), (2, .int v2), (4, .int v4)]) (v3 + 1) 3 rfl (congrArg (fun z => v3 + z) (by decide)) (by decide) rfl dX12_seekBest_169 ?_
    refine fr_goto (pc := 172) (tgt := 74) (by decide) dX12_seekBest_172 ?_
    exact fr_sub [1, 2, 3, 0] rfl hW
  · refine fr_iload_n (pc := 96) 2 rfl rfl dX12_seekBest_96 ?_
    refine fr_iload_n (pc := 97) 3 rfl rfl dX12_seekBest_97 ?_
    refine fr_ishr (pc := 98) dX12_seekBest_98 ?_
    refine fr_iload_n (pc := 99) 2 rfl rfl dX12_seekBest_99 ?_
    refine fr_iload (pc := 100) 4 rfl dX12_seekBest_100 ?_
    refine fr_ishr (pc := 102) dX12_seekBest_102 ?_
    refine fr_iand (pc := 103) dX12_seekBest_103 ?_
    refine fr_iconst (pc := 104) 1 (by decide) dX12_seekBest_104 ?_
    refine fr_iand (pc := 105) dX12_seekBest_105 ?_
    refine fr_iconst (pc := 106) 1 (by decide) dX12_seekBest_106 ?_
    refine fr_icmp_ne (pc := 107) (tgt := 163) (by decide) dX12_seekBest_107 hW (fun hW => ?_) (fun hW => ?_)
    · refine fr_iinc (pc := 163) (lv' := [(4, .int (v4 + 1)), (0, .ref a0), (1, .int v1), (2, .int v2), (3, .int v3)]) (v4 + 1) 4 rfl (congrArg (fun z => v4 + z) (by decide)) (by decide) rfl dX12_seekBest_163 ?_
      refine fr_goto (pc := 166) (tgt := 87) (by decide) dX12_seekBest_166 ?_
      exact fr_sub [1, 2, 3, 4, 0] rfl hW
    · refine fr_aload_n (pc := 110) 0 rfl rfl dX12_seekBest_110 ?_
      refine fr_getR (pc := 111) (T := TX12) (k := 6) kc_X12 (by decide) w_1010 dX12_seekBest_111 hW (fun r13 hW => ?_)
      refine fr_iload_n (pc := 114) 3 rfl rfl dX12_seekBest_114 ?_
      refine fr_zald (pc := 115) dX12_seekBest_115 hW (fun i14 hW => ?_)
      refine fr_if_ne (pc := 116) (tgt := 163) (by decide) dX12_seekBest_116 hW (fun hW => ?_) (fun hW => ?_)
      · refine fr_iinc (pc := 163) (lv' := [(4, .int (v4 + 1)), (0, .ref a0), (1, .int v1), (2, .int v2), (3, .int v3)]) (v4 + 1) 4 rfl (congrArg (fun z => v4 + z) (by decide)) (by decide) rfl dX12_seekBest_163 ?_
        refine fr_goto (pc := 166) (tgt := 87) (by decide) dX12_seekBest_166 ?_
        exact fr_sub [1, 2, 3, 4, 0] rfl hW
      · refine fr_aload_n (pc := 119) 0 rfl rfl dX12_seekBest_119 ?_
        refine fr_getR (pc := 120) (T := TX12) (k := 6) kc_X12 (by decide) w_1010 dX12_seekBest_120 hW (fun r15 hW => ?_)
        refine fr_iload (pc := 123) 4 rfl dX12_seekBest_123 ?_
        refine fr_zald (pc := 125) dX12_seekBest_125 hW (fun i16 hW => ?_)
        refine fr_if_ne (pc := 126) (tgt := 163) (by decide) dX12_seekBest_126 hW (fun hW => ?_) (fun hW => ?_)
        · refine fr_iinc (pc := 163) (lv' := [(4, .int (v4 + 1)), (0, .ref a0), (1, .int v1), (2, .int v2), (3, .int v3)]) (v4 + 1) 4 rfl (congrArg (fun z => v4 + z) (by decide)) (by decide) rfl dX12_seekBest_163 ?_
          refine fr_goto (pc := 166) (tgt := 87) (by decide) dX12_seekBest_166 ?_
          exact fr_sub [1, 2, 3, 4, 0] rfl hW
        · refine fr_aload_n (pc := 129) 0 rfl rfl dX12_seekBest_129 ?_
          refine fr_aload_n (pc := 130) 0 rfl rfl dX12_seekBest_130 ?_
          refine fr_getR (pc := 131) (T := TX12) (k := 34) kc_X12 (by decide) w_1027 dX12_seekBest_131 hW (fun r17 hW => ?_)
          refine fr_bipush (pc := 134) 81 (by decide) dX12_seekBest_134 ?_
          refine fr_iload_n (pc := 136) 1 rfl rfl dX12_seekBest_136 ?_
          refine fr_imul (pc := 137) dX12_seekBest_137 ?_
          refine fr_bipush (pc := 138) 9 (by decide) dX12_seekBest_138 ?_
          refine fr_iadd (pc := 140) dX12_seekBest_140 ?_
          refine fr_bipush (pc := 141) 8 (by decide) dX12_seekBest_141 ?_
          refine fr_iload_n (pc := 143) 3 rfl rfl dX12_seekBest_143 ?_
          refine fr_imul (pc := 144) dX12_seekBest_144 ?_
          refine fr_iadd (pc := 145) dX12_seekBest_145 ?_
          refine fr_iload (pc := 146) 4 rfl dX12_seekBest_146 ?_
          refine fr_iadd (pc := 148) dX12_seekBest_148 ?_
          refine fr_iald (pc := 149) dX12_seekBest_149 hW (fun i18 hW => ?_)
          refine fr_bipush (pc := 150) 100 (by decide) dX12_seekBest_150 ?_
          refine fr_bipush (pc := 152) 10 (by decide) dX12_seekBest_152 ?_
          refine fr_iload_n (pc := 154) 3 rfl rfl dX12_seekBest_154 ?_
          refine fr_imul (pc := 155) dX12_seekBest_155 ?_
          refine fr_iadd (pc := 156) dX12_seekBest_156 ?_
          refine fr_iload (pc := 157) 4 rfl dX12_seekBest_157 ?_
          refine fr_iadd (pc := 159) dX12_seekBest_159 ?_
          obtain ⟨hrc, hW⟩ := hW
          refine fr_callV_V (pc := 160) (As := [.int i18, .int ((100 + (10 * v3)) + v4)]) (st := []) wd_X12_better w_1275 ok_X12_better (by decide) rfl (Nat.le_of_ble_eq_true rfl) dX12_seekBest_160 ⟨Nat.le_refl 0, Nat.le_refl 0⟩ kc_X12 hrc hW (fun s19 hW => ?_)
          refine fr_iinc (pc := 163) (lv' := [(4, .int (v4 + 1)), (0, .ref a0), (1, .int v1), (2, .int v2), (3, .int v3)]) (v4 + 1) 4 rfl (congrArg (fun z => v4 + z) (by decide)) (by decide) rfl dX12_seekBest_163 ?_
          refine fr_goto (pc := 166) (tgt := 87) (by decide) dX12_seekBest_166 ?_
          exact fr_sub [1, 2, 3, 4, 0] rfl hW
set_option maxHeartbeats 4000000 in
set_option maxRecDepth 100000 in
theorem q_X12_best {g : GG} {σ : Hs} {post : Option Value → Hs → Prop} (r0 : Nat) (p0 : Int32) (p1 : Int32) (hW : Rc σ r0 12 ∧ Do g M_X12_isQuestion 0 0 [.ref r0, .int p0] σ (kI (fun i2 s1 => (¬ i2 = 0 → Do g M_X12_in 0 0 [.int p1, .int 0, .int 255] s1 (kI (fun i6 s5 => (¬ i6 = 0 → Rc s5 r0 12 ∧ Do g M_X12_lookAll 0 0 [.ref r0, .int p0] s5 (kV (fun s9 => Rc s9 r0 12 ∧ Do g M_X12_seekBest 0 0 [.ref r0, .int p0, .int p1] s9 (kV (fun s10 => FI s10 r0 12 36 (fun i11 => post (some (.int i11)) s10)))))) ∧ (i6 = 0 → post (some (.int (-102))) s5)))) ∧ (i2 = 0 → post (some (.int (-101))) s1)))) : Do g M_X12_best 0 0 [.ref r0, .int p0, .int p1] σ post := by
  refine Do.of (by decide +kernel) (Nat.le_of_ble_eq_true rfl) ?_
  show Fr g M_X12_best (0, 0, 0, 0) [(0, .ref r0), (1, .int p0), (2, .int p1)] [] 0 σ post
  refine fr_aload_n (pc := 0) 0 rfl rfl dX12_best_0 ?_
  refine fr_iload_n (pc := 1) 1 rfl rfl dX12_best_1 ?_
  obtain ⟨hrc, hW⟩ := hW
  refine fr_callV_I (pc := 2) (As := [.int p0]) (st := []) wd_X12_isQuestion w_1205 ok_X12_isQuestion (by decide) rfl (Nat.le_of_ble_eq_true rfl) dX12_best_2 ⟨Nat.le_refl 0, Nat.le_refl 0⟩ kc_X12 hrc hW (fun i2 s1 hW => ?_)
  refine fr_if_ne (pc := 5) (tgt := 11) (by decide) dX12_best_5 hW (fun hW => ?_) (fun hW => ?_)
  · refine fr_iload_n (pc := 11) 2 rfl rfl dX12_best_11 ?_
    refine fr_iconst (pc := 12) 0 (by decide) dX12_best_12 ?_
    refine fr_sipush (pc := 13) 255 (by decide) dX12_best_13 ?_
    refine fr_callS_I (pc := 16) (As := [.int p1, .int 0, .int 255]) (st := []) wd_X12_in w_1067 ok_X12_in (by decide) rfl (Nat.le_of_ble_eq_true rfl) dX12_best_16 ⟨Nat.le_refl 0, Nat.le_refl 0⟩ hW (fun i6 s5 hW => ?_)
    refine fr_if_ne (pc := 19) (tgt := 25) (by decide) dX12_best_19 hW (fun hW => ?_) (fun hW => ?_)
    · refine fr_aload_n (pc := 25) 0 rfl rfl dX12_best_25 ?_
      refine fr_iload_n (pc := 26) 1 rfl rfl dX12_best_26 ?_
      obtain ⟨hrc, hW⟩ := hW
      refine fr_callV_V (pc := 27) (As := [.int p0]) (st := []) wd_X12_lookAll w_1276 ok_X12_lookAll (by decide) rfl (Nat.le_of_ble_eq_true rfl) dX12_best_27 ⟨Nat.le_refl 0, Nat.le_refl 0⟩ kc_X12 hrc hW (fun s9 hW => ?_)
      refine fr_aload_n (pc := 30) 0 rfl rfl dX12_best_30 ?_
      refine fr_iload_n (pc := 31) 1 rfl rfl dX12_best_31 ?_
      refine fr_iload_n (pc := 32) 2 rfl rfl dX12_best_32 ?_
      obtain ⟨hrc, hW⟩ := hW
      refine fr_callV_V (pc := 33) (As := [.int p0, .int p1]) (st := []) wd_X12_seekBest w_1277 ok_X12_seekBest (by decide) rfl (Nat.le_of_ble_eq_true rfl) dX12_best_33 ⟨Nat.le_refl 0, Nat.le_refl 0⟩ kc_X12 hrc hW (fun s10 hW => ?_)
      refine fr_aload_n (pc := 36) 0 rfl rfl dX12_best_36 ?_
      refine fr_getI (pc := 37) (T := TX12) (k := 36) kc_X12 (by decide) w_1274 dX12_best_37 hW (fun i11 hW => ?_)
      exact fr_iret (pc := 40) dX12_best_40 rfl ⟨Nat.le_refl 0, Nat.le_refl 0⟩ hW
    · refine fr_bipush (pc := 22) (-102) (by decide) dX12_best_22 ?_
      exact fr_iret (pc := 24) dX12_best_24 rfl ⟨Nat.le_refl 0, Nat.le_refl 0⟩ hW
  · refine fr_bipush (pc := 8) (-101) (by decide) dX12_best_8 ?_
    exact fr_iret (pc := 10) dX12_best_10 rfl ⟨Nat.le_refl 0, Nat.le_refl 0⟩ hW
def J_X3_burdenOf_4 (g : GG) (post : Option Value → Hs → Prop) (σ : Hs) (a0 : Nat) (v1 : Int32) (v2 : Int32) (v3 : Int32) : Prop := Fr g M_X3_burdenOf (0, 0, 0, 0) [(0, .ref a0), (1, .int v1), (2, .int v2), (3, .int v3)] [] 4 σ post
set_option maxHeartbeats 4000000 in
set_option maxRecDepth 100000 in
theorem q_X3_burdenOf {g : GG} {σ : Hs} {post : Option Value → Hs → Prop} (r0 : Nat) (p0 : Int32) (hW : J_X3_burdenOf_4 g post σ r0 p0 0 0 ) : Do g M_X3_burdenOf 0 0 [.ref r0, .int p0] σ post := by
  refine Do.of (by decide +kernel) (Nat.le_of_ble_eq_true rfl) ?_
  show Fr g M_X3_burdenOf (0, 0, 0, 0) [(0, .ref r0), (1, .int p0)] [] 0 σ post
  refine fr_iconst (pc := 0) 0 (by decide) dX3_burdenOf_0 ?_
  refine fr_istore_n (pc := 1) (lv' := [(2, .int 0), (0, .ref r0), (1, .int p0)]) rfl (by decide) rfl dX3_burdenOf_1 ?_
  refine fr_iconst (pc := 2) 0 (by decide) dX3_burdenOf_2 ?_
  refine fr_istore_n (pc := 3) (lv' := [(3, .int 0), (2, .int 0), (0, .ref r0), (1, .int p0)]) rfl (by decide) rfl dX3_burdenOf_3 ?_
  exact fr_sub [2, 3, 1, 0] rfl hW
set_option maxHeartbeats 4000000 in
set_option maxRecDepth 100000 in
theorem q_X3_burdenOf_4 {g : GG} {σ : Hs} {post : Option Value → Hs → Prop} (a0 : Nat) (v1 : Int32) (v2 : Int32) (v3 : Int32) (hW : FI σ a0 3 2 (fun i1 => (i1 ≤ v3 → post (some (.int v2)) σ) ∧ (¬ i1 ≤ v3 → Do g M_X11_has 0 0 [.int v1, .int v3] σ (kI (fun i3 s2 => (i3 = 0 → J_X3_burdenOf_4 g post s2 a0 v1 v2 ((v3 + 1)) ) ∧ (¬ i3 = 0 → Rc s2 a0 3 ∧ Do g M_X3_kept 0 0 [.ref a0, .int v3] s2 (kA (fun s6 => J_X3_burdenOf_4 g post s6 a0 v1 v2 ((v3 + 1)) ) (fun r9 s6 => Rc s6 r9 2 ∧ Do g M_X2_height 0 0 [.ref r9] s6 (kI (fun i11 s10 => J_X3_burdenOf_4 g post s10 a0 v1 ((v2 + (i11 + 2))) ((v3 + 1)) )))))))))) : J_X3_burdenOf_4 g post σ a0 v1 v2 v3 := by
  show Fr g M_X3_burdenOf (0, 0, 0, 0) [(0, .ref a0), (1, .int v1), (2, .int v2), (3, .int v3)] [] 4 σ post
  refine fr_iload_n (pc := 4) 3 rfl rfl dX3_burdenOf_4 ?_
  refine fr_aload_n (pc := 5) 0 rfl rfl dX3_burdenOf_5 ?_
  refine fr_getI (pc := 6) (T := TX3) (k := 2) kc_X3 (by decide) w_1058 dX3_burdenOf_6 hW (fun i1 hW => ?_)
  refine fr_icmp_ge (pc := 9) (tgt := 52) (by decide) dX3_burdenOf_9 hW (fun hW => ?_) (fun hW => ?_)
  · refine fr_iload_n (pc := 52) 2 rfl rfl dX3_burdenOf_52 ?_
    exact fr_iret (pc := 53) dX3_burdenOf_53 rfl ⟨Nat.le_refl 0, Nat.le_refl 0⟩ hW
  · refine fr_iload_n (pc := 12) 1 rfl rfl dX3_burdenOf_12 ?_
    refine fr_iload_n (pc := 13) 3 rfl rfl dX3_burdenOf_13 ?_
    refine fr_callSN_I (pc := 14) (As := [.int v1, .int v3]) (st := []) wd_X11_has ⟨RX11, by decide +kernel⟩ ok_X11_has (by decide) rfl (Nat.le_of_ble_eq_true rfl) dX3_burdenOf_14 ⟨Nat.le_refl 0, Nat.le_refl 0⟩ hW (fun i3 s2 hW => ?_)
    refine fr_if_eq (pc := 17) (tgt := 28) (by decide) dX3_burdenOf_17 hW (fun hW => ?_) (fun hW => ?_)
    · refine fr_null (pc := 28) dX3_burdenOf_28 ?_
      refine fr_astoreN (pc := 29) (lv' := [(4, .null), (0, .ref a0), (1, .int v1), (2, .int v2), (3, .int v3)]) (by decide) rfl dX3_burdenOf_29 ?_
      refine fr_aloadN (pc := 31) 0 rfl dX3_burdenOf_31 ?_
      refine fr_ifnullN (pc := 33) (tgt := 46) (by decide) dX3_burdenOf_33 ?_
      refine fr_iinc (pc := 46) (lv' := [(3, .int (v3 + 1)), (4, .null), (0, .ref a0), (1, .int v1), (2, .int v2)]) (v3 + 1) 4 rfl (congrArg (fun z => v3 + z) (by decide)) (by decide) rfl dX3_burdenOf_46 ?_
      refine fr_goto (pc := 49) (tgt := 4) (by decide) dX3_burdenOf_49 ?_
      exact fr_sub [2, 3, 4, 0] rfl hW
    · refine fr_aload_n (pc := 20) 0 rfl rfl dX3_burdenOf_20 ?_
      refine fr_iload_n (pc := 21) 3 rfl rfl dX3_burdenOf_21 ?_
      obtain ⟨hrc, hW⟩ := hW
      refine fr_callV_A (pc := 22) (As := [.int v3]) (st := []) wd_X3_kept w_1059 ok_X3_kept (by decide) rfl (Nat.le_of_ble_eq_true rfl) dX3_burdenOf_22 ⟨Nat.le_refl 0, Nat.le_refl 0⟩ kc_X3 hrc hW (fun s6 hW => ?_) (fun r9 s6 hW => ?_)
      · refine fr_goto (pc := 25) (tgt := 29) (by decide) dX3_burdenOf_25 ?_
        refine fr_astoreN (pc := 29) (lv' := [(4, .null), (0, .ref a0), (1, .int v1), (2, .int v2), (3, .int v3)]) (by decide) rfl dX3_burdenOf_29 ?_
        refine fr_aloadN (pc := 31) 0 rfl dX3_burdenOf_31 ?_
        refine fr_ifnullN (pc := 33) (tgt := 46) (by decide) dX3_burdenOf_33 ?_
        refine fr_iinc (pc := 46) (lv' := [(3, .int (v3 + 1)), (4, .null), (0, .ref a0), (1, .int v1), (2, .int v2)]) (v3 + 1) 4 rfl (congrArg (fun z => v3 + z) (by decide)) (by decide) rfl dX3_burdenOf_46 ?_
        refine fr_goto (pc := 49) (tgt := 4) (by decide) dX3_burdenOf_49 ?_
        exact fr_sub [2, 3, 4, 0] rfl hW
      · refine fr_goto (pc := 25) (tgt := 29) (by decide) dX3_burdenOf_25 ?_
        refine fr_astore (pc := 29) (lv' := [(4, .ref r9), (0, .ref a0), (1, .int v1), (2, .int v2), (3, .int v3)]) (by decide) rfl dX3_burdenOf_29 ?_
        refine fr_aload (pc := 31) 0 rfl dX3_burdenOf_31 ?_
        refine fr_ifnull (pc := 33) dX3_burdenOf_33 ?_
        refine fr_iload_n (pc := 36) 3 rfl rfl dX3_burdenOf_36 ?_
        refine fr_aload (pc := 37) 0 rfl dX3_burdenOf_37 ?_
        obtain ⟨hrc, hW⟩ := hW
        refine fr_callV_I (pc := 39) (As := []) (st := [.int v2]) wd_X2_height w_1278 ok_X2_height (by decide) rfl (Nat.le_of_ble_eq_true rfl) dX3_burdenOf_39 ⟨Nat.le_refl 0, Nat.le_refl 0⟩ kc_X2 hrc hW (fun i11 s10 hW => ?_)
        refine fr_iconst (pc := 42) 2 (by decide) dX3_burdenOf_42 ?_
        refine fr_iadd (pc := 43) dX3_burdenOf_43 ?_
        refine fr_iadd (pc := 44) dX3_burdenOf_44 ?_
        refine fr_istore_n (pc := 45) (lv' := [(2, .int (v2 + (i11 + 2))), (4, .ref r9), (0, .ref a0), (1, .int v1), (3, .int v3)]) rfl (by decide) rfl dX3_burdenOf_45 ?_
        refine fr_iinc (pc := 46) (lv' := [(3, .int (v3 + 1)), (2, .int (v2 + (i11 + 2))), (4, .ref r9), (0, .ref a0), (1, .int v1)]) (v3 + 1) 4 rfl (congrArg (fun z => v3 + z) (by decide)) (by decide) rfl dX3_burdenOf_46 ?_
        refine fr_goto (pc := 49) (tgt := 4) (by decide) dX3_burdenOf_49 ?_
        exact fr_sub [3, 4, 1, 0] rfl hW
def J_X10_workOf_16 (g : GG) (post : Option Value → Hs → Prop) (σ : Hs) (a0 : Nat) (v1 : Int32) (v2 : Int32) (v3 : Int32) : Prop := Fr g M_X10_workOf (0, 0, 0, 0) [(0, .ref a0), (1, .int v1), (2, .int v2), (3, .int v3)] [] 16 σ post
set_option maxHeartbeats 4000000 in
set_option maxRecDepth 100000 in
theorem q_X10_workOf {g : GG} {σ : Hs} {post : Option Value → Hs → Prop} (r0 : Nat) (p0 : Int32) (hW : FI σ r0 10 8 (fun i1 => FR σ r0 10 0 (fun r2 => Rc σ r2 3 ∧ Do g M_X3_burdenOf 0 0 [.ref r2, .int p0] σ (kI (fun i4 s3 => J_X10_workOf_16 g post s3 r0 p0 ((i1 * i4)) 0 ))))) : Do g M_X10_workOf 0 0 [.ref r0, .int p0] σ post := by
  refine Do.of (by decide +kernel) (Nat.le_of_ble_eq_true rfl) ?_
  show Fr g M_X10_workOf (0, 0, 0, 0) [(0, .ref r0), (1, .int p0)] [] 0 σ post
  refine fr_aload_n (pc := 0) 0 rfl rfl dX10_workOf_0 ?_
  refine fr_getI (pc := 1) (T := TX10) (k := 8) kc_X10 (by decide) w_1279 dX10_workOf_1 hW (fun i1 hW => ?_)
  refine fr_aload_n (pc := 4) 0 rfl rfl dX10_workOf_4 ?_
  refine fr_getR (pc := 5) (T := TX10) (k := 0) kc_X10 (by decide) w_960 dX10_workOf_5 hW (fun r2 hW => ?_)
  refine fr_iload_n (pc := 8) 1 rfl rfl dX10_workOf_8 ?_
  obtain ⟨hrc, hW⟩ := hW
  refine fr_callV_I (pc := 9) (As := [.int p0]) (st := [.int i1]) wd_X3_burdenOf w_1280 ok_X3_burdenOf (by decide) rfl (Nat.le_of_ble_eq_true rfl) dX10_workOf_9 ⟨Nat.le_refl 0, Nat.le_refl 0⟩ kc_X3 hrc hW (fun i4 s3 hW => ?_)
  refine fr_imul (pc := 12) dX10_workOf_12 ?_
  refine fr_istore_n (pc := 13) (lv' := [(2, .int (i1 * i4)), (0, .ref r0), (1, .int p0)]) rfl (by decide) rfl dX10_workOf_13 ?_
  refine fr_iconst (pc := 14) 0 (by decide) dX10_workOf_14 ?_
  refine fr_istore_n (pc := 15) (lv' := [(3, .int 0), (2, .int (i1 * i4)), (0, .ref r0), (1, .int p0)]) rfl (by decide) rfl dX10_workOf_15 ?_
  exact fr_sub [2, 3, 1, 0] rfl hW
set_option maxHeartbeats 4000000 in
set_option maxRecDepth 100000 in
theorem q_X10_workOf_16 {g : GG} {σ : Hs} {post : Option Value → Hs → Prop} (a0 : Nat) (v1 : Int32) (v2 : Int32) (v3 : Int32) (hW : FI σ a0 10 6 (fun i7 => (i7 ≤ v3 → post (some (.int v2)) σ) ∧ (¬ i7 ≤ v3 → Rc σ a0 10 ∧ Do g M_X10_question 0 0 [.ref a0, .int v3] σ (kA (fun s8 => J_X10_workOf_16 g post s8 a0 v1 v2 ((v3 + 1)) ) (fun r11 s8 => FR s8 a0 10 1 (fun r12 => Rc s8 r12 9 ∧ Do g M_X9_list 0 0 [.ref r12, .ref r11] s8 (kV (fun s13 => Rc s13 r11 6 ∧ Do g M_X6_heft 0 0 [.ref r11] s13 (kI (fun i15 s14 => FR s14 a0 10 1 (fun r18 => FR s14 a0 10 1 (fun r19 => Rc s14 r19 9 ∧ Do g M_X9_bestPlace 0 0 [.ref r19, .int v1] s14 (kI (fun i21 s20 => Rc s20 r18 9 ∧ Do g M_X9_costAt 0 0 [.ref r18, .int i21] s20 (kI (fun i25 s24 => J_X10_workOf_16 g post s24 a0 v1 ((v2 + (i15 * i25))) ((v3 + 1)) )))))))))))))))) : J_X10_workOf_16 g post σ a0 v1 v2 v3 := by
  show Fr g M_X10_workOf (0, 0, 0, 0) [(0, .ref a0), (1, .int v1), (2, .int v2), (3, .int v3)] [] 16 σ post
  refine fr_iload_n (pc := 16) 3 rfl rfl dX10_workOf_16 ?_
  refine fr_aload_n (pc := 17) 0 rfl rfl dX10_workOf_17 ?_
  refine fr_getI (pc := 18) (T := TX10) (k := 6) kc_X10 (by decide) w_1193 dX10_workOf_18 hW (fun i7 hW => ?_)
  refine fr_icmp_ge (pc := 21) (tgt := 75) (by decide) dX10_workOf_21 hW (fun hW => ?_) (fun hW => ?_)
  · refine fr_iload_n (pc := 75) 2 rfl rfl dX10_workOf_75 ?_
    exact fr_iret (pc := 76) dX10_workOf_76 rfl ⟨Nat.le_refl 0, Nat.le_refl 0⟩ hW
  · refine fr_aload_n (pc := 24) 0 rfl rfl dX10_workOf_24 ?_
    refine fr_iload_n (pc := 25) 3 rfl rfl dX10_workOf_25 ?_
    obtain ⟨hrc, hW⟩ := hW
    refine fr_callV_A (pc := 26) (As := [.int v3]) (st := []) wd_X10_question w_1281 ok_X10_question (by decide) rfl (Nat.le_of_ble_eq_true rfl) dX10_workOf_26 ⟨Nat.le_refl 0, Nat.le_refl 0⟩ kc_X10 hrc hW (fun s8 hW => ?_) (fun r11 s8 hW => ?_)
    · refine fr_astoreN (pc := 29) (lv' := [(4, .null), (0, .ref a0), (1, .int v1), (2, .int v2), (3, .int v3)]) (by decide) rfl dX10_workOf_29 ?_
      refine fr_aloadN (pc := 31) 0 rfl dX10_workOf_31 ?_
      refine fr_ifnullN (pc := 33) (tgt := 69) (by decide) dX10_workOf_33 ?_
      refine fr_iinc (pc := 69) (lv' := [(3, .int (v3 + 1)), (4, .null), (0, .ref a0), (1, .int v1), (2, .int v2)]) (v3 + 1) 4 rfl (congrArg (fun z => v3 + z) (by decide)) (by decide) rfl dX10_workOf_69 ?_
      refine fr_goto (pc := 72) (tgt := 16) (by decide) dX10_workOf_72 ?_
      exact fr_sub [2, 3, 4, 0] rfl hW
    · refine fr_astore (pc := 29) (lv' := [(4, .ref r11), (0, .ref a0), (1, .int v1), (2, .int v2), (3, .int v3)]) (by decide) rfl dX10_workOf_29 ?_
      refine fr_aload (pc := 31) 0 rfl dX10_workOf_31 ?_
      refine fr_ifnull (pc := 33) dX10_workOf_33 ?_
      refine fr_aload_n (pc := 36) 1 rfl rfl dX10_workOf_36 ?_
      refine fr_getR (pc := 37) (T := TX10) (k := 1) kc_X10 (by decide) w_961 dX10_workOf_37 hW (fun r12 hW => ?_)
      refine fr_aload (pc := 40) 0 rfl dX10_workOf_40 ?_
      obtain ⟨hrc, hW⟩ := hW
      refine fr_callV_V (pc := 42) (As := [.ref r11]) (st := []) wd_X9_list w_1282 ok_X9_list (by decide) rfl (Nat.le_of_ble_eq_true rfl) dX10_workOf_42 ⟨Nat.le_refl 0, Nat.le_refl 0⟩ kc_X9 hrc hW (fun s13 hW => ?_)
      refine fr_iload_n (pc := 45) 3 rfl rfl dX10_workOf_45 ?_
      refine fr_aload (pc := 46) 0 rfl dX10_workOf_46 ?_
      obtain ⟨hrc, hW⟩ := hW
      refine fr_callV_I (pc := 48) (As := []) (st := [.int v2]) wd_X6_heft w_1283 ok_X6_heft (by decide) rfl (Nat.le_of_ble_eq_true rfl) dX10_workOf_48 ⟨Nat.le_refl 0, Nat.le_refl 0⟩ kc_X6 hrc hW (fun i15 s14 hW => ?_)
      refine fr_aload_n (pc := 51) 1 rfl rfl dX10_workOf_51 ?_
      refine fr_getR (pc := 52) (T := TX10) (k := 1) kc_X10 (by decide) w_961 dX10_workOf_52 hW (fun r18 hW => ?_)
      refine fr_aload_n (pc := 55) 1 rfl rfl dX10_workOf_55 ?_
      refine fr_getR (pc := 56) (T := TX10) (k := 1) kc_X10 (by decide) w_961 dX10_workOf_56 hW (fun r19 hW => ?_)
      refine fr_iload_n (pc := 59) 2 rfl rfl dX10_workOf_59 ?_
      obtain ⟨hrc, hW⟩ := hW
      refine fr_callV_I (pc := 60) (As := [.int v1]) (st := [.ref r18, .int i15, .int v2]) wd_X9_bestPlace w_1284 ok_X9_bestPlace (by decide) rfl (Nat.le_of_ble_eq_true rfl) dX10_workOf_60 ⟨Nat.le_refl 0, Nat.le_refl 0⟩ kc_X9 hrc hW (fun i21 s20 hW => ?_)
      obtain ⟨hrc, hW⟩ := hW
      refine fr_callV_I (pc := 63) (As := [.int i21]) (st := [.int i15, .int v2]) wd_X9_costAt w_1285 ok_X9_costAt (by decide) rfl (Nat.le_of_ble_eq_true rfl) dX10_workOf_63 ⟨Nat.le_refl 0, Nat.le_refl 0⟩ kc_X9 hrc hW (fun i25 s24 hW => ?_)
      refine fr_imul (pc := 66) dX10_workOf_66 ?_
      refine fr_iadd (pc := 67) dX10_workOf_67 ?_
      refine fr_istore_n (pc := 68) (lv' := [(2, .int (v2 + (i15 * i25))), (4, .ref r11), (0, .ref a0), (1, .int v1), (3, .int v3)]) rfl (by decide) rfl dX10_workOf_68 ?_
      refine fr_iinc (pc := 69) (lv' := [(3, .int (v3 + 1)), (2, .int (v2 + (i15 * i25))), (4, .ref r11), (0, .ref a0), (1, .int v1)]) (v3 + 1) 4 rfl (congrArg (fun z => v3 + z) (by decide)) (by decide) rfl dX10_workOf_69 ?_
      refine fr_goto (pc := 72) (tgt := 16) (by decide) dX10_workOf_72 ?_
      exact fr_sub [3, 4, 1, 0] rfl hW
set_option maxHeartbeats 4000000 in
set_option maxRecDepth 100000 in
theorem q_X11_work {g : GG} {σ : Hs} {post : Option Value → Hs → Prop} (r0 : Nat) (p0 : Int32) (hW : Do g M_X11_isSet 0 0 [.int p0] σ (kI (fun i2 s1 => (i2 = 0 → post (some (.int (-102))) s1) ∧ (¬ i2 = 0 → FR s1 r0 11 3 (fun r5 => Rc s1 r5 10 ∧ Do g M_X10_workOf 0 0 [.ref r5, .int p0] s1 (kI (fun i7 s6 => post (some (.int i7)) s6))))))) : Do g M_X11_work 0 0 [.ref r0, .int p0] σ post := by
  refine Do.of (by decide +kernel) (Nat.le_of_ble_eq_true rfl) ?_
  show Fr g M_X11_work (0, 0, 0, 0) [(0, .ref r0), (1, .int p0)] [] 0 σ post
  refine fr_iload_n (pc := 0) 1 rfl rfl dX11_work_0 ?_
  refine fr_callS_I (pc := 1) (As := [.int p0]) (st := []) wd_X11_isSet w_1270 ok_X11_isSet (by decide) rfl (Nat.le_of_ble_eq_true rfl) dX11_work_1 ⟨Nat.le_refl 0, Nat.le_refl 0⟩ hW (fun i2 s1 hW => ?_)
  refine fr_if_eq (pc := 4) (tgt := 18) (by decide) dX11_work_4 hW (fun hW => ?_) (fun hW => ?_)
  · refine fr_bipush (pc := 18) (-102) (by decide) dX11_work_18 ?_
    exact fr_iret (pc := 20) dX11_work_20 rfl ⟨Nat.le_refl 0, Nat.le_refl 0⟩ hW
  · refine fr_aload_n (pc := 7) 0 rfl rfl dX11_work_7 ?_
    refine fr_getR (pc := 8) (T := TX11) (k := 3) kc_X11 (by decide) w_995 dX11_work_8 hW (fun r5 hW => ?_)
    refine fr_iload_n (pc := 11) 1 rfl rfl dX11_work_11 ?_
    obtain ⟨hrc, hW⟩ := hW
    refine fr_callV_I (pc := 12) (As := [.int p0]) (st := []) wd_X10_workOf w_1286 ok_X10_workOf (by decide) rfl (Nat.le_of_ble_eq_true rfl) dX11_work_12 ⟨Nat.le_refl 0, Nat.le_refl 0⟩ kc_X10 hrc hW (fun i7 s6 hW => ?_)
    refine fr_goto (pc := 15) (tgt := 20) (by decide) dX11_work_15 ?_
    exact fr_iret (pc := 20) dX11_work_20 rfl ⟨Nat.le_refl 0, Nat.le_refl 0⟩ hW
def J_X12_lookAtAll_2 (g : GG) (post : Option Value → Hs → Prop) (σ : Hs) (a0 : Nat) (v1 : Int32) : Prop := Fr g M_X12_lookAtAll (0, 0, 0, 0) [(0, .ref a0), (1, .int v1)] [] 2 σ post
set_option maxHeartbeats 4000000 in
set_option maxRecDepth 100000 in
theorem q_X12_lookAtAll {g : GG} {σ : Hs} {post : Option Value → Hs → Prop} (r0 : Nat) (hW : J_X12_lookAtAll_2 g post σ r0 0 ) : Do g M_X12_lookAtAll 0 0 [.ref r0] σ post := by
  refine Do.of (by decide +kernel) (Nat.le_of_ble_eq_true rfl) ?_
  show Fr g M_X12_lookAtAll (0, 0, 0, 0) [(0, .ref r0)] [] 0 σ post
  refine fr_iconst (pc := 0) 0 (by decide) dX12_lookAtAll_0 ?_
  refine fr_istore_n (pc := 1) (lv' := [(1, .int 0), (0, .ref r0)]) rfl (by decide) rfl dX12_lookAtAll_1 ?_
  exact fr_sub [1, 0] rfl hW
set_option maxHeartbeats 4000000 in
set_option maxRecDepth 100000 in
theorem q_X12_lookAtAll_2 {g : GG} {σ : Hs} {post : Option Value → Hs → Prop} (a0 : Nat) (v1 : Int32) (hW : FI σ a0 12 14 (fun i1 => (i1 ≤ v1 → post none σ) ∧ (¬ i1 ≤ v1 → Rc σ a0 12 ∧ Do g M_X12_lookAll 0 0 [.ref a0, .int v1] σ (kV (fun s2 => J_X12_lookAtAll_2 g post s2 a0 ((v1 + 1)) ))))) : J_X12_lookAtAll_2 g post σ a0 v1 := by
  show Fr g M_X12_lookAtAll (0, 0, 0, 0) [(0, .ref a0), (1, .int v1)] [] 2 σ post
  refine fr_iload_n (pc := 2) 1 rfl rfl dX12_lookAtAll_2 ?_
  refine fr_aload_n (pc := 3) 0 rfl rfl dX12_lookAtAll_3 ?_
  refine fr_getI (pc := 4) (T := TX12) (k := 14) kc_X12 (by decide) w_1198 dX12_lookAtAll_4 hW (fun i1 hW => ?_)
  refine fr_icmp_ge (pc := 7) (tgt := 21) (by decide) dX12_lookAtAll_7 hW (fun hW => ?_) (fun hW => ?_)
  · exact fr_ret (pc := 21) dX12_lookAtAll_21 rfl ⟨Nat.le_refl 0, Nat.le_refl 0⟩ hW
  · refine fr_aload_n (pc := 10) 0 rfl rfl dX12_lookAtAll_10 ?_
    refine fr_iload_n (pc := 11) 1 rfl rfl dX12_lookAtAll_11 ?_
    obtain ⟨hrc, hW⟩ := hW
    refine fr_callV_V (pc := 12) (As := [.int v1]) (st := []) wd_X12_lookAll w_1276 ok_X12_lookAll (by decide) rfl (Nat.le_of_ble_eq_true rfl) dX12_lookAtAll_12 ⟨Nat.le_refl 0, Nat.le_refl 0⟩ kc_X12 hrc hW (fun s2 hW => ?_)
    refine fr_iinc (pc := 15) (lv' := [(1, .int (v1 + 1)), (0, .ref a0)]) (v1 + 1) 1 rfl (congrArg (fun z => v1 + z) (by decide)) (by decide) rfl dX12_lookAtAll_15 ?_
    refine fr_goto (pc := 18) (tgt := 2) (by decide) dX12_lookAtAll_18 ?_
    exact fr_sub [1, 0] rfl hW
