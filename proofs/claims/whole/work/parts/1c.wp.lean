def J_X12_guessBy_8 (g : GG) (post : Option Value → Hs → Prop) (σ : Hs) (a0 : Nat) (v1 : Int32) (v2 : Int32) (v3 : Int32) (v4 : Int32) (v5 : Int32) : Prop := Fr g M_X12_guessBy (0, 0, 0, 0) [(0, .ref a0), (1, .int v1), (2, .int v2), (3, .int v3), (4, .int v4), (5, .int v5)] [] 8 σ post
def J_X12_guessBy_163 (g : GG) (post : Option Value → Hs → Prop) (σ : Hs) (a0 : Nat) (v1 : Int32) (v2 : Int32) (v8 : Int32) (t0 : Int32) (t1 : Int32) : Prop := Fr g M_X12_guessBy (0, 0, 0, 0) [(0, .ref a0), (1, .int v1), (2, .int v2), (8, .int v8)] [.int t0, .int t1] 163 σ post
def J_X12_guessBy_51 (g : GG) (post : Option Value → Hs → Prop) (σ : Hs) (a0 : Nat) (v1 : Int32) (v2 : Int32) (v4 : Int32) (v5 : Int32) (t0 : Int32) (t1 : Int32) : Prop := Fr g M_X12_guessBy (0, 0, 0, 0) [(0, .ref a0), (1, .int v1), (2, .int v2), (4, .int v4), (5, .int v5)] [.int t0, .int t1] 51 σ post
set_option maxHeartbeats 4000000 in
set_option maxRecDepth 100000 in
theorem q_X12_guessBy {g : GG} {σ : Hs} {post : Option Value → Hs → Prop} (r0 : Nat) (p0 : Int32) (p1 : Int32) (hW : J_X12_guessBy_8 g post σ r0 p0 p1 0 0 0 ) : Do g M_X12_guessBy 0 0 [.ref r0, .int p0, .int p1] σ post := by
  refine Do.of (by decide +kernel) (Nat.le_of_ble_eq_true rfl) ?_
  show Fr g M_X12_guessBy (0, 0, 0, 0) [(0, .ref r0), (1, .int p0), (2, .int p1)] [] 0 σ post
  refine fr_iconst (pc := 0) 0 (by decide) dX12_guessBy_0 ?_
  refine fr_istore_n (pc := 1) (lv' := [(3, .int 0), (0, .ref r0), (1, .int p0), (2, .int p1)]) rfl (by decide) rfl dX12_guessBy_1 ?_
  refine fr_iconst (pc := 2) 0 (by decide) dX12_guessBy_2 ?_
  refine fr_istore (pc := 3) (lv' := [(4, .int 0), (3, .int 0), (0, .ref r0), (1, .int p0), (2, .int p1)]) (by decide) rfl dX12_guessBy_3 ?_
  refine fr_iconst (pc := 5) 0 (by decide) dX12_guessBy_5 ?_
  refine fr_istore (pc := 6) (lv' := [(5, .int 0), (4, .int 0), (3, .int 0), (0, .ref r0), (1, .int p0), (2, .int p1)]) (by decide) rfl dX12_guessBy_6 ?_
  exact fr_sub [3, 4, 5, 2, 1, 0] rfl hW
set_option maxHeartbeats 4000000 in
set_option maxRecDepth 100000 in
theorem q_X12_guessBy_8 {g : GG} {σ : Hs} {post : Option Value → Hs → Prop} (a0 : Nat) (v1 : Int32) (v2 : Int32) (v3 : Int32) (v4 : Int32) (v5 : Int32) (hW : FR σ a0 12 5 (fun r1 => AI g σ r1 0 v2 (fun i2 => Do g M_X12_keySize 0 0 [.int i2] σ (kI (fun i4 s3 => (i4 ≤ v5 → FR s3 a0 12 5 (fun r7 => AI g s3 r7 0 v2 (fun i8 => Do g M_X12_roomOf 0 0 [.int i8] s3 (kI (fun i10 s9 => Rc s9 a0 12 ∧ Do g M_X12_likelyBy 0 0 [.ref a0, .int v1, .int v3] s9 (kI (fun i14 s13 => ¬ i10 = 0 ∧ Rc s13 a0 12 ∧ Do g M_X12_likelyBy 0 0 [.ref a0, .int v1, .int v4] s13 (kI (fun i18 s17 => Rc s17 a0 12 ∧ Do g M_X12_isCovered 0 0 [.ref a0, .int v1, .int v2] s17 (kI (fun i22 s21 => (i22 = 0 → Rc s21 a0 12 ∧ Do g M_X12_fullPages 0 0 [.ref a0] s21 (kI (fun i26 s25 => (i26 ≤ i18 → Rc s25 a0 12 ∧ Do g M_X12_fullPages 0 0 [.ref a0] s25 (kI (fun i30 s29 => Rc s29 a0 12 ∧ Do g M_X12_heightOf 0 0 [.ref a0, .int v2] s29 (kI (fun i34 s33 => (1 ≤ (((i14 + i10) - 1) / i10) → J_X12_guessBy_163 g post s33 a0 v1 v2 i30 ((((i14 + i10) - 1) / i10)) i34) ∧ (¬ 1 ≤ (((i14 + i10) - 1) / i10) → J_X12_guessBy_163 g post s33 a0 v1 v2 i30 1 i34)))))) ∧ (¬ i26 ≤ i18 → Rc s25 a0 12 ∧ Do g M_X12_heightOf 0 0 [.ref a0, .int v2] s25 (kI (fun i38 s37 => (1 ≤ (((i14 + i10) - 1) / i10) → J_X12_guessBy_163 g post s37 a0 v1 v2 i18 ((((i14 + i10) - 1) / i10)) i38) ∧ (¬ 1 ≤ (((i14 + i10) - 1) / i10) → J_X12_guessBy_163 g post s37 a0 v1 v2 i18 1 i38))))))) ∧ (¬ i22 = 0 → Rc s21 a0 12 ∧ Do g M_X12_heightOf 0 0 [.ref a0, .int v2] s21 (kI (fun i42 s41 => (1 ≤ (((i14 + i10) - 1) / i10) → J_X12_guessBy_163 g post s41 a0 v1 v2 0 ((((i14 + i10) - 1) / i10)) i42) ∧ (¬ 1 ≤ (((i14 + i10) - 1) / i10) → J_X12_guessBy_163 g post s41 a0 v1 v2 0 1 i42))))))))))))))) ∧ (¬ i4 ≤ v5 → Rc s3 a0 12 ∧ Do g M_X12_runColumns 0 0 [.ref a0, .int v1, .int v2] s3 (kI (fun i46 s45 => (i46 ≤ v5 → J_X12_guessBy_51 g post s45 a0 v1 v2 v4 v5 0 v3) ∧ (¬ i46 ≤ v5 → FR s45 a0 12 5 (fun r49 => AI g s45 r49 0 v2 (fun i50 => Do g M_X12_keyAt 0 0 [.int i50, .int v5] s45 (kI (fun i52 s51 => J_X12_guessBy_51 g post s51 a0 v1 v2 v4 v5 (((1 : Int32) <<< (i52 &&& 31))) v3))))))))))))) : J_X12_guessBy_8 g post σ a0 v1 v2 v3 v4 v5 := by
  show Fr g M_X12_guessBy (0, 0, 0, 0) [(0, .ref a0), (1, .int v1), (2, .int v2), (3, .int v3), (4, .int v4), (5, .int v5)] [] 8 σ post
  refine fr_iload (pc := 8) 5 rfl dX12_guessBy_8 ?_
  refine fr_aload_n (pc := 10) 0 rfl rfl dX12_guessBy_10 ?_
  refine fr_getR (pc := 11) (T := TX12) (k := 5) kc_X12 (by decide) w_1009 dX12_guessBy_11 hW (fun r1 hW => ?_)
  refine fr_iload_n (pc := 14) 2 rfl rfl dX12_guessBy_14 ?_
  refine fr_iald (pc := 15) dX12_guessBy_15 hW (fun i2 hW => ?_)
  refine fr_callS_I (pc := 16) (As := [.int i2]) (st := [.int v5]) wd_X12_keySize w_1068 ok_X12_keySize (by decide) rfl (Nat.le_of_ble_eq_true rfl) dX12_guessBy_16 ⟨Nat.le_refl 0, Nat.le_refl 0⟩ hW (fun i4 s3 hW => ?_)
  refine fr_icmp_ge (pc := 19) (tgt := 77) (by decide) dX12_guessBy_19 hW (fun hW => ?_) (fun hW => ?_)
  · refine fr_aload_n (pc := 77) 0 rfl rfl dX12_guessBy_77 ?_
    refine fr_getR (pc := 78) (T := TX12) (k := 5) kc_X12 (by decide) w_1009 dX12_guessBy_78 hW (fun r7 hW => ?_)
    refine fr_iload_n (pc := 81) 2 rfl rfl dX12_guessBy_81 ?_
    refine fr_iald (pc := 82) dX12_guessBy_82 hW (fun i8 hW => ?_)
    refine fr_callS_I (pc := 83) (As := [.int i8]) (st := []) wd_X12_roomOf w_1071 ok_X12_roomOf (by decide) rfl (Nat.le_of_ble_eq_true rfl) dX12_guessBy_83 ⟨Nat.le_refl 0, Nat.le_refl 0⟩ hW (fun i10 s9 hW => ?_)
    refine fr_istore (pc := 86) (lv' := [(5, .int i10), (0, .ref a0), (1, .int v1), (2, .int v2), (3, .int v3), (4, .int v4)]) (by decide) rfl dX12_guessBy_86 ?_
    refine fr_aload_n (pc := 88) 1 rfl rfl dX12_guessBy_88 ?_
    refine fr_iload_n (pc := 89) 2 rfl rfl dX12_guessBy_89 ?_
    refine fr_iload_n (pc := 90) 4 rfl rfl dX12_guessBy_90 ?_
    obtain ⟨hrc, hW⟩ := hW
    refine fr_callV_I (pc := 91) (As := [.int v1, .int v3]) (st := []) wd_X12_likelyBy w_1355 ok_X12_likelyBy (by decide) rfl (Nat.le_of_ble_eq_true rfl) dX12_guessBy_91 ⟨Nat.le_refl 0, Nat.le_refl 0⟩ kc_X12 hrc hW (fun i14 s13 hW => ?_)
    refine fr_iload (pc := 94) 0 rfl dX12_guessBy_94 ?_
    refine fr_iadd (pc := 96) dX12_guessBy_96 ?_
    refine fr_iconst (pc := 97) 1 (by decide) dX12_guessBy_97 ?_
    refine fr_isub (pc := 98) dX12_guessBy_98 ?_
    refine fr_iload (pc := 99) 0 rfl dX12_guessBy_99 ?_
    obtain ⟨hne, hW⟩ := hW
    refine fr_idiv (pc := 101) hne dX12_guessBy_101 ?_
    refine fr_istore (pc := 102) (lv' := [(6, .int (((i14 + i10) - 1) / i10)), (5, .int i10), (0, .ref a0), (1, .int v1), (2, .int v2), (3, .int v3), (4, .int v4)]) (by decide) rfl dX12_guessBy_102 ?_
    refine fr_aload_n (pc := 104) 2 rfl rfl dX12_guessBy_104 ?_
    refine fr_iload_n (pc := 105) 3 rfl rfl dX12_guessBy_105 ?_
    refine fr_iload (pc := 106) 6 rfl dX12_guessBy_106 ?_
    obtain ⟨hrc, hW⟩ := hW
    refine fr_callV_I (pc := 108) (As := [.int v1, .int v4]) (st := []) wd_X12_likelyBy w_1355 ok_X12_likelyBy (by decide) rfl (Nat.le_of_ble_eq_true rfl) dX12_guessBy_108 ⟨Nat.le_refl 0, Nat.le_refl 0⟩ kc_X12 hrc hW (fun i18 s17 hW => ?_)
    refine fr_istore (pc := 111) (lv' := [(7, .int i18), (6, .int (((i14 + i10) - 1) / i10)), (5, .int i10), (0, .ref a0), (1, .int v1), (2, .int v2), (3, .int v3), (4, .int v4)]) (by decide) rfl dX12_guessBy_111 ?_
    refine fr_aload_n (pc := 113) 3 rfl rfl dX12_guessBy_113 ?_
    refine fr_iload_n (pc := 114) 4 rfl rfl dX12_guessBy_114 ?_
    refine fr_iload_n (pc := 115) 5 rfl rfl dX12_guessBy_115 ?_
    obtain ⟨hrc, hW⟩ := hW
    refine fr_callV_I (pc := 116) (As := [.int v1, .int v2]) (st := []) wd_X12_isCovered w_1261 ok_X12_isCovered (by decide) rfl (Nat.le_of_ble_eq_true rfl) dX12_guessBy_116 ⟨Nat.le_refl 0, Nat.le_refl 0⟩ kc_X12 hrc hW (fun i22 s21 hW => ?_)
    refine fr_if_eq (pc := 119) (tgt := 126) (by decide) dX12_guessBy_119 hW (fun hW => ?_) (fun hW => ?_)
    · refine fr_iload (pc := 126) 0 rfl dX12_guessBy_126 ?_
      refine fr_aload_n (pc := 128) 3 rfl rfl dX12_guessBy_128 ?_
      obtain ⟨hrc, hW⟩ := hW
      refine fr_callV_I (pc := 129) (As := []) (st := [.int i18]) wd_X12_fullPages w_1253 ok_X12_fullPages (by decide) rfl (Nat.le_of_ble_eq_true rfl) dX12_guessBy_129 ⟨Nat.le_refl 0, Nat.le_refl 0⟩ kc_X12 hrc hW (fun i26 s25 hW => ?_)
      refine fr_icmp_ge (pc := 132) (tgt := 140) (by decide) dX12_guessBy_132 hW (fun hW => ?_) (fun hW => ?_)
      · refine fr_aload_n (pc := 140) 3 rfl rfl dX12_guessBy_140 ?_
        obtain ⟨hrc, hW⟩ := hW
        refine fr_callV_I (pc := 141) (As := []) (st := []) wd_X12_fullPages w_1253 ok_X12_fullPages (by decide) rfl (Nat.le_of_ble_eq_true rfl) dX12_guessBy_141 ⟨Nat.le_refl 0, Nat.le_refl 0⟩ kc_X12 hrc hW (fun i30 s29 hW => ?_)
        refine fr_istore (pc := 144) (lv' := [(8, .int i30), (7, .int i18), (6, .int (((i14 + i10) - 1) / i10)), (5, .int i10), (0, .ref a0), (1, .int v1), (2, .int v2), (3, .int v3), (4, .int v4)]) (by decide) rfl dX12_guessBy_144 ?_
        refine fr_aload_n (pc := 146) 4 rfl rfl dX12_guessBy_146 ?_
        refine fr_iload_n (pc := 147) 6 rfl rfl dX12_guessBy_147 ?_
        obtain ⟨hrc, hW⟩ := hW
        refine fr_callV_I (pc := 148) (As := [.int v2]) (st := []) wd_X12_heightOf w_1142 ok_X12_heightOf (by decide) rfl (Nat.le_of_ble_eq_true rfl) dX12_guessBy_148 ⟨Nat.le_refl 0, Nat.le_refl 0⟩ kc_X12 hrc hW (fun i34 s33 hW => ?_)
        refine fr_iload (pc := 151) 2 rfl dX12_guessBy_151 ?_
        refine fr_iconst (pc := 153) 1 (by decide) dX12_guessBy_153 ?_
        refine fr_icmp_ge (pc := 154) (tgt := 161) (by decide) dX12_guessBy_154 hW (fun hW => ?_) (fun hW => ?_)
        · refine fr_iload (pc := 161) 2 rfl dX12_guessBy_161 ?_
          exact fr_sub [4, 5, 6, 0] rfl hW
        · refine fr_iconst (pc := 157) 1 (by decide) dX12_guessBy_157 ?_
          refine fr_goto (pc := 158) (tgt := 163) (by decide) dX12_guessBy_158 ?_
          exact fr_sub [4, 5, 6, 0] rfl hW
      · refine fr_iload (pc := 135) 0 rfl dX12_guessBy_135 ?_
        refine fr_goto (pc := 137) (tgt := 144) (by decide) dX12_guessBy_137 ?_
        refine fr_istore (pc := 144) (lv' := [(8, .int i18), (7, .int i18), (6, .int (((i14 + i10) - 1) / i10)), (5, .int i10), (0, .ref a0), (1, .int v1), (2, .int v2), (3, .int v3), (4, .int v4)]) (by decide) rfl dX12_guessBy_144 ?_
        refine fr_aload_n (pc := 146) 4 rfl rfl dX12_guessBy_146 ?_
        refine fr_iload_n (pc := 147) 6 rfl rfl dX12_guessBy_147 ?_
        obtain ⟨hrc, hW⟩ := hW
        refine fr_callV_I (pc := 148) (As := [.int v2]) (st := []) wd_X12_heightOf w_1142 ok_X12_heightOf (by decide) rfl (Nat.le_of_ble_eq_true rfl) dX12_guessBy_148 ⟨Nat.le_refl 0, Nat.le_refl 0⟩ kc_X12 hrc hW (fun i38 s37 hW => ?_)
        refine fr_iload (pc := 151) 2 rfl dX12_guessBy_151 ?_
        refine fr_iconst (pc := 153) 1 (by decide) dX12_guessBy_153 ?_
        refine fr_icmp_ge (pc := 154) (tgt := 161) (by decide) dX12_guessBy_154 hW (fun hW => ?_) (fun hW => ?_)
        · refine fr_iload (pc := 161) 2 rfl dX12_guessBy_161 ?_
          exact fr_sub [4, 5, 6, 0] rfl hW
        · refine fr_iconst (pc := 157) 1 (by decide) dX12_guessBy_157 ?_
          refine fr_goto (pc := 158) (tgt := 163) (by decide) dX12_guessBy_158 ?_
          exact fr_sub [4, 5, 6, 0] rfl hW
    · refine fr_iconst (pc := 122) 0 (by decide) dX12_guessBy_122 ?_
      refine fr_goto (pc := 123) (tgt := 144) (by decide) dX12_guessBy_123 ?_
      refine fr_istore (pc := 144) (lv' := [(8, .int 0), (7, .int i18), (6, .int (((i14 + i10) - 1) / i10)), (5, .int i10), (0, .ref a0), (1, .int v1), (2, .int v2), (3, .int v3), (4, .int v4)]) (by decide) rfl dX12_guessBy_144 ?_
      refine fr_aload_n (pc := 146) 4 rfl rfl dX12_guessBy_146 ?_
      refine fr_iload_n (pc := 147) 6 rfl rfl dX12_guessBy_147 ?_
      obtain ⟨hrc, hW⟩ := hW
      refine fr_callV_I (pc := 148) (As := [.int v2]) (st := []) wd_X12_heightOf w_1142 ok_X12_heightOf (by decide) rfl (Nat.le_of_ble_eq_true rfl) dX12_guessBy_148 ⟨Nat.le_refl 0, Nat.le_refl 0⟩ kc_X12 hrc hW (fun i42 s41 hW => ?_)
      refine fr_iload (pc := 151) 2 rfl dX12_guessBy_151 ?_
      refine fr_iconst (pc := 153) 1 (by decide) dX12_guessBy_153 ?_
      refine fr_icmp_ge (pc := 154) (tgt := 161) (by decide) dX12_guessBy_154 hW (fun hW => ?_) (fun hW => ?_)
      · refine fr_iload (pc := 161) 2 rfl dX12_guessBy_161 ?_
        exact fr_sub [4, 5, 6, 0] rfl hW
      · refine fr_iconst (pc := 157) 1 (by decide) dX12_guessBy_157 ?_
        refine fr_goto (pc := 158) (tgt := 163) (by decide) dX12_guessBy_158 ?_
        exact fr_sub [4, 5, 6, 0] rfl hW
  · refine fr_iload_n (pc := 22) 3 rfl rfl dX12_guessBy_22 ?_
    refine fr_iload (pc := 23) 5 rfl dX12_guessBy_23 ?_
    refine fr_aload_n (pc := 25) 0 rfl rfl dX12_guessBy_25 ?_
    refine fr_iload_n (pc := 26) 1 rfl rfl dX12_guessBy_26 ?_
    refine fr_iload_n (pc := 27) 2 rfl rfl dX12_guessBy_27 ?_
    obtain ⟨hrc, hW⟩ := hW
    refine fr_callV_I (pc := 28) (As := [.int v1, .int v2]) (st := [.int v5, .int v3]) wd_X12_runColumns w_1256 ok_X12_runColumns (by decide) rfl (Nat.le_of_ble_eq_true rfl) dX12_guessBy_28 ⟨Nat.le_refl 0, Nat.le_refl 0⟩ kc_X12 hrc hW (fun i46 s45 hW => ?_)
    refine fr_icmp_ge (pc := 31) (tgt := 50) (by decide) dX12_guessBy_31 hW (fun hW => ?_) (fun hW => ?_)
    · refine fr_iconst (pc := 50) 0 (by decide) dX12_guessBy_50 ?_
      exact fr_sub [0, 1, 2, 4, 5] rfl hW
    · refine fr_iconst (pc := 34) 1 (by decide) dX12_guessBy_34 ?_
      refine fr_aload_n (pc := 35) 0 rfl rfl dX12_guessBy_35 ?_
      refine fr_getR (pc := 36) (T := TX12) (k := 5) kc_X12 (by decide) w_1009 dX12_guessBy_36 hW (fun r49 hW => ?_)
      refine fr_iload_n (pc := 39) 2 rfl rfl dX12_guessBy_39 ?_
      refine fr_iald (pc := 40) dX12_guessBy_40 hW (fun i50 hW => ?_)
      refine fr_iload (pc := 41) 5 rfl dX12_guessBy_41 ?_
      refine fr_callS_I (pc := 43) (As := [.int i50, .int v5]) (st := [.int 1, .int v3]) wd_X12_keyAt w_1069 ok_X12_keyAt (by decide) rfl (Nat.le_of_ble_eq_true rfl) dX12_guessBy_43 ⟨Nat.le_refl 0, Nat.le_refl 0⟩ hW (fun i52 s51 hW => ?_)
      refine fr_ishl (pc := 46) dX12_guessBy_46 ?_
      refine fr_goto (pc := 47) (tgt := 51) (by decide) dX12_guessBy_47 ?_
      exact fr_sub [0, 1, 2, 4, 5] rfl hW
set_option maxHeartbeats 4000000 in
set_option maxRecDepth 100000 in
theorem q_X12_guessBy_163 {g : GG} {σ : Hs} {post : Option Value → Hs → Prop} (a0 : Nat) (v1 : Int32) (v2 : Int32) (v8 : Int32) (t0 : Int32) (t1 : Int32) (hW : Rc σ a0 12 ∧ Do g M_X12_isSortedBy 0 0 [.ref a0, .int v1, .int v2] σ (kI (fun i56 s55 => (i56 = 0 → Rc s55 a0 12 ∧ Do g M_X12_likelyBy 0 0 [.ref a0, .int v1, .int 15] s55 (kI (fun i60 s59 => post (some (.int (((t1 + t0) + v8) + i60))) s59))) ∧ (¬ i56 = 0 → post (some (.int (((t1 + t0) + v8) + 0))) s55)))) : J_X12_guessBy_163 g post σ a0 v1 v2 v8 t0 t1 := by
  show Fr g M_X12_guessBy (0, 0, 0, 0) [(0, .ref a0), (1, .int v1), (2, .int v2), (8, .int v8)] [.int t0, .int t1] 163 σ post
  refine fr_iadd (pc := 163) dX12_guessBy_163 ?_
  refine fr_iload (pc := 164) 3 rfl dX12_guessBy_164 ?_
  refine fr_iadd (pc := 166) dX12_guessBy_166 ?_
  refine fr_aload_n (pc := 167) 0 rfl rfl dX12_guessBy_167 ?_
  refine fr_iload_n (pc := 168) 1 rfl rfl dX12_guessBy_168 ?_
  refine fr_iload_n (pc := 169) 2 rfl rfl dX12_guessBy_169 ?_
  obtain ⟨hrc, hW⟩ := hW
  refine fr_callV_I (pc := 170) (As := [.int v1, .int v2]) (st := [.int ((t1 + t0) + v8)]) wd_X12_isSortedBy w_1263 ok_X12_isSortedBy (by decide) rfl (Nat.le_of_ble_eq_true rfl) dX12_guessBy_170 ⟨Nat.le_refl 0, Nat.le_refl 0⟩ kc_X12 hrc hW (fun i56 s55 hW => ?_)
  refine fr_if_eq (pc := 173) (tgt := 180) (by decide) dX12_guessBy_173 hW (fun hW => ?_) (fun hW => ?_)
  · refine fr_aload_n (pc := 180) 0 rfl rfl dX12_guessBy_180 ?_
    refine fr_iload_n (pc := 181) 1 rfl rfl dX12_guessBy_181 ?_
    refine fr_bipush (pc := 182) 15 (by decide) dX12_guessBy_182 ?_
    obtain ⟨hrc, hW⟩ := hW
    refine fr_callV_I (pc := 184) (As := [.int v1, .int 15]) (st := [.int ((t1 + t0) + v8)]) wd_X12_likelyBy w_1355 ok_X12_likelyBy (by decide) rfl (Nat.le_of_ble_eq_true rfl) dX12_guessBy_184 ⟨Nat.le_refl 0, Nat.le_refl 0⟩ kc_X12 hrc hW (fun i60 s59 hW => ?_)
    refine fr_iadd (pc := 187) dX12_guessBy_187 ?_
    exact fr_iret (pc := 188) dX12_guessBy_188 rfl ⟨Nat.le_refl 0, Nat.le_refl 0⟩ hW
  · refine fr_iconst (pc := 176) 0 (by decide) dX12_guessBy_176 ?_
    refine fr_goto (pc := 177) (tgt := 187) (by decide) dX12_guessBy_177 ?_
    refine fr_iadd (pc := 187) dX12_guessBy_187 ?_
    exact fr_iret (pc := 188) dX12_guessBy_188 rfl ⟨Nat.le_refl 0, Nat.le_refl 0⟩ hW
set_option maxHeartbeats 4000000 in
set_option maxRecDepth 100000 in
theorem q_X12_guessBy_51 {g : GG} {σ : Hs} {post : Option Value → Hs → Prop} (a0 : Nat) (v1 : Int32) (v2 : Int32) (v4 : Int32) (v5 : Int32) (t0 : Int32) (t1 : Int32) (hW : FR σ a0 12 5 (fun r63 => AI g σ r63 0 v2 (fun i64 => Do g M_X12_keyAt 0 0 [.int i64, .int v5] σ (kI (fun i66 s65 => J_X12_guessBy_8 g post s65 a0 v1 v2 ((t1 ||| t0)) ((v4 ||| ((1 : Int32) <<< (i66 &&& 31)))) ((v5 + 1)) ))))) : J_X12_guessBy_51 g post σ a0 v1 v2 v4 v5 t0 t1 := by
  show Fr g M_X12_guessBy (0, 0, 0, 0) [(0, .ref a0), (1, .int v1), (2, .int v2), (4, .int v4), (5, .int v5)] [.int t0, .int t1] 51 σ post
  refine fr_ior (pc := 51) dX12_guessBy_51 ?_
  refine fr_istore_n (pc := 52) (lv' := [(3, .int (t1 ||| t0)), (0, .ref a0), (1, .int v1), (2, .int v2), (4, .int v4), (5, .int v5)]) rfl (by decide) rfl dX12_guessBy_52 ?_
  refine fr_iload (pc := 53) 4 rfl dX12_guessBy_53 ?_
  refine fr_iconst (pc := 55) 1 (by decide) dX12_guessBy_55 ?_
  refine fr_aload_n (pc := 56) 1 rfl rfl dX12_guessBy_56 ?_
  refine fr_getR (pc := 57) (T := TX12) (k := 5) kc_X12 (by decide) w_1009 dX12_guessBy_57 hW (fun r63 hW => ?_)
  refine fr_iload_n (pc := 60) 3 rfl rfl dX12_guessBy_60 ?_
  refine fr_iald (pc := 61) dX12_guessBy_61 hW (fun i64 hW => ?_)
  refine fr_iload (pc := 62) 5 rfl dX12_guessBy_62 ?_
  refine fr_callS_I (pc := 64) (As := [.int i64, .int v5]) (st := [.int 1, .int v4]) wd_X12_keyAt w_1069 ok_X12_keyAt (by decide) rfl (Nat.le_of_ble_eq_true rfl) dX12_guessBy_64 ⟨Nat.le_refl 0, Nat.le_refl 0⟩ hW (fun i66 s65 hW => ?_)
  refine fr_ishl (pc := 67) dX12_guessBy_67 ?_
  refine fr_ior (pc := 68) dX12_guessBy_68 ?_
  refine fr_istore (pc := 69) (lv' := [(4, .int (v4 ||| ((1 : Int32) <<< (i66 &&& 31)))), (3, .int (t1 ||| t0)), (0, .ref a0), (1, .int v1), (2, .int v2), (5, .int v5)]) (by decide) rfl dX12_guessBy_69 ?_
  refine fr_iinc (pc := 71) (lv' := [(5, .int (v5 + 1)), (4, .int (v4 ||| ((1 : Int32) <<< (i66 &&& 31)))), (3, .int (t1 ||| t0)), (0, .ref a0), (1, .int v1), (2, .int v2)]) (v5 + 1) 5 rfl (congrArg (fun z => v5 + z) (by decide)) (by decide) rfl dX12_guessBy_71 ?_
  refine fr_goto (pc := 74) (tgt := 8) (by decide) dX12_guessBy_74 ?_
  exact fr_sub [3, 4, 5, 2, 1, 0] rfl hW
set_option maxHeartbeats 4000000 in
set_option maxRecDepth 100000 in
theorem q_X12_guessOf {g : GG} {σ : Hs} {post : Option Value → Hs → Prop} (r0 : Nat) (p0 : Int32) (p1 : Int32) (hW : (¬ p1 = 0 → Rc σ r0 12 ∧ Do g M_X12_guessBy 0 0 [.ref r0, .int p0, .int (p1 - 1)] σ (kI (fun i2 s1 => post (some (.int i2)) s1))) ∧ (p1 = 0 → Rc σ r0 12 ∧ Do g M_X12_fullPages 0 0 [.ref r0] σ (kI (fun i6 s5 => Rc s5 r0 12 ∧ Do g M_X12_isSorted 0 0 [.ref r0, .int p0] s5 (kI (fun i10 s9 => (i10 = 0 → Rc s9 r0 12 ∧ Do g M_X12_likelyBy 0 0 [.ref r0, .int p0, .int 15] s9 (kI (fun i14 s13 => post (some (.int (i6 + i14))) s13))) ∧ (¬ i10 = 0 → post (some (.int (i6 + 0))) s9))))))) : Do g M_X12_guessOf 0 0 [.ref r0, .int p0, .int p1] σ post := by
  refine Do.of (by decide +kernel) (Nat.le_of_ble_eq_true rfl) ?_
  show Fr g M_X12_guessOf (0, 0, 0, 0) [(0, .ref r0), (1, .int p0), (2, .int p1)] [] 0 σ post
  refine fr_iload_n (pc := 0) 2 rfl rfl dX12_guessOf_0 ?_
  refine fr_if_ne (pc := 1) (tgt := 31) (by decide) dX12_guessOf_1 hW (fun hW => ?_) (fun hW => ?_)
  · refine fr_aload_n (pc := 31) 0 rfl rfl dX12_guessOf_31 ?_
    refine fr_iload_n (pc := 32) 1 rfl rfl dX12_guessOf_32 ?_
    refine fr_iload_n (pc := 33) 2 rfl rfl dX12_guessOf_33 ?_
    refine fr_iconst (pc := 34) 1 (by decide) dX12_guessOf_34 ?_
    refine fr_isub (pc := 35) dX12_guessOf_35 ?_
    obtain ⟨hrc, hW⟩ := hW
    refine fr_callV_I (pc := 36) (As := [.int p0, .int (p1 - 1)]) (st := []) wd_X12_guessBy w_1370 ok_X12_guessBy (by decide) rfl (Nat.le_of_ble_eq_true rfl) dX12_guessOf_36 ⟨Nat.le_refl 0, Nat.le_refl 0⟩ kc_X12 hrc hW (fun i2 s1 hW => ?_)
    exact fr_iret (pc := 39) dX12_guessOf_39 rfl ⟨Nat.le_refl 0, Nat.le_refl 0⟩ hW
  · refine fr_aload_n (pc := 4) 0 rfl rfl dX12_guessOf_4 ?_
    obtain ⟨hrc, hW⟩ := hW
    refine fr_callV_I (pc := 5) (As := []) (st := []) wd_X12_fullPages w_1253 ok_X12_fullPages (by decide) rfl (Nat.le_of_ble_eq_true rfl) dX12_guessOf_5 ⟨Nat.le_refl 0, Nat.le_refl 0⟩ kc_X12 hrc hW (fun i6 s5 hW => ?_)
    refine fr_aload_n (pc := 8) 0 rfl rfl dX12_guessOf_8 ?_
    refine fr_iload_n (pc := 9) 1 rfl rfl dX12_guessOf_9 ?_
    obtain ⟨hrc, hW⟩ := hW
    refine fr_callV_I (pc := 10) (As := [.int p0]) (st := [.int i6]) wd_X12_isSorted w_1254 ok_X12_isSorted (by decide) rfl (Nat.le_of_ble_eq_true rfl) dX12_guessOf_10 ⟨Nat.le_refl 0, Nat.le_refl 0⟩ kc_X12 hrc hW (fun i10 s9 hW => ?_)
    refine fr_if_eq (pc := 13) (tgt := 20) (by decide) dX12_guessOf_13 hW (fun hW => ?_) (fun hW => ?_)
    · refine fr_aload_n (pc := 20) 0 rfl rfl dX12_guessOf_20 ?_
      refine fr_iload_n (pc := 21) 1 rfl rfl dX12_guessOf_21 ?_
      refine fr_bipush (pc := 22) 15 (by decide) dX12_guessOf_22 ?_
      obtain ⟨hrc, hW⟩ := hW
      refine fr_callV_I (pc := 24) (As := [.int p0, .int 15]) (st := [.int i6]) wd_X12_likelyBy w_1355 ok_X12_likelyBy (by decide) rfl (Nat.le_of_ble_eq_true rfl) dX12_guessOf_24 ⟨Nat.le_refl 0, Nat.le_refl 0⟩ kc_X12 hrc hW (fun i14 s13 hW => ?_)
      refine fr_iadd (pc := 27) dX12_guessOf_27 ?_
      refine fr_goto (pc := 28) (tgt := 39) (by decide) dX12_guessOf_28 ?_
      exact fr_iret (pc := 39) dX12_guessOf_39 rfl ⟨Nat.le_refl 0, Nat.le_refl 0⟩ hW
    · refine fr_iconst (pc := 16) 0 (by decide) dX12_guessOf_16 ?_
      refine fr_goto (pc := 17) (tgt := 27) (by decide) dX12_guessOf_17 ?_
      refine fr_iadd (pc := 27) dX12_guessOf_27 ?_
      refine fr_goto (pc := 28) (tgt := 39) (by decide) dX12_guessOf_28 ?_
      exact fr_iret (pc := 39) dX12_guessOf_39 rfl ⟨Nat.le_refl 0, Nat.le_refl 0⟩ hW
set_option maxHeartbeats 4000000 in
set_option maxRecDepth 100000 in
theorem q_X12_guess {g : GG} {σ : Hs} {post : Option Value → Hs → Prop} (r0 : Nat) (p0 : Int32) (p1 : Int32) (hW : Rc σ r0 12 ∧ Do g M_X12_isQuestion 0 0 [.ref r0, .int p0] σ (kI (fun i2 s1 => (i2 = 0 → post (some (.int (-101))) s1) ∧ (¬ i2 = 0 → (p1 = 0 → Rc s1 r0 12 ∧ Do g M_X12_guessOf 0 0 [.ref r0, .int p0, .int p1] s1 (kI (fun i6 s5 => post (some (.int i6)) s5))) ∧ (¬ p1 = 0 → Rc s1 r0 12 ∧ Do g M_X12_isOrder 0 0 [.ref r0, .int (p1 - 1)] s1 (kI (fun i10 s9 => (¬ i10 = 0 → Rc s9 r0 12 ∧ Do g M_X12_guessOf 0 0 [.ref r0, .int p0, .int p1] s9 (kI (fun i14 s13 => post (some (.int i14)) s13))) ∧ (i10 = 0 → post (some (.int (-101))) s9)))))))) : Do g M_X12_guess 0 0 [.ref r0, .int p0, .int p1] σ post := by
  refine Do.of (by decide +kernel) (Nat.le_of_ble_eq_true rfl) ?_
  show Fr g M_X12_guess (0, 0, 0, 0) [(0, .ref r0), (1, .int p0), (2, .int p1)] [] 0 σ post
  refine fr_aload_n (pc := 0) 0 rfl rfl dX12_guess_0 ?_
  refine fr_iload_n (pc := 1) 1 rfl rfl dX12_guess_1 ?_
  obtain ⟨hrc, hW⟩ := hW
  refine fr_callV_I (pc := 2) (As := [.int p0]) (st := []) wd_X12_isQuestion w_1205 ok_X12_isQuestion (by decide) rfl (Nat.le_of_ble_eq_true rfl) dX12_guess_2 ⟨Nat.le_refl 0, Nat.le_refl 0⟩ kc_X12 hrc hW (fun i2 s1 hW => ?_)
  refine fr_if_eq (pc := 5) (tgt := 22) (by decide) dX12_guess_5 hW (fun hW => ?_) (fun hW => ?_)
  · refine fr_bipush (pc := 22) (-101) (by decide) dX12_guess_22 ?_
    exact fr_iret (pc := 24) dX12_guess_24 rfl ⟨Nat.le_refl 0, Nat.le_refl 0⟩ hW
  · refine fr_iload_n (pc := 8) 2 rfl rfl dX12_guess_8 ?_
    refine fr_if_eq (pc := 9) (tgt := 25) (by decide) dX12_guess_9 hW (fun hW => ?_) (fun hW => ?_)
    · refine fr_aload_n (pc := 25) 0 rfl rfl dX12_guess_25 ?_
      refine fr_iload_n (pc := 26) 1 rfl rfl dX12_guess_26 ?_
      refine fr_iload_n (pc := 27) 2 rfl rfl dX12_guess_27 ?_
      obtain ⟨hrc, hW⟩ := hW
      refine fr_callV_I (pc := 28) (As := [.int p0, .int p1]) (st := []) wd_X12_guessOf w_1371 ok_X12_guessOf (by decide) rfl (Nat.le_of_ble_eq_true rfl) dX12_guess_28 ⟨Nat.le_refl 0, Nat.le_refl 0⟩ kc_X12 hrc hW (fun i6 s5 hW => ?_)
      exact fr_iret (pc := 31) dX12_guess_31 rfl ⟨Nat.le_refl 0, Nat.le_refl 0⟩ hW
    · refine fr_aload_n (pc := 12) 0 rfl rfl dX12_guess_12 ?_
      refine fr_iload_n (pc := 13) 2 rfl rfl dX12_guess_13 ?_
      refine fr_iconst (pc := 14) 1 (by decide) dX12_guess_14 ?_
      refine fr_isub (pc := 15) dX12_guess_15 ?_
      obtain ⟨hrc, hW⟩ := hW
      refine fr_callV_I (pc := 16) (As := [.int (p1 - 1)]) (st := []) wd_X12_isOrder w_1135 ok_X12_isOrder (by decide) rfl (Nat.le_of_ble_eq_true rfl) dX12_guess_16 ⟨Nat.le_refl 0, Nat.le_refl 0⟩ kc_X12 hrc hW (fun i10 s9 hW => ?_)
      refine fr_if_ne (pc := 19) (tgt := 25) (by decide) dX12_guess_19 hW (fun hW => ?_) (fun hW => ?_)
      · refine fr_aload_n (pc := 25) 0 rfl rfl dX12_guess_25 ?_
        refine fr_iload_n (pc := 26) 1 rfl rfl dX12_guess_26 ?_
        refine fr_iload_n (pc := 27) 2 rfl rfl dX12_guess_27 ?_
        obtain ⟨hrc, hW⟩ := hW
        refine fr_callV_I (pc := 28) (As := [.int p0, .int p1]) (st := []) wd_X12_guessOf w_1371 ok_X12_guessOf (by decide) rfl (Nat.le_of_ble_eq_true rfl) dX12_guess_28 ⟨Nat.le_refl 0, Nat.le_refl 0⟩ kc_X12 hrc hW (fun i14 s13 hW => ?_)
        exact fr_iret (pc := 31) dX12_guess_31 rfl ⟨Nat.le_refl 0, Nat.le_refl 0⟩ hW
      · refine fr_bipush (pc := 22) (-101) (by decide) dX12_guess_22 ?_
        exact fr_iret (pc := 24) dX12_guess_24 rfl ⟨Nat.le_refl 0, Nat.le_refl 0⟩ hW
def J_X5_chosenWay_11 (g : GG) (post : Option Value → Hs → Prop) (σ : Hs) (a0 : Nat) (a1 : Nat) (v2 : Int32) (v3 : Int32) (v4 : Int32) : Prop := Fr g M_X5_chosenWay (0, 0, 0, 0) [(0, .ref a0), (1, .ref a1), (2, .int v2), (3, .int v3), (4, .int v4)] [] 11 σ post
def J_X5_chosenWay_45 (g : GG) (post : Option Value → Hs → Prop) (σ : Hs) (a0 : Nat) (a1 : Nat) (v2 : Int32) (v3 : Int32) (v4 : Int32) (t0 : Int32) : Prop := Fr g M_X5_chosenWay (0, 0, 0, 0) [(0, .ref a0), (1, .ref a1), (2, .int v2), (3, .int v3), (4, .int v4)] [.int t0] 45 σ post
set_option maxHeartbeats 4000000 in
set_option maxRecDepth 100000 in
theorem q_X5_chosenWay {g : GG} {σ : Hs} {post : Option Value → Hs → Prop} (r0 : Nat) (p0 : Nat) (hW : Rc σ r0 5 ∧ Do g M_X5_looksByTable 0 0 [.ref r0, .ref p0] σ (kI (fun i2 s1 => J_X5_chosenWay_11 g post s1 r0 p0 0 i2 0 ))) : Do g M_X5_chosenWay 0 0 [.ref r0, .ref p0] σ post := by
  refine Do.of (by decide +kernel) (Nat.le_of_ble_eq_true rfl) ?_
  show Fr g M_X5_chosenWay (0, 0, 0, 0) [(0, .ref r0), (1, .ref p0)] [] 0 σ post
  refine fr_iconst (pc := 0) 0 (by decide) dX5_chosenWay_0 ?_
  refine fr_istore_n (pc := 1) (lv' := [(2, .int 0), (0, .ref r0), (1, .ref p0)]) rfl (by decide) rfl dX5_chosenWay_1 ?_
  refine fr_aload_n (pc := 2) 1 rfl rfl dX5_chosenWay_2 ?_
  refine fr_aload_n (pc := 3) 2 rfl rfl dX5_chosenWay_3 ?_
  obtain ⟨hrc, hW⟩ := hW
  refine fr_callV_I (pc := 4) (As := [.ref p0]) (st := []) wd_X5_looksByTable w_1372 ok_X5_looksByTable (by decide) rfl (Nat.le_of_ble_eq_true rfl) dX5_chosenWay_4 ⟨Nat.le_refl 0, Nat.le_refl 0⟩ kc_X5 hrc hW (fun i2 s1 hW => ?_)
  refine fr_istore_n (pc := 7) (lv' := [(3, .int i2), (2, .int 0), (0, .ref r0), (1, .ref p0)]) rfl (by decide) rfl dX5_chosenWay_7 ?_
  refine fr_iconst (pc := 8) 0 (by decide) dX5_chosenWay_8 ?_
  refine fr_istore (pc := 9) (lv' := [(4, .int 0), (3, .int i2), (2, .int 0), (0, .ref r0), (1, .ref p0)]) (by decide) rfl dX5_chosenWay_9 ?_
  exact fr_sub [3, 4, 2, 1, 0] rfl hW
set_option maxHeartbeats 4000000 in
set_option maxRecDepth 100000 in
theorem q_X5_chosenWay_11 {g : GG} {σ : Hs} {post : Option Value → Hs → Prop} (a0 : Nat) (a1 : Nat) (v2 : Int32) (v3 : Int32) (v4 : Int32) (hW : (8 ≤ v4 → post (some (.int v2)) σ) ∧ (¬ 8 ≤ v4 → FR σ a0 5 1 (fun r5 => Rc σ r5 3 ∧ Do g M_X3_kept 0 0 [.ref r5, .int v4] σ (kA (fun s6 => J_X5_chosenWay_45 g post s6 a0 a1 v2 v3 v4 v3) (fun r9 s6 => Rc s6 a0 5 ∧ Do g M_X5_looksByOrder 0 0 [.ref a0, .ref a1, .ref r9] s6 (kI (fun i11 s10 => J_X5_chosenWay_45 g post s10 a0 a1 v2 v3 v4 i11))))))) : J_X5_chosenWay_11 g post σ a0 a1 v2 v3 v4 := by
  show Fr g M_X5_chosenWay (0, 0, 0, 0) [(0, .ref a0), (1, .ref a1), (2, .int v2), (3, .int v3), (4, .int v4)] [] 11 σ post
  refine fr_iload (pc := 11) 4 rfl dX5_chosenWay_11 ?_
  refine fr_bipush (pc := 13) 8 (by decide) dX5_chosenWay_13 ?_
  refine fr_icmp_ge (pc := 15) (tgt := 67) (by decide) dX5_chosenWay_15 hW (fun hW => ?_) (fun hW => ?_)
  · refine fr_iload_n (pc := 67) 2 rfl rfl dX5_chosenWay_67 ?_
    exact fr_iret (pc := 68) dX5_chosenWay_68 rfl ⟨Nat.le_refl 0, Nat.le_refl 0⟩ hW
  · refine fr_aload_n (pc := 18) 0 rfl rfl dX5_chosenWay_18 ?_
    refine fr_getR (pc := 19) (T := TX5) (k := 1) kc_X5 (by decide) w_975 dX5_chosenWay_19 hW (fun r5 hW => ?_)
    refine fr_iload (pc := 22) 4 rfl dX5_chosenWay_22 ?_
    obtain ⟨hrc, hW⟩ := hW
    refine fr_callV_A (pc := 24) (As := [.int v4]) (st := []) wd_X3_kept w_1373 ok_X3_kept (by decide) rfl (Nat.le_of_ble_eq_true rfl) dX5_chosenWay_24 ⟨Nat.le_refl 0, Nat.le_refl 0⟩ kc_X3 hrc hW (fun s6 hW => ?_) (fun r9 s6 hW => ?_)
    · refine fr_astoreN (pc := 27) (lv' := [(5, .null), (0, .ref a0), (1, .ref a1), (2, .int v2), (3, .int v3), (4, .int v4)]) (by decide) rfl dX5_chosenWay_27 ?_
      refine fr_aloadN (pc := 29) 0 rfl dX5_chosenWay_29 ?_
      refine fr_ifnonnullN (pc := 31) dX5_chosenWay_31 ?_
      refine fr_iload_n (pc := 34) 4 rfl rfl dX5_chosenWay_34 ?_
      refine fr_goto (pc := 35) (tgt := 45) (by decide) dX5_chosenWay_35 ?_
      exact fr_sub [1, 2, 3, 4, 5] rfl hW
    · refine fr_astore (pc := 27) (lv' := [(5, .ref r9), (0, .ref a0), (1, .ref a1), (2, .int v2), (3, .int v3), (4, .int v4)]) (by decide) rfl dX5_chosenWay_27 ?_
      refine fr_aload (pc := 29) 0 rfl dX5_chosenWay_29 ?_
      refine fr_ifnonnull (pc := 31) (tgt := 38) (by decide) dX5_chosenWay_31 ?_
      refine fr_aload_n (pc := 38) 1 rfl rfl dX5_chosenWay_38 ?_
      refine fr_aload_n (pc := 39) 2 rfl rfl dX5_chosenWay_39 ?_
      refine fr_aload (pc := 40) 0 rfl dX5_chosenWay_40 ?_
      obtain ⟨hrc, hW⟩ := hW
      refine fr_callV_I (pc := 42) (As := [.ref a1, .ref r9]) (st := []) wd_X5_looksByOrder w_1374 ok_X5_looksByOrder (by decide) rfl (Nat.le_of_ble_eq_true rfl) dX5_chosenWay_42 ⟨Nat.le_refl 0, Nat.le_refl 0⟩ kc_X5 hrc hW (fun i11 s10 hW => ?_)
      exact fr_sub [1, 2, 3, 4, 5] rfl hW
set_option maxHeartbeats 4000000 in
set_option maxRecDepth 100000 in
theorem q_X5_chosenWay_45 {g : GG} {σ : Hs} {post : Option Value → Hs → Prop} (a0 : Nat) (a1 : Nat) (v2 : Int32) (v3 : Int32) (v4 : Int32) (t0 : Int32) (hW : (v3 ≤ t0 → J_X5_chosenWay_11 g post σ a0 a1 v2 v3 ((v4 + 1)) ) ∧ (¬ v3 ≤ t0 → J_X5_chosenWay_11 g post σ a0 a1 ((1 + v4)) t0 ((v4 + 1)) )) : J_X5_chosenWay_45 g post σ a0 a1 v2 v3 v4 t0 := by
  show Fr g M_X5_chosenWay (0, 0, 0, 0) [(0, .ref a0), (1, .ref a1), (2, .int v2), (3, .int v3), (4, .int v4)] [.int t0] 45 σ post
  refine fr_istore (pc := 45) (lv' := [(6, .int t0), (0, .ref a0), (1, .ref a1), (2, .int v2), (3, .int v3), (4, .int v4)]) (by decide) rfl dX5_chosenWay_45 ?_
  refine fr_iload (pc := 47) 0 rfl dX5_chosenWay_47 ?_
  refine fr_iload_n (pc := 49) 4 rfl rfl dX5_chosenWay_49 ?_
  refine fr_icmp_ge (pc := 50) (tgt := 61) (by decide) dX5_chosenWay_50 hW (fun hW => ?_) (fun hW => ?_)
  · refine fr_iinc (pc := 61) (lv' := [(4, .int (v4 + 1)), (6, .int t0), (0, .ref a0), (1, .ref a1), (2, .int v2), (3, .int v3)]) (v4 + 1) 5 rfl (congrArg (fun z => v4 + z) (by decide)) (by decide) rfl dX5_chosenWay_61 ?_
    refine fr_goto (pc := 64) (tgt := 11) (by decide) dX5_chosenWay_64 ?_
    exact fr_sub [2, 3, 4, 5, 0] rfl hW
  · refine fr_iload (pc := 53) 0 rfl dX5_chosenWay_53 ?_
    refine fr_istore_n (pc := 55) (lv' := [(3, .int t0), (6, .int t0), (0, .ref a0), (1, .ref a1), (2, .int v2), (4, .int v4)]) rfl (by decide) rfl dX5_chosenWay_55 ?_
    refine fr_iconst (pc := 56) 1 (by decide) dX5_chosenWay_56 ?_
    refine fr_iload (pc := 57) 5 rfl dX5_chosenWay_57 ?_
    refine fr_iadd (pc := 59) dX5_chosenWay_59 ?_
    refine fr_istore_n (pc := 60) (lv' := [(2, .int (1 + v4)), (3, .int t0), (6, .int t0), (0, .ref a0), (1, .ref a1), (4, .int v4)]) rfl (by decide) rfl dX5_chosenWay_60 ?_
    refine fr_iinc (pc := 61) (lv' := [(4, .int (v4 + 1)), (2, .int (1 + v4)), (3, .int t0), (6, .int t0), (0, .ref a0), (1, .ref a1)]) (v4 + 1) 5 rfl (congrArg (fun z => v4 + z) (by decide)) (by decide) rfl dX5_chosenWay_61 ?_
    refine fr_goto (pc := 64) (tgt := 11) (by decide) dX5_chosenWay_64 ?_
    exact fr_sub [4, 5, 1, 2, 0] rfl hW
set_option maxHeartbeats 4000000 in
set_option maxRecDepth 100000 in
theorem q_X11_chosen {g : GG} {σ : Hs} {post : Option Value → Hs → Prop} (r0 : Nat) (p0 : Int32) (hW : FR σ r0 11 3 (fun r1 => Rc σ r1 10 ∧ Do g M_X10_question 0 0 [.ref r1, .int p0] σ (kA (fun s2 => post (some (.int (-101))) s2) (fun r5 s2 => FR s2 r0 11 4 (fun r6 => Rc s2 r6 5 ∧ Do g M_X5_chosenWay 0 0 [.ref r6, .ref r5] s2 (kI (fun i8 s7 => post (some (.int i8)) s7))))))) : Do g M_X11_chosen 0 0 [.ref r0, .int p0] σ post := by
  refine Do.of (by decide +kernel) (Nat.le_of_ble_eq_true rfl) ?_
  show Fr g M_X11_chosen (0, 0, 0, 0) [(0, .ref r0), (1, .int p0)] [] 0 σ post
  refine fr_aload_n (pc := 0) 0 rfl rfl dX11_chosen_0 ?_
  refine fr_getR (pc := 1) (T := TX11) (k := 3) kc_X11 (by decide) w_995 dX11_chosen_1 hW (fun r1 hW => ?_)
  refine fr_iload_n (pc := 4) 1 rfl rfl dX11_chosen_4 ?_
  obtain ⟨hrc, hW⟩ := hW
  refine fr_callV_A (pc := 5) (As := [.int p0]) (st := []) wd_X10_question w_1201 ok_X10_question (by decide) rfl (Nat.le_of_ble_eq_true rfl) dX11_chosen_5 ⟨Nat.le_refl 0, Nat.le_refl 0⟩ kc_X10 hrc hW (fun s2 hW => ?_) (fun r5 s2 hW => ?_)
  · refine fr_astore_nN (pc := 8) (lv' := [(2, .null), (0, .ref r0), (1, .int p0)]) rfl (by decide) rfl dX11_chosen_8 ?_
    refine fr_aload_nN (pc := 9) 0 rfl rfl dX11_chosen_9 ?_
    refine fr_ifnonnullN (pc := 10) dX11_chosen_10 ?_
    refine fr_bipush (pc := 13) (-101) (by decide) dX11_chosen_13 ?_
    refine fr_goto (pc := 15) (tgt := 26) (by decide) dX11_chosen_15 ?_
    exact fr_iret (pc := 26) dX11_chosen_26 rfl ⟨Nat.le_refl 0, Nat.le_refl 0⟩ hW
  · refine fr_astore_n (pc := 8) (lv' := [(2, .ref r5), (0, .ref r0), (1, .int p0)]) rfl (by decide) rfl dX11_chosen_8 ?_
    refine fr_aload_n (pc := 9) 0 rfl rfl dX11_chosen_9 ?_
    refine fr_ifnonnull (pc := 10) (tgt := 18) (by decide) dX11_chosen_10 ?_
    refine fr_aload_n (pc := 18) 1 rfl rfl dX11_chosen_18 ?_
    refine fr_getR (pc := 19) (T := TX11) (k := 4) kc_X11 (by decide) w_998 dX11_chosen_19 hW (fun r6 hW => ?_)
    refine fr_aload_n (pc := 22) 0 rfl rfl dX11_chosen_22 ?_
    obtain ⟨hrc, hW⟩ := hW
    refine fr_callV_I (pc := 23) (As := [.ref r5]) (st := []) wd_X5_chosenWay w_1375 ok_X5_chosenWay (by decide) rfl (Nat.le_of_ble_eq_true rfl) dX11_chosen_23 ⟨Nat.le_refl 0, Nat.le_refl 0⟩ kc_X5 hrc hW (fun i8 s7 hW => ?_)
    exact fr_iret (pc := 26) dX11_chosen_26 rfl ⟨Nat.le_refl 0, Nat.le_refl 0⟩ hW
def J_X12_chosenOf_4 (g : GG) (post : Option Value → Hs → Prop) (σ : Hs) (a0 : Nat) (v1 : Int32) (v2 : Int32) (v3 : Int32) : Prop := Fr g M_X12_chosenOf (0, 0, 0, 0) [(0, .ref a0), (1, .int v1), (2, .int v2), (3, .int v3)] [] 4 σ post
set_option maxHeartbeats 4000000 in
set_option maxRecDepth 100000 in
theorem q_X12_chosenOf {g : GG} {σ : Hs} {post : Option Value → Hs → Prop} (r0 : Nat) (p0 : Int32) (hW : J_X12_chosenOf_4 g post σ r0 p0 0 0 ) : Do g M_X12_chosenOf 0 0 [.ref r0, .int p0] σ post := by
  refine Do.of (by decide +kernel) (Nat.le_of_ble_eq_true rfl) ?_
  show Fr g M_X12_chosenOf (0, 0, 0, 0) [(0, .ref r0), (1, .int p0)] [] 0 σ post
  refine fr_iconst (pc := 0) 0 (by decide) dX12_chosenOf_0 ?_
  refine fr_istore_n (pc := 1) (lv' := [(2, .int 0), (0, .ref r0), (1, .int p0)]) rfl (by decide) rfl dX12_chosenOf_1 ?_
  refine fr_iconst (pc := 2) 0 (by decide) dX12_chosenOf_2 ?_
  refine fr_istore_n (pc := 3) (lv' := [(3, .int 0), (2, .int 0), (0, .ref r0), (1, .int p0)]) rfl (by decide) rfl dX12_chosenOf_3 ?_
  exact fr_sub [2, 3, 1, 0] rfl hW
set_option maxHeartbeats 4000000 in
set_option maxRecDepth 100000 in
theorem q_X12_chosenOf_4 {g : GG} {σ : Hs} {post : Option Value → Hs → Prop} (a0 : Nat) (v1 : Int32) (v2 : Int32) (v3 : Int32) (hW : FI σ a0 12 4 (fun i1 => (i1 ≤ v3 → post (some (.int v2)) σ) ∧ (¬ i1 ≤ v3 → FR σ a0 12 6 (fun r2 => AI g σ r2 1 v3 (fun i3 => (¬ i3 = 0 → J_X12_chosenOf_4 g post σ a0 v1 v2 ((v3 + 1)) ) ∧ (i3 = 0 → Rc σ a0 12 ∧ Do g M_X12_guessOf 0 0 [.ref a0, .int v1, .int (1 + v3)] σ (kI (fun i5 s4 => Rc s4 a0 12 ∧ Do g M_X12_guessOf 0 0 [.ref a0, .int v1, .int v2] s4 (kI (fun i9 s8 => (i9 ≤ i5 → J_X12_chosenOf_4 g post s8 a0 v1 v2 ((v3 + 1)) ) ∧ (¬ i9 ≤ i5 → J_X12_chosenOf_4 g post s8 a0 v1 ((1 + v3)) ((v3 + 1)) ))))))))))) : J_X12_chosenOf_4 g post σ a0 v1 v2 v3 := by
  show Fr g M_X12_chosenOf (0, 0, 0, 0) [(0, .ref a0), (1, .int v1), (2, .int v2), (3, .int v3)] [] 4 σ post
  refine fr_iload_n (pc := 4) 3 rfl rfl dX12_chosenOf_4 ?_
  refine fr_aload_n (pc := 5) 0 rfl rfl dX12_chosenOf_5 ?_
  refine fr_getI (pc := 6) (T := TX12) (k := 4) kc_X12 (by decide) w_1073 dX12_chosenOf_6 hW (fun i1 hW => ?_)
  refine fr_icmp_ge (pc := 9) (tgt := 52) (by decide) dX12_chosenOf_9 hW (fun hW => ?_) (fun hW => ?_)
  · refine fr_iload_n (pc := 52) 2 rfl rfl dX12_chosenOf_52 ?_
    exact fr_iret (pc := 53) dX12_chosenOf_53 rfl ⟨Nat.le_refl 0, Nat.le_refl 0⟩ hW
  · refine fr_aload_n (pc := 12) 0 rfl rfl dX12_chosenOf_12 ?_
    refine fr_getR (pc := 13) (T := TX12) (k := 6) kc_X12 (by decide) w_1010 dX12_chosenOf_13 hW (fun r2 hW => ?_)
    refine fr_iload_n (pc := 16) 3 rfl rfl dX12_chosenOf_16 ?_
    refine fr_zald (pc := 17) dX12_chosenOf_17 hW (fun i3 hW => ?_)
    refine fr_if_ne (pc := 18) (tgt := 44) (by decide) dX12_chosenOf_18 hW (fun hW => ?_) (fun hW => ?_)
    · refine fr_iload_n (pc := 44) 2 rfl rfl dX12_chosenOf_44 ?_
      refine fr_istore_n (pc := 45) (lv' := [(2, .int v2), (0, .ref a0), (1, .int v1), (3, .int v3)]) rfl (by decide) rfl dX12_chosenOf_45 ?_
      refine fr_iinc (pc := 46) (lv' := [(3, .int (v3 + 1)), (2, .int v2), (0, .ref a0), (1, .int v1)]) (v3 + 1) 3 rfl (congrArg (fun z => v3 + z) (by decide)) (by decide) rfl dX12_chosenOf_46 ?_
      refine fr_goto (pc := 49) (tgt := 4) (by decide) dX12_chosenOf_49 ?_
      exact fr_sub [2, 3, 1, 0] rfl hW
    · refine fr_aload_n (pc := 21) 0 rfl rfl dX12_chosenOf_21 ?_
      refine fr_iload_n (pc := 22) 1 rfl rfl dX12_chosenOf_22 ?_
      refine fr_iconst (pc := 23) 1 (by decide) dX12_chosenOf_23 ?_
      refine fr_iload_n (pc := 24) 3 rfl rfl dX12_chosenOf_24 ?_
      refine fr_iadd (pc := 25) dX12_chosenOf_25 ?_
      obtain ⟨hrc, hW⟩ := hW
      refine fr_callV_I (pc := 26) (As := [.int v1, .int (1 + v3)]) (st := []) wd_X12_guessOf w_1371 ok_X12_guessOf (by decide) rfl (Nat.le_of_ble_eq_true rfl) dX12_chosenOf_26 ⟨Nat.le_refl 0, Nat.le_refl 0⟩ kc_X12 hrc hW (fun i5 s4 hW => ?_)
      refine fr_aload_n (pc := 29) 0 rfl rfl dX12_chosenOf_29 ?_
      refine fr_iload_n (pc := 30) 1 rfl rfl dX12_chosenOf_30 ?_
      refine fr_iload_n (pc := 31) 2 rfl rfl dX12_chosenOf_31 ?_
      obtain ⟨hrc, hW⟩ := hW
      refine fr_callV_I (pc := 32) (As := [.int v1, .int v2]) (st := [.int i5]) wd_X12_guessOf w_1371 ok_X12_guessOf (by decide) rfl (Nat.le_of_ble_eq_true rfl) dX12_chosenOf_32 ⟨Nat.le_refl 0, Nat.le_refl 0⟩ kc_X12 hrc hW (fun i9 s8 hW => ?_)
      refine fr_icmp_ge (pc := 35) (tgt := 44) (by decide) dX12_chosenOf_35 hW (fun hW => ?_) (fun hW => ?_)
      · refine fr_iload_n (pc := 44) 2 rfl rfl dX12_chosenOf_44 ?_
        refine fr_istore_n (pc := 45) (lv' := [(2, .int v2), (0, .ref a0), (1, .int v1), (3, .int v3)]) rfl (by decide) rfl dX12_chosenOf_45 ?_
        refine fr_iinc (pc := 46) (lv' := [(3, .int (v3 + 1)), (2, .int v2), (0, .ref a0), (1, .int v1)]) (v3 + 1) 3 rfl (congrArg (fun z => v3 + z) (by decide)) (by decide) rfl dX12_chosenOf_46 ?_
        refine fr_goto (pc := 49) (tgt := 4) (by decide) dX12_chosenOf_49 ?_
        exact fr_sub [2, 3, 1, 0] rfl hW
      · refine fr_iconst (pc := 38) 1 (by decide) dX12_chosenOf_38 ?_
        refine fr_iload_n (pc := 39) 3 rfl rfl dX12_chosenOf_39 ?_
        refine fr_iadd (pc := 40) dX12_chosenOf_40 ?_
        refine fr_goto (pc := 41) (tgt := 45) (by decide) dX12_chosenOf_41 ?_
        refine fr_istore_n (pc := 45) (lv' := [(2, .int (1 + v3)), (0, .ref a0), (1, .int v1), (3, .int v3)]) rfl (by decide) rfl dX12_chosenOf_45 ?_
        refine fr_iinc (pc := 46) (lv' := [(3, .int (v3 + 1)), (2, .int (1 + v3)), (0, .ref a0), (1, .int v1)]) (v3 + 1) 3 rfl (congrArg (fun z => v3 + z) (by decide)) (by decide) rfl dX12_chosenOf_46 ?_
        refine fr_goto (pc := 49) (tgt := 4) (by decide) dX12_chosenOf_49 ?_
        exact fr_sub [2, 3, 1, 0] rfl hW
set_option maxHeartbeats 4000000 in
set_option maxRecDepth 100000 in
theorem q_X12_chosen {g : GG} {σ : Hs} {post : Option Value → Hs → Prop} (r0 : Nat) (p0 : Int32) (hW : Rc σ r0 12 ∧ Do g M_X12_isQuestion 0 0 [.ref r0, .int p0] σ (kI (fun i2 s1 => (i2 = 0 → post (some (.int (-101))) s1) ∧ (¬ i2 = 0 → Rc s1 r0 12 ∧ Do g M_X12_chosenOf 0 0 [.ref r0, .int p0] s1 (kI (fun i6 s5 => post (some (.int i6)) s5)))))) : Do g M_X12_chosen 0 0 [.ref r0, .int p0] σ post := by
  refine Do.of (by decide +kernel) (Nat.le_of_ble_eq_true rfl) ?_
  show Fr g M_X12_chosen (0, 0, 0, 0) [(0, .ref r0), (1, .int p0)] [] 0 σ post
  refine fr_aload_n (pc := 0) 0 rfl rfl dX12_chosen_0 ?_
  refine fr_iload_n (pc := 1) 1 rfl rfl dX12_chosen_1 ?_
  obtain ⟨hrc, hW⟩ := hW
  refine fr_callV_I (pc := 2) (As := [.int p0]) (st := []) wd_X12_isQuestion w_1205 ok_X12_isQuestion (by decide) rfl (Nat.le_of_ble_eq_true rfl) dX12_chosen_2 ⟨Nat.le_refl 0, Nat.le_refl 0⟩ kc_X12 hrc hW (fun i2 s1 hW => ?_)
  refine fr_if_eq (pc := 5) (tgt := 16) (by decide) dX12_chosen_5 hW (fun hW => ?_) (fun hW => ?_)
  · refine fr_bipush (pc := 16) (-101) (by decide) dX12_chosen_16 ?_
    exact fr_iret (pc := 18) dX12_chosen_18 rfl ⟨Nat.le_refl 0, Nat.le_refl 0⟩ hW
  · refine fr_aload_n (pc := 8) 0 rfl rfl dX12_chosen_8 ?_
    refine fr_iload_n (pc := 9) 1 rfl rfl dX12_chosen_9 ?_
    obtain ⟨hrc, hW⟩ := hW
    refine fr_callV_I (pc := 10) (As := [.int p0]) (st := []) wd_X12_chosenOf w_1376 ok_X12_chosenOf (by decide) rfl (Nat.le_of_ble_eq_true rfl) dX12_chosen_10 ⟨Nat.le_refl 0, Nat.le_refl 0⟩ kc_X12 hrc hW (fun i6 s5 hW => ?_)
    refine fr_goto (pc := 13) (tgt := 18) (by decide) dX12_chosen_13 ?_
    exact fr_iret (pc := 18) dX12_chosen_18 rfl ⟨Nat.le_refl 0, Nat.le_refl 0⟩ hW
set_option maxHeartbeats 4000000 in
set_option maxRecDepth 100000 in
theorem q_X11_regret {g : GG} {σ : Hs} {post : Option Value → Hs → Prop} (r0 : Nat) (p0 : Int32) (hW : FR σ r0 11 3 (fun r1 => Rc σ r1 10 ∧ Do g M_X10_question 0 0 [.ref r1, .int p0] σ (kA (fun s2 => post (some (.int (-101))) s2) (fun r5 s2 => FR s2 r0 11 2 (fun r6 => Rc s2 r6 9 ∧ Do g M_X9_list 0 0 [.ref r6, .ref r5] s2 (kV (fun s7 => FR s7 r0 11 2 (fun r8 => FR s7 r0 11 4 (fun r9 => Rc s7 r9 5 ∧ Do g M_X5_chosenWay 0 0 [.ref r9, .ref r5] s7 (kI (fun i11 s10 => Rc s10 r8 9 ∧ Do g M_X9_placeOf 0 0 [.ref r8, .int i11] s10 (kI (fun i15 s14 => FR s14 r0 11 2 (fun r18 => Rc s14 r18 9 ∧ Do g M_X9_costAt 0 0 [.ref r18, .int i15] s14 (kI (fun i20 s19 => FR s19 r0 11 2 (fun r23 => FR s19 r0 11 2 (fun r24 => Rc s19 r24 9 ∧ Do g M_X9_bestPlace 0 0 [.ref r24, .int 255] s19 (kI (fun i26 s25 => Rc s25 r23 9 ∧ Do g M_X9_costAt 0 0 [.ref r23, .int i26] s25 (kI (fun i30 s29 => post (some (.int (i20 - i30))) s29)))))))))))))))))))))) : Do g M_X11_regret 0 0 [.ref r0, .int p0] σ post := by
  refine Do.of (by decide +kernel) (Nat.le_of_ble_eq_true rfl) ?_
  show Fr g M_X11_regret (0, 0, 0, 0) [(0, .ref r0), (1, .int p0)] [] 0 σ post
  refine fr_aload_n (pc := 0) 0 rfl rfl dX11_regret_0 ?_
  refine fr_getR (pc := 1) (T := TX11) (k := 3) kc_X11 (by decide) w_995 dX11_regret_1 hW (fun r1 hW => ?_)
  refine fr_iload_n (pc := 4) 1 rfl rfl dX11_regret_4 ?_
  obtain ⟨hrc, hW⟩ := hW
  refine fr_callV_A (pc := 5) (As := [.int p0]) (st := []) wd_X10_question w_1201 ok_X10_question (by decide) rfl (Nat.le_of_ble_eq_true rfl) dX11_regret_5 ⟨Nat.le_refl 0, Nat.le_refl 0⟩ kc_X10 hrc hW (fun s2 hW => ?_) (fun r5 s2 hW => ?_)
  · refine fr_astore_nN (pc := 8) (lv' := [(2, .null), (0, .ref r0), (1, .int p0)]) rfl (by decide) rfl dX11_regret_8 ?_
    refine fr_aload_nN (pc := 9) 0 rfl rfl dX11_regret_9 ?_
    refine fr_ifnonnullN (pc := 10) dX11_regret_10 ?_
    refine fr_bipush (pc := 13) (-101) (by decide) dX11_regret_13 ?_
    exact fr_iret (pc := 15) dX11_regret_15 rfl ⟨Nat.le_refl 0, Nat.le_refl 0⟩ hW
  · refine fr_astore_n (pc := 8) (lv' := [(2, .ref r5), (0, .ref r0), (1, .int p0)]) rfl (by decide) rfl dX11_regret_8 ?_
    refine fr_aload_n (pc := 9) 0 rfl rfl dX11_regret_9 ?_
    refine fr_ifnonnull (pc := 10) (tgt := 16) (by decide) dX11_regret_10 ?_
    refine fr_aload_n (pc := 16) 1 rfl rfl dX11_regret_16 ?_
    refine fr_getR (pc := 17) (T := TX11) (k := 2) kc_X11 (by decide) w_992 dX11_regret_17 hW (fun r6 hW => ?_)
    refine fr_aload_n (pc := 20) 0 rfl rfl dX11_regret_20 ?_
    obtain ⟨hrc, hW⟩ := hW
    refine fr_callV_V (pc := 21) (As := [.ref r5]) (st := []) wd_X9_list w_1249 ok_X9_list (by decide) rfl (Nat.le_of_ble_eq_true rfl) dX11_regret_21 ⟨Nat.le_refl 0, Nat.le_refl 0⟩ kc_X9 hrc hW (fun s7 hW => ?_)
    refine fr_aload_n (pc := 24) 1 rfl rfl dX11_regret_24 ?_
    refine fr_getR (pc := 25) (T := TX11) (k := 2) kc_X11 (by decide) w_992 dX11_regret_25 hW (fun r8 hW => ?_)
    refine fr_aload_n (pc := 28) 1 rfl rfl dX11_regret_28 ?_
    refine fr_getR (pc := 29) (T := TX11) (k := 4) kc_X11 (by decide) w_998 dX11_regret_29 hW (fun r9 hW => ?_)
    refine fr_aload_n (pc := 32) 0 rfl rfl dX11_regret_32 ?_
    obtain ⟨hrc, hW⟩ := hW
    refine fr_callV_I (pc := 33) (As := [.ref r5]) (st := [.ref r8]) wd_X5_chosenWay w_1375 ok_X5_chosenWay (by decide) rfl (Nat.le_of_ble_eq_true rfl) dX11_regret_33 ⟨Nat.le_refl 0, Nat.le_refl 0⟩ kc_X5 hrc hW (fun i11 s10 hW => ?_)
    obtain ⟨hrc, hW⟩ := hW
    refine fr_callV_I (pc := 36) (As := [.int i11]) (st := []) wd_X9_placeOf w_1250 ok_X9_placeOf (by decide) rfl (Nat.le_of_ble_eq_true rfl) dX11_regret_36 ⟨Nat.le_refl 0, Nat.le_refl 0⟩ kc_X9 hrc hW (fun i15 s14 hW => ?_)
    refine fr_istore_n (pc := 39) (lv' := [(3, .int i15), (2, .ref r5), (0, .ref r0), (1, .int p0)]) rfl (by decide) rfl dX11_regret_39 ?_
    refine fr_aload_n (pc := 40) 2 rfl rfl dX11_regret_40 ?_
    refine fr_getR (pc := 41) (T := TX11) (k := 2) kc_X11 (by decide) w_992 dX11_regret_41 hW (fun r18 hW => ?_)
    refine fr_iload_n (pc := 44) 0 rfl rfl dX11_regret_44 ?_
    obtain ⟨hrc, hW⟩ := hW
    refine fr_callV_I (pc := 45) (As := [.int i15]) (st := []) wd_X9_costAt w_1251 ok_X9_costAt (by decide) rfl (Nat.le_of_ble_eq_true rfl) dX11_regret_45 ⟨Nat.le_refl 0, Nat.le_refl 0⟩ kc_X9 hrc hW (fun i20 s19 hW => ?_)
    refine fr_aload_n (pc := 48) 2 rfl rfl dX11_regret_48 ?_
    refine fr_getR (pc := 49) (T := TX11) (k := 2) kc_X11 (by decide) w_992 dX11_regret_49 hW (fun r23 hW => ?_)
    refine fr_aload_n (pc := 52) 2 rfl rfl dX11_regret_52 ?_
    refine fr_getR (pc := 53) (T := TX11) (k := 2) kc_X11 (by decide) w_992 dX11_regret_53 hW (fun r24 hW => ?_)
    refine fr_sipush (pc := 56) 255 (by decide) dX11_regret_56 ?_
    obtain ⟨hrc, hW⟩ := hW
    refine fr_callV_I (pc := 59) (As := [.int 255]) (st := [.ref r23, .int i20]) wd_X9_bestPlace w_1271 ok_X9_bestPlace (by decide) rfl (Nat.le_of_ble_eq_true rfl) dX11_regret_59 ⟨Nat.le_refl 0, Nat.le_refl 0⟩ kc_X9 hrc hW (fun i26 s25 hW => ?_)
    obtain ⟨hrc, hW⟩ := hW
    refine fr_callV_I (pc := 62) (As := [.int i26]) (st := [.int i20]) wd_X9_costAt w_1251 ok_X9_costAt (by decide) rfl (Nat.le_of_ble_eq_true rfl) dX11_regret_62 ⟨Nat.le_refl 0, Nat.le_refl 0⟩ kc_X9 hrc hW (fun i30 s29 hW => ?_)
    refine fr_isub (pc := 65) dX11_regret_65 ?_
    exact fr_iret (pc := 66) dX11_regret_66 rfl ⟨Nat.le_refl 0, Nat.le_refl 0⟩ hW
set_option maxHeartbeats 4000000 in
set_option maxRecDepth 100000 in
theorem q_X12_regret {g : GG} {σ : Hs} {post : Option Value → Hs → Prop} (r0 : Nat) (p0 : Int32) (hW : Rc σ r0 12 ∧ Do g M_X12_isQuestion 0 0 [.ref r0, .int p0] σ (kI (fun i2 s1 => (¬ i2 = 0 → Rc s1 r0 12 ∧ Do g M_X12_chosenOf 0 0 [.ref r0, .int p0] s1 (kI (fun i6 s5 => Rc s5 r0 12 ∧ Do g M_X12_looksOf 0 0 [.ref r0, .int p0, .int i6] s5 (kI (fun i10 s9 => Rc s9 r0 12 ∧ Do g M_X12_lookAll 0 0 [.ref r0, .int p0] s9 (kV (fun s13 => Rc s13 r0 12 ∧ Do g M_X12_seekBest 0 0 [.ref r0, .int p0, .int 255] s13 (kV (fun s14 => FI s14 r0 12 35 (fun i15 => post (some (.int (i10 - i15))) s14)))))))))) ∧ (i2 = 0 → post (some (.int (-101))) s1)))) : Do g M_X12_regret 0 0 [.ref r0, .int p0] σ post := by
  refine Do.of (by decide +kernel) (Nat.le_of_ble_eq_true rfl) ?_
  show Fr g M_X12_regret (0, 0, 0, 0) [(0, .ref r0), (1, .int p0)] [] 0 σ post
  refine fr_aload_n (pc := 0) 0 rfl rfl dX12_regret_0 ?_
  refine fr_iload_n (pc := 1) 1 rfl rfl dX12_regret_1 ?_
  obtain ⟨hrc, hW⟩ := hW
  refine fr_callV_I (pc := 2) (As := [.int p0]) (st := []) wd_X12_isQuestion w_1205 ok_X12_isQuestion (by decide) rfl (Nat.le_of_ble_eq_true rfl) dX12_regret_2 ⟨Nat.le_refl 0, Nat.le_refl 0⟩ kc_X12 hrc hW (fun i2 s1 hW => ?_)
  refine fr_if_ne (pc := 5) (tgt := 11) (by decide) dX12_regret_5 hW (fun hW => ?_) (fun hW => ?_)
  · refine fr_aload_n (pc := 11) 0 rfl rfl dX12_regret_11 ?_
    refine fr_iload_n (pc := 12) 1 rfl rfl dX12_regret_12 ?_
    refine fr_aload_n (pc := 13) 0 rfl rfl dX12_regret_13 ?_
    refine fr_iload_n (pc := 14) 1 rfl rfl dX12_regret_14 ?_
    obtain ⟨hrc, hW⟩ := hW
    refine fr_callV_I (pc := 15) (As := [.int p0]) (st := [.int p0, .ref r0]) wd_X12_chosenOf w_1376 ok_X12_chosenOf (by decide) rfl (Nat.le_of_ble_eq_true rfl) dX12_regret_15 ⟨Nat.le_refl 0, Nat.le_refl 0⟩ kc_X12 hrc hW (fun i6 s5 hW => ?_)
    obtain ⟨hrc, hW⟩ := hW
    refine fr_callV_I (pc := 18) (As := [.int p0, .int i6]) (st := []) wd_X12_looksOf w_1267 ok_X12_looksOf (by decide) rfl (Nat.le_of_ble_eq_true rfl) dX12_regret_18 ⟨Nat.le_refl 0, Nat.le_refl 0⟩ kc_X12 hrc hW (fun i10 s9 hW => ?_)
    refine fr_istore_n (pc := 21) (lv' := [(2, .int i10), (0, .ref r0), (1, .int p0)]) rfl (by decide) rfl dX12_regret_21 ?_
    refine fr_aload_n (pc := 22) 1 rfl rfl dX12_regret_22 ?_
    refine fr_iload_n (pc := 23) 2 rfl rfl dX12_regret_23 ?_
    obtain ⟨hrc, hW⟩ := hW
    refine fr_callV_V (pc := 24) (As := [.int p0]) (st := []) wd_X12_lookAll w_1276 ok_X12_lookAll (by decide) rfl (Nat.le_of_ble_eq_true rfl) dX12_regret_24 ⟨Nat.le_refl 0, Nat.le_refl 0⟩ kc_X12 hrc hW (fun s13 hW => ?_)
    refine fr_aload_n (pc := 27) 1 rfl rfl dX12_regret_27 ?_
    refine fr_iload_n (pc := 28) 2 rfl rfl dX12_regret_28 ?_
    refine fr_sipush (pc := 29) 255 (by decide) dX12_regret_29 ?_
    obtain ⟨hrc, hW⟩ := hW
    refine fr_callV_V (pc := 32) (As := [.int p0, .int 255]) (st := []) wd_X12_seekBest w_1277 ok_X12_seekBest (by decide) rfl (Nat.le_of_ble_eq_true rfl) dX12_regret_32 ⟨Nat.le_refl 0, Nat.le_refl 0⟩ kc_X12 hrc hW (fun s14 hW => ?_)
    refine fr_iload_n (pc := 35) 0 rfl rfl dX12_regret_35 ?_
    refine fr_aload_n (pc := 36) 1 rfl rfl dX12_regret_36 ?_
    refine fr_getI (pc := 37) (T := TX12) (k := 35) kc_X12 (by decide) w_1273 dX12_regret_37 hW (fun i15 hW => ?_)
    refine fr_isub (pc := 40) dX12_regret_40 ?_
    exact fr_iret (pc := 41) dX12_regret_41 rfl ⟨Nat.le_refl 0, Nat.le_refl 0⟩ hW
  · refine fr_bipush (pc := 8) (-101) (by decide) dX12_regret_8 ?_
    exact fr_iret (pc := 10) dX12_regret_10 rfl ⟨Nat.le_refl 0, Nat.le_refl 0⟩ hW
def J_X1_copy_2 (g : GG) (post : Option Value → Hs → Prop) (σ : Hs) (a0 : Nat) (a1 : Nat) (v2 : Int32) : Prop := Fr g M_X1_copy (0, 0, 0, 0) [(0, .ref a0), (1, .ref a1), (2, .int v2)] [] 2 σ post
set_option maxHeartbeats 4000000 in
set_option maxRecDepth 100000 in
theorem q_X1_copy {g : GG} {σ : Hs} {post : Option Value → Hs → Prop} (r0 : Nat) (p0 : Nat) (hW : J_X1_copy_2 g post σ r0 p0 0 ) : Do g M_X1_copy 0 0 [.ref r0, .ref p0] σ post := by
  refine Do.of (by decide +kernel) (Nat.le_of_ble_eq_true rfl) ?_
  show Fr g M_X1_copy (0, 0, 0, 0) [(0, .ref r0), (1, .ref p0)] [] 0 σ post
  refine fr_iconst (pc := 0) 0 (by decide) dX1_copy_0 ?_
  refine fr_istore_n (pc := 1) (lv' := [(2, .int 0), (0, .ref r0), (1, .ref p0)]) rfl (by decide) rfl dX1_copy_1 ?_
  exact fr_sub [1, 2, 0] rfl hW
set_option maxHeartbeats 4000000 in
set_option maxRecDepth 100000 in
theorem q_X1_copy_2 {g : GG} {σ : Hs} {post : Option Value → Hs → Prop} (a0 : Nat) (a1 : Nat) (v2 : Int32) (hW : FR σ a0 1 0 (fun r1 => AN g σ r1 0 (fun i2 => (i2 ≤ v2 → post none σ) ∧ (¬ i2 ≤ v2 → FR σ a0 1 0 (fun r3 => Rc σ a1 1 ∧ Do g M_X1_at 0 0 [.ref a1, .int v2] σ (kI (fun i5 s4 => SI g s4 r3 0 v2 i5 (fun s8 => J_X1_copy_2 g post s8 a0 a1 ((v2 + 1)) )))))))) : J_X1_copy_2 g post σ a0 a1 v2 := by
  show Fr g M_X1_copy (0, 0, 0, 0) [(0, .ref a0), (1, .ref a1), (2, .int v2)] [] 2 σ post
  refine fr_iload_n (pc := 2) 2 rfl rfl dX1_copy_2 ?_
  refine fr_aload_n (pc := 3) 0 rfl rfl dX1_copy_3 ?_
  refine fr_getR (pc := 4) (T := TX1) (k := 0) kc_X1 (by decide) w_913 dX1_copy_4 hW (fun r1 hW => ?_)
  refine fr_alen (pc := 7) 0 (fun _ => rfl) dX1_copy_7 hW (fun i2 hW => ?_)
  refine fr_icmp_ge (pc := 8) (tgt := 28) (by decide) dX1_copy_8 hW (fun hW => ?_) (fun hW => ?_)
  · exact fr_ret (pc := 28) dX1_copy_28 rfl ⟨Nat.le_refl 0, Nat.le_refl 0⟩ hW
  · refine fr_aload_n (pc := 11) 0 rfl rfl dX1_copy_11 ?_
    refine fr_getR (pc := 12) (T := TX1) (k := 0) kc_X1 (by decide) w_913 dX1_copy_12 hW (fun r3 hW => ?_)
    refine fr_iload_n (pc := 15) 2 rfl rfl dX1_copy_15 ?_
    refine fr_aload_n (pc := 16) 1 rfl rfl dX1_copy_16 ?_
    refine fr_iload_n (pc := 17) 2 rfl rfl dX1_copy_17 ?_
    obtain ⟨hrc, hW⟩ := hW
    refine fr_callV_I (pc := 18) (As := [.int v2]) (st := [.int v2, .ref r3]) wd_X1_at w_1047 ok_X1_at (by decide) rfl (Nat.le_of_ble_eq_true rfl) dX1_copy_18 ⟨Nat.le_refl 0, Nat.le_refl 0⟩ kc_X1 hrc hW (fun i5 s4 hW => ?_)
    refine fr_iast (pc := 21) dX1_copy_21 hW (fun s8 hW => ?_)
    refine fr_iinc (pc := 22) (lv' := [(2, .int (v2 + 1)), (0, .ref a0), (1, .ref a1)]) (v2 + 1) 2 rfl (congrArg (fun z => v2 + z) (by decide)) (by decide) rfl dX1_copy_22 ?_
    refine fr_goto (pc := 25) (tgt := 2) (by decide) dX1_copy_25 ?_
    exact fr_sub [1, 2, 0] rfl hW
set_option maxHeartbeats 4000000 in
set_option maxRecDepth 100000 in
theorem q_X8_takeRowsOf {g : GG} {σ : Hs} {post : Option Value → Hs → Prop} (r0 : Nat) (p0 : Nat) (hW : FR σ r0 8 0 (fun r1 => FR σ p0 8 0 (fun r2 => Rc σ r1 1 ∧ Do g M_X1_copy 0 0 [.ref r1, .ref r2] σ (kV (fun s3 => FL s3 p0 8 1 (fun l4 => PF s3 r0 8 1 (.long l4) (fun s5 => post none s5))))))) : Do g M_X8_takeRowsOf 0 0 [.ref r0, .ref p0] σ post := by
  refine Do.of (by decide +kernel) (Nat.le_of_ble_eq_true rfl) ?_
  show Fr g M_X8_takeRowsOf (0, 0, 0, 0) [(0, .ref r0), (1, .ref p0)] [] 0 σ post
  refine fr_aload_n (pc := 0) 0 rfl rfl dX8_takeRowsOf_0 ?_
  refine fr_getR (pc := 1) (T := TX8) (k := 0) kc_X8 (by decide) w_931 dX8_takeRowsOf_1 hW (fun r1 hW => ?_)
  refine fr_aload_n (pc := 4) 1 rfl rfl dX8_takeRowsOf_4 ?_
  refine fr_getR (pc := 5) (T := TX8) (k := 0) kc_X8 (by decide) w_931 dX8_takeRowsOf_5 hW (fun r2 hW => ?_)
  obtain ⟨hrc, hW⟩ := hW
  refine fr_callV_V (pc := 8) (As := [.ref r2]) (st := []) wd_X1_copy w_1377 ok_X1_copy (by decide) rfl (Nat.le_of_ble_eq_true rfl) dX8_takeRowsOf_8 ⟨Nat.le_refl 0, Nat.le_refl 0⟩ kc_X1 hrc hW (fun s3 hW => ?_)
  refine fr_aload_n (pc := 11) 0 rfl rfl dX8_takeRowsOf_11 ?_
  refine fr_aload_n (pc := 12) 1 rfl rfl dX8_takeRowsOf_12 ?_
  refine fr_getL (pc := 13) (T := TX8) (k := 1) kc_X8 (by decide) w_1031 dX8_takeRowsOf_13 hW (fun l4 hW => ?_)
  refine fr_put (pc := 16) (T := TX8) (k := 1) kc_X8 (by decide) w_1031 rfl rfl rfl dX8_takeRowsOf_16 hW (fun s5 hW => ?_)
  exact fr_ret (pc := 19) dX8_takeRowsOf_19 rfl ⟨Nat.le_refl 0, Nat.le_refl 0⟩ hW
def J_X0_keep_31 (g : GG) (post : Option Value → Hs → Prop) (σ : Hs) (a0 : Nat) (a1 : Nat) : Prop := Fr g M_X0_keep (0, 0, 0, 0) [(0, .ref a0), (1, .ref a1)] [] 31 σ post
set_option maxHeartbeats 4000000 in
set_option maxRecDepth 100000 in
theorem q_X0_keep {g : GG} {σ : Hs} {post : Option Value → Hs → Prop} (r0 : Nat) (p0 : Nat) (hW : FI σ r0 0 1 (fun i1 => (i1 < 0 → J_X0_keep_31 g post σ r0 p0 ) ∧ (¬ i1 < 0 → FI σ r0 0 1 (fun i2 => FR σ r0 0 0 (fun r3 => AN g σ r3 7 (fun i4 => (i4 ≤ i2 → J_X0_keep_31 g post σ r0 p0 ) ∧ (¬ i4 ≤ i2 → FR σ r0 0 0 (fun r5 => FI σ r0 0 1 (fun i6 => AR g σ r5 7 i6 (post (some (.int (-104))) σ) (fun r7 => Rc σ r7 8 ∧ Do g M_X8_takeRowsOf 0 0 [.ref r7, .ref p0] σ (kV (fun s8 => FI s8 r0 0 1 (fun i9 => PF s8 r0 0 1 (.int (i9 + 1)) (fun s10 => FI s10 r0 0 1 (fun i11 => post (some (.int i11)) s10))))))))))))))) : Do g M_X0_keep 0 0 [.ref r0, .ref p0] σ post := by
  refine Do.of (by decide +kernel) (Nat.le_of_ble_eq_true rfl) ?_
  show Fr g M_X0_keep (0, 0, 0, 0) [(0, .ref r0), (1, .ref p0)] [] 0 σ post
  refine fr_aload_n (pc := 0) 0 rfl rfl dX0_keep_0 ?_
  refine fr_getI (pc := 1) (T := TX0) (k := 1) kc_X0 (by decide) w_1378 dX0_keep_1 hW (fun i1 hW => ?_)
  refine fr_if_lt (pc := 4) (tgt := 31) (by decide) dX0_keep_4 hW (fun hW => ?_) (fun hW => ?_)
  · exact fr_sub [0, 1] rfl hW
  · refine fr_aload_n (pc := 7) 0 rfl rfl dX0_keep_7 ?_
    refine fr_getI (pc := 8) (T := TX0) (k := 1) kc_X0 (by decide) w_1378 dX0_keep_8 hW (fun i2 hW => ?_)
    refine fr_aload_n (pc := 11) 0 rfl rfl dX0_keep_11 ?_
    refine fr_getR (pc := 12) (T := TX0) (k := 0) kc_X0 (by decide) w_936 dX0_keep_12 hW (fun r3 hW => ?_)
    refine fr_alen (pc := 15) 7 (fun _ => rfl) dX0_keep_15 hW (fun i4 hW => ?_)
    refine fr_icmp_ge (pc := 16) (tgt := 31) (by decide) dX0_keep_16 hW (fun hW => ?_) (fun hW => ?_)
    · exact fr_sub [0, 1] rfl hW
    · refine fr_aload_n (pc := 19) 0 rfl rfl dX0_keep_19 ?_
      refine fr_getR (pc := 20) (T := TX0) (k := 0) kc_X0 (by decide) w_936 dX0_keep_20 hW (fun r5 hW => ?_)
      refine fr_aload_n (pc := 23) 0 rfl rfl dX0_keep_23 ?_
      refine fr_getI (pc := 24) (T := TX0) (k := 1) kc_X0 (by decide) w_1378 dX0_keep_24 hW (fun i6 hW => ?_)
      refine fr_aald (pc := 27) 7 (fun _ => rfl) dX0_keep_27 hW (fun hW => ?_) (fun r7 hW => ?_)
      · refine fr_goto (pc := 28) (tgt := 32) (by decide) dX0_keep_28 ?_
        refine fr_astore_nN (pc := 32) (lv' := [(2, .null), (0, .ref r0), (1, .ref p0)]) rfl (by decide) rfl dX0_keep_32 ?_
        refine fr_aload_nN (pc := 33) 0 rfl rfl dX0_keep_33 ?_
        refine fr_ifnonnullN (pc := 34) dX0_keep_34 ?_
        refine fr_bipush (pc := 37) (-104) (by decide) dX0_keep_37 ?_
        exact fr_iret (pc := 39) dX0_keep_39 rfl ⟨Nat.le_refl 0, Nat.le_refl 0⟩ hW
      · refine fr_goto (pc := 28) (tgt := 32) (by decide) dX0_keep_28 ?_
        refine fr_astore_n (pc := 32) (lv' := [(2, .ref r7), (0, .ref r0), (1, .ref p0)]) rfl (by decide) rfl dX0_keep_32 ?_
        refine fr_aload_n (pc := 33) 0 rfl rfl dX0_keep_33 ?_
        refine fr_ifnonnull (pc := 34) (tgt := 40) (by decide) dX0_keep_34 ?_
        refine fr_aload_n (pc := 40) 0 rfl rfl dX0_keep_40 ?_
        refine fr_aload_n (pc := 41) 2 rfl rfl dX0_keep_41 ?_
        obtain ⟨hrc, hW⟩ := hW
        refine fr_callV_V (pc := 42) (As := [.ref p0]) (st := []) wd_X8_takeRowsOf w_1379 ok_X8_takeRowsOf (by decide) rfl (Nat.le_of_ble_eq_true rfl) dX0_keep_42 ⟨Nat.le_refl 0, Nat.le_refl 0⟩ kc_X8 hrc hW (fun s8 hW => ?_)
        refine fr_aload_n (pc := 45) 1 rfl rfl dX0_keep_45 ?_
        refine fr_dup (pc := 46) rfl dX0_keep_46 ?_
        refine fr_getI (pc := 47) (T := TX0) (k := 1) kc_X0 (by decide) w_1378 dX0_keep_47 hW (fun i9 hW => ?_)
        refine fr_iconst (pc := 50) 1 (by decide) dX0_keep_50 ?_
        refine fr_iadd (pc := 51) dX0_keep_51 ?_
        refine fr_put (pc := 52) (T := TX0) (k := 1) kc_X0 (by decide) w_1378 rfl rfl rfl dX0_keep_52 hW (fun s10 hW => ?_)
        refine fr_aload_n (pc := 55) 1 rfl rfl dX0_keep_55 ?_
        refine fr_getI (pc := 56) (T := TX0) (k := 1) kc_X0 (by decide) w_1378 dX0_keep_56 hW (fun i11 hW => ?_)
        exact fr_iret (pc := 59) dX0_keep_59 rfl ⟨Nat.le_refl 0, Nat.le_refl 0⟩ hW
set_option maxHeartbeats 4000000 in
set_option maxRecDepth 100000 in
theorem q_X0_keep_31 {g : GG} {σ : Hs} {post : Option Value → Hs → Prop} (a0 : Nat) (a1 : Nat) (hW : post (some (.int (-104))) σ) : J_X0_keep_31 g post σ a0 a1 := by
  show Fr g M_X0_keep (0, 0, 0, 0) [(0, .ref a0), (1, .ref a1)] [] 31 σ post
  refine fr_null (pc := 31) dX0_keep_31 ?_
  refine fr_astore_nN (pc := 32) (lv' := [(2, .null), (0, .ref a0), (1, .ref a1)]) rfl (by decide) rfl dX0_keep_32 ?_
  refine fr_aload_nN (pc := 33) 0 rfl rfl dX0_keep_33 ?_
  refine fr_ifnonnullN (pc := 34) dX0_keep_34 ?_
  refine fr_bipush (pc := 37) (-104) (by decide) dX0_keep_37 ?_
  exact fr_iret (pc := 39) dX0_keep_39 rfl ⟨Nat.le_refl 0, Nat.le_refl 0⟩ hW
set_option maxHeartbeats 4000000 in
set_option maxRecDepth 100000 in
theorem q_X11_mark {g : GG} {σ : Hs} {post : Option Value → Hs → Prop} (r0 : Nat) (hW : FR σ r0 11 6 (fun r1 => FR σ r0 11 0 (fun r2 => Rc σ r1 0 ∧ Do g M_X0_keep 0 0 [.ref r1, .ref r2] σ (kI (fun i4 s3 => post (some (.int i4)) s3))))) : Do g M_X11_mark 0 0 [.ref r0] σ post := by
  refine Do.of (by decide +kernel) (Nat.le_of_ble_eq_true rfl) ?_
  show Fr g M_X11_mark (0, 0, 0, 0) [(0, .ref r0)] [] 0 σ post
  refine fr_aload_n (pc := 0) 0 rfl rfl dX11_mark_0 ?_
  refine fr_getR (pc := 1) (T := TX11) (k := 6) kc_X11 (by decide) w_984 dX11_mark_1 hW (fun r1 hW => ?_)
  refine fr_aload_n (pc := 4) 0 rfl rfl dX11_mark_4 ?_
  refine fr_getR (pc := 5) (T := TX11) (k := 0) kc_X11 (by decide) w_990 dX11_mark_5 hW (fun r2 hW => ?_)
  obtain ⟨hrc, hW⟩ := hW
  refine fr_callV_I (pc := 8) (As := [.ref r2]) (st := []) wd_X0_keep w_1380 ok_X0_keep (by decide) rfl (Nat.le_of_ble_eq_true rfl) dX11_mark_8 ⟨Nat.le_refl 0, Nat.le_refl 0⟩ kc_X0 hrc hW (fun i4 s3 hW => ?_)
  exact fr_iret (pc := 11) dX11_mark_11 rfl ⟨Nat.le_refl 0, Nat.le_refl 0⟩ hW
def J_X12_mark_13 (g : GG) (post : Option Value → Hs → Prop) (σ : Hs) (a0 : Nat) (v1 : Int32) : Prop := Fr g M_X12_mark (0, 0, 0, 0) [(0, .ref a0), (1, .int v1)] [] 13 σ post
def J_X12_mark_47 (g : GG) (post : Option Value → Hs → Prop) (σ : Hs) (a0 : Nat) (v1 : Int32) : Prop := Fr g M_X12_mark (0, 0, 0, 0) [(0, .ref a0), (1, .int v1)] [] 47 σ post
set_option maxHeartbeats 4000000 in
set_option maxRecDepth 100000 in
theorem q_X12_mark {g : GG} {σ : Hs} {post : Option Value → Hs → Prop} (r0 : Nat) (hW : FI σ r0 12 25 (fun i1 => (¬ i1 = 3 → J_X12_mark_13 g post σ r0 0 ) ∧ (i1 = 3 → post (some (.int (-104))) σ))) : Do g M_X12_mark 0 0 [.ref r0] σ post := by
  refine Do.of (by decide +kernel) (Nat.le_of_ble_eq_true rfl) ?_
  show Fr g M_X12_mark (0, 0, 0, 0) [(0, .ref r0)] [] 0 σ post
  refine fr_aload_n (pc := 0) 0 rfl rfl dX12_mark_0 ?_
  refine fr_getI (pc := 1) (T := TX12) (k := 25) kc_X12 (by decide) w_1381 dX12_mark_1 hW (fun i1 hW => ?_)
  refine fr_iconst (pc := 4) 3 (by decide) dX12_mark_4 ?_
  refine fr_icmp_ne (pc := 5) (tgt := 11) (by decide) dX12_mark_5 hW (fun hW => ?_) (fun hW => ?_)
  · refine fr_iconst (pc := 11) 0 (by decide) dX12_mark_11 ?_
    refine fr_istore_n (pc := 12) (lv' := [(1, .int 0), (0, .ref r0)]) rfl (by decide) rfl dX12_mark_12 ?_
    exact fr_sub [1, 0] rfl hW
  · refine fr_bipush (pc := 8) (-104) (by decide) dX12_mark_8 ?_
    exact fr_iret (pc := 10) dX12_mark_10 rfl ⟨Nat.le_refl 0, Nat.le_refl 0⟩ hW
set_option maxHeartbeats 4000000 in
set_option maxRecDepth 100000 in
theorem q_X12_mark_13 {g : GG} {σ : Hs} {post : Option Value → Hs → Prop} (a0 : Nat) (v1 : Int32) (hW : (64 ≤ v1 → J_X12_mark_47 g post σ a0 0 ) ∧ (¬ 64 ≤ v1 → FR σ a0 12 26 (fun r2 => FI σ a0 12 25 (fun i3 => FR σ a0 12 0 (fun r4 => AI g σ r4 1 v1 (fun i5 => SI g σ r2 1 ((64 * i3) + v1) (vp_nar .boolean i5) (fun s6 => J_X12_mark_13 g post s6 a0 ((v1 + 1)) ))))))) : J_X12_mark_13 g post σ a0 v1 := by
  show Fr g M_X12_mark (0, 0, 0, 0) [(0, .ref a0), (1, .int v1)] [] 13 σ post
  refine fr_iload_n (pc := 13) 1 rfl rfl dX12_mark_13 ?_
  refine fr_bipush (pc := 14) 64 (by decide) dX12_mark_14 ?_
  refine fr_icmp_ge (pc := 16) (tgt := 45) (by decide) dX12_mark_16 hW (fun hW => ?_) (fun hW => ?_)
  · refine fr_iconst (pc := 45) 0 (by decide) dX12_mark_45 ?_
    refine fr_istore_n (pc := 46) (lv' := [(1, .int 0), (0, .ref a0)]) rfl (by decide) rfl dX12_mark_46 ?_
    exact fr_sub [1, 0] rfl hW
  · refine fr_aload_n (pc := 19) 0 rfl rfl dX12_mark_19 ?_
    refine fr_getR (pc := 20) (T := TX12) (k := 26) kc_X12 (by decide) w_1024 dX12_mark_20 hW (fun r2 hW => ?_)
    refine fr_bipush (pc := 23) 64 (by decide) dX12_mark_23 ?_
    refine fr_aload_n (pc := 25) 0 rfl rfl dX12_mark_25 ?_
    refine fr_getI (pc := 26) (T := TX12) (k := 25) kc_X12 (by decide) w_1381 dX12_mark_26 hW (fun i3 hW => ?_)
    refine fr_imul (pc := 29) dX12_mark_29 ?_
    refine fr_iload_n (pc := 30) 1 rfl rfl dX12_mark_30 ?_
    refine fr_iadd (pc := 31) dX12_mark_31 ?_
    refine fr_aload_n (pc := 32) 0 rfl rfl dX12_mark_32 ?_
    refine fr_getR (pc := 33) (T := TX12) (k := 0) kc_X12 (by decide) w_1006 dX12_mark_33 hW (fun r4 hW => ?_)
    refine fr_iload_n (pc := 36) 1 rfl rfl dX12_mark_36 ?_
    refine fr_zald (pc := 37) dX12_mark_37 hW (fun i5 hW => ?_)
    refine fr_zast (pc := 38) dX12_mark_38 hW (fun s6 hW => ?_)
    refine fr_iinc (pc := 39) (lv' := [(1, .int (v1 + 1)), (0, .ref a0)]) (v1 + 1) 1 rfl (congrArg (fun z => v1 + z) (by decide)) (by decide) rfl dX12_mark_39 ?_
    refine fr_goto (pc := 42) (tgt := 13) (by decide) dX12_mark_42 ?_
    exact fr_sub [1, 0] rfl hW
set_option maxHeartbeats 4000000 in
set_option maxRecDepth 100000 in
theorem q_X12_mark_47 {g : GG} {σ : Hs} {post : Option Value → Hs → Prop} (a0 : Nat) (v1 : Int32) (hW : (256 ≤ v1 → FI σ a0 12 25 (fun i7 => PF σ a0 12 25 (.int (i7 + 1)) (fun s8 => FI s8 a0 12 25 (fun i9 => post (some (.int i9)) s8)))) ∧ (¬ 256 ≤ v1 → FR σ a0 12 27 (fun r10 => FI σ a0 12 25 (fun i11 => FR σ a0 12 1 (fun r12 => AI g σ r12 0 v1 (fun i13 => SI g σ r10 0 ((256 * i11) + v1) i13 (fun s14 => J_X12_mark_47 g post s14 a0 ((v1 + 1)) ))))))) : J_X12_mark_47 g post σ a0 v1 := by
  show Fr g M_X12_mark (0, 0, 0, 0) [(0, .ref a0), (1, .int v1)] [] 47 σ post
  refine fr_iload_n (pc := 47) 1 rfl rfl dX12_mark_47 ?_
  refine fr_sipush (pc := 48) 256 (by decide) dX12_mark_48 ?_
  refine fr_icmp_ge (pc := 51) (tgt := 81) (by decide) dX12_mark_51 hW (fun hW => ?_) (fun hW => ?_)
  · refine fr_aload_n (pc := 81) 0 rfl rfl dX12_mark_81 ?_
    refine fr_dup (pc := 82) rfl dX12_mark_82 ?_
    refine fr_getI (pc := 83) (T := TX12) (k := 25) kc_X12 (by decide) w_1381 dX12_mark_83 hW (fun i7 hW => ?_)
    refine fr_iconst (pc := 86) 1 (by decide) dX12_mark_86 ?_
    refine fr_iadd (pc := 87) dX12_mark_87 ?_
    refine fr_put (pc := 88) (T := TX12) (k := 25) kc_X12 (by decide) w_1381 rfl rfl rfl dX12_mark_88 hW (fun s8 hW => ?_)
    refine fr_aload_n (pc := 91) 0 rfl rfl dX12_mark_91 ?_
    refine fr_getI (pc := 92) (T := TX12) (k := 25) kc_X12 (by decide) w_1381 dX12_mark_92 hW (fun i9 hW => ?_)
    exact fr_iret (pc := 95) dX12_mark_95 rfl ⟨Nat.le_refl 0, Nat.le_refl 0⟩ hW
  · refine fr_aload_n (pc := 54) 0 rfl rfl dX12_mark_54 ?_
    refine fr_getR (pc := 55) (T := TX12) (k := 27) kc_X12 (by decide) w_1025 dX12_mark_55 hW (fun r10 hW => ?_)
    refine fr_sipush (pc := 58) 256 (by decide) dX12_mark_58 ?_
    refine fr_aload_n (pc := 61) 0 rfl rfl dX12_mark_61 ?_
    refine fr_getI (pc := 62) (T := TX12) (k := 25) kc_X12 (by decide) w_1381 dX12_mark_62 hW (fun i11 hW => ?_)
    refine fr_imul (pc := 65) dX12_mark_65 ?_
    refine fr_iload_n (pc := 66) 1 rfl rfl dX12_mark_66 ?_
    refine fr_iadd (pc := 67) dX12_mark_67 ?_
    refine fr_aload_n (pc := 68) 0 rfl rfl dX12_mark_68 ?_
    refine fr_getR (pc := 69) (T := TX12) (k := 1) kc_X12 (by decide) w_1007 dX12_mark_69 hW (fun r12 hW => ?_)
    refine fr_iload_n (pc := 72) 1 rfl rfl dX12_mark_72 ?_
    refine fr_iald (pc := 73) dX12_mark_73 hW (fun i13 hW => ?_)
    refine fr_iast (pc := 74) dX12_mark_74 hW (fun s14 hW => ?_)
    refine fr_iinc (pc := 75) (lv' := [(1, .int (v1 + 1)), (0, .ref a0)]) (v1 + 1) 1 rfl (congrArg (fun z => v1 + z) (by decide)) (by decide) rfl dX12_mark_75 ?_
    refine fr_goto (pc := 78) (tgt := 47) (by decide) dX12_mark_78 ?_
    exact fr_sub [1, 0] rfl hW
set_option maxHeartbeats 4000000 in
set_option maxRecDepth 100000 in
theorem q_X0_numbered {g : GG} {σ : Hs} {post : Option Value → Hs → Prop} (r0 : Nat) (p0 : Int32) (hW : (p0 < 0 → post (some (.null)) σ) ∧ (¬ p0 < 0 → FI σ r0 0 1 (fun i1 => (i1 ≤ p0 → post (some (.null)) σ) ∧ (¬ i1 ≤ p0 → FR σ r0 0 0 (fun r2 => AN g σ r2 7 (fun i3 => (i3 ≤ p0 → post (some (.null)) σ) ∧ (¬ i3 ≤ p0 → FR σ r0 0 0 (fun r4 => AR g σ r4 7 p0 (post (some (.null)) σ) (fun r5 => post (some (.ref r5)) σ))))))))) : Do g M_X0_numbered 0 0 [.ref r0, .int p0] σ post := by
  refine Do.of (by decide +kernel) (Nat.le_of_ble_eq_true rfl) ?_
  show Fr g M_X0_numbered (0, 0, 0, 0) [(0, .ref r0), (1, .int p0)] [] 0 σ post
  refine fr_iload_n (pc := 0) 1 rfl rfl dX0_numbered_0 ?_
  refine fr_if_lt (pc := 1) (tgt := 30) (by decide) dX0_numbered_1 hW (fun hW => ?_) (fun hW => ?_)
  · refine fr_null (pc := 30) dX0_numbered_30 ?_
    exact fr_aret (pc := 31) dX0_numbered_31 rfl (Or.inl rfl) ⟨Nat.le_refl 0, Nat.le_refl 0⟩ hW
  · refine fr_iload_n (pc := 4) 1 rfl rfl dX0_numbered_4 ?_
    refine fr_aload_n (pc := 5) 0 rfl rfl dX0_numbered_5 ?_
    refine fr_getI (pc := 6) (T := TX0) (k := 1) kc_X0 (by decide) w_1378 dX0_numbered_6 hW (fun i1 hW => ?_)
    refine fr_icmp_ge (pc := 9) (tgt := 30) (by decide) dX0_numbered_9 hW (fun hW => ?_) (fun hW => ?_)
    · refine fr_null (pc := 30) dX0_numbered_30 ?_
      exact fr_aret (pc := 31) dX0_numbered_31 rfl (Or.inl rfl) ⟨Nat.le_refl 0, Nat.le_refl 0⟩ hW
    · refine fr_iload_n (pc := 12) 1 rfl rfl dX0_numbered_12 ?_
      refine fr_aload_n (pc := 13) 0 rfl rfl dX0_numbered_13 ?_
      refine fr_getR (pc := 14) (T := TX0) (k := 0) kc_X0 (by decide) w_936 dX0_numbered_14 hW (fun r2 hW => ?_)
      refine fr_alen (pc := 17) 7 (fun _ => rfl) dX0_numbered_17 hW (fun i3 hW => ?_)
      refine fr_icmp_ge (pc := 18) (tgt := 30) (by decide) dX0_numbered_18 hW (fun hW => ?_) (fun hW => ?_)
      · refine fr_null (pc := 30) dX0_numbered_30 ?_
        exact fr_aret (pc := 31) dX0_numbered_31 rfl (Or.inl rfl) ⟨Nat.le_refl 0, Nat.le_refl 0⟩ hW
      · refine fr_aload_n (pc := 21) 0 rfl rfl dX0_numbered_21 ?_
        refine fr_getR (pc := 22) (T := TX0) (k := 0) kc_X0 (by decide) w_936 dX0_numbered_22 hW (fun r4 hW => ?_)
        refine fr_iload_n (pc := 25) 1 rfl rfl dX0_numbered_25 ?_
        refine fr_aald (pc := 26) 7 (fun _ => rfl) dX0_numbered_26 hW (fun hW => ?_) (fun r5 hW => ?_)
        · refine fr_goto (pc := 27) (tgt := 31) (by decide) dX0_numbered_27 ?_
          exact fr_aret (pc := 31) dX0_numbered_31 rfl (Or.inl rfl) ⟨Nat.le_refl 0, Nat.le_refl 0⟩ hW
        · refine fr_goto (pc := 27) (tgt := 31) (by decide) dX0_numbered_27 ?_
          exact fr_aret (pc := 31) dX0_numbered_31 rfl (Or.inr ⟨_, rfl⟩) ⟨Nat.le_refl 0, Nat.le_refl 0⟩ hW
def J_X3_rebuild_2 (g : GG) (post : Option Value → Hs → Prop) (σ : Hs) (a0 : Nat) (v1 : Int32) : Prop := Fr g M_X3_rebuild (0, 0, 0, 0) [(0, .ref a0), (1, .int v1)] [] 2 σ post
set_option maxHeartbeats 4000000 in
set_option maxRecDepth 100000 in
theorem q_X3_rebuild {g : GG} {σ : Hs} {post : Option Value → Hs → Prop} (r0 : Nat) (hW : J_X3_rebuild_2 g post σ r0 0 ) : Do g M_X3_rebuild 0 0 [.ref r0] σ post := by
  refine Do.of (by decide +kernel) (Nat.le_of_ble_eq_true rfl) ?_
  show Fr g M_X3_rebuild (0, 0, 0, 0) [(0, .ref r0)] [] 0 σ post
  refine fr_iconst (pc := 0) 0 (by decide) dX3_rebuild_0 ?_
  refine fr_istore_n (pc := 1) (lv' := [(1, .int 0), (0, .ref r0)]) rfl (by decide) rfl dX3_rebuild_1 ?_
  exact fr_sub [1, 0] rfl hW
set_option maxHeartbeats 4000000 in
set_option maxRecDepth 100000 in
theorem q_X3_rebuild_2 {g : GG} {σ : Hs} {post : Option Value → Hs → Prop} (a0 : Nat) (v1 : Int32) (hW : FI σ a0 3 2 (fun i1 => (i1 ≤ v1 → post none σ) ∧ (¬ i1 ≤ v1 → Rc σ a0 3 ∧ Do g M_X3_kept 0 0 [.ref a0, .int v1] σ (kA (fun s2 => J_X3_rebuild_2 g post s2 a0 ((v1 + 1)) ) (fun r5 s2 => Rc s2 r5 2 ∧ Do g M_X2_rebuild 0 0 [.ref r5] s2 (kV (fun s6 => J_X3_rebuild_2 g post s6 a0 ((v1 + 1)) ))))))) : J_X3_rebuild_2 g post σ a0 v1 := by
  show Fr g M_X3_rebuild (0, 0, 0, 0) [(0, .ref a0), (1, .int v1)] [] 2 σ post
  refine fr_iload_n (pc := 2) 1 rfl rfl dX3_rebuild_2 ?_
  refine fr_aload_n (pc := 3) 0 rfl rfl dX3_rebuild_3 ?_
  refine fr_getI (pc := 4) (T := TX3) (k := 2) kc_X3 (by decide) w_1058 dX3_rebuild_4 hW (fun i1 hW => ?_)
  refine fr_icmp_ge (pc := 7) (tgt := 30) (by decide) dX3_rebuild_7 hW (fun hW => ?_) (fun hW => ?_)
  · exact fr_ret (pc := 30) dX3_rebuild_30 rfl ⟨Nat.le_refl 0, Nat.le_refl 0⟩ hW
  · refine fr_aload_n (pc := 10) 0 rfl rfl dX3_rebuild_10 ?_
    refine fr_iload_n (pc := 11) 1 rfl rfl dX3_rebuild_11 ?_
    obtain ⟨hrc, hW⟩ := hW
    refine fr_callV_A (pc := 12) (As := [.int v1]) (st := []) wd_X3_kept w_1059 ok_X3_kept (by decide) rfl (Nat.le_of_ble_eq_true rfl) dX3_rebuild_12 ⟨Nat.le_refl 0, Nat.le_refl 0⟩ kc_X3 hrc hW (fun s2 hW => ?_) (fun r5 s2 hW => ?_)
    · refine fr_astore_nN (pc := 15) (lv' := [(2, .null), (0, .ref a0), (1, .int v1)]) rfl (by decide) rfl dX3_rebuild_15 ?_
      refine fr_aload_nN (pc := 16) 0 rfl rfl dX3_rebuild_16 ?_
      refine fr_ifnullN (pc := 17) (tgt := 24) (by decide) dX3_rebuild_17 ?_
      refine fr_iinc (pc := 24) (lv' := [(1, .int (v1 + 1)), (2, .null), (0, .ref a0)]) (v1 + 1) 2 rfl (congrArg (fun z => v1 + z) (by decide)) (by decide) rfl dX3_rebuild_24 ?_
      refine fr_goto (pc := 27) (tgt := 2) (by decide) dX3_rebuild_27 ?_
      exact fr_sub [2, 0] rfl hW
    · refine fr_astore_n (pc := 15) (lv' := [(2, .ref r5), (0, .ref a0), (1, .int v1)]) rfl (by decide) rfl dX3_rebuild_15 ?_
      refine fr_aload_n (pc := 16) 0 rfl rfl dX3_rebuild_16 ?_
      refine fr_ifnull (pc := 17) dX3_rebuild_17 ?_
      refine fr_aload_n (pc := 20) 0 rfl rfl dX3_rebuild_20 ?_
      obtain ⟨hrc, hW⟩ := hW
      refine fr_callV_V (pc := 21) (As := []) (st := []) wd_X2_rebuild w_1124 ok_X2_rebuild (by decide) rfl (Nat.le_of_ble_eq_true rfl) dX3_rebuild_21 ⟨Nat.le_refl 0, Nat.le_refl 0⟩ kc_X2 hrc hW (fun s6 hW => ?_)
      refine fr_iinc (pc := 24) (lv' := [(1, .int (v1 + 1)), (2, .ref r5), (0, .ref a0)]) (v1 + 1) 2 rfl (congrArg (fun z => v1 + z) (by decide)) (by decide) rfl dX3_rebuild_24 ?_
      refine fr_goto (pc := 27) (tgt := 2) (by decide) dX3_rebuild_27 ?_
      exact fr_sub [2, 0] rfl hW
set_option maxHeartbeats 4000000 in
set_option maxRecDepth 100000 in
theorem q_X0_forgetBehind {g : GG} {σ : Hs} {post : Option Value → Hs → Prop} (r0 : Nat) (p0 : Int32) (hW : PF σ r0 0 1 (.int (p0 + 1)) (fun s1 => post none s1)) : Do g M_X0_forgetBehind 0 0 [.ref r0, .int p0] σ post := by
  refine Do.of (by decide +kernel) (Nat.le_of_ble_eq_true rfl) ?_
  show Fr g M_X0_forgetBehind (0, 0, 0, 0) [(0, .ref r0), (1, .int p0)] [] 0 σ post
  refine fr_aload_n (pc := 0) 0 rfl rfl dX0_forgetBehind_0 ?_
  refine fr_iload_n (pc := 1) 1 rfl rfl dX0_forgetBehind_1 ?_
  refine fr_iconst (pc := 2) 1 (by decide) dX0_forgetBehind_2 ?_
  refine fr_iadd (pc := 3) dX0_forgetBehind_3 ?_
  refine fr_put (pc := 4) (T := TX0) (k := 1) kc_X0 (by decide) w_1378 rfl rfl rfl dX0_forgetBehind_4 hW (fun s1 hW => ?_)
  exact fr_ret (pc := 7) dX0_forgetBehind_7 rfl ⟨Nat.le_refl 0, Nat.le_refl 0⟩ hW
set_option maxHeartbeats 4000000 in
set_option maxRecDepth 100000 in
theorem q_X11_back {g : GG} {σ : Hs} {post : Option Value → Hs → Prop} (r0 : Nat) (p0 : Int32) (hW : FR σ r0 11 6 (fun r1 => Rc σ r1 0 ∧ Do g M_X0_numbered 0 0 [.ref r1, .int p0] σ (kA (fun s2 => post (some (.int (-101))) s2) (fun r5 s2 => FR s2 r0 11 0 (fun r6 => Rc s2 r6 8 ∧ Do g M_X8_takeRowsOf 0 0 [.ref r6, .ref r5] s2 (kV (fun s7 => FR s7 r0 11 1 (fun r8 => Rc s7 r8 3 ∧ Do g M_X3_rebuild 0 0 [.ref r8] s7 (kV (fun s9 => FR s9 r0 11 6 (fun r10 => Rc s9 r10 0 ∧ Do g M_X0_forgetBehind 0 0 [.ref r10, .int p0] s9 (kV (fun s11 => FR s11 r0 11 0 (fun r12 => Rc s11 r12 8 ∧ Do g M_X8_rows 0 0 [.ref r12] s11 (kI (fun i14 s13 => post (some (.int i14)) s13)))))))))))))))) : Do g M_X11_back 0 0 [.ref r0, .int p0] σ post := by
  refine Do.of (by decide +kernel) (Nat.le_of_ble_eq_true rfl) ?_
  show Fr g M_X11_back (0, 0, 0, 0) [(0, .ref r0), (1, .int p0)] [] 0 σ post
  refine fr_aload_n (pc := 0) 0 rfl rfl dX11_back_0 ?_
  refine fr_getR (pc := 1) (T := TX11) (k := 6) kc_X11 (by decide) w_984 dX11_back_1 hW (fun r1 hW => ?_)
  refine fr_iload_n (pc := 4) 1 rfl rfl dX11_back_4 ?_
  obtain ⟨hrc, hW⟩ := hW
  refine fr_callV_A (pc := 5) (As := [.int p0]) (st := []) wd_X0_numbered w_1382 ok_X0_numbered (by decide) rfl (Nat.le_of_ble_eq_true rfl) dX11_back_5 ⟨Nat.le_refl 0, Nat.le_refl 0⟩ kc_X0 hrc hW (fun s2 hW => ?_) (fun r5 s2 hW => ?_)
  · refine fr_astore_nN (pc := 8) (lv' := [(2, .null), (0, .ref r0), (1, .int p0)]) rfl (by decide) rfl dX11_back_8 ?_
    refine fr_aload_nN (pc := 9) 0 rfl rfl dX11_back_9 ?_
    refine fr_ifnonnullN (pc := 10) dX11_back_10 ?_
    refine fr_bipush (pc := 13) (-101) (by decide) dX11_back_13 ?_
    exact fr_iret (pc := 15) dX11_back_15 rfl ⟨Nat.le_refl 0, Nat.le_refl 0⟩ hW
  · refine fr_astore_n (pc := 8) (lv' := [(2, .ref r5), (0, .ref r0), (1, .int p0)]) rfl (by decide) rfl dX11_back_8 ?_
    refine fr_aload_n (pc := 9) 0 rfl rfl dX11_back_9 ?_
    refine fr_ifnonnull (pc := 10) (tgt := 16) (by decide) dX11_back_10 ?_
    refine fr_aload_n (pc := 16) 1 rfl rfl dX11_back_16 ?_
    refine fr_getR (pc := 17) (T := TX11) (k := 0) kc_X11 (by decide) w_990 dX11_back_17 hW (fun r6 hW => ?_)
    refine fr_aload_n (pc := 20) 0 rfl rfl dX11_back_20 ?_
    obtain ⟨hrc, hW⟩ := hW
    refine fr_callV_V (pc := 21) (As := [.ref r5]) (st := []) wd_X8_takeRowsOf w_1383 ok_X8_takeRowsOf (by decide) rfl (Nat.le_of_ble_eq_true rfl) dX11_back_21 ⟨Nat.le_refl 0, Nat.le_refl 0⟩ kc_X8 hrc hW (fun s7 hW => ?_)
    refine fr_aload_n (pc := 24) 1 rfl rfl dX11_back_24 ?_
    refine fr_getR (pc := 25) (T := TX11) (k := 1) kc_X11 (by decide) w_991 dX11_back_25 hW (fun r8 hW => ?_)
    obtain ⟨hrc, hW⟩ := hW
    refine fr_callV_V (pc := 28) (As := []) (st := []) wd_X3_rebuild w_1384 ok_X3_rebuild (by decide) rfl (Nat.le_of_ble_eq_true rfl) dX11_back_28 ⟨Nat.le_refl 0, Nat.le_refl 0⟩ kc_X3 hrc hW (fun s9 hW => ?_)
    refine fr_aload_n (pc := 31) 1 rfl rfl dX11_back_31 ?_
    refine fr_getR (pc := 32) (T := TX11) (k := 6) kc_X11 (by decide) w_984 dX11_back_32 hW (fun r10 hW => ?_)
    refine fr_iload_n (pc := 35) 2 rfl rfl dX11_back_35 ?_
    obtain ⟨hrc, hW⟩ := hW
    refine fr_callV_V (pc := 36) (As := [.int p0]) (st := []) wd_X0_forgetBehind w_1385 ok_X0_forgetBehind (by decide) rfl (Nat.le_of_ble_eq_true rfl) dX11_back_36 ⟨Nat.le_refl 0, Nat.le_refl 0⟩ kc_X0 hrc hW (fun s11 hW => ?_)
    refine fr_aload_n (pc := 39) 1 rfl rfl dX11_back_39 ?_
    refine fr_getR (pc := 40) (T := TX11) (k := 0) kc_X11 (by decide) w_990 dX11_back_40 hW (fun r12 hW => ?_)
    obtain ⟨hrc, hW⟩ := hW
    refine fr_callV_I (pc := 43) (As := []) (st := []) wd_X8_rows w_1095 ok_X8_rows (by decide) rfl (Nat.le_of_ble_eq_true rfl) dX11_back_43 ⟨Nat.le_refl 0, Nat.le_refl 0⟩ kc_X8 hrc hW (fun i14 s13 hW => ?_)
    exact fr_iret (pc := 46) dX11_back_46 rfl ⟨Nat.le_refl 0, Nat.le_refl 0⟩ hW
def J_X12_back_24 (g : GG) (post : Option Value → Hs → Prop) (σ : Hs) (a0 : Nat) (v1 : Int32) (v2 : Int32) : Prop := Fr g M_X12_back (0, 0, 0, 0) [(0, .ref a0), (1, .int v1), (2, .int v2)] [] 24 σ post
def J_X12_back_78 (g : GG) (post : Option Value → Hs → Prop) (σ : Hs) (a0 : Nat) (v1 : Int32) (v2 : Int32) : Prop := Fr g M_X12_back (0, 0, 0, 0) [(0, .ref a0), (1, .int v1), (2, .int v2)] [] 78 σ post
def J_X12_back_111 (g : GG) (post : Option Value → Hs → Prop) (σ : Hs) (a0 : Nat) (v1 : Int32) (v2 : Int32) : Prop := Fr g M_X12_back (0, 0, 0, 0) [(0, .ref a0), (1, .int v1), (2, .int v2)] [] 111 σ post
set_option maxHeartbeats 4000000 in
set_option maxRecDepth 100000 in
theorem q_X12_back {g : GG} {σ : Hs} {post : Option Value → Hs → Prop} (r0 : Nat) (p0 : Int32) (hW : FI σ r0 12 25 (fun i1 => Do g M_X12_in 0 0 [.int p0, .int 0, .int (i1 - 1)] σ (kI (fun i3 s2 => (¬ i3 = 0 → PF s2 r0 12 2 (.int 0) (fun s6 => J_X12_back_24 g post s6 r0 p0 0 )) ∧ (i3 = 0 → post (some (.int (-101))) s2))))) : Do g M_X12_back 0 0 [.ref r0, .int p0] σ post := by
  refine Do.of (by decide +kernel) (Nat.le_of_ble_eq_true rfl) ?_
  show Fr g M_X12_back (0, 0, 0, 0) [(0, .ref r0), (1, .int p0)] [] 0 σ post
  refine fr_iload_n (pc := 0) 1 rfl rfl dX12_back_0 ?_
  refine fr_iconst (pc := 1) 0 (by decide) dX12_back_1 ?_
  refine fr_aload_n (pc := 2) 0 rfl rfl dX12_back_2 ?_
  refine fr_getI (pc := 3) (T := TX12) (k := 25) kc_X12 (by decide) w_1381 dX12_back_3 hW (fun i1 hW => ?_)
  refine fr_iconst (pc := 6) 1 (by decide) dX12_back_6 ?_
  refine fr_isub (pc := 7) dX12_back_7 ?_
  refine fr_callS_I (pc := 8) (As := [.int p0, .int 0, .int (i1 - 1)]) (st := []) wd_X12_in w_1067 ok_X12_in (by decide) rfl (Nat.le_of_ble_eq_true rfl) dX12_back_8 ⟨Nat.le_refl 0, Nat.le_refl 0⟩ hW (fun i3 s2 hW => ?_)
  refine fr_if_ne (pc := 11) (tgt := 17) (by decide) dX12_back_11 hW (fun hW => ?_) (fun hW => ?_)
  · refine fr_aload_n (pc := 17) 0 rfl rfl dX12_back_17 ?_
    refine fr_iconst (pc := 18) 0 (by decide) dX12_back_18 ?_
    refine fr_put (pc := 19) (T := TX12) (k := 2) kc_X12 (by decide) w_1075 rfl rfl rfl dX12_back_19 hW (fun s6 hW => ?_)
    refine fr_iconst (pc := 22) 0 (by decide) dX12_back_22 ?_
    refine fr_istore_n (pc := 23) (lv' := [(2, .int 0), (0, .ref r0), (1, .int p0)]) rfl (by decide) rfl dX12_back_23 ?_
    exact fr_sub [1, 2, 0] rfl hW
  · refine fr_bipush (pc := 14) (-101) (by decide) dX12_back_14 ?_
    exact fr_iret (pc := 16) dX12_back_16 rfl ⟨Nat.le_refl 0, Nat.le_refl 0⟩ hW
set_option maxHeartbeats 4000000 in
set_option maxRecDepth 100000 in
theorem q_X12_back_24 {g : GG} {σ : Hs} {post : Option Value → Hs → Prop} (a0 : Nat) (v1 : Int32) (v2 : Int32) (hW : (64 ≤ v2 → J_X12_back_78 g post σ a0 v1 0 ) ∧ (¬ 64 ≤ v2 → FR σ a0 12 0 (fun r7 => FR σ a0 12 26 (fun r8 => AI g σ r8 1 ((64 * v1) + v2) (fun i9 => SI g σ r7 1 v2 (vp_nar .boolean i9) (fun s10 => FI s10 a0 12 2 (fun i11 => FR s10 a0 12 0 (fun r12 => AI g s10 r12 1 v2 (fun i13 => (i13 = 0 → PF s10 a0 12 2 (.int (i11 + 0)) (fun s14 => J_X12_back_24 g post s14 a0 v1 ((v2 + 1)) )) ∧ (¬ i13 = 0 → PF s10 a0 12 2 (.int (i11 + 1)) (fun s15 => J_X12_back_24 g post s15 a0 v1 ((v2 + 1)) ))))))))))) : J_X12_back_24 g post σ a0 v1 v2 := by
  show Fr g M_X12_back (0, 0, 0, 0) [(0, .ref a0), (1, .int v1), (2, .int v2)] [] 24 σ post
  refine fr_iload_n (pc := 24) 2 rfl rfl dX12_back_24 ?_
  refine fr_bipush (pc := 25) 64 (by decide) dX12_back_25 ?_
  refine fr_icmp_ge (pc := 27) (tgt := 76) (by decide) dX12_back_27 hW (fun hW => ?_) (fun hW => ?_)
  · refine fr_iconst (pc := 76) 0 (by decide) dX12_back_76 ?_
    refine fr_istore_n (pc := 77) (lv' := [(2, .int 0), (0, .ref a0), (1, .int v1)]) rfl (by decide) rfl dX12_back_77 ?_
    exact fr_sub [1, 2, 0] rfl hW
  · refine fr_aload_n (pc := 30) 0 rfl rfl dX12_back_30 ?_
    refine fr_getR (pc := 31) (T := TX12) (k := 0) kc_X12 (by decide) w_1006 dX12_back_31 hW (fun r7 hW => ?_)
    refine fr_iload_n (pc := 34) 2 rfl rfl dX12_back_34 ?_
    refine fr_aload_n (pc := 35) 0 rfl rfl dX12_back_35 ?_
    refine fr_getR (pc := 36) (T := TX12) (k := 26) kc_X12 (by decide) w_1024 dX12_back_36 hW (fun r8 hW => ?_)
    refine fr_bipush (pc := 39) 64 (by decide) dX12_back_39 ?_
    refine fr_iload_n (pc := 41) 1 rfl rfl dX12_back_41 ?_
    refine fr_imul (pc := 42) dX12_back_42 ?_
    refine fr_iload_n (pc := 43) 2 rfl rfl dX12_back_43 ?_
    refine fr_iadd (pc := 44) dX12_back_44 ?_
    refine fr_zald (pc := 45) dX12_back_45 hW (fun i9 hW => ?_)
    refine fr_zast (pc := 46) dX12_back_46 hW (fun s10 hW => ?_)
    refine fr_aload_n (pc := 47) 0 rfl rfl dX12_back_47 ?_
    refine fr_dup (pc := 48) rfl dX12_back_48 ?_
    refine fr_getI (pc := 49) (T := TX12) (k := 2) kc_X12 (by decide) w_1075 dX12_back_49 hW (fun i11 hW => ?_)
    refine fr_aload_n (pc := 52) 0 rfl rfl dX12_back_52 ?_
    refine fr_getR (pc := 53) (T := TX12) (k := 0) kc_X12 (by decide) w_1006 dX12_back_53 hW (fun r12 hW => ?_)
    refine fr_iload_n (pc := 56) 2 rfl rfl dX12_back_56 ?_
    refine fr_zald (pc := 57) dX12_back_57 hW (fun i13 hW => ?_)
    refine fr_if_eq (pc := 58) (tgt := 65) (by decide) dX12_back_58 hW (fun hW => ?_) (fun hW => ?_)
    · refine fr_iconst (pc := 65) 0 (by decide) dX12_back_65 ?_
      refine fr_iadd (pc := 66) dX12_back_66 ?_
      refine fr_put (pc := 67) (T := TX12) (k := 2) kc_X12 (by decide) w_1075 rfl rfl rfl dX12_back_67 hW (fun s14 hW => ?_)
      refine fr_iinc (pc := 70) (lv' := [(2, .int (v2 + 1)), (0, .ref a0), (1, .int v1)]) (v2 + 1) 2 rfl (congrArg (fun z => v2 + z) (by decide)) (by decide) rfl dX12_back_70 ?_
      refine fr_goto (pc := 73) (tgt := 24) (by decide) dX12_back_73 ?_
      exact fr_sub [1, 2, 0] rfl hW
    · refine fr_iconst (pc := 61) 1 (by decide) dX12_back_61 ?_
      refine fr_goto (pc := 62) (tgt := 66) (by decide) dX12_back_62 ?_
      refine fr_iadd (pc := 66) dX12_back_66 ?_
      refine fr_put (pc := 67) (T := TX12) (k := 2) kc_X12 (by decide) w_1075 rfl rfl rfl dX12_back_67 hW (fun s15 hW => ?_)
      refine fr_iinc (pc := 70) (lv' := [(2, .int (v2 + 1)), (0, .ref a0), (1, .int v1)]) (v2 + 1) 2 rfl (congrArg (fun z => v2 + z) (by decide)) (by decide) rfl dX12_back_70 ?_
      refine fr_goto (pc := 73) (tgt := 24) (by decide) dX12_back_73 ?_
      exact fr_sub [1, 2, 0] rfl hW
set_option maxHeartbeats 4000000 in
set_option maxRecDepth 100000 in
theorem q_X12_back_78 {g : GG} {σ : Hs} {post : Option Value → Hs → Prop} (a0 : Nat) (v1 : Int32) (v2 : Int32) (hW : (256 ≤ v2 → J_X12_back_111 g post σ a0 v1 0 ) ∧ (¬ 256 ≤ v2 → FR σ a0 12 1 (fun r16 => FR σ a0 12 27 (fun r17 => AI g σ r17 0 ((256 * v1) + v2) (fun i18 => SI g σ r16 0 v2 i18 (fun s19 => J_X12_back_78 g post s19 a0 v1 ((v2 + 1)) )))))) : J_X12_back_78 g post σ a0 v1 v2 := by
  show Fr g M_X12_back (0, 0, 0, 0) [(0, .ref a0), (1, .int v1), (2, .int v2)] [] 78 σ post
  refine fr_iload_n (pc := 78) 2 rfl rfl dX12_back_78 ?_
  refine fr_sipush (pc := 79) 256 (by decide) dX12_back_79 ?_
  refine fr_icmp_ge (pc := 82) (tgt := 109) (by decide) dX12_back_82 hW (fun hW => ?_) (fun hW => ?_)
  · refine fr_iconst (pc := 109) 0 (by decide) dX12_back_109 ?_
    refine fr_istore_n (pc := 110) (lv' := [(2, .int 0), (0, .ref a0), (1, .int v1)]) rfl (by decide) rfl dX12_back_110 ?_
    exact fr_sub [1, 2, 0] rfl hW
  · refine fr_aload_n (pc := 85) 0 rfl rfl dX12_back_85 ?_
    refine fr_getR (pc := 86) (T := TX12) (k := 1) kc_X12 (by decide) w_1007 dX12_back_86 hW (fun r16 hW => ?_)
    refine fr_iload_n (pc := 89) 2 rfl rfl dX12_back_89 ?_
    refine fr_aload_n (pc := 90) 0 rfl rfl dX12_back_90 ?_
    refine fr_getR (pc := 91) (T := TX12) (k := 27) kc_X12 (by decide) w_1025 dX12_back_91 hW (fun r17 hW => ?_)
    refine fr_sipush (pc := 94) 256 (by decide) dX12_back_94 ?_
    refine fr_iload_n (pc := 97) 1 rfl rfl dX12_back_97 ?_
    refine fr_imul (pc := 98) dX12_back_98 ?_
    refine fr_iload_n (pc := 99) 2 rfl rfl dX12_back_99 ?_
    refine fr_iadd (pc := 100) dX12_back_100 ?_
    refine fr_iald (pc := 101) dX12_back_101 hW (fun i18 hW => ?_)
    refine fr_iast (pc := 102) dX12_back_102 hW (fun s19 hW => ?_)
    refine fr_iinc (pc := 103) (lv' := [(2, .int (v2 + 1)), (0, .ref a0), (1, .int v1)]) (v2 + 1) 2 rfl (congrArg (fun z => v2 + z) (by decide)) (by decide) rfl dX12_back_103 ?_
    refine fr_goto (pc := 106) (tgt := 78) (by decide) dX12_back_106 ?_
    exact fr_sub [1, 2, 0] rfl hW
set_option maxHeartbeats 4000000 in
set_option maxRecDepth 100000 in
theorem q_X12_back_111 {g : GG} {σ : Hs} {post : Option Value → Hs → Prop} (a0 : Nat) (v1 : Int32) (v2 : Int32) (hW : FI σ a0 12 4 (fun i20 => (i20 ≤ v2 → PF σ a0 12 25 (.int (v1 + 1)) (fun s21 => FI s21 a0 12 2 (fun i22 => post (some (.int i22)) s21))) ∧ (¬ i20 ≤ v2 → FR σ a0 12 6 (fun r23 => AI g σ r23 1 v2 (fun i24 => (¬ i24 = 0 → J_X12_back_111 g post σ a0 v1 ((v2 + 1)) ) ∧ (i24 = 0 → Rc σ a0 12 ∧ Do g M_X12_packOne 0 0 [.ref a0, .int v2] σ (kV (fun s25 => J_X12_back_111 g post s25 a0 v1 ((v2 + 1)) )))))))) : J_X12_back_111 g post σ a0 v1 v2 := by
  show Fr g M_X12_back (0, 0, 0, 0) [(0, .ref a0), (1, .int v1), (2, .int v2)] [] 111 σ post
  refine fr_iload_n (pc := 111) 2 rfl rfl dX12_back_111 ?_
  refine fr_aload_n (pc := 112) 0 rfl rfl dX12_back_112 ?_
  refine fr_getI (pc := 113) (T := TX12) (k := 4) kc_X12 (by decide) w_1073 dX12_back_113 hW (fun i20 hW => ?_)
  refine fr_icmp_ge (pc := 116) (tgt := 139) (by decide) dX12_back_116 hW (fun hW => ?_) (fun hW => ?_)
  · refine fr_aload_n (pc := 139) 0 rfl rfl dX12_back_139 ?_
    refine fr_iload_n (pc := 140) 1 rfl rfl dX12_back_140 ?_
    refine fr_iconst (pc := 141) 1 (by decide) dX12_back_141 ?_
    refine fr_iadd (pc := 142) dX12_back_142 ?_
    refine fr_put (pc := 143) (T := TX12) (k := 25) kc_X12 (by decide) w_1381 rfl rfl rfl dX12_back_143 hW (fun s21 hW => ?_)
    refine fr_aload_n (pc := 146) 0 rfl rfl dX12_back_146 ?_
    refine fr_getI (pc := 147) (T := TX12) (k := 2) kc_X12 (by decide) w_1075 dX12_back_147 hW (fun i22 hW => ?_)
    exact fr_iret (pc := 150) dX12_back_150 rfl ⟨Nat.le_refl 0, Nat.le_refl 0⟩ hW
  · refine fr_aload_n (pc := 119) 0 rfl rfl dX12_back_119 ?_
    refine fr_getR (pc := 120) (T := TX12) (k := 6) kc_X12 (by decide) w_1010 dX12_back_120 hW (fun r23 hW => ?_)
    refine fr_iload_n (pc := 123) 2 rfl rfl dX12_back_123 ?_
    refine fr_zald (pc := 124) dX12_back_124 hW (fun i24 hW => ?_)
    refine fr_if_ne (pc := 125) (tgt := 133) (by decide) dX12_back_125 hW (fun hW => ?_) (fun hW => ?_)
    · refine fr_iinc (pc := 133) (lv' := [(2, .int (v2 + 1)), (0, .ref a0), (1, .int v1)]) (v2 + 1) 2 rfl (congrArg (fun z => v2 + z) (by decide)) (by decide) rfl dX12_back_133 ?_
      refine fr_goto (pc := 136) (tgt := 111) (by decide) dX12_back_136 ?_
      exact fr_sub [1, 2, 0] rfl hW
    · refine fr_aload_n (pc := 128) 0 rfl rfl dX12_back_128 ?_
      refine fr_iload_n (pc := 129) 2 rfl rfl dX12_back_129 ?_
      obtain ⟨hrc, hW⟩ := hW
      refine fr_callV_V (pc := 130) (As := [.int v2]) (st := []) wd_X12_packOne w_1130 ok_X12_packOne (by decide) rfl (Nat.le_of_ble_eq_true rfl) dX12_back_130 ⟨Nat.le_refl 0, Nat.le_refl 0⟩ kc_X12 hrc hW (fun s25 hW => ?_)
      refine fr_iinc (pc := 133) (lv' := [(2, .int (v2 + 1)), (0, .ref a0), (1, .int v1)]) (v2 + 1) 2 rfl (congrArg (fun z => v2 + z) (by decide)) (by decide) rfl dX12_back_133 ?_
      refine fr_goto (pc := 136) (tgt := 111) (by decide) dX12_back_136 ?_
      exact fr_sub [1, 2, 0] rfl hW
set_option maxHeartbeats 4000000 in
set_option maxRecDepth 100000 in
theorem q_X0_marked {g : GG} {σ : Hs} {post : Option Value → Hs → Prop} (r0 : Nat) (hW : FI σ r0 0 1 (fun i1 => post (some (.int i1)) σ)) : Do g M_X0_marked 0 0 [.ref r0] σ post := by
  refine Do.of (by decide +kernel) (Nat.le_of_ble_eq_true rfl) ?_
  show Fr g M_X0_marked (0, 0, 0, 0) [(0, .ref r0)] [] 0 σ post
  refine fr_aload_n (pc := 0) 0 rfl rfl dX0_marked_0 ?_
  refine fr_getI (pc := 1) (T := TX0) (k := 1) kc_X0 (by decide) w_1378 dX0_marked_1 hW (fun i1 hW => ?_)
  exact fr_iret (pc := 4) dX0_marked_4 rfl ⟨Nat.le_refl 0, Nat.le_refl 0⟩ hW
set_option maxHeartbeats 4000000 in
set_option maxRecDepth 100000 in
theorem q_X11_count {g : GG} {σ : Hs} {post : Option Value → Hs → Prop} (r0 : Nat) (p0 : Int32) (hW : (p0 = 0 → FR σ r0 11 0 (fun r1 => Rc σ r1 8 ∧ Do g M_X8_rows 0 0 [.ref r1] σ (kI (fun i3 s2 => post (some (.int i3)) s2)))) ∧ (p0 = 1 → FR σ r0 11 0 (fun r6 => Rc σ r6 8 ∧ Do g M_X8_fullPages 0 0 [.ref r6] σ (kI (fun i8 s7 => post (some (.int i8)) s7)))) ∧ (p0 = 2 → FR σ r0 11 1 (fun r11 => Rc σ r11 3 ∧ Do g M_X3_keptSet 0 0 [.ref r11] σ (kI (fun i13 s12 => Do g M_J6_bitCount_0f7a4 0 0 [.int i13] s12 (kI (fun i17 s16 => post (some (.int i17)) s16)))))) ∧ (p0 = 3 → FR σ r0 11 1 (fun r20 => Rc σ r20 3 ∧ Do g M_X3_told 0 0 [.ref r20] σ (kI (fun i22 s21 => post (some (.int i22)) s21)))) ∧ (p0 = 4 → FR σ r0 11 3 (fun r25 => Rc σ r25 10 ∧ Do g M_X10_asked 0 0 [.ref r25] σ (kI (fun i27 s26 => post (some (.int i27)) s26)))) ∧ (p0 = 5 → FR σ r0 11 6 (fun r30 => Rc σ r30 0 ∧ Do g M_X0_marked 0 0 [.ref r30] σ (kI (fun i32 s31 => post (some (.int i32)) s31)))) ∧ (p0 = 6 → FR σ r0 11 5 (fun r35 => Rc σ r35 7 ∧ Do g M_X7_length 0 0 [.ref r35] σ (kI (fun i37 s36 => post (some (.int i37)) s36)))) ∧ (p0 = 7 → FI σ r0 11 7 (fun i40 => post (some (.int i40)) σ)) ∧ (p0 = 8 → FI σ r0 11 8 (fun i41 => post (some (.int i41)) σ)) ∧ (¬ p0 = 0 → ¬ p0 = 1 → ¬ p0 = 2 → ¬ p0 = 3 → ¬ p0 = 4 → ¬ p0 = 5 → ¬ p0 = 6 → ¬ p0 = 7 → ¬ p0 = 8 → post (some (.int (-102))) σ)) : Do g M_X11_count 0 0 [.ref r0, .int p0] σ post := by
  refine Do.of (by decide +kernel) (Nat.le_of_ble_eq_true rfl) ?_
  show Fr g M_X11_count (0, 0, 0, 0) [(0, .ref r0), (1, .int p0)] [] 0 σ post
  refine fr_iload_n (pc := 0) 1 rfl rfl dX11_count_0 ?_
  by_cases c0 : p0 = 0
  · have hW := hW.1 c0
    refine fr_switchIn (pc := 1) (off := 51) (tgt := 52) dX11_count_1 (by rw [c0]; decide) (by rw [c0]; decide) (by rw [c0]; rfl) (by decide) ?_
    refine fr_aload_n (pc := 52) 0 rfl rfl dX11_count_52 ?_
    refine fr_getR (pc := 53) (T := TX11) (k := 0) kc_X11 (by decide) w_990 dX11_count_53 hW (fun r1 hW => ?_)
    obtain ⟨hrc, hW⟩ := hW
    refine fr_callV_I (pc := 56) (As := []) (st := []) wd_X8_rows w_1095 ok_X8_rows (by decide) rfl (Nat.le_of_ble_eq_true rfl) dX11_count_56 ⟨Nat.le_refl 0, Nat.le_refl 0⟩ kc_X8 hrc hW (fun i3 s2 hW => ?_)
    exact fr_iret (pc := 59) dX11_count_59 rfl ⟨Nat.le_refl 0, Nat.le_refl 0⟩ hW
  have hW := hW.2
  by_cases c1 : p0 = 1
  · have hW := hW.1 c1
    refine fr_switchIn (pc := 1) (off := 59) (tgt := 60) dX11_count_1 (by rw [c1]; decide) (by rw [c1]; decide) (by rw [c1]; rfl) (by decide) ?_
    refine fr_aload_n (pc := 60) 0 rfl rfl dX11_count_60 ?_
    refine fr_getR (pc := 61) (T := TX11) (k := 0) kc_X11 (by decide) w_990 dX11_count_61 hW (fun r6 hW => ?_)
    obtain ⟨hrc, hW⟩ := hW
    refine fr_callV_I (pc := 64) (As := []) (st := []) wd_X8_fullPages w_1386 ok_X8_fullPages (by decide) rfl (Nat.le_of_ble_eq_true rfl) dX11_count_64 ⟨Nat.le_refl 0, Nat.le_refl 0⟩ kc_X8 hrc hW (fun i8 s7 hW => ?_)
    exact fr_iret (pc := 67) dX11_count_67 rfl ⟨Nat.le_refl 0, Nat.le_refl 0⟩ hW
  have hW := hW.2
  by_cases c2 : p0 = 2
  · have hW := hW.1 c2
    refine fr_switchIn (pc := 1) (off := 67) (tgt := 68) dX11_count_1 (by rw [c2]; decide) (by rw [c2]; decide) (by rw [c2]; rfl) (by decide) ?_
    refine fr_aload_n (pc := 68) 0 rfl rfl dX11_count_68 ?_
    refine fr_getR (pc := 69) (T := TX11) (k := 1) kc_X11 (by decide) w_991 dX11_count_69 hW (fun r11 hW => ?_)
    obtain ⟨hrc, hW⟩ := hW
    refine fr_callV_I (pc := 72) (As := []) (st := []) wd_X3_keptSet w_1387 ok_X3_keptSet (by decide) rfl (Nat.le_of_ble_eq_true rfl) dX11_count_72 ⟨Nat.le_refl 0, Nat.le_refl 0⟩ kc_X3 hrc hW (fun i13 s12 hW => ?_)
    refine fr_callS_I (pc := 75) (As := [.int i13]) (st := []) wd_J6_bitCount_0f7a4 w_1319 ok_J6_bitCount_0f7a4 (by decide) rfl (Nat.le_of_ble_eq_true rfl) dX11_count_75 ⟨Nat.le_refl 0, Nat.le_refl 0⟩ hW (fun i17 s16 hW => ?_)
    exact fr_iret (pc := 78) dX11_count_78 rfl ⟨Nat.le_refl 0, Nat.le_refl 0⟩ hW
  have hW := hW.2
  by_cases c3 : p0 = 3
  · have hW := hW.1 c3
    refine fr_switchIn (pc := 1) (off := 78) (tgt := 79) dX11_count_1 (by rw [c3]; decide) (by rw [c3]; decide) (by rw [c3]; rfl) (by decide) ?_
    refine fr_aload_n (pc := 79) 0 rfl rfl dX11_count_79 ?_
    refine fr_getR (pc := 80) (T := TX11) (k := 1) kc_X11 (by decide) w_991 dX11_count_80 hW (fun r20 hW => ?_)
    obtain ⟨hrc, hW⟩ := hW
    refine fr_callV_I (pc := 83) (As := []) (st := []) wd_X3_told w_1127 ok_X3_told (by decide) rfl (Nat.le_of_ble_eq_true rfl) dX11_count_83 ⟨Nat.le_refl 0, Nat.le_refl 0⟩ kc_X3 hrc hW (fun i22 s21 hW => ?_)
    exact fr_iret (pc := 86) dX11_count_86 rfl ⟨Nat.le_refl 0, Nat.le_refl 0⟩ hW
  have hW := hW.2
  by_cases c4 : p0 = 4
  · have hW := hW.1 c4
    refine fr_switchIn (pc := 1) (off := 86) (tgt := 87) dX11_count_1 (by rw [c4]; decide) (by rw [c4]; decide) (by rw [c4]; rfl) (by decide) ?_
    refine fr_aload_n (pc := 87) 0 rfl rfl dX11_count_87 ?_
    refine fr_getR (pc := 88) (T := TX11) (k := 3) kc_X11 (by decide) w_995 dX11_count_88 hW (fun r25 hW => ?_)
    obtain ⟨hrc, hW⟩ := hW
    refine fr_callV_I (pc := 91) (As := []) (st := []) wd_X10_asked w_1195 ok_X10_asked (by decide) rfl (Nat.le_of_ble_eq_true rfl) dX11_count_91 ⟨Nat.le_refl 0, Nat.le_refl 0⟩ kc_X10 hrc hW (fun i27 s26 hW => ?_)
    exact fr_iret (pc := 94) dX11_count_94 rfl ⟨Nat.le_refl 0, Nat.le_refl 0⟩ hW
  have hW := hW.2
  by_cases c5 : p0 = 5
  · have hW := hW.1 c5
    refine fr_switchIn (pc := 1) (off := 94) (tgt := 95) dX11_count_1 (by rw [c5]; decide) (by rw [c5]; decide) (by rw [c5]; rfl) (by decide) ?_
    refine fr_aload_n (pc := 95) 0 rfl rfl dX11_count_95 ?_
    refine fr_getR (pc := 96) (T := TX11) (k := 6) kc_X11 (by decide) w_984 dX11_count_96 hW (fun r30 hW => ?_)
    obtain ⟨hrc, hW⟩ := hW
    refine fr_callV_I (pc := 99) (As := []) (st := []) wd_X0_marked w_1388 ok_X0_marked (by decide) rfl (Nat.le_of_ble_eq_true rfl) dX11_count_99 ⟨Nat.le_refl 0, Nat.le_refl 0⟩ kc_X0 hrc hW (fun i32 s31 hW => ?_)
    exact fr_iret (pc := 102) dX11_count_102 rfl ⟨Nat.le_refl 0, Nat.le_refl 0⟩ hW
  have hW := hW.2
  by_cases c6 : p0 = 6
  · have hW := hW.1 c6
    refine fr_switchIn (pc := 1) (off := 102) (tgt := 103) dX11_count_1 (by rw [c6]; decide) (by rw [c6]; decide) (by rw [c6]; rfl) (by decide) ?_
    refine fr_aload_n (pc := 103) 0 rfl rfl dX11_count_103 ?_
    refine fr_getR (pc := 104) (T := TX11) (k := 5) kc_X11 (by decide) w_981 dX11_count_104 hW (fun r35 hW => ?_)
    obtain ⟨hrc, hW⟩ := hW
    refine fr_callV_I (pc := 107) (As := []) (st := []) wd_X7_length w_1151 ok_X7_length (by decide) rfl (Nat.le_of_ble_eq_true rfl) dX11_count_107 ⟨Nat.le_refl 0, Nat.le_refl 0⟩ kc_X7 hrc hW (fun i37 s36 hW => ?_)
    exact fr_iret (pc := 110) dX11_count_110 rfl ⟨Nat.le_refl 0, Nat.le_refl 0⟩ hW
  have hW := hW.2
  by_cases c7 : p0 = 7
  · have hW := hW.1 c7
    refine fr_switchIn (pc := 1) (off := 110) (tgt := 111) dX11_count_1 (by rw [c7]; decide) (by rw [c7]; decide) (by rw [c7]; rfl) (by decide) ?_
    refine fr_aload_n (pc := 111) 0 rfl rfl dX11_count_111 ?_
    refine fr_getI (pc := 112) (T := TX11) (k := 7) kc_X11 (by decide) w_1302 dX11_count_112 hW (fun i40 hW => ?_)
    exact fr_iret (pc := 115) dX11_count_115 rfl ⟨Nat.le_refl 0, Nat.le_refl 0⟩ hW
  have hW := hW.2
  by_cases c8 : p0 = 8
  · have hW := hW.1 c8
    refine fr_switchIn (pc := 1) (off := 115) (tgt := 116) dX11_count_1 (by rw [c8]; decide) (by rw [c8]; decide) (by rw [c8]; rfl) (by decide) ?_
    refine fr_aload_n (pc := 116) 0 rfl rfl dX11_count_116 ?_
    refine fr_getI (pc := 117) (T := TX11) (k := 8) kc_X11 (by decide) w_1316 dX11_count_117 hW (fun i41 hW => ?_)
    exact fr_iret (pc := 120) dX11_count_120 rfl ⟨Nat.le_refl 0, Nat.le_refl 0⟩ hW
  have hW := hW.2
  have hW := hW c0 c1 c2 c3 c4 c5 c6 c7 c8
  refine fr_switchOut (pc := 1) (tgt := 121) dX11_count_1 (sw_out 8 (by decide) ((lt_s (lt_s (lt_s (lt_s (lt_s (lt_s (lt_s (lt_s (lt_s lt_0 c0) c1) c2) c3) c4) c5) c6) c7) c8))) (by decide) ?_
  refine fr_bipush (pc := 121) (-102) (by decide) dX11_count_121 ?_
  exact fr_iret (pc := 123) dX11_count_123 rfl ⟨Nat.le_refl 0, Nat.le_refl 0⟩ hW
def J_X12_kept_4 (g : GG) (post : Option Value → Hs → Prop) (σ : Hs) (a0 : Nat) (v1 : Int32) (v2 : Int32) : Prop := Fr g M_X12_kept (0, 0, 0, 0) [(0, .ref a0), (1, .int v1), (2, .int v2)] [] 4 σ post
set_option maxHeartbeats 4000000 in
set_option maxRecDepth 100000 in
theorem q_X12_kept {g : GG} {σ : Hs} {post : Option Value → Hs → Prop} (r0 : Nat) (hW : J_X12_kept_4 g post σ r0 0 0 ) : Do g M_X12_kept 0 0 [.ref r0] σ post := by
  refine Do.of (by decide +kernel) (Nat.le_of_ble_eq_true rfl) ?_
  show Fr g M_X12_kept (0, 0, 0, 0) [(0, .ref r0)] [] 0 σ post
  refine fr_iconst (pc := 0) 0 (by decide) dX12_kept_0 ?_
  refine fr_istore_n (pc := 1) (lv' := [(1, .int 0), (0, .ref r0)]) rfl (by decide) rfl dX12_kept_1 ?_
  refine fr_iconst (pc := 2) 0 (by decide) dX12_kept_2 ?_
  refine fr_istore_n (pc := 3) (lv' := [(2, .int 0), (1, .int 0), (0, .ref r0)]) rfl (by decide) rfl dX12_kept_3 ?_
  exact fr_sub [2, 1, 0] rfl hW
set_option maxHeartbeats 4000000 in
set_option maxRecDepth 100000 in
theorem q_X12_kept_4 {g : GG} {σ : Hs} {post : Option Value → Hs → Prop} (a0 : Nat) (v1 : Int32) (v2 : Int32) (hW : FI σ a0 12 4 (fun i1 => (i1 ≤ v2 → post (some (.int v1)) σ) ∧ (¬ i1 ≤ v2 → FR σ a0 12 6 (fun r2 => AI g σ r2 1 v2 (fun i3 => (i3 = 0 → J_X12_kept_4 g post σ a0 ((v1 + 1)) ((v2 + 1)) ) ∧ (¬ i3 = 0 → J_X12_kept_4 g post σ a0 ((v1 + 0)) ((v2 + 1)) )))))) : J_X12_kept_4 g post σ a0 v1 v2 := by
  show Fr g M_X12_kept (0, 0, 0, 0) [(0, .ref a0), (1, .int v1), (2, .int v2)] [] 4 σ post
  refine fr_iload_n (pc := 4) 2 rfl rfl dX12_kept_4 ?_
  refine fr_aload_n (pc := 5) 0 rfl rfl dX12_kept_5 ?_
  refine fr_getI (pc := 6) (T := TX12) (k := 4) kc_X12 (by decide) w_1073 dX12_kept_6 hW (fun i1 hW => ?_)
  refine fr_icmp_ge (pc := 9) (tgt := 35) (by decide) dX12_kept_9 hW (fun hW => ?_) (fun hW => ?_)
  · refine fr_iload_n (pc := 35) 1 rfl rfl dX12_kept_35 ?_
    exact fr_iret (pc := 36) dX12_kept_36 rfl ⟨Nat.le_refl 0, Nat.le_refl 0⟩ hW
  · refine fr_iload_n (pc := 12) 1 rfl rfl dX12_kept_12 ?_
    refine fr_aload_n (pc := 13) 0 rfl rfl dX12_kept_13 ?_
    refine fr_getR (pc := 14) (T := TX12) (k := 6) kc_X12 (by decide) w_1010 dX12_kept_14 hW (fun r2 hW => ?_)
    refine fr_iload_n (pc := 17) 2 rfl rfl dX12_kept_17 ?_
    refine fr_zald (pc := 18) dX12_kept_18 hW (fun i3 hW => ?_)
    refine fr_if_eq (pc := 19) (tgt := 26) (by decide) dX12_kept_19 hW (fun hW => ?_) (fun hW => ?_)
    · refine fr_iconst (pc := 26) 1 (by decide) dX12_kept_26 ?_
      refine fr_iadd (pc := 27) dX12_kept_27 ?_
      refine fr_istore_n (pc := 28) (lv' := [(1, .int (v1 + 1)), (0, .ref a0), (2, .int v2)]) rfl (by decide) rfl dX12_kept_28 ?_
      refine fr_iinc (pc := 29) (lv' := [(2, .int (v2 + 1)), (1, .int (v1 + 1)), (0, .ref a0)]) (v2 + 1) 2 rfl (congrArg (fun z => v2 + z) (by decide)) (by decide) rfl dX12_kept_29 ?_
      refine fr_goto (pc := 32) (tgt := 4) (by decide) dX12_kept_32 ?_
      exact fr_sub [2, 1, 0] rfl hW
    · refine fr_iconst (pc := 22) 0 (by decide) dX12_kept_22 ?_
      refine fr_goto (pc := 23) (tgt := 27) (by decide) dX12_kept_23 ?_
      refine fr_iadd (pc := 27) dX12_kept_27 ?_
      refine fr_istore_n (pc := 28) (lv' := [(1, .int (v1 + 0)), (0, .ref a0), (2, .int v2)]) rfl (by decide) rfl dX12_kept_28 ?_
      refine fr_iinc (pc := 29) (lv' := [(2, .int (v2 + 1)), (1, .int (v1 + 0)), (0, .ref a0)]) (v2 + 1) 2 rfl (congrArg (fun z => v2 + z) (by decide)) (by decide) rfl dX12_kept_29 ?_
      refine fr_goto (pc := 32) (tgt := 4) (by decide) dX12_kept_32 ?_
      exact fr_sub [2, 1, 0] rfl hW
set_option maxHeartbeats 4000000 in
set_option maxRecDepth 100000 in
theorem q_X12_countOf {g : GG} {σ : Hs} {post : Option Value → Hs → Prop} (r0 : Nat) (p0 : Int32) (hW : (p0 = 0 → FI σ r0 12 2 (fun i1 => post (some (.int i1)) σ)) ∧ (p0 = 1 → Rc σ r0 12 ∧ Do g M_X12_fullPages 0 0 [.ref r0] σ (kI (fun i3 s2 => post (some (.int i3)) s2))) ∧ (p0 = 2 → Rc σ r0 12 ∧ Do g M_X12_kept 0 0 [.ref r0] σ (kI (fun i7 s6 => post (some (.int i7)) s6))) ∧ (p0 = 3 → FI σ r0 12 4 (fun i10 => post (some (.int i10)) σ)) ∧ (p0 = 4 → FI σ r0 12 14 (fun i11 => post (some (.int i11)) σ)) ∧ (p0 = 5 → FI σ r0 12 25 (fun i12 => post (some (.int i12)) σ)) ∧ (p0 = 6 → FI σ r0 12 12 (fun i13 => post (some (.int i13)) σ)) ∧ (p0 = 7 → FI σ r0 12 20 (fun i14 => post (some (.int i14)) σ)) ∧ (p0 = 8 → FI σ r0 12 21 (fun i15 => post (some (.int i15)) σ)) ∧ (¬ p0 = 0 → ¬ p0 = 1 → ¬ p0 = 2 → ¬ p0 = 3 → ¬ p0 = 4 → ¬ p0 = 5 → ¬ p0 = 6 → ¬ p0 = 7 → ¬ p0 = 8 → post (some (.int (-102))) σ)) : Do g M_X12_countOf 0 0 [.ref r0, .int p0] σ post := by
  refine Do.of (by decide +kernel) (Nat.le_of_ble_eq_true rfl) ?_
  show Fr g M_X12_countOf (0, 0, 0, 0) [(0, .ref r0), (1, .int p0)] [] 0 σ post
  refine fr_iload_n (pc := 0) 1 rfl rfl dX12_countOf_0 ?_
  by_cases c0 : p0 = 0
  · have hW := hW.1 c0
    refine fr_switchIn (pc := 1) (off := 51) (tgt := 52) dX12_countOf_1 (by rw [c0]; decide) (by rw [c0]; decide) (by rw [c0]; rfl) (by decide) ?_
    refine fr_aload_n (pc := 52) 0 rfl rfl dX12_countOf_52 ?_
    refine fr_getI (pc := 53) (T := TX12) (k := 2) kc_X12 (by decide) w_1075 dX12_countOf_53 hW (fun i1 hW => ?_)
    exact fr_iret (pc := 56) dX12_countOf_56 rfl ⟨Nat.le_refl 0, Nat.le_refl 0⟩ hW
  have hW := hW.2
  by_cases c1 : p0 = 1
  · have hW := hW.1 c1
    refine fr_switchIn (pc := 1) (off := 56) (tgt := 57) dX12_countOf_1 (by rw [c1]; decide) (by rw [c1]; decide) (by rw [c1]; rfl) (by decide) ?_
    refine fr_aload_n (pc := 57) 0 rfl rfl dX12_countOf_57 ?_
    obtain ⟨hrc, hW⟩ := hW
    refine fr_callV_I (pc := 58) (As := []) (st := []) wd_X12_fullPages w_1253 ok_X12_fullPages (by decide) rfl (Nat.le_of_ble_eq_true rfl) dX12_countOf_58 ⟨Nat.le_refl 0, Nat.le_refl 0⟩ kc_X12 hrc hW (fun i3 s2 hW => ?_)
    exact fr_iret (pc := 61) dX12_countOf_61 rfl ⟨Nat.le_refl 0, Nat.le_refl 0⟩ hW
  have hW := hW.2
  by_cases c2 : p0 = 2
  · have hW := hW.1 c2
    refine fr_switchIn (pc := 1) (off := 61) (tgt := 62) dX12_countOf_1 (by rw [c2]; decide) (by rw [c2]; decide) (by rw [c2]; rfl) (by decide) ?_
    refine fr_aload_n (pc := 62) 0 rfl rfl dX12_countOf_62 ?_
    obtain ⟨hrc, hW⟩ := hW
    refine fr_callV_I (pc := 63) (As := []) (st := []) wd_X12_kept w_1389 ok_X12_kept (by decide) rfl (Nat.le_of_ble_eq_true rfl) dX12_countOf_63 ⟨Nat.le_refl 0, Nat.le_refl 0⟩ kc_X12 hrc hW (fun i7 s6 hW => ?_)
    exact fr_iret (pc := 66) dX12_countOf_66 rfl ⟨Nat.le_refl 0, Nat.le_refl 0⟩ hW
  have hW := hW.2
  by_cases c3 : p0 = 3
  · have hW := hW.1 c3
    refine fr_switchIn (pc := 1) (off := 66) (tgt := 67) dX12_countOf_1 (by rw [c3]; decide) (by rw [c3]; decide) (by rw [c3]; rfl) (by decide) ?_
    refine fr_aload_n (pc := 67) 0 rfl rfl dX12_countOf_67 ?_
    refine fr_getI (pc := 68) (T := TX12) (k := 4) kc_X12 (by decide) w_1073 dX12_countOf_68 hW (fun i10 hW => ?_)
    exact fr_iret (pc := 71) dX12_countOf_71 rfl ⟨Nat.le_refl 0, Nat.le_refl 0⟩ hW
  have hW := hW.2
  by_cases c4 : p0 = 4
  · have hW := hW.1 c4
    refine fr_switchIn (pc := 1) (off := 71) (tgt := 72) dX12_countOf_1 (by rw [c4]; decide) (by rw [c4]; decide) (by rw [c4]; rfl) (by decide) ?_
    refine fr_aload_n (pc := 72) 0 rfl rfl dX12_countOf_72 ?_
    refine fr_getI (pc := 73) (T := TX12) (k := 14) kc_X12 (by decide) w_1198 dX12_countOf_73 hW (fun i11 hW => ?_)
    exact fr_iret (pc := 76) dX12_countOf_76 rfl ⟨Nat.le_refl 0, Nat.le_refl 0⟩ hW
  have hW := hW.2
  by_cases c5 : p0 = 5
  · have hW := hW.1 c5
    refine fr_switchIn (pc := 1) (off := 76) (tgt := 77) dX12_countOf_1 (by rw [c5]; decide) (by rw [c5]; decide) (by rw [c5]; rfl) (by decide) ?_
    refine fr_aload_n (pc := 77) 0 rfl rfl dX12_countOf_77 ?_
    refine fr_getI (pc := 78) (T := TX12) (k := 25) kc_X12 (by decide) w_1381 dX12_countOf_78 hW (fun i12 hW => ?_)
    exact fr_iret (pc := 81) dX12_countOf_81 rfl ⟨Nat.le_refl 0, Nat.le_refl 0⟩ hW
  have hW := hW.2
  by_cases c6 : p0 = 6
  · have hW := hW.1 c6
    refine fr_switchIn (pc := 1) (off := 81) (tgt := 82) dX12_countOf_1 (by rw [c6]; decide) (by rw [c6]; decide) (by rw [c6]; rfl) (by decide) ?_
    refine fr_aload_n (pc := 82) 0 rfl rfl dX12_countOf_82 ?_
    refine fr_getI (pc := 83) (T := TX12) (k := 12) kc_X12 (by decide) w_1154 dX12_countOf_83 hW (fun i13 hW => ?_)
    exact fr_iret (pc := 86) dX12_countOf_86 rfl ⟨Nat.le_refl 0, Nat.le_refl 0⟩ hW
  have hW := hW.2
  by_cases c7 : p0 = 7
  · have hW := hW.1 c7
    refine fr_switchIn (pc := 1) (off := 86) (tgt := 87) dX12_countOf_1 (by rw [c7]; decide) (by rw [c7]; decide) (by rw [c7]; rfl) (by decide) ?_
    refine fr_aload_n (pc := 87) 0 rfl rfl dX12_countOf_87 ?_
    refine fr_getI (pc := 88) (T := TX12) (k := 20) kc_X12 (by decide) w_1307 dX12_countOf_88 hW (fun i14 hW => ?_)
    exact fr_iret (pc := 91) dX12_countOf_91 rfl ⟨Nat.le_refl 0, Nat.le_refl 0⟩ hW
  have hW := hW.2
  by_cases c8 : p0 = 8
  · have hW := hW.1 c8
    refine fr_switchIn (pc := 1) (off := 91) (tgt := 92) dX12_countOf_1 (by rw [c8]; decide) (by rw [c8]; decide) (by rw [c8]; rfl) (by decide) ?_
    refine fr_aload_n (pc := 92) 0 rfl rfl dX12_countOf_92 ?_
    refine fr_getI (pc := 93) (T := TX12) (k := 21) kc_X12 (by decide) w_1320 dX12_countOf_93 hW (fun i15 hW => ?_)
    exact fr_iret (pc := 96) dX12_countOf_96 rfl ⟨Nat.le_refl 0, Nat.le_refl 0⟩ hW
  have hW := hW.2
  have hW := hW c0 c1 c2 c3 c4 c5 c6 c7 c8
  refine fr_switchOut (pc := 1) (tgt := 97) dX12_countOf_1 (sw_out 8 (by decide) ((lt_s (lt_s (lt_s (lt_s (lt_s (lt_s (lt_s (lt_s (lt_s lt_0 c0) c1) c2) c3) c4) c5) c6) c7) c8))) (by decide) ?_
  refine fr_bipush (pc := 97) (-102) (by decide) dX12_countOf_97 ?_
  exact fr_iret (pc := 99) dX12_countOf_99 rfl ⟨Nat.le_refl 0, Nat.le_refl 0⟩ hW
