def J_X11_fill_39 (g : GG) (post : Option Value → Hs → Prop) (σ : Hs) (a0 : Nat) (v2 : Int32) (v3 : Int32) (w4 : Int64) (v6 : Int32) (v7 : Int32) : Prop := Fr g M_X11_fill (0, 0, 0, 0) [(0, .ref a0), (2, .int v2), (3, .int v3), (4, .long w4), (6, .int v6), (7, .int v7)] [] 39 σ post
def J_X11_fill_66 (g : GG) (post : Option Value → Hs → Prop) (σ : Hs) (a0 : Nat) (v2 : Int32) (v3 : Int32) (w4 : Int64) (v6 : Int32) (v7 : Int32) (v8 : Int32) (v9 : Int32) : Prop := Fr g M_X11_fill (0, 0, 0, 0) [(0, .ref a0), (2, .int v2), (3, .int v3), (4, .long w4), (6, .int v6), (7, .int v7), (8, .int v8), (9, .int v9)] [] 66 σ post
set_option maxHeartbeats 4000000 in
set_option maxRecDepth 100000 in
theorem q_X11_fill {g : GG} {σ : Hs} {post : Option Value → Hs → Prop} (r0 : Nat) (p0 : Int32) (p1 : Int32) (p2 : Int32) (hW : (p0 < 0 → post (some (.int (-102))) σ) ∧ (¬ p0 < 0 → (p1 < 1 → post (some (.int (-102))) σ) ∧ (¬ p1 < 1 → (64 < p1 → post (some (.int (-102))) σ) ∧ (¬ 64 < p1 → (p2 < 1 → post (some (.int (-102))) σ) ∧ (¬ p2 < 1 → (p2 ≤ 100 → J_X11_fill_39 g post σ r0 p1 p2 p0.toInt64 0 0 ) ∧ (¬ p2 ≤ 100 → post (some (.int (-102))) σ)))))) : Do g M_X11_fill 0 0 [.ref r0, .int p0, .int p1, .int p2] σ post := by
  refine Do.of (by decide +kernel) (Nat.le_of_ble_eq_true rfl) ?_
  show Fr g M_X11_fill (0, 0, 0, 0) [(0, .ref r0), (1, .int p0), (2, .int p1), (3, .int p2)] [] 0 σ post
  refine fr_iload_n (pc := 0) 1 rfl rfl dX11_fill_0 ?_
  refine fr_if_lt (pc := 1) (tgt := 26) (by decide) dX11_fill_1 hW (fun hW => ?_) (fun hW => ?_)
  · refine fr_bipush (pc := 26) (-102) (by decide) dX11_fill_26 ?_
    exact fr_iret (pc := 28) dX11_fill_28 rfl ⟨Nat.le_refl 0, Nat.le_refl 0⟩ hW
  · refine fr_iload_n (pc := 4) 2 rfl rfl dX11_fill_4 ?_
    refine fr_iconst (pc := 5) 1 (by decide) dX11_fill_5 ?_
    refine fr_icmp_lt (pc := 6) (tgt := 26) (by decide) dX11_fill_6 hW (fun hW => ?_) (fun hW => ?_)
    · refine fr_bipush (pc := 26) (-102) (by decide) dX11_fill_26 ?_
      exact fr_iret (pc := 28) dX11_fill_28 rfl ⟨Nat.le_refl 0, Nat.le_refl 0⟩ hW
    · refine fr_iload_n (pc := 9) 2 rfl rfl dX11_fill_9 ?_
      refine fr_bipush (pc := 10) 64 (by decide) dX11_fill_10 ?_
      refine fr_icmp_gt (pc := 12) (tgt := 26) (by decide) dX11_fill_12 hW (fun hW => ?_) (fun hW => ?_)
      · refine fr_bipush (pc := 26) (-102) (by decide) dX11_fill_26 ?_
        exact fr_iret (pc := 28) dX11_fill_28 rfl ⟨Nat.le_refl 0, Nat.le_refl 0⟩ hW
      · refine fr_iload_n (pc := 15) 3 rfl rfl dX11_fill_15 ?_
        refine fr_iconst (pc := 16) 1 (by decide) dX11_fill_16 ?_
        refine fr_icmp_lt (pc := 17) (tgt := 26) (by decide) dX11_fill_17 hW (fun hW => ?_) (fun hW => ?_)
        · refine fr_bipush (pc := 26) (-102) (by decide) dX11_fill_26 ?_
          exact fr_iret (pc := 28) dX11_fill_28 rfl ⟨Nat.le_refl 0, Nat.le_refl 0⟩ hW
        · refine fr_iload_n (pc := 20) 3 rfl rfl dX11_fill_20 ?_
          refine fr_bipush (pc := 21) 100 (by decide) dX11_fill_21 ?_
          refine fr_icmp_le (pc := 23) (tgt := 29) (by decide) dX11_fill_23 hW (fun hW => ?_) (fun hW => ?_)
          · refine fr_iload_n (pc := 29) 1 rfl rfl dX11_fill_29 ?_
            refine fr_i2l (pc := 30) dX11_fill_30 ?_
            refine fr_lstore (pc := 31) (lv' := [(4, .long p0.toInt64), (0, .ref r0), (1, .int p0), (2, .int p1), (3, .int p2)]) (by decide) rfl dX11_fill_31 ?_
            refine fr_iconst (pc := 33) 0 (by decide) dX11_fill_33 ?_
            refine fr_istore (pc := 34) (lv' := [(6, .int 0), (4, .long p0.toInt64), (0, .ref r0), (1, .int p0), (2, .int p1), (3, .int p2)]) (by decide) rfl dX11_fill_34 ?_
            refine fr_iconst (pc := 36) 0 (by decide) dX11_fill_36 ?_
            refine fr_istore (pc := 37) (lv' := [(7, .int 0), (6, .int 0), (4, .long p0.toInt64), (0, .ref r0), (1, .int p0), (2, .int p1), (3, .int p2)]) (by decide) rfl dX11_fill_37 ?_
            exact fr_sub [3, 5, 6, 2, 1, 0] rfl hW
          · refine fr_bipush (pc := 26) (-102) (by decide) dX11_fill_26 ?_
            exact fr_iret (pc := 28) dX11_fill_28 rfl ⟨Nat.le_refl 0, Nat.le_refl 0⟩ hW
set_option maxHeartbeats 4000000 in
set_option maxRecDepth 100000 in
theorem q_X11_fill_39 {g : GG} {σ : Hs} {post : Option Value → Hs → Prop} (a0 : Nat) (v2 : Int32) (v3 : Int32) (w4 : Int64) (v6 : Int32) (v7 : Int32) (hW : (v2 ≤ v7 → post (some (.int v6)) σ) ∧ (¬ v2 ≤ v7 → FR σ a0 11 0 (fun r1 => Rc σ r1 8 ∧ Do g M_X8_emptySlot 0 0 [.ref r1] σ (kI (fun i3 s2 => (¬ i3 = (-1) → J_X11_fill_66 g post s2 a0 v2 v3 w4 v6 v7 i3 0 ) ∧ (i3 = (-1) → post (some (.int v6)) s2)))))) : J_X11_fill_39 g post σ a0 v2 v3 w4 v6 v7 := by
  show Fr g M_X11_fill (0, 0, 0, 0) [(0, .ref a0), (2, .int v2), (3, .int v3), (4, .long w4), (6, .int v6), (7, .int v7)] [] 39 σ post
  refine fr_iload (pc := 39) 5 rfl dX11_fill_39 ?_
  refine fr_iload_n (pc := 41) 1 rfl rfl dX11_fill_41 ?_
  refine fr_icmp_ge (pc := 42) (tgt := 131) (by decide) dX11_fill_42 hW (fun hW => ?_) (fun hW => ?_)
  · refine fr_iload (pc := 131) 4 rfl dX11_fill_131 ?_
    exact fr_iret (pc := 133) dX11_fill_133 rfl ⟨Nat.le_refl 0, Nat.le_refl 0⟩ hW
  · refine fr_aload_n (pc := 45) 0 rfl rfl dX11_fill_45 ?_
    refine fr_getR (pc := 46) (T := TX11) (k := 0) kc_X11 (by decide) w_578 dX11_fill_46 hW (fun r1 hW => ?_)
    obtain ⟨hrc, hW⟩ := hW
    refine fr_callV_I (pc := 49) (As := []) (st := []) wd_X8_emptySlot w_632 ok_X8_emptySlot (by decide) rfl (Nat.le_of_ble_eq_true rfl) dX11_fill_49 ⟨Nat.le_refl 0, Nat.le_refl 0⟩ kc_X8 hrc hW (fun i3 s2 hW => ?_)
    refine fr_istore (pc := 52) (lv' := [(8, .int i3), (0, .ref a0), (2, .int v2), (3, .int v3), (4, .long w4), (6, .int v6), (7, .int v7)]) (by decide) rfl dX11_fill_52 ?_
    refine fr_iload (pc := 54) 0 rfl dX11_fill_54 ?_
    refine fr_iconst (pc := 56) (-1) (by decide) dX11_fill_56 ?_
    refine fr_icmp_ne (pc := 57) (tgt := 63) (by decide) dX11_fill_57 hW (fun hW => ?_) (fun hW => ?_)
    · refine fr_iconst (pc := 63) 0 (by decide) dX11_fill_63 ?_
      refine fr_istore (pc := 64) (lv' := [(9, .int 0), (8, .int i3), (0, .ref a0), (2, .int v2), (3, .int v3), (4, .long w4), (6, .int v6), (7, .int v7)]) (by decide) rfl dX11_fill_64 ?_
      exact fr_sub [2, 3, 4, 5, 6, 7, 1, 0] rfl hW
    · refine fr_goto (pc := 60) (tgt := 131) (by decide) dX11_fill_60 ?_
      refine fr_iload (pc := 131) 5 rfl dX11_fill_131 ?_
      exact fr_iret (pc := 133) dX11_fill_133 rfl ⟨Nat.le_refl 0, Nat.le_refl 0⟩ hW
set_option maxHeartbeats 4000000 in
set_option maxRecDepth 100000 in
theorem q_X11_fill_66 {g : GG} {σ : Hs} {post : Option Value → Hs → Prop} (a0 : Nat) (v2 : Int32) (v3 : Int32) (w4 : Int64) (v6 : Int32) (v7 : Int32) (v8 : Int32) (v9 : Int32) (hW : (4 ≤ v9 → Rc σ a0 11 ∧ Do g M_X11_rowComes 0 0 [.ref a0, .int v8] σ (kV (fun s6 => J_X11_fill_39 g post s6 a0 v2 v3 w4 ((v6 + 1)) ((v7 + 1)) ))) ∧ (¬ 4 ≤ v9 → FR σ a0 11 0 (fun r7 => Do g M_X11_rest 0 0 [.int (((((1103515245 : Int64) * w4) + 12345) &&& 2147483647) / 65536).toInt32, .int v3] σ (kI (fun i9 s8 => Rc s8 r7 8 ∧ Do g M_X8_put 0 0 [.ref r7, .int v8, .int v9, .int i9] s8 (kV (fun s12 => J_X11_fill_66 g post s12 a0 v2 v3 (((((1103515245 : Int64) * w4) + 12345) &&& 2147483647)) v6 v7 v8 ((v9 + 1)) ))))))) : J_X11_fill_66 g post σ a0 v2 v3 w4 v6 v7 v8 v9 := by
  show Fr g M_X11_fill (0, 0, 0, 0) [(0, .ref a0), (2, .int v2), (3, .int v3), (4, .long w4), (6, .int v6), (7, .int v7), (8, .int v8), (9, .int v9)] [] 66 σ post
  refine fr_iload (pc := 66) 7 rfl dX11_fill_66 ?_
  refine fr_iconst (pc := 68) 4 (by decide) dX11_fill_68 ?_
  refine fr_icmp_ge (pc := 69) (tgt := 116) (by decide) dX11_fill_69 hW (fun hW => ?_) (fun hW => ?_)
  · refine fr_aload_n (pc := 116) 0 rfl rfl dX11_fill_116 ?_
    refine fr_iload (pc := 117) 6 rfl dX11_fill_117 ?_
    obtain ⟨hrc, hW⟩ := hW
    refine fr_callV_V (pc := 119) (As := [.int v8]) (st := []) wd_X11_rowComes w_635 ok_X11_rowComes (by decide) rfl (Nat.le_of_ble_eq_true rfl) dX11_fill_119 ⟨Nat.le_refl 0, Nat.le_refl 0⟩ kc_X11 hrc hW (fun s6 hW => ?_)
    refine fr_iinc (pc := 122) (lv' := [(6, .int (v6 + 1)), (0, .ref a0), (2, .int v2), (3, .int v3), (4, .long w4), (7, .int v7), (8, .int v8), (9, .int v9)]) (v6 + 1) 4 rfl (congrArg (fun z => v6 + z) (by decide)) (by decide) rfl dX11_fill_122 ?_
    refine fr_iinc (pc := 125) (lv' := [(7, .int (v7 + 1)), (6, .int (v6 + 1)), (0, .ref a0), (2, .int v2), (3, .int v3), (4, .long w4), (8, .int v8), (9, .int v9)]) (v7 + 1) 5 rfl (congrArg (fun z => v7 + z) (by decide)) (by decide) rfl dX11_fill_125 ?_
    refine fr_goto (pc := 128) (tgt := 39) (by decide) dX11_fill_128 ?_
    exact fr_sub [2, 3, 4, 5, 1, 0] rfl hW
  · refine fr_ldc2 (pc := 72) w_628 dX11_fill_72 ?_
    refine fr_lload (pc := 75) 3 rfl dX11_fill_75 ?_
    refine fr_lmul (pc := 77) dX11_fill_77 ?_
    refine fr_ldc2 (pc := 78) w_629 dX11_fill_78 ?_
    refine fr_ladd (pc := 81) dX11_fill_81 ?_
    refine fr_ldc2 (pc := 82) w_630 dX11_fill_82 ?_
    refine fr_land (pc := 85) dX11_fill_85 ?_
    refine fr_lstore (pc := 86) (lv' := [(4, .long ((((1103515245 : Int64) * w4) + 12345) &&& 2147483647)), (0, .ref a0), (2, .int v2), (3, .int v3), (6, .int v6), (7, .int v7), (8, .int v8), (9, .int v9)]) (by decide) rfl dX11_fill_86 ?_
    refine fr_aload_n (pc := 88) 1 rfl rfl dX11_fill_88 ?_
    refine fr_getR (pc := 89) (T := TX11) (k := 0) kc_X11 (by decide) w_578 dX11_fill_89 hW (fun r7 hW => ?_)
    refine fr_iload (pc := 92) 6 rfl dX11_fill_92 ?_
    refine fr_iload (pc := 94) 7 rfl dX11_fill_94 ?_
    refine fr_lload (pc := 96) 0 rfl dX11_fill_96 ?_
    refine fr_ldc2 (pc := 98) w_631 dX11_fill_98 ?_
    refine fr_ldiv (pc := 101) (by decide) dX11_fill_101 ?_
    refine fr_l2i (pc := 102) dX11_fill_102 ?_
    refine fr_iload_n (pc := 103) 3 rfl rfl dX11_fill_103 ?_
    refine fr_callS_I (pc := 104) (As := [.int (((((1103515245 : Int64) * w4) + 12345) &&& 2147483647) / 65536).toInt32, .int v3]) (st := [.int v9, .int v8, .ref r7]) wd_X11_rest w_633 ok_X11_rest (by decide) rfl (Nat.le_of_ble_eq_true rfl) dX11_fill_104 ⟨Nat.le_refl 0, Nat.le_refl 0⟩ hW (fun i9 s8 hW => ?_)
    obtain ⟨hrc, hW⟩ := hW
    refine fr_callV_V (pc := 107) (As := [.int v8, .int v9, .int i9]) (st := []) wd_X8_put w_634 ok_X8_put (by decide) rfl (Nat.le_of_ble_eq_true rfl) dX11_fill_107 ⟨Nat.le_refl 0, Nat.le_refl 0⟩ kc_X8 hrc hW (fun s12 hW => ?_)
    refine fr_iinc (pc := 110) (lv' := [(9, .int (v9 + 1)), (4, .long ((((1103515245 : Int64) * w4) + 12345) &&& 2147483647)), (0, .ref a0), (2, .int v2), (3, .int v3), (6, .int v6), (7, .int v7), (8, .int v8)]) (v9 + 1) 7 rfl (congrArg (fun z => v9 + z) (by decide)) (by decide) rfl dX11_fill_110 ?_
    refine fr_goto (pc := 113) (tgt := 66) (by decide) dX11_fill_113 ?_
    exact fr_sub [2, 3, 4, 1, 5, 6, 7, 0] rfl hW
set_option maxHeartbeats 4000000 in
set_option maxRecDepth 100000 in
theorem q_X11_has {g : GG} {σ : Hs} {post : Option Value → Hs → Prop} (p0 : Int32) (p1 : Int32) (hW : (((p0 >>> (p1 &&& 31)) &&& 1) = 0 → post (some (.int 0)) σ) ∧ (¬ ((p0 >>> (p1 &&& 31)) &&& 1) = 0 → post (some (.int 1)) σ)) : Do g M_X11_has 0 0 [.int p0, .int p1] σ post := by
  refine Do.of (by decide +kernel) (Nat.le_of_ble_eq_true rfl) ?_
  show Fr g M_X11_has (0, 0, 0, 0) [(0, .int p0), (1, .int p1)] [] 0 σ post
  refine fr_iload_n (pc := 0) 0 rfl rfl dX11_has_0 ?_
  refine fr_iload_n (pc := 1) 1 rfl rfl dX11_has_1 ?_
  refine fr_ishr (pc := 2) dX11_has_2 ?_
  refine fr_iconst (pc := 3) 1 (by decide) dX11_has_3 ?_
  refine fr_iand (pc := 4) dX11_has_4 ?_
  refine fr_if_eq (pc := 5) (tgt := 12) (by decide) dX11_has_5 hW (fun hW => ?_) (fun hW => ?_)
  · refine fr_iconst (pc := 12) 0 (by decide) dX11_has_12 ?_
    exact fr_zret (pc := 13) dX11_has_13 rfl ⟨Nat.le_refl 0, Nat.le_refl 0⟩ ⟨rfl, hW⟩
  · refine fr_iconst (pc := 8) 1 (by decide) dX11_has_8 ?_
    refine fr_goto (pc := 9) (tgt := 13) (by decide) dX11_has_9 ?_
    exact fr_zret (pc := 13) dX11_has_13 rfl ⟨Nat.le_refl 0, Nat.le_refl 0⟩ ⟨rfl, hW⟩
set_option maxHeartbeats 4000000 in
set_option maxRecDepth 100000 in
theorem q_X11_with {g : GG} {σ : Hs} {post : Option Value → Hs → Prop} (p0 : Int32) (p1 : Int32) (hW : post (some (.int (p0 ||| ((1 : Int32) <<< (p1 &&& 31))))) σ) : Do g M_X11_with 0 0 [.int p0, .int p1] σ post := by
  refine Do.of (by decide +kernel) (Nat.le_of_ble_eq_true rfl) ?_
  show Fr g M_X11_with (0, 0, 0, 0) [(0, .int p0), (1, .int p1)] [] 0 σ post
  refine fr_iload_n (pc := 0) 0 rfl rfl dX11_with_0 ?_
  refine fr_iconst (pc := 1) 1 (by decide) dX11_with_1 ?_
  refine fr_iload_n (pc := 2) 1 rfl rfl dX11_with_2 ?_
  refine fr_ishl (pc := 3) dX11_with_3 ?_
  refine fr_ior (pc := 4) dX11_with_4 ?_
  exact fr_iret (pc := 5) dX11_with_5 rfl ⟨Nat.le_refl 0, Nat.le_refl 0⟩ hW
def J_X2_isKey_19 (g : GG) (post : Option Value → Hs → Prop) (σ : Hs) (v1 : Int32) (v2 : Int32) (v3 : Int32) : Prop := Fr g M_X2_isKey (0, 0, 0, 0) [(1, .int v1), (2, .int v2), (3, .int v3)] [] 19 σ post
set_option maxHeartbeats 4000000 in
set_option maxRecDepth 100000 in
theorem q_X2_isKey {g : GG} {σ : Hs} {post : Option Value → Hs → Prop} (p0 : Int32) (hW : (p0 < 1 → post (some (.int 0)) σ) ∧ (¬ p0 < 1 → (p0 ≤ 124 → J_X2_isKey_19 g post σ 0 p0 0 ) ∧ (¬ p0 ≤ 124 → post (some (.int 0)) σ))) : Do g M_X2_isKey 0 0 [.int p0] σ post := by
  refine Do.of (by decide +kernel) (Nat.le_of_ble_eq_true rfl) ?_
  show Fr g M_X2_isKey (0, 0, 0, 0) [(0, .int p0)] [] 0 σ post
  refine fr_iload_n (pc := 0) 0 rfl rfl dX2_isKey_0 ?_
  refine fr_iconst (pc := 1) 1 (by decide) dX2_isKey_1 ?_
  refine fr_icmp_lt (pc := 2) (tgt := 11) (by decide) dX2_isKey_2 hW (fun hW => ?_) (fun hW => ?_)
  · refine fr_iconst (pc := 11) 0 (by decide) dX2_isKey_11 ?_
    exact fr_zret (pc := 12) dX2_isKey_12 rfl ⟨Nat.le_refl 0, Nat.le_refl 0⟩ ⟨rfl, hW⟩
  · refine fr_iload_n (pc := 5) 0 rfl rfl dX2_isKey_5 ?_
    refine fr_bipush (pc := 6) 124 (by decide) dX2_isKey_6 ?_
    refine fr_icmp_le (pc := 8) (tgt := 13) (by decide) dX2_isKey_8 hW (fun hW => ?_) (fun hW => ?_)
    · refine fr_iconst (pc := 13) 0 (by decide) dX2_isKey_13 ?_
      refine fr_istore_n (pc := 14) (lv' := [(1, .int 0), (0, .int p0)]) rfl (by decide) rfl dX2_isKey_14 ?_
      refine fr_iload_n (pc := 15) 1 rfl rfl dX2_isKey_15 ?_
      refine fr_istore_n (pc := 16) (lv' := [(2, .int p0), (1, .int 0), (0, .int p0)]) rfl (by decide) rfl dX2_isKey_16 ?_
      refine fr_iconst (pc := 17) 0 (by decide) dX2_isKey_17 ?_
      refine fr_istore_n (pc := 18) (lv' := [(3, .int 0), (2, .int p0), (1, .int 0), (0, .int p0)]) rfl (by decide) rfl dX2_isKey_18 ?_
      exact fr_sub [2, 1, 0] rfl hW
    · refine fr_iconst (pc := 11) 0 (by decide) dX2_isKey_11 ?_
      exact fr_zret (pc := 12) dX2_isKey_12 rfl ⟨Nat.le_refl 0, Nat.le_refl 0⟩ ⟨rfl, hW⟩
set_option maxHeartbeats 4000000 in
set_option maxRecDepth 100000 in
theorem q_X2_isKey_19 {g : GG} {σ : Hs} {post : Option Value → Hs → Prop} (v1 : Int32) (v2 : Int32) (v3 : Int32) (hW : (3 ≤ v3 → post (some (.int 1)) σ) ∧ (¬ 3 ≤ v3 → (v2 ≤ 0 → post (some (.int 1)) σ) ∧ (¬ v2 ≤ 0 → ((v2 - v2 / 5 * 5) = 0 → post (some (.int 0)) σ) ∧ (¬ (v2 - v2 / 5 * 5) = 0 → Do g M_X11_has 0 0 [.int v1, .int (v2 - v2 / 5 * 5)] σ (kI (fun i2 s1 => (i2 = 0 → Do g M_X11_with 0 0 [.int v1, .int (v2 - v2 / 5 * 5)] s1 (kI (fun i6 s5 => J_X2_isKey_19 g post s5 i6 ((v2 / 5)) ((v3 + 1)) ))) ∧ (¬ i2 = 0 → post (some (.int 0)) s1))))))) : J_X2_isKey_19 g post σ v1 v2 v3 := by
  show Fr g M_X2_isKey (0, 0, 0, 0) [(1, .int v1), (2, .int v2), (3, .int v3)] [] 19 σ post
  refine fr_iload_n (pc := 19) 2 rfl rfl dX2_isKey_19 ?_
  refine fr_iconst (pc := 20) 3 (by decide) dX2_isKey_20 ?_
  refine fr_icmp_ge (pc := 21) (tgt := 66) (by decide) dX2_isKey_21 hW (fun hW => ?_) (fun hW => ?_)
  · refine fr_iconst (pc := 66) 1 (by decide) dX2_isKey_66 ?_
    exact fr_zret (pc := 67) dX2_isKey_67 rfl ⟨Nat.le_refl 0, Nat.le_refl 0⟩ ⟨rfl, hW⟩
  · refine fr_iload_n (pc := 24) 1 rfl rfl dX2_isKey_24 ?_
    refine fr_if_le (pc := 25) (tgt := 66) (by decide) dX2_isKey_25 hW (fun hW => ?_) (fun hW => ?_)
    · refine fr_iconst (pc := 66) 1 (by decide) dX2_isKey_66 ?_
      exact fr_zret (pc := 67) dX2_isKey_67 rfl ⟨Nat.le_refl 0, Nat.le_refl 0⟩ ⟨rfl, hW⟩
    · refine fr_iload_n (pc := 28) 1 rfl rfl dX2_isKey_28 ?_
      refine fr_iconst (pc := 29) 5 (by decide) dX2_isKey_29 ?_
      refine fr_irem (pc := 30) (by decide) dX2_isKey_30 ?_
      refine fr_istore (pc := 31) (lv' := [(4, .int (v2 - v2 / 5 * 5)), (1, .int v1), (2, .int v2), (3, .int v3)]) (by decide) rfl dX2_isKey_31 ?_
      refine fr_iload (pc := 33) 0 rfl dX2_isKey_33 ?_
      refine fr_if_eq (pc := 35) (tgt := 47) (by decide) dX2_isKey_35 hW (fun hW => ?_) (fun hW => ?_)
      · refine fr_iconst (pc := 47) 0 (by decide) dX2_isKey_47 ?_
        exact fr_zret (pc := 48) dX2_isKey_48 rfl ⟨Nat.le_refl 0, Nat.le_refl 0⟩ ⟨rfl, hW⟩
      · refine fr_iload_n (pc := 38) 1 rfl rfl dX2_isKey_38 ?_
        refine fr_iload (pc := 39) 0 rfl dX2_isKey_39 ?_
        refine fr_callSN_I (pc := 41) (As := [.int v1, .int (v2 - v2 / 5 * 5)]) (st := []) wd_X11_has ⟨RX11, by decide +kernel⟩ ok_X11_has (by decide) rfl (Nat.le_of_ble_eq_true rfl) dX2_isKey_41 ⟨Nat.le_refl 0, Nat.le_refl 0⟩ hW (fun i2 s1 hW => ?_)
        refine fr_if_eq (pc := 44) (tgt := 49) (by decide) dX2_isKey_44 hW (fun hW => ?_) (fun hW => ?_)
        · refine fr_iload_n (pc := 49) 1 rfl rfl dX2_isKey_49 ?_
          refine fr_iload (pc := 50) 0 rfl dX2_isKey_50 ?_
          refine fr_callSN_I (pc := 52) (As := [.int v1, .int (v2 - v2 / 5 * 5)]) (st := []) wd_X11_with ⟨RX11, by decide +kernel⟩ ok_X11_with (by decide) rfl (Nat.le_of_ble_eq_true rfl) dX2_isKey_52 ⟨Nat.le_refl 0, Nat.le_refl 0⟩ hW (fun i6 s5 hW => ?_)
          refine fr_istore_n (pc := 55) (lv' := [(1, .int i6), (4, .int (v2 - v2 / 5 * 5)), (2, .int v2), (3, .int v3)]) rfl (by decide) rfl dX2_isKey_55 ?_
          refine fr_iload_n (pc := 56) 2 rfl rfl dX2_isKey_56 ?_
          refine fr_iconst (pc := 57) 5 (by decide) dX2_isKey_57 ?_
          refine fr_idiv (pc := 58) (by decide) dX2_isKey_58 ?_
          refine fr_istore_n (pc := 59) (lv' := [(2, .int (v2 / 5)), (1, .int i6), (4, .int (v2 - v2 / 5 * 5)), (3, .int v3)]) rfl (by decide) rfl dX2_isKey_59 ?_
          refine fr_iinc (pc := 60) (lv' := [(3, .int (v3 + 1)), (2, .int (v2 / 5)), (1, .int i6), (4, .int (v2 - v2 / 5 * 5))]) (v3 + 1) 3 rfl (congrArg (fun z => v3 + z) (by decide)) (by decide) rfl dX2_isKey_60 ?_
          refine fr_goto (pc := 63) (tgt := 19) (by decide) dX2_isKey_63 ?_
          exact fr_sub [2, 1, 0] rfl hW
        · refine fr_iconst (pc := 47) 0 (by decide) dX2_isKey_47 ?_
          exact fr_zret (pc := 48) dX2_isKey_48 rfl ⟨Nat.le_refl 0, Nat.le_refl 0⟩ ⟨rfl, hW⟩
set_option maxHeartbeats 4000000 in
set_option maxRecDepth 100000 in
theorem q_X2_key {g : GG} {σ : Hs} {post : Option Value → Hs → Prop} (r0 : Nat) (hW : FI σ r0 2 1 (fun i1 => post (some (.int i1)) σ)) : Do g M_X2_key 0 0 [.ref r0] σ post := by
  refine Do.of (by decide +kernel) (Nat.le_of_ble_eq_true rfl) ?_
  show Fr g M_X2_key (0, 0, 0, 0) [(0, .ref r0)] [] 0 σ post
  refine fr_aload_n (pc := 0) 0 rfl rfl dX2_key_0 ?_
  refine fr_getI (pc := 1) (T := TX2) (k := 1) kc_X2 (by decide) w_636 dX2_key_1 hW (fun i1 hW => ?_)
  exact fr_iret (pc := 4) dX2_key_4 rfl ⟨Nat.le_refl 0, Nat.le_refl 0⟩ hW
def J_X3_haveKey_2 (g : GG) (post : Option Value → Hs → Prop) (σ : Hs) (a0 : Nat) (v1 : Int32) (v2 : Int32) : Prop := Fr g M_X3_haveKey (0, 0, 0, 0) [(0, .ref a0), (1, .int v1), (2, .int v2)] [] 2 σ post
set_option maxHeartbeats 4000000 in
set_option maxRecDepth 100000 in
theorem q_X3_haveKey {g : GG} {σ : Hs} {post : Option Value → Hs → Prop} (r0 : Nat) (p0 : Int32) (hW : J_X3_haveKey_2 g post σ r0 p0 0 ) : Do g M_X3_haveKey 0 0 [.ref r0, .int p0] σ post := by
  refine Do.of (by decide +kernel) (Nat.le_of_ble_eq_true rfl) ?_
  show Fr g M_X3_haveKey (0, 0, 0, 0) [(0, .ref r0), (1, .int p0)] [] 0 σ post
  refine fr_iconst (pc := 0) 0 (by decide) dX3_haveKey_0 ?_
  refine fr_istore_n (pc := 1) (lv' := [(2, .int 0), (0, .ref r0), (1, .int p0)]) rfl (by decide) rfl dX3_haveKey_1 ?_
  exact fr_sub [1, 2, 0] rfl hW
set_option maxHeartbeats 4000000 in
set_option maxRecDepth 100000 in
theorem q_X3_haveKey_2 {g : GG} {σ : Hs} {post : Option Value → Hs → Prop} (a0 : Nat) (v1 : Int32) (v2 : Int32) (hW : FI σ a0 3 2 (fun i1 => (i1 ≤ v2 → post (some (.int 0)) σ) ∧ (¬ i1 ≤ v2 → Rc σ a0 3 ∧ Do g M_X3_kept 0 0 [.ref a0, .int v2] σ (kA (fun s2 => J_X3_haveKey_2 g post s2 a0 v1 ((v2 + 1)) ) (fun r5 s2 => Rc s2 r5 2 ∧ Do g M_X2_key 0 0 [.ref r5] s2 (kI (fun i7 s6 => (¬ i7 = v1 → J_X3_haveKey_2 g post s6 a0 v1 ((v2 + 1)) ) ∧ (i7 = v1 → post (some (.int 1)) s6)))))))) : J_X3_haveKey_2 g post σ a0 v1 v2 := by
  show Fr g M_X3_haveKey (0, 0, 0, 0) [(0, .ref a0), (1, .int v1), (2, .int v2)] [] 2 σ post
  refine fr_iload_n (pc := 2) 2 rfl rfl dX3_haveKey_2 ?_
  refine fr_aload_n (pc := 3) 0 rfl rfl dX3_haveKey_3 ?_
  refine fr_getI (pc := 4) (T := TX3) (k := 2) kc_X3 (by decide) w_623 dX3_haveKey_4 hW (fun i1 hW => ?_)
  refine fr_icmp_ge (pc := 7) (tgt := 36) (by decide) dX3_haveKey_7 hW (fun hW => ?_) (fun hW => ?_)
  · refine fr_iconst (pc := 36) 0 (by decide) dX3_haveKey_36 ?_
    exact fr_zret (pc := 37) dX3_haveKey_37 rfl ⟨Nat.le_refl 0, Nat.le_refl 0⟩ ⟨rfl, hW⟩
  · refine fr_aload_n (pc := 10) 0 rfl rfl dX3_haveKey_10 ?_
    refine fr_iload_n (pc := 11) 2 rfl rfl dX3_haveKey_11 ?_
    obtain ⟨hrc, hW⟩ := hW
    refine fr_callV_A (pc := 12) (As := [.int v2]) (st := []) wd_X3_kept w_624 ok_X3_kept (by decide) rfl (Nat.le_of_ble_eq_true rfl) dX3_haveKey_12 ⟨Nat.le_refl 0, Nat.le_refl 0⟩ kc_X3 hrc hW (fun s2 hW => ?_) (fun r5 s2 hW => ?_)
    · refine fr_astore_nN (pc := 15) (lv' := [(3, .null), (0, .ref a0), (1, .int v1), (2, .int v2)]) rfl (by decide) rfl dX3_haveKey_15 ?_
      refine fr_aload_nN (pc := 16) 0 rfl rfl dX3_haveKey_16 ?_
      refine fr_ifnullN (pc := 17) (tgt := 30) (by decide) dX3_haveKey_17 ?_
      refine fr_iinc (pc := 30) (lv' := [(2, .int (v2 + 1)), (3, .null), (0, .ref a0), (1, .int v1)]) (v2 + 1) 3 rfl (congrArg (fun z => v2 + z) (by decide)) (by decide) rfl dX3_haveKey_30 ?_
      refine fr_goto (pc := 33) (tgt := 2) (by decide) dX3_haveKey_33 ?_
      exact fr_sub [2, 3, 0] rfl hW
    · refine fr_astore_n (pc := 15) (lv' := [(3, .ref r5), (0, .ref a0), (1, .int v1), (2, .int v2)]) rfl (by decide) rfl dX3_haveKey_15 ?_
      refine fr_aload_n (pc := 16) 0 rfl rfl dX3_haveKey_16 ?_
      refine fr_ifnull (pc := 17) dX3_haveKey_17 ?_
      refine fr_aload_n (pc := 20) 0 rfl rfl dX3_haveKey_20 ?_
      obtain ⟨hrc, hW⟩ := hW
      refine fr_callV_I (pc := 21) (As := []) (st := []) wd_X2_key w_637 ok_X2_key (by decide) rfl (Nat.le_of_ble_eq_true rfl) dX3_haveKey_21 ⟨Nat.le_refl 0, Nat.le_refl 0⟩ kc_X2 hrc hW (fun i7 s6 hW => ?_)
      refine fr_iload_n (pc := 24) 2 rfl rfl dX3_haveKey_24 ?_
      refine fr_icmp_ne (pc := 25) (tgt := 30) (by decide) dX3_haveKey_25 hW (fun hW => ?_) (fun hW => ?_)
      · refine fr_iinc (pc := 30) (lv' := [(2, .int (v2 + 1)), (3, .ref r5), (0, .ref a0), (1, .int v1)]) (v2 + 1) 3 rfl (congrArg (fun z => v2 + z) (by decide)) (by decide) rfl dX3_haveKey_30 ?_
        refine fr_goto (pc := 33) (tgt := 2) (by decide) dX3_haveKey_33 ?_
        exact fr_sub [2, 3, 0] rfl hW
      · refine fr_iconst (pc := 28) 1 (by decide) dX3_haveKey_28 ?_
        exact fr_zret (pc := 29) dX3_haveKey_29 rfl ⟨Nat.le_refl 0, Nat.le_refl 0⟩ ⟨rfl, hW⟩
set_option maxHeartbeats 4000000 in
set_option maxRecDepth 100000 in
theorem q_X3_told {g : GG} {σ : Hs} {post : Option Value → Hs → Prop} (r0 : Nat) (hW : FI σ r0 3 2 (fun i1 => post (some (.int i1)) σ)) : Do g M_X3_told 0 0 [.ref r0] σ post := by
  refine Do.of (by decide +kernel) (Nat.le_of_ble_eq_true rfl) ?_
  show Fr g M_X3_told (0, 0, 0, 0) [(0, .ref r0)] [] 0 σ post
  refine fr_aload_n (pc := 0) 0 rfl rfl dX3_told_0 ?_
  refine fr_getI (pc := 1) (T := TX3) (k := 2) kc_X3 (by decide) w_623 dX3_told_1 hW (fun i1 hW => ?_)
  exact fr_iret (pc := 4) dX3_told_4 rfl ⟨Nat.le_refl 0, Nat.le_refl 0⟩ hW
def J_X2_init_73 (g : GG) (post : Option Value → Hs → Prop) (cM sM kM nM : Nat) (σ : Hs) (a0 : Nat) (v2 : Int32) (t0 : Int32) (t1 : Nat) : Prop := Fr g M_X2_init (cM, sM, kM, nM) [(0, .ref a0), (2, .int v2)] [.int t0, .ref t1] 73 σ post
def J_X2_init_119 (g : GG) (post : Option Value → Hs → Prop) (cM sM kM nM : Nat) (σ : Hs) (a0 : Nat) (v3 : Int32) (v4 : Int32) (v5 : Int32) : Prop := Fr g M_X2_init (cM, sM, kM, nM) [(0, .ref a0), (3, .int v3), (4, .int v4), (5, .int v5)] [] 119 σ post
set_option maxHeartbeats 4000000 in
set_option maxRecDepth 100000 in
theorem q_X2_init {g : GG} {σ : Hs} {post : Option Value → Hs → Prop} (cM sM : Nat) (r0 : Nat) (p0 : Nat) (p1 : Int32) (hW : ((0) + 1 ≤ cM ∧ (0) + 1 ≤ sM) ∧ NW σ 1 [.null] (fun r1 s2 => ∃ mc4 ms5 : Nat, ((1) + mc4 ≤ cM ∧ (1) + ms5 ≤ sM) ∧ Do g M_X1_init mc4 ms5 [.ref r1, .int 3] s2 (kV (fun s3 => PF s3 r0 2 5 (.ref r1) (fun s6 => ((1 + mc4) + 1 ≤ cM ∧ (1 + ms5) + 1 ≤ sM) ∧ NW s6 1 [.null] (fun r7 s8 => ∃ mc10 ms11 : Nat, ((1 + mc4 + 1) + mc10 ≤ cM ∧ (1 + ms5 + 1) + ms11 ≤ sM) ∧ Do g M_X1_init mc10 ms11 [.ref r7, .int 64] s8 (kV (fun s9 => PF s9 r0 2 6 (.ref r7) (fun s12 => ((1 + mc4 + 1 + mc10) + 1 ≤ cM ∧ (1 + ms5 + 1 + ms11) + 1 ≤ sM) ∧ NW s12 1 [.null] (fun r13 s14 => ∃ mc16 ms17 : Nat, ((1 + mc4 + 1 + mc10 + 1) + mc16 ≤ cM ∧ (1 + ms5 + 1 + ms11 + 1) + ms17 ≤ sM) ∧ Do g M_X1_init mc16 ms17 [.ref r13, .int 64] s14 (kV (fun s15 => PF s15 r0 2 7 (.ref r13) (fun s18 => PF s18 r0 2 0 (.ref p0) (fun s19 => PF s19 r0 2 1 (.int p1) (fun s20 => (p1 < 25 → (p1 < 5 → J_X2_init_73 g post cM sM (1 + mc4 + 1 + mc10 + 1 + mc16) (1 + ms5 + 1 + ms11 + 1 + ms17) s20 r0 p1 1 r0) ∧ (¬ p1 < 5 → J_X2_init_73 g post cM sM (1 + mc4 + 1 + mc10 + 1 + mc16) (1 + ms5 + 1 + ms11 + 1 + ms17) s20 r0 p1 2 r0)) ∧ (¬ p1 < 25 → J_X2_init_73 g post cM sM (1 + mc4 + 1 + mc10 + 1 + mc16) (1 + ms5 + 1 + ms11 + 1 + ms17) s20 r0 p1 3 r0)))))))))))))))) : Do g M_X2_init cM sM [.ref r0, .ref p0, .int p1] σ post := by
  refine Do.of (by decide +kernel) (Nat.le_of_ble_eq_true rfl) ?_
  show Fr g M_X2_init (cM, sM, 0, 0) [(0, .ref r0), (1, .ref p0), (2, .int p1)] [] 0 σ post
  refine fr_aload_n (pc := 0) 0 rfl rfl dX2_init_0 ?_
  refine fr_obj (pc := 1) ⟨w_640, w_503, w_504⟩ (by decide) (Nat.le_of_ble_eq_true rfl) dX2_init_1 ?_
  refine fr_aload_n (pc := 4) 0 rfl rfl dX2_init_4 ?_
  obtain ⟨hz, hW⟩ := hW
  refine fr_new (pc := 5) [.null] kc_X1 df_X1 ⟨w_638, w_506, w_1⟩ dX2_init_5 hz (Z' := (cM, sM, 1, 1)) rfl hW (fun r1 s2 hW => ?_)
  refine fr_dup (pc := 8) rfl dX2_init_8 ?_
  refine fr_iconst (pc := 9) 3 (by decide) dX2_init_9 ?_
  obtain ⟨mc4, ms5, hz, hW⟩ := hW
  refine fr_callI_Va (pc := 10) (As := [.int 3]) (st := [.ref r1, .ref r0]) wd_X1_init w_641 ok_X1_init (by decide) rfl (Nat.le_of_ble_eq_true rfl) dX2_init_10 hz (Z' := (cM, sM, 1 + mc4, 1 + ms5)) rfl rfl rfl hW (fun s3 hW => ?_)
  refine fr_putF (pc := 13) (T := TX2) (k := 5) kc_X2 (by decide) w_602 rfl rfl rfl rfl rfl dX2_init_13 hW (fun s6 hW => ?_)
  refine fr_aload_n (pc := 16) 0 rfl rfl dX2_init_16 ?_
  obtain ⟨hz, hW⟩ := hW
  refine fr_new (pc := 17) [.null] kc_X1 df_X1 ⟨w_638, w_506, w_1⟩ dX2_init_17 hz (Z' := (cM, sM, 1 + mc4 + 1, 1 + ms5 + 1)) rfl hW (fun r7 s8 hW => ?_)
  refine fr_dup (pc := 20) rfl dX2_init_20 ?_
  refine fr_bipush (pc := 21) 64 (by decide) dX2_init_21 ?_
  obtain ⟨mc10, ms11, hz, hW⟩ := hW
  refine fr_callI_Va (pc := 23) (As := [.int 64]) (st := [.ref r7, .ref r0]) wd_X1_init w_641 ok_X1_init (by decide) rfl (Nat.le_of_ble_eq_true rfl) dX2_init_23 hz (Z' := (cM, sM, 1 + mc4 + 1 + mc10, 1 + ms5 + 1 + ms11)) rfl rfl rfl hW (fun s9 hW => ?_)
  refine fr_putF (pc := 26) (T := TX2) (k := 6) kc_X2 (by decide) w_607 rfl rfl rfl rfl rfl dX2_init_26 hW (fun s12 hW => ?_)
  refine fr_aload_n (pc := 29) 0 rfl rfl dX2_init_29 ?_
  obtain ⟨hz, hW⟩ := hW
  refine fr_new (pc := 30) [.null] kc_X1 df_X1 ⟨w_638, w_506, w_1⟩ dX2_init_30 hz (Z' := (cM, sM, 1 + mc4 + 1 + mc10 + 1, 1 + ms5 + 1 + ms11 + 1)) rfl hW (fun r13 s14 hW => ?_)
  refine fr_dup (pc := 33) rfl dX2_init_33 ?_
  refine fr_bipush (pc := 34) 64 (by decide) dX2_init_34 ?_
  obtain ⟨mc16, ms17, hz, hW⟩ := hW
  refine fr_callI_Va (pc := 36) (As := [.int 64]) (st := [.ref r13, .ref r0]) wd_X1_init w_641 ok_X1_init (by decide) rfl (Nat.le_of_ble_eq_true rfl) dX2_init_36 hz (Z' := (cM, sM, 1 + mc4 + 1 + mc10 + 1 + mc16, 1 + ms5 + 1 + ms11 + 1 + ms17)) rfl rfl rfl hW (fun s15 hW => ?_)
  refine fr_putF (pc := 39) (T := TX2) (k := 7) kc_X2 (by decide) w_610 rfl rfl rfl rfl rfl dX2_init_39 hW (fun s18 hW => ?_)
  refine fr_aload_n (pc := 42) 0 rfl rfl dX2_init_42 ?_
  refine fr_aload_n (pc := 43) 1 rfl rfl dX2_init_43 ?_
  refine fr_putF (pc := 44) (T := TX2) (k := 0) kc_X2 (by decide) w_603 rfl rfl rfl rfl rfl dX2_init_44 hW (fun s19 hW => ?_)
  refine fr_aload_n (pc := 47) 0 rfl rfl dX2_init_47 ?_
  refine fr_iload_n (pc := 48) 2 rfl rfl dX2_init_48 ?_
  refine fr_putF (pc := 49) (T := TX2) (k := 1) kc_X2 (by decide) w_636 rfl rfl rfl rfl rfl dX2_init_49 hW (fun s20 hW => ?_)
  refine fr_aload_n (pc := 52) 0 rfl rfl dX2_init_52 ?_
  refine fr_iload_n (pc := 53) 2 rfl rfl dX2_init_53 ?_
  refine fr_bipush (pc := 54) 25 (by decide) dX2_init_54 ?_
  refine fr_icmp_lt (pc := 56) (tgt := 63) (by decide) dX2_init_56 hW (fun hW => ?_) (fun hW => ?_)
  · refine fr_iload_n (pc := 63) 2 rfl rfl dX2_init_63 ?_
    refine fr_iconst (pc := 64) 5 (by decide) dX2_init_64 ?_
    refine fr_icmp_lt (pc := 65) (tgt := 72) (by decide) dX2_init_65 hW (fun hW => ?_) (fun hW => ?_)
    · refine fr_iconst (pc := 72) 1 (by decide) dX2_init_72 ?_
      exact fr_sub [0, 2] rfl hW
    · refine fr_iconst (pc := 68) 2 (by decide) dX2_init_68 ?_
      refine fr_goto (pc := 69) (tgt := 73) (by decide) dX2_init_69 ?_
      exact fr_sub [0, 2] rfl hW
  · refine fr_iconst (pc := 59) 3 (by decide) dX2_init_59 ?_
    refine fr_goto (pc := 60) (tgt := 73) (by decide) dX2_init_60 ?_
    exact fr_sub [0, 2] rfl hW
set_option maxHeartbeats 4000000 in
set_option maxRecDepth 100000 in
theorem q_X2_init_73 {g : GG} {σ : Hs} {post : Option Value → Hs → Prop} (cM sM kM nM : Nat) (a0 : Nat) (v2 : Int32) (t0 : Int32) (t1 : Nat) (hW : PF σ t1 2 2 (.int t0) (fun s21 => FI s21 a0 2 2 (fun i22 => (¬ i22 = 1 → FI s21 a0 2 2 (fun i23 => (¬ i23 = 2 → PF s21 a0 2 3 (.int 3) (fun s24 => FI s24 a0 2 2 (fun i25 => J_X2_init_119 g post cM sM kM nM s24 a0 v2 0 ((i25 - 1)) ))) ∧ (i23 = 2 → PF s21 a0 2 3 (.int 4) (fun s26 => FI s26 a0 2 2 (fun i27 => J_X2_init_119 g post cM sM kM nM s26 a0 v2 0 ((i27 - 1)) ))))) ∧ (i22 = 1 → PF s21 a0 2 3 (.int 6) (fun s28 => FI s28 a0 2 2 (fun i29 => J_X2_init_119 g post cM sM kM nM s28 a0 v2 0 ((i29 - 1)) )))))) : J_X2_init_73 g post cM sM kM nM σ a0 v2 t0 t1 := by
  show Fr g M_X2_init (cM, sM, kM, nM) [(0, .ref a0), (2, .int v2)] [.int t0, .ref t1] 73 σ post
  refine fr_putF (pc := 73) (T := TX2) (k := 2) kc_X2 (by decide) w_601 rfl rfl rfl rfl rfl dX2_init_73 hW (fun s21 hW => ?_)
  refine fr_aload_n (pc := 76) 0 rfl rfl dX2_init_76 ?_
  refine fr_aload_n (pc := 77) 0 rfl rfl dX2_init_77 ?_
  refine fr_getI (pc := 78) (T := TX2) (k := 2) kc_X2 (by decide) w_601 dX2_init_78 hW (fun i22 hW => ?_)
  refine fr_iconst (pc := 81) 1 (by decide) dX2_init_81 ?_
  refine fr_icmp_ne (pc := 82) (tgt := 90) (by decide) dX2_init_82 hW (fun hW => ?_) (fun hW => ?_)
  · refine fr_aload_n (pc := 90) 0 rfl rfl dX2_init_90 ?_
    refine fr_getI (pc := 91) (T := TX2) (k := 2) kc_X2 (by decide) w_601 dX2_init_91 hW (fun i23 hW => ?_)
    refine fr_iconst (pc := 94) 2 (by decide) dX2_init_94 ?_
    refine fr_icmp_ne (pc := 95) (tgt := 102) (by decide) dX2_init_95 hW (fun hW => ?_) (fun hW => ?_)
    · refine fr_iconst (pc := 102) 3 (by decide) dX2_init_102 ?_
      refine fr_putF (pc := 103) (T := TX2) (k := 3) kc_X2 (by decide) w_618 rfl rfl rfl rfl rfl dX2_init_103 hW (fun s24 hW => ?_)
      refine fr_iload_n (pc := 106) 1 rfl rfl dX2_init_106 ?_
      refine fr_istore_n (pc := 107) (lv' := [(3, .int v2), (0, .ref a0), (2, .int v2)]) rfl (by decide) rfl dX2_init_107 ?_
      refine fr_iconst (pc := 108) 0 (by decide) dX2_init_108 ?_
      refine fr_istore (pc := 109) (lv' := [(4, .int 0), (3, .int v2), (0, .ref a0), (2, .int v2)]) (by decide) rfl dX2_init_109 ?_
      refine fr_aload_n (pc := 111) 2 rfl rfl dX2_init_111 ?_
      refine fr_getI (pc := 112) (T := TX2) (k := 2) kc_X2 (by decide) w_601 dX2_init_112 hW (fun i25 hW => ?_)
      refine fr_iconst (pc := 115) 1 (by decide) dX2_init_115 ?_
      refine fr_isub (pc := 116) dX2_init_116 ?_
      refine fr_istore (pc := 117) (lv' := [(5, .int (i25 - 1)), (4, .int 0), (3, .int v2), (0, .ref a0), (2, .int v2)]) (by decide) rfl dX2_init_117 ?_
      exact fr_sub [3, 2, 1, 0] rfl hW
    · refine fr_iconst (pc := 98) 4 (by decide) dX2_init_98 ?_
      refine fr_goto (pc := 99) (tgt := 103) (by decide) dX2_init_99 ?_
      refine fr_putF (pc := 103) (T := TX2) (k := 3) kc_X2 (by decide) w_618 rfl rfl rfl rfl rfl dX2_init_103 hW (fun s26 hW => ?_)
      refine fr_iload_n (pc := 106) 1 rfl rfl dX2_init_106 ?_
      refine fr_istore_n (pc := 107) (lv' := [(3, .int v2), (0, .ref a0), (2, .int v2)]) rfl (by decide) rfl dX2_init_107 ?_
      refine fr_iconst (pc := 108) 0 (by decide) dX2_init_108 ?_
      refine fr_istore (pc := 109) (lv' := [(4, .int 0), (3, .int v2), (0, .ref a0), (2, .int v2)]) (by decide) rfl dX2_init_109 ?_
      refine fr_aload_n (pc := 111) 2 rfl rfl dX2_init_111 ?_
      refine fr_getI (pc := 112) (T := TX2) (k := 2) kc_X2 (by decide) w_601 dX2_init_112 hW (fun i27 hW => ?_)
      refine fr_iconst (pc := 115) 1 (by decide) dX2_init_115 ?_
      refine fr_isub (pc := 116) dX2_init_116 ?_
      refine fr_istore (pc := 117) (lv' := [(5, .int (i27 - 1)), (4, .int 0), (3, .int v2), (0, .ref a0), (2, .int v2)]) (by decide) rfl dX2_init_117 ?_
      exact fr_sub [3, 2, 1, 0] rfl hW
  · refine fr_bipush (pc := 85) 6 (by decide) dX2_init_85 ?_
    refine fr_goto (pc := 87) (tgt := 103) (by decide) dX2_init_87 ?_
    refine fr_putF (pc := 103) (T := TX2) (k := 3) kc_X2 (by decide) w_618 rfl rfl rfl rfl rfl dX2_init_103 hW (fun s28 hW => ?_)
    refine fr_iload_n (pc := 106) 1 rfl rfl dX2_init_106 ?_
    refine fr_istore_n (pc := 107) (lv' := [(3, .int v2), (0, .ref a0), (2, .int v2)]) rfl (by decide) rfl dX2_init_107 ?_
    refine fr_iconst (pc := 108) 0 (by decide) dX2_init_108 ?_
    refine fr_istore (pc := 109) (lv' := [(4, .int 0), (3, .int v2), (0, .ref a0), (2, .int v2)]) (by decide) rfl dX2_init_109 ?_
    refine fr_aload_n (pc := 111) 2 rfl rfl dX2_init_111 ?_
    refine fr_getI (pc := 112) (T := TX2) (k := 2) kc_X2 (by decide) w_601 dX2_init_112 hW (fun i29 hW => ?_)
    refine fr_iconst (pc := 115) 1 (by decide) dX2_init_115 ?_
    refine fr_isub (pc := 116) dX2_init_116 ?_
    refine fr_istore (pc := 117) (lv' := [(5, .int (i29 - 1)), (4, .int 0), (3, .int v2), (0, .ref a0), (2, .int v2)]) (by decide) rfl dX2_init_117 ?_
    exact fr_sub [3, 2, 1, 0] rfl hW
set_option maxHeartbeats 4000000 in
set_option maxRecDepth 100000 in
theorem q_X2_init_119 {g : GG} {σ : Hs} {post : Option Value → Hs → Prop} (cM sM kM nM : Nat) (a0 : Nat) (v3 : Int32) (v4 : Int32) (v5 : Int32) (hW : (v5 < 0 → PF σ a0 2 4 (.int v4) (fun s30 => ((kM) ≤ cM ∧ (nM) ≤ sM) ∧ post none s30)) ∧ (¬ v5 < 0 → FR σ a0 2 5 (fun r31 => ((kM) ≤ cM ∧ (nM) ≤ sM) ∧ Rc σ r31 1 ∧ Do g M_X1_put 0 0 [.ref r31, .int v5, .int ((v3 - v3 / 5 * 5) - 1)] σ (kV (fun s32 => ((kM) ≤ cM ∧ (nM) ≤ sM) ∧ Do g M_X11_with 0 0 [.int v4, .int ((v3 - v3 / 5 * 5) - 1)] s32 (kI (fun i34 s33 => J_X2_init_119 g post cM sM kM nM s33 a0 ((v3 / 5)) i34 ((v5 + (-1))) ))))))) : J_X2_init_119 g post cM sM kM nM σ a0 v3 v4 v5 := by
  show Fr g M_X2_init (cM, sM, kM, nM) [(0, .ref a0), (3, .int v3), (4, .int v4), (5, .int v5)] [] 119 σ post
  refine fr_iload (pc := 119) 3 rfl dX2_init_119 ?_
  refine fr_if_lt (pc := 121) (tgt := 161) (by decide) dX2_init_121 hW (fun hW => ?_) (fun hW => ?_)
  · refine fr_aload_n (pc := 161) 0 rfl rfl dX2_init_161 ?_
    refine fr_iload (pc := 162) 2 rfl dX2_init_162 ?_
    refine fr_putF (pc := 164) (T := TX2) (k := 4) kc_X2 (by decide) w_639 rfl rfl rfl rfl rfl dX2_init_164 hW (fun s30 hW => ?_)
    obtain ⟨hz, hW⟩ := hW
    exact fr_ret (pc := 167) dX2_init_167 rfl hz hW
  · refine fr_iload_n (pc := 124) 1 rfl rfl dX2_init_124 ?_
    refine fr_iconst (pc := 125) 5 (by decide) dX2_init_125 ?_
    refine fr_irem (pc := 126) (by decide) dX2_init_126 ?_
    refine fr_iconst (pc := 127) 1 (by decide) dX2_init_127 ?_
    refine fr_isub (pc := 128) dX2_init_128 ?_
    refine fr_istore (pc := 129) (lv' := [(6, .int ((v3 - v3 / 5 * 5) - 1)), (0, .ref a0), (3, .int v3), (4, .int v4), (5, .int v5)]) (by decide) rfl dX2_init_129 ?_
    refine fr_aload_n (pc := 131) 1 rfl rfl dX2_init_131 ?_
    refine fr_getR (pc := 132) (T := TX2) (k := 5) kc_X2 (by decide) w_602 dX2_init_132 hW (fun r31 hW => ?_)
    refine fr_iload (pc := 135) 4 rfl dX2_init_135 ?_
    refine fr_iload (pc := 137) 0 rfl dX2_init_137 ?_
    obtain ⟨hz, hrc, hW⟩ := hW
    refine fr_callV_V (pc := 139) (As := [.int v5, .int ((v3 - v3 / 5 * 5) - 1)]) (st := []) wd_X1_put w_616 ok_X1_put (by decide) rfl (Nat.le_of_ble_eq_true rfl) dX2_init_139 hz kc_X1 hrc hW (fun s32 hW => ?_)
    refine fr_iload (pc := 142) 3 rfl dX2_init_142 ?_
    refine fr_iload (pc := 144) 0 rfl dX2_init_144 ?_
    obtain ⟨hz, hW⟩ := hW
    refine fr_callSN_I (pc := 146) (As := [.int v4, .int ((v3 - v3 / 5 * 5) - 1)]) (st := []) wd_X11_with ⟨RX11, by decide +kernel⟩ ok_X11_with (by decide) rfl (Nat.le_of_ble_eq_true rfl) dX2_init_146 hz hW (fun i34 s33 hW => ?_)
    refine fr_istore (pc := 149) (lv' := [(4, .int i34), (6, .int ((v3 - v3 / 5 * 5) - 1)), (0, .ref a0), (3, .int v3), (5, .int v5)]) (by decide) rfl dX2_init_149 ?_
    refine fr_iload_n (pc := 151) 3 rfl rfl dX2_init_151 ?_
    refine fr_iconst (pc := 152) 5 (by decide) dX2_init_152 ?_
    refine fr_idiv (pc := 153) (by decide) dX2_init_153 ?_
    refine fr_istore_n (pc := 154) (lv' := [(3, .int (v3 / 5)), (4, .int i34), (6, .int ((v3 - v3 / 5 * 5) - 1)), (0, .ref a0), (5, .int v5)]) rfl (by decide) rfl dX2_init_154 ?_
    refine fr_iinc (pc := 155) (lv' := [(5, .int (v5 + (-1))), (3, .int (v3 / 5)), (4, .int i34), (6, .int ((v3 - v3 / 5 * 5) - 1)), (0, .ref a0)]) (v5 + (-1)) 4 rfl (congrArg (fun z => v5 + z) (by decide)) (by decide) rfl dX2_init_155 ?_
    refine fr_goto (pc := 158) (tgt := 119) (by decide) dX2_init_158 ?_
    exact fr_sub [4, 1, 2, 0] rfl hW
set_option maxHeartbeats 4000000 in
set_option maxRecDepth 100000 in
theorem q_X11_isSlot {g : GG} {σ : Hs} {post : Option Value → Hs → Prop} (p0 : Int32) (hW : (p0 < 0 → post (some (.int 0)) σ) ∧ (¬ p0 < 0 → (64 ≤ p0 → post (some (.int 0)) σ) ∧ (¬ 64 ≤ p0 → post (some (.int 1)) σ))) : Do g M_X11_isSlot 0 0 [.int p0] σ post := by
  refine Do.of (by decide +kernel) (Nat.le_of_ble_eq_true rfl) ?_
  show Fr g M_X11_isSlot (0, 0, 0, 0) [(0, .int p0)] [] 0 σ post
  refine fr_iload_n (pc := 0) 0 rfl rfl dX11_isSlot_0 ?_
  refine fr_if_lt (pc := 1) (tgt := 14) (by decide) dX11_isSlot_1 hW (fun hW => ?_) (fun hW => ?_)
  · refine fr_iconst (pc := 14) 0 (by decide) dX11_isSlot_14 ?_
    exact fr_zret (pc := 15) dX11_isSlot_15 rfl ⟨Nat.le_refl 0, Nat.le_refl 0⟩ ⟨rfl, hW⟩
  · refine fr_iload_n (pc := 4) 0 rfl rfl dX11_isSlot_4 ?_
    refine fr_bipush (pc := 5) 64 (by decide) dX11_isSlot_5 ?_
    refine fr_icmp_ge (pc := 7) (tgt := 14) (by decide) dX11_isSlot_7 hW (fun hW => ?_) (fun hW => ?_)
    · refine fr_iconst (pc := 14) 0 (by decide) dX11_isSlot_14 ?_
      exact fr_zret (pc := 15) dX11_isSlot_15 rfl ⟨Nat.le_refl 0, Nat.le_refl 0⟩ ⟨rfl, hW⟩
    · refine fr_iconst (pc := 10) 1 (by decide) dX11_isSlot_10 ?_
      refine fr_goto (pc := 11) (tgt := 15) (by decide) dX11_isSlot_11 ?_
      exact fr_zret (pc := 15) dX11_isSlot_15 rfl ⟨Nat.le_refl 0, Nat.le_refl 0⟩ ⟨rfl, hW⟩
set_option maxHeartbeats 4000000 in
set_option maxRecDepth 100000 in
theorem q_X8_holds {g : GG} {σ : Hs} {post : Option Value → Hs → Prop} (r0 : Nat) (p0 : Int32) (hW : Do g M_X11_isSlot 0 0 [.int p0] σ (kI (fun i2 s1 => (i2 = 0 → post (some (.int 0)) s1) ∧ (¬ i2 = 0 → FL s1 r0 8 1 (fun l5 => Do g M_X11_hasSlot 0 0 [.long l5, .int p0] s1 (kI (fun i7 s6 => (i7 = 0 → post (some (.int 0)) s6) ∧ (¬ i7 = 0 → post (some (.int 1)) s6)))))))) : Do g M_X8_holds 0 0 [.ref r0, .int p0] σ post := by
  refine Do.of (by decide +kernel) (Nat.le_of_ble_eq_true rfl) ?_
  show Fr g M_X8_holds (0, 0, 0, 0) [(0, .ref r0), (1, .int p0)] [] 0 σ post
  refine fr_iload_n (pc := 0) 1 rfl rfl dX8_holds_0 ?_
  refine fr_callSN_I (pc := 1) (As := [.int p0]) (st := []) wd_X11_isSlot ⟨RX11, by decide +kernel⟩ ok_X11_isSlot (by decide) rfl (Nat.le_of_ble_eq_true rfl) dX8_holds_1 ⟨Nat.le_refl 0, Nat.le_refl 0⟩ hW (fun i2 s1 hW => ?_)
  refine fr_if_eq (pc := 4) (tgt := 22) (by decide) dX8_holds_4 hW (fun hW => ?_) (fun hW => ?_)
  · refine fr_iconst (pc := 22) 0 (by decide) dX8_holds_22 ?_
    exact fr_zret (pc := 23) dX8_holds_23 rfl ⟨Nat.le_refl 0, Nat.le_refl 0⟩ ⟨rfl, hW⟩
  · refine fr_aload_n (pc := 7) 0 rfl rfl dX8_holds_7 ?_
    refine fr_getL (pc := 8) (T := TX8) (k := 1) kc_X8 (by decide) w_596 dX8_holds_8 hW (fun l5 hW => ?_)
    refine fr_iload_n (pc := 11) 1 rfl rfl dX8_holds_11 ?_
    refine fr_callSN_I (pc := 12) (As := [.long l5, .int p0]) (st := []) wd_X11_hasSlot ⟨RX11, by decide +kernel⟩ ok_X11_hasSlot (by decide) rfl (Nat.le_of_ble_eq_true rfl) dX8_holds_12 ⟨Nat.le_refl 0, Nat.le_refl 0⟩ hW (fun i7 s6 hW => ?_)
    refine fr_if_eq (pc := 15) (tgt := 22) (by decide) dX8_holds_15 hW (fun hW => ?_) (fun hW => ?_)
    · refine fr_iconst (pc := 22) 0 (by decide) dX8_holds_22 ?_
      exact fr_zret (pc := 23) dX8_holds_23 rfl ⟨Nat.le_refl 0, Nat.le_refl 0⟩ ⟨rfl, hW⟩
    · refine fr_iconst (pc := 18) 1 (by decide) dX8_holds_18 ?_
      refine fr_goto (pc := 19) (tgt := 23) (by decide) dX8_holds_19 ?_
      exact fr_zret (pc := 23) dX8_holds_23 rfl ⟨Nat.le_refl 0, Nat.le_refl 0⟩ ⟨rfl, hW⟩
def J_X2_fillLeaves_7 (g : GG) (post : Option Value → Hs → Prop) (σ : Hs) (a0 : Nat) (v1 : Int32) : Prop := Fr g M_X2_fillLeaves (0, 0, 0, 0) [(0, .ref a0), (1, .int v1)] [] 7 σ post
set_option maxHeartbeats 4000000 in
set_option maxRecDepth 100000 in
theorem q_X2_fillLeaves {g : GG} {σ : Hs} {post : Option Value → Hs → Prop} (r0 : Nat) (hW : PF σ r0 2 9 (.int 0) (fun s1 => J_X2_fillLeaves_7 g post s1 r0 0 )) : Do g M_X2_fillLeaves 0 0 [.ref r0] σ post := by
  refine Do.of (by decide +kernel) (Nat.le_of_ble_eq_true rfl) ?_
  show Fr g M_X2_fillLeaves (0, 0, 0, 0) [(0, .ref r0)] [] 0 σ post
  refine fr_aload_n (pc := 0) 0 rfl rfl dX2_fillLeaves_0 ?_
  refine fr_iconst (pc := 1) 0 (by decide) dX2_fillLeaves_1 ?_
  refine fr_put (pc := 2) (T := TX2) (k := 9) kc_X2 (by decide) w_609 rfl rfl rfl dX2_fillLeaves_2 hW (fun s1 hW => ?_)
  refine fr_iconst (pc := 5) 0 (by decide) dX2_fillLeaves_5 ?_
  refine fr_istore_n (pc := 6) (lv' := [(1, .int 0), (0, .ref r0)]) rfl (by decide) rfl dX2_fillLeaves_6 ?_
  exact fr_sub [1, 0] rfl hW
set_option maxHeartbeats 4000000 in
set_option maxRecDepth 100000 in
theorem q_X2_fillLeaves_7 {g : GG} {σ : Hs} {post : Option Value → Hs → Prop} (a0 : Nat) (v1 : Int32) (hW : FI σ a0 2 8 (fun i2 => (i2 ≤ v1 → post none σ) ∧ (¬ i2 ≤ v1 → FI σ a0 2 3 (fun i3 => (i3 ≤ 0 → post none σ) ∧ (¬ i3 ≤ 0 → FR σ a0 2 7 (fun r4 => FI σ a0 2 9 (fun i5 => FI σ a0 2 3 (fun i6 => FI σ a0 2 8 (fun i7 => Rc σ r4 1 ∧ Do g M_X1_put 0 0 [.ref r4, .int i5, .int (if (i7 - v1) < i6 then (i7 - v1) else i6)] σ (kV (fun s8 => FI s8 a0 2 9 (fun i9 => PF s8 a0 2 9 (.int (i9 + 1)) (fun s10 => FI s10 a0 2 3 (fun i11 => J_X2_fillLeaves_7 g post s10 a0 ((v1 + i11)) )))))))))))))) : J_X2_fillLeaves_7 g post σ a0 v1 := by
  show Fr g M_X2_fillLeaves (0, 0, 0, 0) [(0, .ref a0), (1, .int v1)] [] 7 σ post
  refine fr_iload_n (pc := 7) 1 rfl rfl dX2_fillLeaves_7 ?_
  refine fr_aload_n (pc := 8) 0 rfl rfl dX2_fillLeaves_8 ?_
  refine fr_getI (pc := 9) (T := TX2) (k := 8) kc_X2 (by decide) w_606 dX2_fillLeaves_9 hW (fun i2 hW => ?_)
  refine fr_icmp_ge (pc := 12) (tgt := 66) (by decide) dX2_fillLeaves_12 hW (fun hW => ?_) (fun hW => ?_)
  · exact fr_ret (pc := 66) dX2_fillLeaves_66 rfl ⟨Nat.le_refl 0, Nat.le_refl 0⟩ hW
  · refine fr_aload_n (pc := 15) 0 rfl rfl dX2_fillLeaves_15 ?_
    refine fr_getI (pc := 16) (T := TX2) (k := 3) kc_X2 (by decide) w_618 dX2_fillLeaves_16 hW (fun i3 hW => ?_)
    refine fr_if_le (pc := 19) (tgt := 66) (by decide) dX2_fillLeaves_19 hW (fun hW => ?_) (fun hW => ?_)
    · exact fr_ret (pc := 66) dX2_fillLeaves_66 rfl ⟨Nat.le_refl 0, Nat.le_refl 0⟩ hW
    · refine fr_aload_n (pc := 22) 0 rfl rfl dX2_fillLeaves_22 ?_
      refine fr_getR (pc := 23) (T := TX2) (k := 7) kc_X2 (by decide) w_610 dX2_fillLeaves_23 hW (fun r4 hW => ?_)
      refine fr_aload_n (pc := 26) 0 rfl rfl dX2_fillLeaves_26 ?_
      refine fr_getI (pc := 27) (T := TX2) (k := 9) kc_X2 (by decide) w_609 dX2_fillLeaves_27 hW (fun i5 hW => ?_)
      refine fr_aload_n (pc := 30) 0 rfl rfl dX2_fillLeaves_30 ?_
      refine fr_getI (pc := 31) (T := TX2) (k := 3) kc_X2 (by decide) w_618 dX2_fillLeaves_31 hW (fun i6 hW => ?_)
      refine fr_aload_n (pc := 34) 0 rfl rfl dX2_fillLeaves_34 ?_
      refine fr_getI (pc := 35) (T := TX2) (k := 8) kc_X2 (by decide) w_606 dX2_fillLeaves_35 hW (fun i7 hW => ?_)
      refine fr_iload_n (pc := 38) 1 rfl rfl dX2_fillLeaves_38 ?_
      refine fr_isub (pc := 39) dX2_fillLeaves_39 ?_
      refine fr_mmin (pc := 40) ⟨w_642, w_643, w_644, w_645⟩ (by decide) (Nat.le_of_ble_eq_true rfl) dX2_fillLeaves_40 ⟨Nat.le_refl 0, Nat.le_refl 0⟩ ?_
      obtain ⟨hrc, hW⟩ := hW
      refine fr_callV_V (pc := 43) (As := [.int i5, .int (if (i7 - v1) < i6 then (i7 - v1) else i6)]) (st := []) wd_X1_put w_616 ok_X1_put (by decide) rfl (Nat.le_of_ble_eq_true rfl) dX2_fillLeaves_43 ⟨Nat.le_refl 0, Nat.le_refl 0⟩ kc_X1 hrc hW (fun s8 hW => ?_)
      refine fr_aload_n (pc := 46) 0 rfl rfl dX2_fillLeaves_46 ?_
      refine fr_dup (pc := 47) rfl dX2_fillLeaves_47 ?_
      refine fr_getI (pc := 48) (T := TX2) (k := 9) kc_X2 (by decide) w_609 dX2_fillLeaves_48 hW (fun i9 hW => ?_)
      refine fr_iconst (pc := 51) 1 (by decide) dX2_fillLeaves_51 ?_
      refine fr_iadd (pc := 52) dX2_fillLeaves_52 ?_
      refine fr_put (pc := 53) (T := TX2) (k := 9) kc_X2 (by decide) w_609 rfl rfl rfl dX2_fillLeaves_53 hW (fun s10 hW => ?_)
      refine fr_iload_n (pc := 56) 1 rfl rfl dX2_fillLeaves_56 ?_
      refine fr_aload_n (pc := 57) 0 rfl rfl dX2_fillLeaves_57 ?_
      refine fr_getI (pc := 58) (T := TX2) (k := 3) kc_X2 (by decide) w_618 dX2_fillLeaves_58 hW (fun i11 hW => ?_)
      refine fr_iadd (pc := 61) dX2_fillLeaves_61 ?_
      refine fr_istore_n (pc := 62) (lv' := [(1, .int (v1 + i11)), (0, .ref a0)]) rfl (by decide) rfl dX2_fillLeaves_62 ?_
      refine fr_goto (pc := 63) (tgt := 7) (by decide) dX2_fillLeaves_63 ?_
      exact fr_sub [1, 0] rfl hW
def J_X2_rebuild_7 (g : GG) (post : Option Value → Hs → Prop) (σ : Hs) (a0 : Nat) (v1 : Int32) : Prop := Fr g M_X2_rebuild (0, 0, 0, 0) [(0, .ref a0), (1, .int v1)] [] 7 σ post
set_option maxHeartbeats 4000000 in
set_option maxRecDepth 100000 in
theorem q_X2_rebuild {g : GG} {σ : Hs} {post : Option Value → Hs → Prop} (r0 : Nat) (hW : PF σ r0 2 8 (.int 0) (fun s1 => J_X2_rebuild_7 g post s1 r0 0 )) : Do g M_X2_rebuild 0 0 [.ref r0] σ post := by
  refine Do.of (by decide +kernel) (Nat.le_of_ble_eq_true rfl) ?_
  show Fr g M_X2_rebuild (0, 0, 0, 0) [(0, .ref r0)] [] 0 σ post
  refine fr_aload_n (pc := 0) 0 rfl rfl dX2_rebuild_0 ?_
  refine fr_iconst (pc := 1) 0 (by decide) dX2_rebuild_1 ?_
  refine fr_put (pc := 2) (T := TX2) (k := 8) kc_X2 (by decide) w_606 rfl rfl rfl dX2_rebuild_2 hW (fun s1 hW => ?_)
  refine fr_iconst (pc := 5) 0 (by decide) dX2_rebuild_5 ?_
  refine fr_istore_n (pc := 6) (lv' := [(1, .int 0), (0, .ref r0)]) rfl (by decide) rfl dX2_rebuild_6 ?_
  exact fr_sub [1, 0] rfl hW
set_option maxHeartbeats 4000000 in
set_option maxRecDepth 100000 in
theorem q_X2_rebuild_7 {g : GG} {σ : Hs} {post : Option Value → Hs → Prop} (a0 : Nat) (v1 : Int32) (hW : (64 ≤ v1 → Rc σ a0 2 ∧ Do g M_X2_fillLeaves 0 0 [.ref a0] σ (kV (fun s2 => post none s2))) ∧ (¬ 64 ≤ v1 → FR σ a0 2 0 (fun r3 => Rc σ r3 8 ∧ Do g M_X8_holds 0 0 [.ref r3, .int v1] σ (kI (fun i5 s4 => (i5 = 0 → J_X2_rebuild_7 g post s4 a0 ((v1 + 1)) ) ∧ (¬ i5 = 0 → FR s4 a0 2 6 (fun r8 => Rc s4 a0 2 ∧ Do g M_X2_placeFor 0 0 [.ref a0, .int v1] s4 (kI (fun i10 s9 => FI s9 a0 2 8 (fun i13 => Rc s9 r8 1 ∧ Do g M_X1_insert 0 0 [.ref r8, .int i10, .int i13, .int v1] s9 (kV (fun s14 => FI s14 a0 2 8 (fun i15 => PF s14 a0 2 8 (.int (i15 + 1)) (fun s16 => J_X2_rebuild_7 g post s16 a0 ((v1 + 1)) )))))))))))))) : J_X2_rebuild_7 g post σ a0 v1 := by
  show Fr g M_X2_rebuild (0, 0, 0, 0) [(0, .ref a0), (1, .int v1)] [] 7 σ post
  refine fr_iload_n (pc := 7) 1 rfl rfl dX2_rebuild_7 ?_
  refine fr_bipush (pc := 8) 64 (by decide) dX2_rebuild_8 ?_
  refine fr_icmp_ge (pc := 10) (tgt := 57) (by decide) dX2_rebuild_10 hW (fun hW => ?_) (fun hW => ?_)
  · refine fr_aload_n (pc := 57) 0 rfl rfl dX2_rebuild_57 ?_
    obtain ⟨hrc, hW⟩ := hW
    refine fr_callV_V (pc := 58) (As := []) (st := []) wd_X2_fillLeaves w_647 ok_X2_fillLeaves (by decide) rfl (Nat.le_of_ble_eq_true rfl) dX2_rebuild_58 ⟨Nat.le_refl 0, Nat.le_refl 0⟩ kc_X2 hrc hW (fun s2 hW => ?_)
    exact fr_ret (pc := 61) dX2_rebuild_61 rfl ⟨Nat.le_refl 0, Nat.le_refl 0⟩ hW
  · refine fr_aload_n (pc := 13) 0 rfl rfl dX2_rebuild_13 ?_
    refine fr_getR (pc := 14) (T := TX2) (k := 0) kc_X2 (by decide) w_603 dX2_rebuild_14 hW (fun r3 hW => ?_)
    refine fr_iload_n (pc := 17) 1 rfl rfl dX2_rebuild_17 ?_
    obtain ⟨hrc, hW⟩ := hW
    refine fr_callV_I (pc := 18) (As := [.int v1]) (st := []) wd_X8_holds w_646 ok_X8_holds (by decide) rfl (Nat.le_of_ble_eq_true rfl) dX2_rebuild_18 ⟨Nat.le_refl 0, Nat.le_refl 0⟩ kc_X8 hrc hW (fun i5 s4 hW => ?_)
    refine fr_if_eq (pc := 21) (tgt := 51) (by decide) dX2_rebuild_21 hW (fun hW => ?_) (fun hW => ?_)
    · refine fr_iinc (pc := 51) (lv' := [(1, .int (v1 + 1)), (0, .ref a0)]) (v1 + 1) 1 rfl (congrArg (fun z => v1 + z) (by decide)) (by decide) rfl dX2_rebuild_51 ?_
      refine fr_goto (pc := 54) (tgt := 7) (by decide) dX2_rebuild_54 ?_
      exact fr_sub [1, 0] rfl hW
    · refine fr_aload_n (pc := 24) 0 rfl rfl dX2_rebuild_24 ?_
      refine fr_getR (pc := 25) (T := TX2) (k := 6) kc_X2 (by decide) w_607 dX2_rebuild_25 hW (fun r8 hW => ?_)
      refine fr_aload_n (pc := 28) 0 rfl rfl dX2_rebuild_28 ?_
      refine fr_iload_n (pc := 29) 1 rfl rfl dX2_rebuild_29 ?_
      obtain ⟨hrc, hW⟩ := hW
      refine fr_callV_I (pc := 30) (As := [.int v1]) (st := [.ref r8]) wd_X2_placeFor w_619 ok_X2_placeFor (by decide) rfl (Nat.le_of_ble_eq_true rfl) dX2_rebuild_30 ⟨Nat.le_refl 0, Nat.le_refl 0⟩ kc_X2 hrc hW (fun i10 s9 hW => ?_)
      refine fr_aload_n (pc := 33) 0 rfl rfl dX2_rebuild_33 ?_
      refine fr_getI (pc := 34) (T := TX2) (k := 8) kc_X2 (by decide) w_606 dX2_rebuild_34 hW (fun i13 hW => ?_)
      refine fr_iload_n (pc := 37) 1 rfl rfl dX2_rebuild_37 ?_
      obtain ⟨hrc, hW⟩ := hW
      refine fr_callV_V (pc := 38) (As := [.int i10, .int i13, .int v1]) (st := []) wd_X1_insert w_617 ok_X1_insert (by decide) rfl (Nat.le_of_ble_eq_true rfl) dX2_rebuild_38 ⟨Nat.le_refl 0, Nat.le_refl 0⟩ kc_X1 hrc hW (fun s14 hW => ?_)
      refine fr_aload_n (pc := 41) 0 rfl rfl dX2_rebuild_41 ?_
      refine fr_dup (pc := 42) rfl dX2_rebuild_42 ?_
      refine fr_getI (pc := 43) (T := TX2) (k := 8) kc_X2 (by decide) w_606 dX2_rebuild_43 hW (fun i15 hW => ?_)
      refine fr_iconst (pc := 46) 1 (by decide) dX2_rebuild_46 ?_
      refine fr_iadd (pc := 47) dX2_rebuild_47 ?_
      refine fr_put (pc := 48) (T := TX2) (k := 8) kc_X2 (by decide) w_606 rfl rfl rfl dX2_rebuild_48 hW (fun s16 hW => ?_)
      refine fr_iinc (pc := 51) (lv' := [(1, .int (v1 + 1)), (0, .ref a0)]) (v1 + 1) 1 rfl (congrArg (fun z => v1 + z) (by decide)) (by decide) rfl dX2_rebuild_51 ?_
      refine fr_goto (pc := 54) (tgt := 7) (by decide) dX2_rebuild_54 ?_
      exact fr_sub [1, 0] rfl hW
set_option maxHeartbeats 4000000 in
set_option maxRecDepth 100000 in
theorem q_X3_tell {g : GG} {σ : Hs} {post : Option Value → Hs → Prop} (cM sM : Nat) (r0 : Nat) (p0 : Int32) (hW : FI σ r0 3 2 (fun i1 => (i1 < 0 → ((0) ≤ cM ∧ (0) ≤ sM) ∧ post (some (.int (-104))) σ) ∧ (¬ i1 < 0 → FR σ r0 3 1 (fun r2 => AN g σ r2 4 (fun i3 => (i1 < i3 → ((0) + 1 ≤ cM ∧ (0) + 12 ≤ sM) ∧ NW σ 2 [.null, .int 0, .int 0, .int 0, .int 0, .null, .null, .null, .int 0, .int 0, .int 0, .int 0] (fun r4 s5 => FR s5 r0 3 0 (fun r6 => ∃ mc8 ms9 : Nat, ((1) + mc8 ≤ cM ∧ (12) + ms9 ≤ sM) ∧ Do g M_X2_init mc8 ms9 [.ref r4, .ref r6, .int p0] s5 (kV (fun s7 => ((1 + mc8) ≤ cM ∧ (12 + ms9) ≤ sM) ∧ Rc s7 r4 2 ∧ Do g M_X2_rebuild 0 0 [.ref r4] s7 (kV (fun s10 => FR s10 r0 3 1 (fun r11 => SR g s10 r11 4 2 i1 r4 (fun s12 => FI s12 r0 3 2 (fun i13 => PF s12 r0 3 2 (.int (i13 + 1)) (fun s14 => ((1 + mc8) ≤ cM ∧ (12 + ms9) ≤ sM) ∧ post (some (.int i1)) s14))))))))))) ∧ (¬ i1 < i3 → ((0) ≤ cM ∧ (0) ≤ sM) ∧ post (some (.int (-104))) σ)))))) : Do g M_X3_tell cM sM [.ref r0, .int p0] σ post := by
  refine Do.of (by decide +kernel) (Nat.le_of_ble_eq_true rfl) ?_
  show Fr g M_X3_tell (cM, sM, 0, 0) [(0, .ref r0), (1, .int p0)] [] 0 σ post
  refine fr_aload_n (pc := 0) 0 rfl rfl dX3_tell_0 ?_
  refine fr_getI (pc := 1) (T := TX3) (k := 2) kc_X3 (by decide) w_623 dX3_tell_1 hW (fun i1 hW => ?_)
  refine fr_istore_n (pc := 4) (lv' := [(2, .int i1), (0, .ref r0), (1, .int p0)]) rfl (by decide) rfl dX3_tell_4 ?_
  refine fr_iload_n (pc := 5) 0 rfl rfl dX3_tell_5 ?_
  refine fr_if_lt (pc := 6) (tgt := 18) (by decide) dX3_tell_6 hW (fun hW => ?_) (fun hW => ?_)
  · refine fr_bipush (pc := 18) (-104) (by decide) dX3_tell_18 ?_
    obtain ⟨hz, hW⟩ := hW
    exact fr_iret (pc := 20) dX3_tell_20 rfl hz hW
  · refine fr_iload_n (pc := 9) 0 rfl rfl dX3_tell_9 ?_
    refine fr_aload_n (pc := 10) 1 rfl rfl dX3_tell_10 ?_
    refine fr_getR (pc := 11) (T := TX3) (k := 1) kc_X3 (by decide) w_528 dX3_tell_11 hW (fun r2 hW => ?_)
    refine fr_alen (pc := 14) 4 (fun _ => rfl) dX3_tell_14 hW (fun i3 hW => ?_)
    refine fr_icmp_lt (pc := 15) (tgt := 21) (by decide) dX3_tell_15 hW (fun hW => ?_) (fun hW => ?_)
    · obtain ⟨hz, hW⟩ := hW
      refine fr_new (pc := 21) [.null, .int 0, .int 0, .int 0, .int 0, .null, .null, .null, .int 0, .int 0, .int 0, .int 0] kc_X2 df_X2 ⟨w_527, w_648, w_62⟩ dX3_tell_21 hz (Z' := (cM, sM, 1, 12)) rfl hW (fun r4 s5 hW => ?_)
      refine fr_dup (pc := 24) rfl dX3_tell_24 ?_
      refine fr_aload_n (pc := 25) 1 rfl rfl dX3_tell_25 ?_
      refine fr_getR (pc := 26) (T := TX3) (k := 0) kc_X3 (by decide) w_529 dX3_tell_26 hW (fun r6 hW => ?_)
      refine fr_iload_n (pc := 29) 2 rfl rfl dX3_tell_29 ?_
      obtain ⟨mc8, ms9, hz, hW⟩ := hW
      refine fr_callI_Va (pc := 30) (As := [.ref r6, .int p0]) (st := [.ref r4]) wd_X2_init w_649 ok_X2_init (by decide) rfl (Nat.le_of_ble_eq_true rfl) dX3_tell_30 hz (Z' := (cM, sM, 1 + mc8, 12 + ms9)) rfl rfl rfl hW (fun s7 hW => ?_)
      refine fr_astore_n (pc := 33) (lv' := [(3, .ref r4), (2, .int i1), (0, .ref r0), (1, .int p0)]) rfl (by decide) rfl dX3_tell_33 ?_
      refine fr_aload_n (pc := 34) 0 rfl rfl dX3_tell_34 ?_
      obtain ⟨hz, hrc, hW⟩ := hW
      refine fr_callV_V (pc := 35) (As := []) (st := []) wd_X2_rebuild w_650 ok_X2_rebuild (by decide) rfl (Nat.le_of_ble_eq_true rfl) dX3_tell_35 hz kc_X2 hrc hW (fun s10 hW => ?_)
      refine fr_aload_n (pc := 38) 2 rfl rfl dX3_tell_38 ?_
      refine fr_getR (pc := 39) (T := TX3) (k := 1) kc_X3 (by decide) w_528 dX3_tell_39 hW (fun r11 hW => ?_)
      refine fr_iload_n (pc := 42) 1 rfl rfl dX3_tell_42 ?_
      refine fr_aload_n (pc := 43) 0 rfl rfl dX3_tell_43 ?_
      refine fr_aast (pc := 44) 4 kc_X2 (fun _ => rfl) dX3_tell_44 hW (fun s12 hW => ?_)
      refine fr_aload_n (pc := 45) 2 rfl rfl dX3_tell_45 ?_
      refine fr_dup (pc := 46) rfl dX3_tell_46 ?_
      refine fr_getI (pc := 47) (T := TX3) (k := 2) kc_X3 (by decide) w_623 dX3_tell_47 hW (fun i13 hW => ?_)
      refine fr_iconst (pc := 50) 1 (by decide) dX3_tell_50 ?_
      refine fr_iadd (pc := 51) dX3_tell_51 ?_
      refine fr_put (pc := 52) (T := TX3) (k := 2) kc_X3 (by decide) w_623 rfl rfl rfl dX3_tell_52 hW (fun s14 hW => ?_)
      refine fr_iload_n (pc := 55) 1 rfl rfl dX3_tell_55 ?_
      obtain ⟨hz, hW⟩ := hW
      exact fr_iret (pc := 56) dX3_tell_56 rfl hz hW
    · refine fr_bipush (pc := 18) (-104) (by decide) dX3_tell_18 ?_
      obtain ⟨hz, hW⟩ := hW
      exact fr_iret (pc := 20) dX3_tell_20 rfl hz hW
set_option maxHeartbeats 4000000 in
set_option maxRecDepth 100000 in
theorem q_X11_order {g : GG} {σ : Hs} {post : Option Value → Hs → Prop} (cM sM : Nat) (r0 : Nat) (p0 : Int32) (hW : ((0) ≤ cM ∧ (0) ≤ sM) ∧ Do g M_X2_isKey 0 0 [.int p0] σ (kI (fun i2 s1 => (¬ i2 = 0 → FR s1 r0 11 1 (fun r5 => ((0) ≤ cM ∧ (0) ≤ sM) ∧ Rc s1 r5 3 ∧ Do g M_X3_haveKey 0 0 [.ref r5, .int p0] s1 (kI (fun i7 s6 => (i7 = 0 → FR s6 r0 11 1 (fun r10 => ((0) ≤ cM ∧ (0) ≤ sM) ∧ Rc s6 r10 3 ∧ Do g M_X3_told 0 0 [.ref r10] s6 (kI (fun i12 s11 => (i12 < 8 → FR s11 r0 11 1 (fun r15 => ∃ mc20 ms21 : Nat, ((0) + mc20 ≤ cM ∧ (0) + ms21 ≤ sM) ∧ Rc s11 r15 3 ∧ Do g M_X3_tell mc20 ms21 [.ref r15, .int p0] s11 (kI (fun i17 s16 => ((0 + mc20) ≤ cM ∧ (0 + ms21) ≤ sM) ∧ post (some (.int i17)) s16)))) ∧ (¬ i12 < 8 → ((0) ≤ cM ∧ (0) ≤ sM) ∧ post (some (.int (-104))) s11))))) ∧ (¬ i7 = 0 → ((0) ≤ cM ∧ (0) ≤ sM) ∧ post (some (.int (-103))) s6))))) ∧ (i2 = 0 → ((0) ≤ cM ∧ (0) ≤ sM) ∧ post (some (.int (-102))) s1)))) : Do g M_X11_order cM sM [.ref r0, .int p0] σ post := by
  refine Do.of (by decide +kernel) (Nat.le_of_ble_eq_true rfl) ?_
  show Fr g M_X11_order (cM, sM, 0, 0) [(0, .ref r0), (1, .int p0)] [] 0 σ post
  refine fr_iload_n (pc := 0) 1 rfl rfl dX11_order_0 ?_
  obtain ⟨hz, hW⟩ := hW
  refine fr_callS_I (pc := 1) (As := [.int p0]) (st := []) wd_X2_isKey w_651 ok_X2_isKey (by decide) rfl (Nat.le_of_ble_eq_true rfl) dX11_order_1 hz hW (fun i2 s1 hW => ?_)
  refine fr_if_ne (pc := 4) (tgt := 10) (by decide) dX11_order_4 hW (fun hW => ?_) (fun hW => ?_)
  · refine fr_aload_n (pc := 10) 0 rfl rfl dX11_order_10 ?_
    refine fr_getR (pc := 11) (T := TX11) (k := 1) kc_X11 (by decide) w_579 dX11_order_11 hW (fun r5 hW => ?_)
    refine fr_iload_n (pc := 14) 1 rfl rfl dX11_order_14 ?_
    obtain ⟨hz, hrc, hW⟩ := hW
    refine fr_callV_I (pc := 15) (As := [.int p0]) (st := []) wd_X3_haveKey w_652 ok_X3_haveKey (by decide) rfl (Nat.le_of_ble_eq_true rfl) dX11_order_15 hz kc_X3 hrc hW (fun i7 s6 hW => ?_)
    refine fr_if_eq (pc := 18) (tgt := 24) (by decide) dX11_order_18 hW (fun hW => ?_) (fun hW => ?_)
    · refine fr_aload_n (pc := 24) 0 rfl rfl dX11_order_24 ?_
      refine fr_getR (pc := 25) (T := TX11) (k := 1) kc_X11 (by decide) w_579 dX11_order_25 hW (fun r10 hW => ?_)
      obtain ⟨hz, hrc, hW⟩ := hW
      refine fr_callV_I (pc := 28) (As := []) (st := []) wd_X3_told w_653 ok_X3_told (by decide) rfl (Nat.le_of_ble_eq_true rfl) dX11_order_28 hz kc_X3 hrc hW (fun i12 s11 hW => ?_)
      refine fr_bipush (pc := 31) 8 (by decide) dX11_order_31 ?_
      refine fr_icmp_lt (pc := 33) (tgt := 39) (by decide) dX11_order_33 hW (fun hW => ?_) (fun hW => ?_)
      · refine fr_aload_n (pc := 39) 0 rfl rfl dX11_order_39 ?_
        refine fr_getR (pc := 40) (T := TX11) (k := 1) kc_X11 (by decide) w_579 dX11_order_40 hW (fun r15 hW => ?_)
        refine fr_iload_n (pc := 43) 1 rfl rfl dX11_order_43 ?_
        obtain ⟨mc20, ms21, hz, hrc, hW⟩ := hW
        refine fr_callV_Ia (pc := 44) (As := [.int p0]) (st := []) wd_X3_tell w_654 ok_X3_tell (by decide) rfl (Nat.le_of_ble_eq_true rfl) dX11_order_44 hz (Z' := (cM, sM, 0 + mc20, 0 + ms21)) rfl kc_X3 hrc hW (fun i17 s16 hW => ?_)
        obtain ⟨hz, hW⟩ := hW
        exact fr_iret (pc := 47) dX11_order_47 rfl hz hW
      · refine fr_bipush (pc := 36) (-104) (by decide) dX11_order_36 ?_
        obtain ⟨hz, hW⟩ := hW
        exact fr_iret (pc := 38) dX11_order_38 rfl hz hW
    · refine fr_bipush (pc := 21) (-103) (by decide) dX11_order_21 ?_
      obtain ⟨hz, hW⟩ := hW
      exact fr_iret (pc := 23) dX11_order_23 rfl hz hW
  · refine fr_bipush (pc := 7) (-102) (by decide) dX11_order_7 ?_
    obtain ⟨hz, hW⟩ := hW
    exact fr_iret (pc := 9) dX11_order_9 rfl hz hW
set_option maxHeartbeats 4000000 in
set_option maxRecDepth 100000 in
theorem q_X11_isColumn {g : GG} {σ : Hs} {post : Option Value → Hs → Prop} (p0 : Int32) (hW : (p0 < 0 → post (some (.int 0)) σ) ∧ (¬ p0 < 0 → (4 ≤ p0 → post (some (.int 0)) σ) ∧ (¬ 4 ≤ p0 → post (some (.int 1)) σ))) : Do g M_X11_isColumn 0 0 [.int p0] σ post := by
  refine Do.of (by decide +kernel) (Nat.le_of_ble_eq_true rfl) ?_
  show Fr g M_X11_isColumn (0, 0, 0, 0) [(0, .int p0)] [] 0 σ post
  refine fr_iload_n (pc := 0) 0 rfl rfl dX11_isColumn_0 ?_
  refine fr_if_lt (pc := 1) (tgt := 13) (by decide) dX11_isColumn_1 hW (fun hW => ?_) (fun hW => ?_)
  · refine fr_iconst (pc := 13) 0 (by decide) dX11_isColumn_13 ?_
    exact fr_zret (pc := 14) dX11_isColumn_14 rfl ⟨Nat.le_refl 0, Nat.le_refl 0⟩ ⟨rfl, hW⟩
  · refine fr_iload_n (pc := 4) 0 rfl rfl dX11_isColumn_4 ?_
    refine fr_iconst (pc := 5) 4 (by decide) dX11_isColumn_5 ?_
    refine fr_icmp_ge (pc := 6) (tgt := 13) (by decide) dX11_isColumn_6 hW (fun hW => ?_) (fun hW => ?_)
    · refine fr_iconst (pc := 13) 0 (by decide) dX11_isColumn_13 ?_
      exact fr_zret (pc := 14) dX11_isColumn_14 rfl ⟨Nat.le_refl 0, Nat.le_refl 0⟩ ⟨rfl, hW⟩
    · refine fr_iconst (pc := 9) 1 (by decide) dX11_isColumn_9 ?_
      refine fr_goto (pc := 10) (tgt := 14) (by decide) dX11_isColumn_10 ?_
      exact fr_zret (pc := 14) dX11_isColumn_14 rfl ⟨Nat.le_refl 0, Nat.le_refl 0⟩ ⟨rfl, hW⟩
set_option maxHeartbeats 4000000 in
set_option maxRecDepth 100000 in
theorem q_X11_get {g : GG} {σ : Hs} {post : Option Value → Hs → Prop} (r0 : Nat) (p0 : Int32) (p1 : Int32) (hW : Do g M_X11_isSlot 0 0 [.int p0] σ (kI (fun i2 s1 => (i2 = 0 → post (some (.int (-101))) s1) ∧ (¬ i2 = 0 → Do g M_X11_isColumn 0 0 [.int p1] s1 (kI (fun i6 s5 => (¬ i6 = 0 → FR s5 r0 11 0 (fun r9 => Rc s5 r9 8 ∧ Do g M_X8_holds 0 0 [.ref r9, .int p0] s5 (kI (fun i11 s10 => (i11 = 0 → post (some (.int (-1))) s10) ∧ (¬ i11 = 0 → FR s10 r0 11 0 (fun r14 => Rc s10 r14 8 ∧ Do g M_X8_number 0 0 [.ref r14, .int p0, .int p1] s10 (kI (fun i16 s15 => post (some (.int i16)) s15)))))))) ∧ (i6 = 0 → post (some (.int (-101))) s5))))))) : Do g M_X11_get 0 0 [.ref r0, .int p0, .int p1] σ post := by
  refine Do.of (by decide +kernel) (Nat.le_of_ble_eq_true rfl) ?_
  show Fr g M_X11_get (0, 0, 0, 0) [(0, .ref r0), (1, .int p0), (2, .int p1)] [] 0 σ post
  refine fr_iload_n (pc := 0) 1 rfl rfl dX11_get_0 ?_
  refine fr_callS_I (pc := 1) (As := [.int p0]) (st := []) wd_X11_isSlot w_655 ok_X11_isSlot (by decide) rfl (Nat.le_of_ble_eq_true rfl) dX11_get_1 ⟨Nat.le_refl 0, Nat.le_refl 0⟩ hW (fun i2 s1 hW => ?_)
  refine fr_if_eq (pc := 4) (tgt := 14) (by decide) dX11_get_4 hW (fun hW => ?_) (fun hW => ?_)
  · refine fr_bipush (pc := 14) (-101) (by decide) dX11_get_14 ?_
    exact fr_iret (pc := 16) dX11_get_16 rfl ⟨Nat.le_refl 0, Nat.le_refl 0⟩ hW
  · refine fr_iload_n (pc := 7) 2 rfl rfl dX11_get_7 ?_
    refine fr_callS_I (pc := 8) (As := [.int p1]) (st := []) wd_X11_isColumn w_656 ok_X11_isColumn (by decide) rfl (Nat.le_of_ble_eq_true rfl) dX11_get_8 ⟨Nat.le_refl 0, Nat.le_refl 0⟩ hW (fun i6 s5 hW => ?_)
    refine fr_if_ne (pc := 11) (tgt := 17) (by decide) dX11_get_11 hW (fun hW => ?_) (fun hW => ?_)
    · refine fr_aload_n (pc := 17) 0 rfl rfl dX11_get_17 ?_
      refine fr_getR (pc := 18) (T := TX11) (k := 0) kc_X11 (by decide) w_578 dX11_get_18 hW (fun r9 hW => ?_)
      refine fr_iload_n (pc := 21) 1 rfl rfl dX11_get_21 ?_
      obtain ⟨hrc, hW⟩ := hW
      refine fr_callV_I (pc := 22) (As := [.int p0]) (st := []) wd_X8_holds w_657 ok_X8_holds (by decide) rfl (Nat.le_of_ble_eq_true rfl) dX11_get_22 ⟨Nat.le_refl 0, Nat.le_refl 0⟩ kc_X8 hrc hW (fun i11 s10 hW => ?_)
      refine fr_if_eq (pc := 25) (tgt := 40) (by decide) dX11_get_25 hW (fun hW => ?_) (fun hW => ?_)
      · refine fr_iconst (pc := 40) (-1) (by decide) dX11_get_40 ?_
        exact fr_iret (pc := 41) dX11_get_41 rfl ⟨Nat.le_refl 0, Nat.le_refl 0⟩ hW
      · refine fr_aload_n (pc := 28) 0 rfl rfl dX11_get_28 ?_
        refine fr_getR (pc := 29) (T := TX11) (k := 0) kc_X11 (by decide) w_578 dX11_get_29 hW (fun r14 hW => ?_)
        refine fr_iload_n (pc := 32) 1 rfl rfl dX11_get_32 ?_
        refine fr_iload_n (pc := 33) 2 rfl rfl dX11_get_33 ?_
        obtain ⟨hrc, hW⟩ := hW
        refine fr_callV_I (pc := 34) (As := [.int p0, .int p1]) (st := []) wd_X8_number w_658 ok_X8_number (by decide) rfl (Nat.le_of_ble_eq_true rfl) dX11_get_34 ⟨Nat.le_refl 0, Nat.le_refl 0⟩ kc_X8 hrc hW (fun i16 s15 hW => ?_)
        refine fr_goto (pc := 37) (tgt := 41) (by decide) dX11_get_37 ?_
        exact fr_iret (pc := 41) dX11_get_41 rfl ⟨Nat.le_refl 0, Nat.le_refl 0⟩ hW
    · refine fr_bipush (pc := 14) (-101) (by decide) dX11_get_14 ?_
      exact fr_iret (pc := 16) dX11_get_16 rfl ⟨Nat.le_refl 0, Nat.le_refl 0⟩ hW
def J_X1_placeOf_2 (g : GG) (post : Option Value → Hs → Prop) (σ : Hs) (a0 : Nat) (v1 : Int32) (v2 : Int32) (v3 : Int32) : Prop := Fr g M_X1_placeOf (0, 0, 0, 0) [(0, .ref a0), (1, .int v1), (2, .int v2), (3, .int v3)] [] 2 σ post
set_option maxHeartbeats 4000000 in
set_option maxRecDepth 100000 in
theorem q_X1_placeOf {g : GG} {σ : Hs} {post : Option Value → Hs → Prop} (r0 : Nat) (p0 : Int32) (p1 : Int32) (hW : J_X1_placeOf_2 g post σ r0 p0 p1 0 ) : Do g M_X1_placeOf 0 0 [.ref r0, .int p0, .int p1] σ post := by
  refine Do.of (by decide +kernel) (Nat.le_of_ble_eq_true rfl) ?_
  show Fr g M_X1_placeOf (0, 0, 0, 0) [(0, .ref r0), (1, .int p0), (2, .int p1)] [] 0 σ post
  refine fr_iconst (pc := 0) 0 (by decide) dX1_placeOf_0 ?_
  refine fr_istore_n (pc := 1) (lv' := [(3, .int 0), (0, .ref r0), (1, .int p0), (2, .int p1)]) rfl (by decide) rfl dX1_placeOf_1 ?_
  exact fr_sub [1, 2, 3, 0] rfl hW
set_option maxHeartbeats 4000000 in
set_option maxRecDepth 100000 in
theorem q_X1_placeOf_2 {g : GG} {σ : Hs} {post : Option Value → Hs → Prop} (a0 : Nat) (v1 : Int32) (v2 : Int32) (v3 : Int32) (hW : (v2 ≤ v3 → post (some (.int (-1))) σ) ∧ (¬ v2 ≤ v3 → Rc σ a0 1 ∧ Do g M_X1_at 0 0 [.ref a0, .int v3] σ (kI (fun i2 s1 => (¬ i2 = v1 → J_X1_placeOf_2 g post s1 a0 v1 v2 ((v3 + 1)) ) ∧ (i2 = v1 → post (some (.int v3)) s1))))) : J_X1_placeOf_2 g post σ a0 v1 v2 v3 := by
  show Fr g M_X1_placeOf (0, 0, 0, 0) [(0, .ref a0), (1, .int v1), (2, .int v2), (3, .int v3)] [] 2 σ post
  refine fr_iload_n (pc := 2) 3 rfl rfl dX1_placeOf_2 ?_
  refine fr_iload_n (pc := 3) 2 rfl rfl dX1_placeOf_3 ?_
  refine fr_icmp_ge (pc := 4) (tgt := 24) (by decide) dX1_placeOf_4 hW (fun hW => ?_) (fun hW => ?_)
  · refine fr_iconst (pc := 24) (-1) (by decide) dX1_placeOf_24 ?_
    exact fr_iret (pc := 25) dX1_placeOf_25 rfl ⟨Nat.le_refl 0, Nat.le_refl 0⟩ hW
  · refine fr_aload_n (pc := 7) 0 rfl rfl dX1_placeOf_7 ?_
    refine fr_iload_n (pc := 8) 3 rfl rfl dX1_placeOf_8 ?_
    obtain ⟨hrc, hW⟩ := hW
    refine fr_callV_I (pc := 9) (As := [.int v3]) (st := []) wd_X1_at w_612 ok_X1_at (by decide) rfl (Nat.le_of_ble_eq_true rfl) dX1_placeOf_9 ⟨Nat.le_refl 0, Nat.le_refl 0⟩ kc_X1 hrc hW (fun i2 s1 hW => ?_)
    refine fr_iload_n (pc := 12) 1 rfl rfl dX1_placeOf_12 ?_
    refine fr_icmp_ne (pc := 13) (tgt := 18) (by decide) dX1_placeOf_13 hW (fun hW => ?_) (fun hW => ?_)
    · refine fr_iinc (pc := 18) (lv' := [(3, .int (v3 + 1)), (0, .ref a0), (1, .int v1), (2, .int v2)]) (v3 + 1) 3 rfl (congrArg (fun z => v3 + z) (by decide)) (by decide) rfl dX1_placeOf_18 ?_
      refine fr_goto (pc := 21) (tgt := 2) (by decide) dX1_placeOf_21 ?_
      exact fr_sub [1, 2, 3, 0] rfl hW
    · refine fr_iload_n (pc := 16) 3 rfl rfl dX1_placeOf_16 ?_
      exact fr_iret (pc := 17) dX1_placeOf_17 rfl ⟨Nat.le_refl 0, Nat.le_refl 0⟩ hW
def J_X1_remove_2 (g : GG) (post : Option Value → Hs → Prop) (σ : Hs) (a0 : Nat) (v2 : Int32) (v3 : Int32) : Prop := Fr g M_X1_remove (0, 0, 0, 0) [(0, .ref a0), (2, .int v2), (3, .int v3)] [] 2 σ post
set_option maxHeartbeats 4000000 in
set_option maxRecDepth 100000 in
theorem q_X1_remove {g : GG} {σ : Hs} {post : Option Value → Hs → Prop} (r0 : Nat) (p0 : Int32) (p1 : Int32) (hW : J_X1_remove_2 g post σ r0 p1 p0 ) : Do g M_X1_remove 0 0 [.ref r0, .int p0, .int p1] σ post := by
  refine Do.of (by decide +kernel) (Nat.le_of_ble_eq_true rfl) ?_
  show Fr g M_X1_remove (0, 0, 0, 0) [(0, .ref r0), (1, .int p0), (2, .int p1)] [] 0 σ post
  refine fr_iload_n (pc := 0) 1 rfl rfl dX1_remove_0 ?_
  refine fr_istore_n (pc := 1) (lv' := [(3, .int p0), (0, .ref r0), (1, .int p0), (2, .int p1)]) rfl (by decide) rfl dX1_remove_1 ?_
  exact fr_sub [1, 3, 0] rfl hW
set_option maxHeartbeats 4000000 in
set_option maxRecDepth 100000 in
theorem q_X1_remove_2 {g : GG} {σ : Hs} {post : Option Value → Hs → Prop} (a0 : Nat) (v2 : Int32) (v3 : Int32) (hW : ((v2 - 1) ≤ v3 → post none σ) ∧ (¬ (v2 - 1) ≤ v3 → Rc σ a0 1 ∧ Do g M_X1_at 0 0 [.ref a0, .int (v3 + 1)] σ (kI (fun i2 s1 => Rc s1 a0 1 ∧ Do g M_X1_put 0 0 [.ref a0, .int v3, .int i2] s1 (kV (fun s5 => J_X1_remove_2 g post s5 a0 v2 ((v3 + 1)) )))))) : J_X1_remove_2 g post σ a0 v2 v3 := by
  show Fr g M_X1_remove (0, 0, 0, 0) [(0, .ref a0), (2, .int v2), (3, .int v3)] [] 2 σ post
  refine fr_iload_n (pc := 2) 2 rfl rfl dX1_remove_2 ?_
  refine fr_iload_n (pc := 3) 1 rfl rfl dX1_remove_3 ?_
  refine fr_iconst (pc := 4) 1 (by decide) dX1_remove_4 ?_
  refine fr_isub (pc := 5) dX1_remove_5 ?_
  refine fr_icmp_ge (pc := 6) (tgt := 27) (by decide) dX1_remove_6 hW (fun hW => ?_) (fun hW => ?_)
  · exact fr_ret (pc := 27) dX1_remove_27 rfl ⟨Nat.le_refl 0, Nat.le_refl 0⟩ hW
  · refine fr_aload_n (pc := 9) 0 rfl rfl dX1_remove_9 ?_
    refine fr_iload_n (pc := 10) 2 rfl rfl dX1_remove_10 ?_
    refine fr_aload_n (pc := 11) 0 rfl rfl dX1_remove_11 ?_
    refine fr_iload_n (pc := 12) 2 rfl rfl dX1_remove_12 ?_
    refine fr_iconst (pc := 13) 1 (by decide) dX1_remove_13 ?_
    refine fr_iadd (pc := 14) dX1_remove_14 ?_
    obtain ⟨hrc, hW⟩ := hW
    refine fr_callV_I (pc := 15) (As := [.int (v3 + 1)]) (st := [.int v3, .ref a0]) wd_X1_at w_612 ok_X1_at (by decide) rfl (Nat.le_of_ble_eq_true rfl) dX1_remove_15 ⟨Nat.le_refl 0, Nat.le_refl 0⟩ kc_X1 hrc hW (fun i2 s1 hW => ?_)
    obtain ⟨hrc, hW⟩ := hW
    refine fr_callV_V (pc := 18) (As := [.int v3, .int i2]) (st := []) wd_X1_put w_613 ok_X1_put (by decide) rfl (Nat.le_of_ble_eq_true rfl) dX1_remove_18 ⟨Nat.le_refl 0, Nat.le_refl 0⟩ kc_X1 hrc hW (fun s5 hW => ?_)
    refine fr_iinc (pc := 21) (lv' := [(3, .int (v3 + 1)), (0, .ref a0), (2, .int v2)]) (v3 + 1) 2 rfl (congrArg (fun z => v3 + z) (by decide)) (by decide) rfl dX1_remove_21 ?_
    refine fr_goto (pc := 24) (tgt := 2) (by decide) dX1_remove_24 ?_
    exact fr_sub [1, 2, 0] rfl hW
set_option maxHeartbeats 4000000 in
set_option maxRecDepth 100000 in
theorem q_X2_entryGoes {g : GG} {σ : Hs} {post : Option Value → Hs → Prop} (r0 : Nat) (p0 : Int32) (hW : FR σ r0 2 6 (fun r1 => FI σ r0 2 8 (fun i2 => Rc σ r1 1 ∧ Do g M_X1_placeOf 0 0 [.ref r1, .int p0, .int i2] σ (kI (fun i4 s3 => (¬ i4 = (-1) → Rc s3 r0 2 ∧ Do g M_X2_leafAt 0 0 [.ref r0, .int i4] s3 (kI (fun i8 s7 => FR s7 r0 2 6 (fun r11 => FI s7 r0 2 8 (fun i12 => Rc s7 r11 1 ∧ Do g M_X1_remove 0 0 [.ref r11, .int i4, .int i12] s7 (kV (fun s13 => FI s13 r0 2 8 (fun i14 => PF s13 r0 2 8 (.int (i14 - 1)) (fun s15 => FR s15 r0 2 7 (fun r16 => Rc s15 r16 1 ∧ Do g M_X1_raise 0 0 [.ref r16, .int i8, .int (-1)] s15 (kV (fun s17 => FR s17 r0 2 7 (fun r18 => Rc s17 r18 1 ∧ Do g M_X1_at 0 0 [.ref r18, .int i8] s17 (kI (fun i20 s19 => (¬ i20 = 0 → post none s19) ∧ (i20 = 0 → FR s19 r0 2 7 (fun r23 => FI s19 r0 2 9 (fun i24 => Rc s19 r23 1 ∧ Do g M_X1_remove 0 0 [.ref r23, .int i8, .int i24] s19 (kV (fun s25 => FI s25 r0 2 9 (fun i26 => PF s25 r0 2 9 (.int (i26 - 1)) (fun s27 => post none s27)))))))))))))))))))))) ∧ (i4 = (-1) → post none s3)))))) : Do g M_X2_entryGoes 0 0 [.ref r0, .int p0] σ post := by
  refine Do.of (by decide +kernel) (Nat.le_of_ble_eq_true rfl) ?_
  show Fr g M_X2_entryGoes (0, 0, 0, 0) [(0, .ref r0), (1, .int p0)] [] 0 σ post
  refine fr_aload_n (pc := 0) 0 rfl rfl dX2_entryGoes_0 ?_
  refine fr_getR (pc := 1) (T := TX2) (k := 6) kc_X2 (by decide) w_607 dX2_entryGoes_1 hW (fun r1 hW => ?_)
  refine fr_iload_n (pc := 4) 1 rfl rfl dX2_entryGoes_4 ?_
  refine fr_aload_n (pc := 5) 0 rfl rfl dX2_entryGoes_5 ?_
  refine fr_getI (pc := 6) (T := TX2) (k := 8) kc_X2 (by decide) w_606 dX2_entryGoes_6 hW (fun i2 hW => ?_)
  obtain ⟨hrc, hW⟩ := hW
  refine fr_callV_I (pc := 9) (As := [.int p0, .int i2]) (st := []) wd_X1_placeOf w_659 ok_X1_placeOf (by decide) rfl (Nat.le_of_ble_eq_true rfl) dX2_entryGoes_9 ⟨Nat.le_refl 0, Nat.le_refl 0⟩ kc_X1 hrc hW (fun i4 s3 hW => ?_)
  refine fr_istore_n (pc := 12) (lv' := [(2, .int i4), (0, .ref r0), (1, .int p0)]) rfl (by decide) rfl dX2_entryGoes_12 ?_
  refine fr_iload_n (pc := 13) 0 rfl rfl dX2_entryGoes_13 ?_
  refine fr_iconst (pc := 14) (-1) (by decide) dX2_entryGoes_14 ?_
  refine fr_icmp_ne (pc := 15) (tgt := 19) (by decide) dX2_entryGoes_15 hW (fun hW => ?_) (fun hW => ?_)
  · refine fr_aload_n (pc := 19) 1 rfl rfl dX2_entryGoes_19 ?_
    refine fr_iload_n (pc := 20) 0 rfl rfl dX2_entryGoes_20 ?_
    obtain ⟨hrc, hW⟩ := hW
    refine fr_callV_I (pc := 21) (As := [.int i4]) (st := []) wd_X2_leafAt w_611 ok_X2_leafAt (by decide) rfl (Nat.le_of_ble_eq_true rfl) dX2_entryGoes_21 ⟨Nat.le_refl 0, Nat.le_refl 0⟩ kc_X2 hrc hW (fun i8 s7 hW => ?_)
    refine fr_istore_n (pc := 24) (lv' := [(3, .int i8), (2, .int i4), (0, .ref r0), (1, .int p0)]) rfl (by decide) rfl dX2_entryGoes_24 ?_
    refine fr_aload_n (pc := 25) 2 rfl rfl dX2_entryGoes_25 ?_
    refine fr_getR (pc := 26) (T := TX2) (k := 6) kc_X2 (by decide) w_607 dX2_entryGoes_26 hW (fun r11 hW => ?_)
    refine fr_iload_n (pc := 29) 1 rfl rfl dX2_entryGoes_29 ?_
    refine fr_aload_n (pc := 30) 2 rfl rfl dX2_entryGoes_30 ?_
    refine fr_getI (pc := 31) (T := TX2) (k := 8) kc_X2 (by decide) w_606 dX2_entryGoes_31 hW (fun i12 hW => ?_)
    obtain ⟨hrc, hW⟩ := hW
    refine fr_callV_V (pc := 34) (As := [.int i4, .int i12]) (st := []) wd_X1_remove w_660 ok_X1_remove (by decide) rfl (Nat.le_of_ble_eq_true rfl) dX2_entryGoes_34 ⟨Nat.le_refl 0, Nat.le_refl 0⟩ kc_X1 hrc hW (fun s13 hW => ?_)
    refine fr_aload_n (pc := 37) 2 rfl rfl dX2_entryGoes_37 ?_
    refine fr_dup (pc := 38) rfl dX2_entryGoes_38 ?_
    refine fr_getI (pc := 39) (T := TX2) (k := 8) kc_X2 (by decide) w_606 dX2_entryGoes_39 hW (fun i14 hW => ?_)
    refine fr_iconst (pc := 42) 1 (by decide) dX2_entryGoes_42 ?_
    refine fr_isub (pc := 43) dX2_entryGoes_43 ?_
    refine fr_put (pc := 44) (T := TX2) (k := 8) kc_X2 (by decide) w_606 rfl rfl rfl dX2_entryGoes_44 hW (fun s15 hW => ?_)
    refine fr_aload_n (pc := 47) 2 rfl rfl dX2_entryGoes_47 ?_
    refine fr_getR (pc := 48) (T := TX2) (k := 7) kc_X2 (by decide) w_610 dX2_entryGoes_48 hW (fun r16 hW => ?_)
    refine fr_iload_n (pc := 51) 0 rfl rfl dX2_entryGoes_51 ?_
    refine fr_iconst (pc := 52) (-1) (by decide) dX2_entryGoes_52 ?_
    obtain ⟨hrc, hW⟩ := hW
    refine fr_callV_V (pc := 53) (As := [.int i8, .int (-1)]) (st := []) wd_X1_raise w_621 ok_X1_raise (by decide) rfl (Nat.le_of_ble_eq_true rfl) dX2_entryGoes_53 ⟨Nat.le_refl 0, Nat.le_refl 0⟩ kc_X1 hrc hW (fun s17 hW => ?_)
    refine fr_aload_n (pc := 56) 2 rfl rfl dX2_entryGoes_56 ?_
    refine fr_getR (pc := 57) (T := TX2) (k := 7) kc_X2 (by decide) w_610 dX2_entryGoes_57 hW (fun r18 hW => ?_)
    refine fr_iload_n (pc := 60) 0 rfl rfl dX2_entryGoes_60 ?_
    obtain ⟨hrc, hW⟩ := hW
    refine fr_callV_I (pc := 61) (As := [.int i8]) (st := []) wd_X1_at w_604 ok_X1_at (by decide) rfl (Nat.le_of_ble_eq_true rfl) dX2_entryGoes_61 ⟨Nat.le_refl 0, Nat.le_refl 0⟩ kc_X1 hrc hW (fun i20 s19 hW => ?_)
    refine fr_if_ne (pc := 64) (tgt := 89) (by decide) dX2_entryGoes_64 hW (fun hW => ?_) (fun hW => ?_)
    · exact fr_ret (pc := 89) dX2_entryGoes_89 rfl ⟨Nat.le_refl 0, Nat.le_refl 0⟩ hW
    · refine fr_aload_n (pc := 67) 2 rfl rfl dX2_entryGoes_67 ?_
      refine fr_getR (pc := 68) (T := TX2) (k := 7) kc_X2 (by decide) w_610 dX2_entryGoes_68 hW (fun r23 hW => ?_)
      refine fr_iload_n (pc := 71) 0 rfl rfl dX2_entryGoes_71 ?_
      refine fr_aload_n (pc := 72) 2 rfl rfl dX2_entryGoes_72 ?_
      refine fr_getI (pc := 73) (T := TX2) (k := 9) kc_X2 (by decide) w_609 dX2_entryGoes_73 hW (fun i24 hW => ?_)
      obtain ⟨hrc, hW⟩ := hW
      refine fr_callV_V (pc := 76) (As := [.int i8, .int i24]) (st := []) wd_X1_remove w_660 ok_X1_remove (by decide) rfl (Nat.le_of_ble_eq_true rfl) dX2_entryGoes_76 ⟨Nat.le_refl 0, Nat.le_refl 0⟩ kc_X1 hrc hW (fun s25 hW => ?_)
      refine fr_aload_n (pc := 79) 2 rfl rfl dX2_entryGoes_79 ?_
      refine fr_dup (pc := 80) rfl dX2_entryGoes_80 ?_
      refine fr_getI (pc := 81) (T := TX2) (k := 9) kc_X2 (by decide) w_609 dX2_entryGoes_81 hW (fun i26 hW => ?_)
      refine fr_iconst (pc := 84) 1 (by decide) dX2_entryGoes_84 ?_
      refine fr_isub (pc := 85) dX2_entryGoes_85 ?_
      refine fr_put (pc := 86) (T := TX2) (k := 9) kc_X2 (by decide) w_609 rfl rfl rfl dX2_entryGoes_86 hW (fun s27 hW => ?_)
      exact fr_ret (pc := 89) dX2_entryGoes_89 rfl ⟨Nat.le_refl 0, Nat.le_refl 0⟩ hW
  · exact fr_ret (pc := 18) dX2_entryGoes_18 rfl ⟨Nat.le_refl 0, Nat.le_refl 0⟩ hW
def J_X3_entriesGo_2 (g : GG) (post : Option Value → Hs → Prop) (σ : Hs) (a0 : Nat) (v1 : Int32) (v2 : Int32) : Prop := Fr g M_X3_entriesGo (0, 0, 0, 0) [(0, .ref a0), (1, .int v1), (2, .int v2)] [] 2 σ post
set_option maxHeartbeats 4000000 in
set_option maxRecDepth 100000 in
theorem q_X3_entriesGo {g : GG} {σ : Hs} {post : Option Value → Hs → Prop} (r0 : Nat) (p0 : Int32) (hW : J_X3_entriesGo_2 g post σ r0 p0 0 ) : Do g M_X3_entriesGo 0 0 [.ref r0, .int p0] σ post := by
  refine Do.of (by decide +kernel) (Nat.le_of_ble_eq_true rfl) ?_
  show Fr g M_X3_entriesGo (0, 0, 0, 0) [(0, .ref r0), (1, .int p0)] [] 0 σ post
  refine fr_iconst (pc := 0) 0 (by decide) dX3_entriesGo_0 ?_
  refine fr_istore_n (pc := 1) (lv' := [(2, .int 0), (0, .ref r0), (1, .int p0)]) rfl (by decide) rfl dX3_entriesGo_1 ?_
  exact fr_sub [1, 2, 0] rfl hW
set_option maxHeartbeats 4000000 in
set_option maxRecDepth 100000 in
theorem q_X3_entriesGo_2 {g : GG} {σ : Hs} {post : Option Value → Hs → Prop} (a0 : Nat) (v1 : Int32) (v2 : Int32) (hW : FI σ a0 3 2 (fun i1 => (i1 ≤ v2 → post none σ) ∧ (¬ i1 ≤ v2 → Rc σ a0 3 ∧ Do g M_X3_kept 0 0 [.ref a0, .int v2] σ (kA (fun s2 => J_X3_entriesGo_2 g post s2 a0 v1 ((v2 + 1)) ) (fun r5 s2 => Rc s2 r5 2 ∧ Do g M_X2_entryGoes 0 0 [.ref r5, .int v1] s2 (kV (fun s6 => J_X3_entriesGo_2 g post s6 a0 v1 ((v2 + 1)) ))))))) : J_X3_entriesGo_2 g post σ a0 v1 v2 := by
  show Fr g M_X3_entriesGo (0, 0, 0, 0) [(0, .ref a0), (1, .int v1), (2, .int v2)] [] 2 σ post
  refine fr_iload_n (pc := 2) 2 rfl rfl dX3_entriesGo_2 ?_
  refine fr_aload_n (pc := 3) 0 rfl rfl dX3_entriesGo_3 ?_
  refine fr_getI (pc := 4) (T := TX3) (k := 2) kc_X3 (by decide) w_623 dX3_entriesGo_4 hW (fun i1 hW => ?_)
  refine fr_icmp_ge (pc := 7) (tgt := 31) (by decide) dX3_entriesGo_7 hW (fun hW => ?_) (fun hW => ?_)
  · exact fr_ret (pc := 31) dX3_entriesGo_31 rfl ⟨Nat.le_refl 0, Nat.le_refl 0⟩ hW
  · refine fr_aload_n (pc := 10) 0 rfl rfl dX3_entriesGo_10 ?_
    refine fr_iload_n (pc := 11) 2 rfl rfl dX3_entriesGo_11 ?_
    obtain ⟨hrc, hW⟩ := hW
    refine fr_callV_A (pc := 12) (As := [.int v2]) (st := []) wd_X3_kept w_624 ok_X3_kept (by decide) rfl (Nat.le_of_ble_eq_true rfl) dX3_entriesGo_12 ⟨Nat.le_refl 0, Nat.le_refl 0⟩ kc_X3 hrc hW (fun s2 hW => ?_) (fun r5 s2 hW => ?_)
    · refine fr_astore_nN (pc := 15) (lv' := [(3, .null), (0, .ref a0), (1, .int v1), (2, .int v2)]) rfl (by decide) rfl dX3_entriesGo_15 ?_
      refine fr_aload_nN (pc := 16) 0 rfl rfl dX3_entriesGo_16 ?_
      refine fr_ifnullN (pc := 17) (tgt := 25) (by decide) dX3_entriesGo_17 ?_
      refine fr_iinc (pc := 25) (lv' := [(2, .int (v2 + 1)), (3, .null), (0, .ref a0), (1, .int v1)]) (v2 + 1) 3 rfl (congrArg (fun z => v2 + z) (by decide)) (by decide) rfl dX3_entriesGo_25 ?_
      refine fr_goto (pc := 28) (tgt := 2) (by decide) dX3_entriesGo_28 ?_
      exact fr_sub [2, 3, 0] rfl hW
    · refine fr_astore_n (pc := 15) (lv' := [(3, .ref r5), (0, .ref a0), (1, .int v1), (2, .int v2)]) rfl (by decide) rfl dX3_entriesGo_15 ?_
      refine fr_aload_n (pc := 16) 0 rfl rfl dX3_entriesGo_16 ?_
      refine fr_ifnull (pc := 17) dX3_entriesGo_17 ?_
      refine fr_aload_n (pc := 20) 0 rfl rfl dX3_entriesGo_20 ?_
      refine fr_iload_n (pc := 21) 2 rfl rfl dX3_entriesGo_21 ?_
      obtain ⟨hrc, hW⟩ := hW
      refine fr_callV_V (pc := 22) (As := [.int v1]) (st := []) wd_X2_entryGoes w_661 ok_X2_entryGoes (by decide) rfl (Nat.le_of_ble_eq_true rfl) dX3_entriesGo_22 ⟨Nat.le_refl 0, Nat.le_refl 0⟩ kc_X2 hrc hW (fun s6 hW => ?_)
      refine fr_iinc (pc := 25) (lv' := [(2, .int (v2 + 1)), (3, .ref r5), (0, .ref a0), (1, .int v1)]) (v2 + 1) 3 rfl (congrArg (fun z => v2 + z) (by decide)) (by decide) rfl dX3_entriesGo_25 ?_
      refine fr_goto (pc := 28) (tgt := 2) (by decide) dX3_entriesGo_28 ?_
      exact fr_sub [2, 3, 0] rfl hW
set_option maxHeartbeats 4000000 in
set_option maxRecDepth 100000 in
theorem q_X8_release {g : GG} {σ : Hs} {post : Option Value → Hs → Prop} (r0 : Nat) (p0 : Int32) (hW : FL σ r0 8 1 (fun l1 => PF σ r0 8 1 (.long (l1 &&& (((1 : Int64) <<< (p0.toInt64 &&& 63)) ^^^ (-1)))) (fun s2 => post none s2))) : Do g M_X8_release 0 0 [.ref r0, .int p0] σ post := by
  refine Do.of (by decide +kernel) (Nat.le_of_ble_eq_true rfl) ?_
  show Fr g M_X8_release (0, 0, 0, 0) [(0, .ref r0), (1, .int p0)] [] 0 σ post
  refine fr_aload_n (pc := 0) 0 rfl rfl dX8_release_0 ?_
  refine fr_dup (pc := 1) rfl dX8_release_1 ?_
  refine fr_getL (pc := 2) (T := TX8) (k := 1) kc_X8 (by decide) w_596 dX8_release_2 hW (fun l1 hW => ?_)
  refine fr_lconst (pc := 5) 1 (by decide) dX8_release_5 ?_
  refine fr_iload_n (pc := 6) 1 rfl rfl dX8_release_6 ?_
  refine fr_lshl (pc := 7) dX8_release_7 ?_
  refine fr_ldc2 (pc := 8) w_662 dX8_release_8 ?_
  refine fr_lxor (pc := 11) dX8_release_11 ?_
  refine fr_land (pc := 12) dX8_release_12 ?_
  refine fr_put (pc := 13) (T := TX8) (k := 1) kc_X8 (by decide) w_596 rfl rfl rfl dX8_release_13 hW (fun s2 hW => ?_)
  exact fr_ret (pc := 16) dX8_release_16 rfl ⟨Nat.le_refl 0, Nat.le_refl 0⟩ hW
set_option maxHeartbeats 4000000 in
set_option maxRecDepth 100000 in
theorem q_J13_bitCount_95d88 {g : GG} {σ : Hs} {post : Option Value → Hs → Prop} (p0 : Int64) (hW : post (some (.int (((((((((p0 - (((p0.toUInt64 >>> ((1 : Int32).toInt64.toUInt64 &&& Int64.toUInt64 63)).toInt64) &&& 6148914691236517205)) &&& 3689348814741910323) + ((((p0 - (((p0.toUInt64 >>> ((1 : Int32).toInt64.toUInt64 &&& Int64.toUInt64 63)).toInt64) &&& 6148914691236517205)).toUInt64 >>> ((2 : Int32).toInt64.toUInt64 &&& Int64.toUInt64 63)).toInt64) &&& 3689348814741910323)) + (((((p0 - (((p0.toUInt64 >>> ((1 : Int32).toInt64.toUInt64 &&& Int64.toUInt64 63)).toInt64) &&& 6148914691236517205)) &&& 3689348814741910323) + ((((p0 - (((p0.toUInt64 >>> ((1 : Int32).toInt64.toUInt64 &&& Int64.toUInt64 63)).toInt64) &&& 6148914691236517205)).toUInt64 >>> ((2 : Int32).toInt64.toUInt64 &&& Int64.toUInt64 63)).toInt64) &&& 3689348814741910323)).toUInt64 >>> ((4 : Int32).toInt64.toUInt64 &&& Int64.toUInt64 63)).toInt64)) &&& 1085102592571150095) + (((((((p0 - (((p0.toUInt64 >>> ((1 : Int32).toInt64.toUInt64 &&& Int64.toUInt64 63)).toInt64) &&& 6148914691236517205)) &&& 3689348814741910323) + ((((p0 - (((p0.toUInt64 >>> ((1 : Int32).toInt64.toUInt64 &&& Int64.toUInt64 63)).toInt64) &&& 6148914691236517205)).toUInt64 >>> ((2 : Int32).toInt64.toUInt64 &&& Int64.toUInt64 63)).toInt64) &&& 3689348814741910323)) + (((((p0 - (((p0.toUInt64 >>> ((1 : Int32).toInt64.toUInt64 &&& Int64.toUInt64 63)).toInt64) &&& 6148914691236517205)) &&& 3689348814741910323) + ((((p0 - (((p0.toUInt64 >>> ((1 : Int32).toInt64.toUInt64 &&& Int64.toUInt64 63)).toInt64) &&& 6148914691236517205)).toUInt64 >>> ((2 : Int32).toInt64.toUInt64 &&& Int64.toUInt64 63)).toInt64) &&& 3689348814741910323)).toUInt64 >>> ((4 : Int32).toInt64.toUInt64 &&& Int64.toUInt64 63)).toInt64)) &&& 1085102592571150095).toUInt64 >>> ((8 : Int32).toInt64.toUInt64 &&& Int64.toUInt64 63)).toInt64)) + ((((((((p0 - (((p0.toUInt64 >>> ((1 : Int32).toInt64.toUInt64 &&& Int64.toUInt64 63)).toInt64) &&& 6148914691236517205)) &&& 3689348814741910323) + ((((p0 - (((p0.toUInt64 >>> ((1 : Int32).toInt64.toUInt64 &&& Int64.toUInt64 63)).toInt64) &&& 6148914691236517205)).toUInt64 >>> ((2 : Int32).toInt64.toUInt64 &&& Int64.toUInt64 63)).toInt64) &&& 3689348814741910323)) + (((((p0 - (((p0.toUInt64 >>> ((1 : Int32).toInt64.toUInt64 &&& Int64.toUInt64 63)).toInt64) &&& 6148914691236517205)) &&& 3689348814741910323) + ((((p0 - (((p0.toUInt64 >>> ((1 : Int32).toInt64.toUInt64 &&& Int64.toUInt64 63)).toInt64) &&& 6148914691236517205)).toUInt64 >>> ((2 : Int32).toInt64.toUInt64 &&& Int64.toUInt64 63)).toInt64) &&& 3689348814741910323)).toUInt64 >>> ((4 : Int32).toInt64.toUInt64 &&& Int64.toUInt64 63)).toInt64)) &&& 1085102592571150095) + (((((((p0 - (((p0.toUInt64 >>> ((1 : Int32).toInt64.toUInt64 &&& Int64.toUInt64 63)).toInt64) &&& 6148914691236517205)) &&& 3689348814741910323) + ((((p0 - (((p0.toUInt64 >>> ((1 : Int32).toInt64.toUInt64 &&& Int64.toUInt64 63)).toInt64) &&& 6148914691236517205)).toUInt64 >>> ((2 : Int32).toInt64.toUInt64 &&& Int64.toUInt64 63)).toInt64) &&& 3689348814741910323)) + (((((p0 - (((p0.toUInt64 >>> ((1 : Int32).toInt64.toUInt64 &&& Int64.toUInt64 63)).toInt64) &&& 6148914691236517205)) &&& 3689348814741910323) + ((((p0 - (((p0.toUInt64 >>> ((1 : Int32).toInt64.toUInt64 &&& Int64.toUInt64 63)).toInt64) &&& 6148914691236517205)).toUInt64 >>> ((2 : Int32).toInt64.toUInt64 &&& Int64.toUInt64 63)).toInt64) &&& 3689348814741910323)).toUInt64 >>> ((4 : Int32).toInt64.toUInt64 &&& Int64.toUInt64 63)).toInt64)) &&& 1085102592571150095).toUInt64 >>> ((8 : Int32).toInt64.toUInt64 &&& Int64.toUInt64 63)).toInt64)).toUInt64 >>> ((16 : Int32).toInt64.toUInt64 &&& Int64.toUInt64 63)).toInt64)) + (((((((((p0 - (((p0.toUInt64 >>> ((1 : Int32).toInt64.toUInt64 &&& Int64.toUInt64 63)).toInt64) &&& 6148914691236517205)) &&& 3689348814741910323) + ((((p0 - (((p0.toUInt64 >>> ((1 : Int32).toInt64.toUInt64 &&& Int64.toUInt64 63)).toInt64) &&& 6148914691236517205)).toUInt64 >>> ((2 : Int32).toInt64.toUInt64 &&& Int64.toUInt64 63)).toInt64) &&& 3689348814741910323)) + (((((p0 - (((p0.toUInt64 >>> ((1 : Int32).toInt64.toUInt64 &&& Int64.toUInt64 63)).toInt64) &&& 6148914691236517205)) &&& 3689348814741910323) + ((((p0 - (((p0.toUInt64 >>> ((1 : Int32).toInt64.toUInt64 &&& Int64.toUInt64 63)).toInt64) &&& 6148914691236517205)).toUInt64 >>> ((2 : Int32).toInt64.toUInt64 &&& Int64.toUInt64 63)).toInt64) &&& 3689348814741910323)).toUInt64 >>> ((4 : Int32).toInt64.toUInt64 &&& Int64.toUInt64 63)).toInt64)) &&& 1085102592571150095) + (((((((p0 - (((p0.toUInt64 >>> ((1 : Int32).toInt64.toUInt64 &&& Int64.toUInt64 63)).toInt64) &&& 6148914691236517205)) &&& 3689348814741910323) + ((((p0 - (((p0.toUInt64 >>> ((1 : Int32).toInt64.toUInt64 &&& Int64.toUInt64 63)).toInt64) &&& 6148914691236517205)).toUInt64 >>> ((2 : Int32).toInt64.toUInt64 &&& Int64.toUInt64 63)).toInt64) &&& 3689348814741910323)) + (((((p0 - (((p0.toUInt64 >>> ((1 : Int32).toInt64.toUInt64 &&& Int64.toUInt64 63)).toInt64) &&& 6148914691236517205)) &&& 3689348814741910323) + ((((p0 - (((p0.toUInt64 >>> ((1 : Int32).toInt64.toUInt64 &&& Int64.toUInt64 63)).toInt64) &&& 6148914691236517205)).toUInt64 >>> ((2 : Int32).toInt64.toUInt64 &&& Int64.toUInt64 63)).toInt64) &&& 3689348814741910323)).toUInt64 >>> ((4 : Int32).toInt64.toUInt64 &&& Int64.toUInt64 63)).toInt64)) &&& 1085102592571150095).toUInt64 >>> ((8 : Int32).toInt64.toUInt64 &&& Int64.toUInt64 63)).toInt64)) + ((((((((p0 - (((p0.toUInt64 >>> ((1 : Int32).toInt64.toUInt64 &&& Int64.toUInt64 63)).toInt64) &&& 6148914691236517205)) &&& 3689348814741910323) + ((((p0 - (((p0.toUInt64 >>> ((1 : Int32).toInt64.toUInt64 &&& Int64.toUInt64 63)).toInt64) &&& 6148914691236517205)).toUInt64 >>> ((2 : Int32).toInt64.toUInt64 &&& Int64.toUInt64 63)).toInt64) &&& 3689348814741910323)) + (((((p0 - (((p0.toUInt64 >>> ((1 : Int32).toInt64.toUInt64 &&& Int64.toUInt64 63)).toInt64) &&& 6148914691236517205)) &&& 3689348814741910323) + ((((p0 - (((p0.toUInt64 >>> ((1 : Int32).toInt64.toUInt64 &&& Int64.toUInt64 63)).toInt64) &&& 6148914691236517205)).toUInt64 >>> ((2 : Int32).toInt64.toUInt64 &&& Int64.toUInt64 63)).toInt64) &&& 3689348814741910323)).toUInt64 >>> ((4 : Int32).toInt64.toUInt64 &&& Int64.toUInt64 63)).toInt64)) &&& 1085102592571150095) + (((((((p0 - (((p0.toUInt64 >>> ((1 : Int32).toInt64.toUInt64 &&& Int64.toUInt64 63)).toInt64) &&& 6148914691236517205)) &&& 3689348814741910323) + ((((p0 - (((p0.toUInt64 >>> ((1 : Int32).toInt64.toUInt64 &&& Int64.toUInt64 63)).toInt64) &&& 6148914691236517205)).toUInt64 >>> ((2 : Int32).toInt64.toUInt64 &&& Int64.toUInt64 63)).toInt64) &&& 3689348814741910323)) + (((((p0 - (((p0.toUInt64 >>> ((1 : Int32).toInt64.toUInt64 &&& Int64.toUInt64 63)).toInt64) &&& 6148914691236517205)) &&& 3689348814741910323) + ((((p0 - (((p0.toUInt64 >>> ((1 : Int32).toInt64.toUInt64 &&& Int64.toUInt64 63)).toInt64) &&& 6148914691236517205)).toUInt64 >>> ((2 : Int32).toInt64.toUInt64 &&& Int64.toUInt64 63)).toInt64) &&& 3689348814741910323)).toUInt64 >>> ((4 : Int32).toInt64.toUInt64 &&& Int64.toUInt64 63)).toInt64)) &&& 1085102592571150095).toUInt64 >>> ((8 : Int32).toInt64.toUInt64 &&& Int64.toUInt64 63)).toInt64)).toUInt64 >>> ((16 : Int32).toInt64.toUInt64 &&& Int64.toUInt64 63)).toInt64)).toUInt64 >>> ((32 : Int32).toInt64.toUInt64 &&& Int64.toUInt64 63)).toInt64)).toInt32 &&& 127))) σ) : Do g M_J13_bitCount_95d88 0 0 [.long p0] σ post := by
  refine Do.of (by decide +kernel) (Nat.le_of_ble_eq_true rfl) ?_
  show Fr g M_J13_bitCount_95d88 (0, 0, 0, 0) [(0, .long p0)] [] 0 σ post
  refine fr_lload_n (pc := 0) 0 rfl rfl dJ13_bitCount_95d88_0 ?_
  refine fr_lload_n (pc := 1) 0 rfl rfl dJ13_bitCount_95d88_1 ?_
  refine fr_iconst (pc := 2) 1 (by decide) dJ13_bitCount_95d88_2 ?_
  refine fr_lushr (pc := 3) dJ13_bitCount_95d88_3 ?_
  refine fr_ldc2 (pc := 4) w_663 dJ13_bitCount_95d88_4 ?_
  refine fr_land (pc := 7) dJ13_bitCount_95d88_7 ?_
  refine fr_lsub (pc := 8) dJ13_bitCount_95d88_8 ?_
  refine fr_lstore_n (pc := 9) (lv' := [(0, .long (p0 - (((p0.toUInt64 >>> ((1 : Int32).toInt64.toUInt64 &&& Int64.toUInt64 63)).toInt64) &&& 6148914691236517205)))]) rfl (by decide) rfl dJ13_bitCount_95d88_9 ?_
  refine fr_lload_n (pc := 10) 0 rfl rfl dJ13_bitCount_95d88_10 ?_
  refine fr_ldc2 (pc := 11) w_664 dJ13_bitCount_95d88_11 ?_
  refine fr_land (pc := 14) dJ13_bitCount_95d88_14 ?_
  refine fr_lload_n (pc := 15) 0 rfl rfl dJ13_bitCount_95d88_15 ?_
  refine fr_iconst (pc := 16) 2 (by decide) dJ13_bitCount_95d88_16 ?_
  refine fr_lushr (pc := 17) dJ13_bitCount_95d88_17 ?_
  refine fr_ldc2 (pc := 18) w_664 dJ13_bitCount_95d88_18 ?_
  refine fr_land (pc := 21) dJ13_bitCount_95d88_21 ?_
  refine fr_ladd (pc := 22) dJ13_bitCount_95d88_22 ?_
  refine fr_lstore_n (pc := 23) (lv' := [(0, .long (((p0 - (((p0.toUInt64 >>> ((1 : Int32).toInt64.toUInt64 &&& Int64.toUInt64 63)).toInt64) &&& 6148914691236517205)) &&& 3689348814741910323) + ((((p0 - (((p0.toUInt64 >>> ((1 : Int32).toInt64.toUInt64 &&& Int64.toUInt64 63)).toInt64) &&& 6148914691236517205)).toUInt64 >>> ((2 : Int32).toInt64.toUInt64 &&& Int64.toUInt64 63)).toInt64) &&& 3689348814741910323)))]) rfl (by decide) rfl dJ13_bitCount_95d88_23 ?_
  refine fr_lload_n (pc := 24) 0 rfl rfl dJ13_bitCount_95d88_24 ?_
  refine fr_lload_n (pc := 25) 0 rfl rfl dJ13_bitCount_95d88_25 ?_
  refine fr_iconst (pc := 26) 4 (by decide) dJ13_bitCount_95d88_26 ?_
  refine fr_lushr (pc := 27) dJ13_bitCount_95d88_27 ?_
  refine fr_ladd (pc := 28) dJ13_bitCount_95d88_28 ?_
  refine fr_ldc2 (pc := 29) w_665 dJ13_bitCount_95d88_29 ?_
  refine fr_land (pc := 32) dJ13_bitCount_95d88_32 ?_
  refine fr_lstore_n (pc := 33) (lv' := [(0, .long (((((p0 - (((p0.toUInt64 >>> ((1 : Int32).toInt64.toUInt64 &&& Int64.toUInt64 63)).toInt64) &&& 6148914691236517205)) &&& 3689348814741910323) + ((((p0 - (((p0.toUInt64 >>> ((1 : Int32).toInt64.toUInt64 &&& Int64.toUInt64 63)).toInt64) &&& 6148914691236517205)).toUInt64 >>> ((2 : Int32).toInt64.toUInt64 &&& Int64.toUInt64 63)).toInt64) &&& 3689348814741910323)) + (((((p0 - (((p0.toUInt64 >>> ((1 : Int32).toInt64.toUInt64 &&& Int64.toUInt64 63)).toInt64) &&& 6148914691236517205)) &&& 3689348814741910323) + ((((p0 - (((p0.toUInt64 >>> ((1 : Int32).toInt64.toUInt64 &&& Int64.toUInt64 63)).toInt64) &&& 6148914691236517205)).toUInt64 >>> ((2 : Int32).toInt64.toUInt64 &&& Int64.toUInt64 63)).toInt64) &&& 3689348814741910323)).toUInt64 >>> ((4 : Int32).toInt64.toUInt64 &&& Int64.toUInt64 63)).toInt64)) &&& 1085102592571150095))]) rfl (by decide) rfl dJ13_bitCount_95d88_33 ?_
  refine fr_lload_n (pc := 34) 0 rfl rfl dJ13_bitCount_95d88_34 ?_
  refine fr_lload_n (pc := 35) 0 rfl rfl dJ13_bitCount_95d88_35 ?_
  refine fr_bipush (pc := 36) 8 (by decide) dJ13_bitCount_95d88_36 ?_
  refine fr_lushr (pc := 38) dJ13_bitCount_95d88_38 ?_
  refine fr_ladd (pc := 39) dJ13_bitCount_95d88_39 ?_
  refine fr_lstore_n (pc := 40) (lv' := [(0, .long ((((((p0 - (((p0.toUInt64 >>> ((1 : Int32).toInt64.toUInt64 &&& Int64.toUInt64 63)).toInt64) &&& 6148914691236517205)) &&& 3689348814741910323) + ((((p0 - (((p0.toUInt64 >>> ((1 : Int32).toInt64.toUInt64 &&& Int64.toUInt64 63)).toInt64) &&& 6148914691236517205)).toUInt64 >>> ((2 : Int32).toInt64.toUInt64 &&& Int64.toUInt64 63)).toInt64) &&& 3689348814741910323)) + (((((p0 - (((p0.toUInt64 >>> ((1 : Int32).toInt64.toUInt64 &&& Int64.toUInt64 63)).toInt64) &&& 6148914691236517205)) &&& 3689348814741910323) + ((((p0 - (((p0.toUInt64 >>> ((1 : Int32).toInt64.toUInt64 &&& Int64.toUInt64 63)).toInt64) &&& 6148914691236517205)).toUInt64 >>> ((2 : Int32).toInt64.toUInt64 &&& Int64.toUInt64 63)).toInt64) &&& 3689348814741910323)).toUInt64 >>> ((4 : Int32).toInt64.toUInt64 &&& Int64.toUInt64 63)).toInt64)) &&& 1085102592571150095) + (((((((p0 - (((p0.toUInt64 >>> ((1 : Int32).toInt64.toUInt64 &&& Int64.toUInt64 63)).toInt64) &&& 6148914691236517205)) &&& 3689348814741910323) + ((((p0 - (((p0.toUInt64 >>> ((1 : Int32).toInt64.toUInt64 &&& Int64.toUInt64 63)).toInt64) &&& 6148914691236517205)).toUInt64 >>> ((2 : Int32).toInt64.toUInt64 &&& Int64.toUInt64 63)).toInt64) &&& 3689348814741910323)) + (((((p0 - (((p0.toUInt64 >>> ((1 : Int32).toInt64.toUInt64 &&& Int64.toUInt64 63)).toInt64) &&& 6148914691236517205)) &&& 3689348814741910323) + ((((p0 - (((p0.toUInt64 >>> ((1 : Int32).toInt64.toUInt64 &&& Int64.toUInt64 63)).toInt64) &&& 6148914691236517205)).toUInt64 >>> ((2 : Int32).toInt64.toUInt64 &&& Int64.toUInt64 63)).toInt64) &&& 3689348814741910323)).toUInt64 >>> ((4 : Int32).toInt64.toUInt64 &&& Int64.toUInt64 63)).toInt64)) &&& 1085102592571150095).toUInt64 >>> ((8 : Int32).toInt64.toUInt64 &&& Int64.toUInt64 63)).toInt64)))]) rfl (by decide) rfl dJ13_bitCount_95d88_40 ?_
  refine fr_lload_n (pc := 41) 0 rfl rfl dJ13_bitCount_95d88_41 ?_
  refine fr_lload_n (pc := 42) 0 rfl rfl dJ13_bitCount_95d88_42 ?_
  refine fr_bipush (pc := 43) 16 (by decide) dJ13_bitCount_95d88_43 ?_
  refine fr_lushr (pc := 45) dJ13_bitCount_95d88_45 ?_
  refine fr_ladd (pc := 46) dJ13_bitCount_95d88_46 ?_
  refine fr_lstore_n (pc := 47) (lv' := [(0, .long (((((((p0 - (((p0.toUInt64 >>> ((1 : Int32).toInt64.toUInt64 &&& Int64.toUInt64 63)).toInt64) &&& 6148914691236517205)) &&& 3689348814741910323) + ((((p0 - (((p0.toUInt64 >>> ((1 : Int32).toInt64.toUInt64 &&& Int64.toUInt64 63)).toInt64) &&& 6148914691236517205)).toUInt64 >>> ((2 : Int32).toInt64.toUInt64 &&& Int64.toUInt64 63)).toInt64) &&& 3689348814741910323)) + (((((p0 - (((p0.toUInt64 >>> ((1 : Int32).toInt64.toUInt64 &&& Int64.toUInt64 63)).toInt64) &&& 6148914691236517205)) &&& 3689348814741910323) + ((((p0 - (((p0.toUInt64 >>> ((1 : Int32).toInt64.toUInt64 &&& Int64.toUInt64 63)).toInt64) &&& 6148914691236517205)).toUInt64 >>> ((2 : Int32).toInt64.toUInt64 &&& Int64.toUInt64 63)).toInt64) &&& 3689348814741910323)).toUInt64 >>> ((4 : Int32).toInt64.toUInt64 &&& Int64.toUInt64 63)).toInt64)) &&& 1085102592571150095) + (((((((p0 - (((p0.toUInt64 >>> ((1 : Int32).toInt64.toUInt64 &&& Int64.toUInt64 63)).toInt64) &&& 6148914691236517205)) &&& 3689348814741910323) + ((((p0 - (((p0.toUInt64 >>> ((1 : Int32).toInt64.toUInt64 &&& Int64.toUInt64 63)).toInt64) &&& 6148914691236517205)).toUInt64 >>> ((2 : Int32).toInt64.toUInt64 &&& Int64.toUInt64 63)).toInt64) &&& 3689348814741910323)) + (((((p0 - (((p0.toUInt64 >>> ((1 : Int32).toInt64.toUInt64 &&& Int64.toUInt64 63)).toInt64) &&& 6148914691236517205)) &&& 3689348814741910323) + ((((p0 - (((p0.toUInt64 >>> ((1 : Int32).toInt64.toUInt64 &&& Int64.toUInt64 63)).toInt64) &&& 6148914691236517205)).toUInt64 >>> ((2 : Int32).toInt64.toUInt64 &&& Int64.toUInt64 63)).toInt64) &&& 3689348814741910323)).toUInt64 >>> ((4 : Int32).toInt64.toUInt64 &&& Int64.toUInt64 63)).toInt64)) &&& 1085102592571150095).toUInt64 >>> ((8 : Int32).toInt64.toUInt64 &&& Int64.toUInt64 63)).toInt64)) + ((((((((p0 - (((p0.toUInt64 >>> ((1 : Int32).toInt64.toUInt64 &&& Int64.toUInt64 63)).toInt64) &&& 6148914691236517205)) &&& 3689348814741910323) + ((((p0 - (((p0.toUInt64 >>> ((1 : Int32).toInt64.toUInt64 &&& Int64.toUInt64 63)).toInt64) &&& 6148914691236517205)).toUInt64 >>> ((2 : Int32).toInt64.toUInt64 &&& Int64.toUInt64 63)).toInt64) &&& 3689348814741910323)) + (((((p0 - (((p0.toUInt64 >>> ((1 : Int32).toInt64.toUInt64 &&& Int64.toUInt64 63)).toInt64) &&& 6148914691236517205)) &&& 3689348814741910323) + ((((p0 - (((p0.toUInt64 >>> ((1 : Int32).toInt64.toUInt64 &&& Int64.toUInt64 63)).toInt64) &&& 6148914691236517205)).toUInt64 >>> ((2 : Int32).toInt64.toUInt64 &&& Int64.toUInt64 63)).toInt64) &&& 3689348814741910323)).toUInt64 >>> ((4 : Int32).toInt64.toUInt64 &&& Int64.toUInt64 63)).toInt64)) &&& 1085102592571150095) + (((((((p0 - (((p0.toUInt64 >>> ((1 : Int32).toInt64.toUInt64 &&& Int64.toUInt64 63)).toInt64) &&& 6148914691236517205)) &&& 3689348814741910323) + ((((p0 - (((p0.toUInt64 >>> ((1 : Int32).toInt64.toUInt64 &&& Int64.toUInt64 63)).toInt64) &&& 6148914691236517205)).toUInt64 >>> ((2 : Int32).toInt64.toUInt64 &&& Int64.toUInt64 63)).toInt64) &&& 3689348814741910323)) + (((((p0 - (((p0.toUInt64 >>> ((1 : Int32).toInt64.toUInt64 &&& Int64.toUInt64 63)).toInt64) &&& 6148914691236517205)) &&& 3689348814741910323) + ((((p0 - (((p0.toUInt64 >>> ((1 : Int32).toInt64.toUInt64 &&& Int64.toUInt64 63)).toInt64) &&& 6148914691236517205)).toUInt64 >>> ((2 : Int32).toInt64.toUInt64 &&& Int64.toUInt64 63)).toInt64) &&& 3689348814741910323)).toUInt64 >>> ((4 : Int32).toInt64.toUInt64 &&& Int64.toUInt64 63)).toInt64)) &&& 1085102592571150095).toUInt64 >>> ((8 : Int32).toInt64.toUInt64 &&& Int64.toUInt64 63)).toInt64)).toUInt64 >>> ((16 : Int32).toInt64.toUInt64 &&& Int64.toUInt64 63)).toInt64)))]) rfl (by decide) rfl dJ13_bitCount_95d88_47 ?_
  refine fr_lload_n (pc := 48) 0 rfl rfl dJ13_bitCount_95d88_48 ?_
  refine fr_lload_n (pc := 49) 0 rfl rfl dJ13_bitCount_95d88_49 ?_
  refine fr_bipush (pc := 50) 32 (by decide) dJ13_bitCount_95d88_50 ?_
  refine fr_lushr (pc := 52) dJ13_bitCount_95d88_52 ?_
  refine fr_ladd (pc := 53) dJ13_bitCount_95d88_53 ?_
  refine fr_lstore_n (pc := 54) (lv' := [(0, .long ((((((((p0 - (((p0.toUInt64 >>> ((1 : Int32).toInt64.toUInt64 &&& Int64.toUInt64 63)).toInt64) &&& 6148914691236517205)) &&& 3689348814741910323) + ((((p0 - (((p0.toUInt64 >>> ((1 : Int32).toInt64.toUInt64 &&& Int64.toUInt64 63)).toInt64) &&& 6148914691236517205)).toUInt64 >>> ((2 : Int32).toInt64.toUInt64 &&& Int64.toUInt64 63)).toInt64) &&& 3689348814741910323)) + (((((p0 - (((p0.toUInt64 >>> ((1 : Int32).toInt64.toUInt64 &&& Int64.toUInt64 63)).toInt64) &&& 6148914691236517205)) &&& 3689348814741910323) + ((((p0 - (((p0.toUInt64 >>> ((1 : Int32).toInt64.toUInt64 &&& Int64.toUInt64 63)).toInt64) &&& 6148914691236517205)).toUInt64 >>> ((2 : Int32).toInt64.toUInt64 &&& Int64.toUInt64 63)).toInt64) &&& 3689348814741910323)).toUInt64 >>> ((4 : Int32).toInt64.toUInt64 &&& Int64.toUInt64 63)).toInt64)) &&& 1085102592571150095) + (((((((p0 - (((p0.toUInt64 >>> ((1 : Int32).toInt64.toUInt64 &&& Int64.toUInt64 63)).toInt64) &&& 6148914691236517205)) &&& 3689348814741910323) + ((((p0 - (((p0.toUInt64 >>> ((1 : Int32).toInt64.toUInt64 &&& Int64.toUInt64 63)).toInt64) &&& 6148914691236517205)).toUInt64 >>> ((2 : Int32).toInt64.toUInt64 &&& Int64.toUInt64 63)).toInt64) &&& 3689348814741910323)) + (((((p0 - (((p0.toUInt64 >>> ((1 : Int32).toInt64.toUInt64 &&& Int64.toUInt64 63)).toInt64) &&& 6148914691236517205)) &&& 3689348814741910323) + ((((p0 - (((p0.toUInt64 >>> ((1 : Int32).toInt64.toUInt64 &&& Int64.toUInt64 63)).toInt64) &&& 6148914691236517205)).toUInt64 >>> ((2 : Int32).toInt64.toUInt64 &&& Int64.toUInt64 63)).toInt64) &&& 3689348814741910323)).toUInt64 >>> ((4 : Int32).toInt64.toUInt64 &&& Int64.toUInt64 63)).toInt64)) &&& 1085102592571150095).toUInt64 >>> ((8 : Int32).toInt64.toUInt64 &&& Int64.toUInt64 63)).toInt64)) + ((((((((p0 - (((p0.toUInt64 >>> ((1 : Int32).toInt64.toUInt64 &&& Int64.toUInt64 63)).toInt64) &&& 6148914691236517205)) &&& 3689348814741910323) + ((((p0 - (((p0.toUInt64 >>> ((1 : Int32).toInt64.toUInt64 &&& Int64.toUInt64 63)).toInt64) &&& 6148914691236517205)).toUInt64 >>> ((2 : Int32).toInt64.toUInt64 &&& Int64.toUInt64 63)).toInt64) &&& 3689348814741910323)) + (((((p0 - (((p0.toUInt64 >>> ((1 : Int32).toInt64.toUInt64 &&& Int64.toUInt64 63)).toInt64) &&& 6148914691236517205)) &&& 3689348814741910323) + ((((p0 - (((p0.toUInt64 >>> ((1 : Int32).toInt64.toUInt64 &&& Int64.toUInt64 63)).toInt64) &&& 6148914691236517205)).toUInt64 >>> ((2 : Int32).toInt64.toUInt64 &&& Int64.toUInt64 63)).toInt64) &&& 3689348814741910323)).toUInt64 >>> ((4 : Int32).toInt64.toUInt64 &&& Int64.toUInt64 63)).toInt64)) &&& 1085102592571150095) + (((((((p0 - (((p0.toUInt64 >>> ((1 : Int32).toInt64.toUInt64 &&& Int64.toUInt64 63)).toInt64) &&& 6148914691236517205)) &&& 3689348814741910323) + ((((p0 - (((p0.toUInt64 >>> ((1 : Int32).toInt64.toUInt64 &&& Int64.toUInt64 63)).toInt64) &&& 6148914691236517205)).toUInt64 >>> ((2 : Int32).toInt64.toUInt64 &&& Int64.toUInt64 63)).toInt64) &&& 3689348814741910323)) + (((((p0 - (((p0.toUInt64 >>> ((1 : Int32).toInt64.toUInt64 &&& Int64.toUInt64 63)).toInt64) &&& 6148914691236517205)) &&& 3689348814741910323) + ((((p0 - (((p0.toUInt64 >>> ((1 : Int32).toInt64.toUInt64 &&& Int64.toUInt64 63)).toInt64) &&& 6148914691236517205)).toUInt64 >>> ((2 : Int32).toInt64.toUInt64 &&& Int64.toUInt64 63)).toInt64) &&& 3689348814741910323)).toUInt64 >>> ((4 : Int32).toInt64.toUInt64 &&& Int64.toUInt64 63)).toInt64)) &&& 1085102592571150095).toUInt64 >>> ((8 : Int32).toInt64.toUInt64 &&& Int64.toUInt64 63)).toInt64)).toUInt64 >>> ((16 : Int32).toInt64.toUInt64 &&& Int64.toUInt64 63)).toInt64)) + (((((((((p0 - (((p0.toUInt64 >>> ((1 : Int32).toInt64.toUInt64 &&& Int64.toUInt64 63)).toInt64) &&& 6148914691236517205)) &&& 3689348814741910323) + ((((p0 - (((p0.toUInt64 >>> ((1 : Int32).toInt64.toUInt64 &&& Int64.toUInt64 63)).toInt64) &&& 6148914691236517205)).toUInt64 >>> ((2 : Int32).toInt64.toUInt64 &&& Int64.toUInt64 63)).toInt64) &&& 3689348814741910323)) + (((((p0 - (((p0.toUInt64 >>> ((1 : Int32).toInt64.toUInt64 &&& Int64.toUInt64 63)).toInt64) &&& 6148914691236517205)) &&& 3689348814741910323) + ((((p0 - (((p0.toUInt64 >>> ((1 : Int32).toInt64.toUInt64 &&& Int64.toUInt64 63)).toInt64) &&& 6148914691236517205)).toUInt64 >>> ((2 : Int32).toInt64.toUInt64 &&& Int64.toUInt64 63)).toInt64) &&& 3689348814741910323)).toUInt64 >>> ((4 : Int32).toInt64.toUInt64 &&& Int64.toUInt64 63)).toInt64)) &&& 1085102592571150095) + (((((((p0 - (((p0.toUInt64 >>> ((1 : Int32).toInt64.toUInt64 &&& Int64.toUInt64 63)).toInt64) &&& 6148914691236517205)) &&& 3689348814741910323) + ((((p0 - (((p0.toUInt64 >>> ((1 : Int32).toInt64.toUInt64 &&& Int64.toUInt64 63)).toInt64) &&& 6148914691236517205)).toUInt64 >>> ((2 : Int32).toInt64.toUInt64 &&& Int64.toUInt64 63)).toInt64) &&& 3689348814741910323)) + (((((p0 - (((p0.toUInt64 >>> ((1 : Int32).toInt64.toUInt64 &&& Int64.toUInt64 63)).toInt64) &&& 6148914691236517205)) &&& 3689348814741910323) + ((((p0 - (((p0.toUInt64 >>> ((1 : Int32).toInt64.toUInt64 &&& Int64.toUInt64 63)).toInt64) &&& 6148914691236517205)).toUInt64 >>> ((2 : Int32).toInt64.toUInt64 &&& Int64.toUInt64 63)).toInt64) &&& 3689348814741910323)).toUInt64 >>> ((4 : Int32).toInt64.toUInt64 &&& Int64.toUInt64 63)).toInt64)) &&& 1085102592571150095).toUInt64 >>> ((8 : Int32).toInt64.toUInt64 &&& Int64.toUInt64 63)).toInt64)) + ((((((((p0 - (((p0.toUInt64 >>> ((1 : Int32).toInt64.toUInt64 &&& Int64.toUInt64 63)).toInt64) &&& 6148914691236517205)) &&& 3689348814741910323) + ((((p0 - (((p0.toUInt64 >>> ((1 : Int32).toInt64.toUInt64 &&& Int64.toUInt64 63)).toInt64) &&& 6148914691236517205)).toUInt64 >>> ((2 : Int32).toInt64.toUInt64 &&& Int64.toUInt64 63)).toInt64) &&& 3689348814741910323)) + (((((p0 - (((p0.toUInt64 >>> ((1 : Int32).toInt64.toUInt64 &&& Int64.toUInt64 63)).toInt64) &&& 6148914691236517205)) &&& 3689348814741910323) + ((((p0 - (((p0.toUInt64 >>> ((1 : Int32).toInt64.toUInt64 &&& Int64.toUInt64 63)).toInt64) &&& 6148914691236517205)).toUInt64 >>> ((2 : Int32).toInt64.toUInt64 &&& Int64.toUInt64 63)).toInt64) &&& 3689348814741910323)).toUInt64 >>> ((4 : Int32).toInt64.toUInt64 &&& Int64.toUInt64 63)).toInt64)) &&& 1085102592571150095) + (((((((p0 - (((p0.toUInt64 >>> ((1 : Int32).toInt64.toUInt64 &&& Int64.toUInt64 63)).toInt64) &&& 6148914691236517205)) &&& 3689348814741910323) + ((((p0 - (((p0.toUInt64 >>> ((1 : Int32).toInt64.toUInt64 &&& Int64.toUInt64 63)).toInt64) &&& 6148914691236517205)).toUInt64 >>> ((2 : Int32).toInt64.toUInt64 &&& Int64.toUInt64 63)).toInt64) &&& 3689348814741910323)) + (((((p0 - (((p0.toUInt64 >>> ((1 : Int32).toInt64.toUInt64 &&& Int64.toUInt64 63)).toInt64) &&& 6148914691236517205)) &&& 3689348814741910323) + ((((p0 - (((p0.toUInt64 >>> ((1 : Int32).toInt64.toUInt64 &&& Int64.toUInt64 63)).toInt64) &&& 6148914691236517205)).toUInt64 >>> ((2 : Int32).toInt64.toUInt64 &&& Int64.toUInt64 63)).toInt64) &&& 3689348814741910323)).toUInt64 >>> ((4 : Int32).toInt64.toUInt64 &&& Int64.toUInt64 63)).toInt64)) &&& 1085102592571150095).toUInt64 >>> ((8 : Int32).toInt64.toUInt64 &&& Int64.toUInt64 63)).toInt64)).toUInt64 >>> ((16 : Int32).toInt64.toUInt64 &&& Int64.toUInt64 63)).toInt64)).toUInt64 >>> ((32 : Int32).toInt64.toUInt64 &&& Int64.toUInt64 63)).toInt64)))]) rfl (by decide) rfl dJ13_bitCount_95d88_54 ?_
  refine fr_lload_n (pc := 55) 0 rfl rfl dJ13_bitCount_95d88_55 ?_
  refine fr_l2i (pc := 56) dJ13_bitCount_95d88_56 ?_
  refine fr_bipush (pc := 57) 127 (by decide) dJ13_bitCount_95d88_57 ?_
  refine fr_iand (pc := 59) dJ13_bitCount_95d88_59 ?_
  exact fr_iret (pc := 60) dJ13_bitCount_95d88_60 rfl ⟨Nat.le_refl 0, Nat.le_refl 0⟩ hW
set_option maxHeartbeats 4000000 in
set_option maxRecDepth 100000 in
theorem q_X8_rows {g : GG} {σ : Hs} {post : Option Value → Hs → Prop} (r0 : Nat) (hW : FL σ r0 8 1 (fun l1 => Do g M_J13_bitCount_95d88 0 0 [.long l1] σ (kI (fun i3 s2 => post (some (.int i3)) s2)))) : Do g M_X8_rows 0 0 [.ref r0] σ post := by
  refine Do.of (by decide +kernel) (Nat.le_of_ble_eq_true rfl) ?_
  show Fr g M_X8_rows (0, 0, 0, 0) [(0, .ref r0)] [] 0 σ post
  refine fr_aload_n (pc := 0) 0 rfl rfl dX8_rows_0 ?_
  refine fr_getL (pc := 1) (T := TX8) (k := 1) kc_X8 (by decide) w_596 dX8_rows_1 hW (fun l1 hW => ?_)
  refine fr_callS_I (pc := 4) (As := [.long l1]) (st := []) wd_J13_bitCount_95d88 w_666 ok_J13_bitCount_95d88 (by decide) rfl (Nat.le_of_ble_eq_true rfl) dX8_rows_4 ⟨Nat.le_refl 0, Nat.le_refl 0⟩ hW (fun i3 s2 hW => ?_)
  exact fr_iret (pc := 7) dX8_rows_7 rfl ⟨Nat.le_refl 0, Nat.le_refl 0⟩ hW
