def J_L_key_28 (g : GG) (post : Option Value → Hs → Prop) (σ : Hs) (v0 : Int32) (v1 : Int32) (v2 : Int32) (v3 : Int32) (v4 : Int32) : Prop := Fr g M_L_key (0, 0, 0, 0) [(0, .int v0), (1, .int v1), (2, .int v2), (3, .int v3), (4, .int v4)] [] 28 σ post
def J_L_key_64 (g : GG) (post : Option Value → Hs → Prop) (σ : Hs) (v0 : Int32) (v1 : Int32) (v2 : Int32) (t0 : Int32) : Prop := Fr g M_L_key (0, 0, 0, 0) [(0, .int v0), (1, .int v1), (2, .int v2)] [.int t0] 64 σ post
set_option maxHeartbeats 4000000 in
set_option maxRecDepth 100000 in
theorem q_L_key {g : GG} {σ : Hs} {post : Option Value → Hs → Prop} (p0 : Int32) (hW : J_L_key_28 g post σ p0 ((1 + (p0 - p0 / 4 * 4))) ((1 + (((1 + (p0 - p0 / 4 * 4)) + ((p0 / 4) - (p0 / 4) / 3 * 3)) - ((1 + (p0 - p0 / 4 * 4)) + ((p0 / 4) - (p0 / 4) / 3 * 3)) / 4 * 4))) (((10 - (1 + (p0 - p0 / 4 * 4))) - (1 + (((1 + (p0 - p0 / 4 * 4)) + ((p0 / 4) - (p0 / 4) / 3 * 3)) - ((1 + (p0 - p0 / 4 * 4)) + ((p0 / 4) - (p0 / 4) / 3 * 3)) / 4 * 4)))) 1 ) : Do g M_L_key 0 0 [.int p0] σ post := by
  refine Do.of (by decide +kernel) (Nat.le_of_ble_eq_true rfl) ?_
  show Fr g M_L_key (0, 0, 0, 0) [(0, .int p0)] [] 0 σ post
  refine fr_iconst (pc := 0) 1 (by decide) dL_key_0 ?_
  refine fr_iload_n (pc := 1) 0 rfl rfl dL_key_1 ?_
  refine fr_iconst (pc := 2) 4 (by decide) dL_key_2 ?_
  refine fr_irem (pc := 3) (by decide) dL_key_3 ?_
  refine fr_iadd (pc := 4) dL_key_4 ?_
  refine fr_istore_n (pc := 5) (lv' := [(1, .int (1 + (p0 - p0 / 4 * 4))), (0, .int p0)]) rfl (by decide) rfl dL_key_5 ?_
  refine fr_iconst (pc := 6) 1 (by decide) dL_key_6 ?_
  refine fr_iload_n (pc := 7) 0 rfl rfl dL_key_7 ?_
  refine fr_iload_n (pc := 8) 1 rfl rfl dL_key_8 ?_
  refine fr_iconst (pc := 9) 4 (by decide) dL_key_9 ?_
  refine fr_idiv (pc := 10) (by decide) dL_key_10 ?_
  refine fr_iconst (pc := 11) 3 (by decide) dL_key_11 ?_
  refine fr_irem (pc := 12) (by decide) dL_key_12 ?_
  refine fr_iadd (pc := 13) dL_key_13 ?_
  refine fr_iconst (pc := 14) 4 (by decide) dL_key_14 ?_
  refine fr_irem (pc := 15) (by decide) dL_key_15 ?_
  refine fr_iadd (pc := 16) dL_key_16 ?_
  refine fr_istore_n (pc := 17) (lv' := [(2, .int (1 + (((1 + (p0 - p0 / 4 * 4)) + ((p0 / 4) - (p0 / 4) / 3 * 3)) - ((1 + (p0 - p0 / 4 * 4)) + ((p0 / 4) - (p0 / 4) / 3 * 3)) / 4 * 4))), (1, .int (1 + (p0 - p0 / 4 * 4))), (0, .int p0)]) rfl (by decide) rfl dL_key_17 ?_
  refine fr_bipush (pc := 18) 10 (by decide) dL_key_18 ?_
  refine fr_iload_n (pc := 20) 1 rfl rfl dL_key_20 ?_
  refine fr_isub (pc := 21) dL_key_21 ?_
  refine fr_iload_n (pc := 22) 0 rfl rfl dL_key_22 ?_
  refine fr_isub (pc := 23) dL_key_23 ?_
  refine fr_istore_n (pc := 24) (lv' := [(3, .int ((10 - (1 + (p0 - p0 / 4 * 4))) - (1 + (((1 + (p0 - p0 / 4 * 4)) + ((p0 / 4) - (p0 / 4) / 3 * 3)) - ((1 + (p0 - p0 / 4 * 4)) + ((p0 / 4) - (p0 / 4) / 3 * 3)) / 4 * 4)))), (2, .int (1 + (((1 + (p0 - p0 / 4 * 4)) + ((p0 / 4) - (p0 / 4) / 3 * 3)) - ((1 + (p0 - p0 / 4 * 4)) + ((p0 / 4) - (p0 / 4) / 3 * 3)) / 4 * 4))), (1, .int (1 + (p0 - p0 / 4 * 4))), (0, .int p0)]) rfl (by decide) rfl dL_key_24 ?_
  refine fr_iconst (pc := 25) 1 (by decide) dL_key_25 ?_
  refine fr_istore (pc := 26) (lv' := [(4, .int 1), (3, .int ((10 - (1 + (p0 - p0 / 4 * 4))) - (1 + (((1 + (p0 - p0 / 4 * 4)) + ((p0 / 4) - (p0 / 4) / 3 * 3)) - ((1 + (p0 - p0 / 4 * 4)) + ((p0 / 4) - (p0 / 4) / 3 * 3)) / 4 * 4)))), (2, .int (1 + (((1 + (p0 - p0 / 4 * 4)) + ((p0 / 4) - (p0 / 4) / 3 * 3)) - ((1 + (p0 - p0 / 4 * 4)) + ((p0 / 4) - (p0 / 4) / 3 * 3)) / 4 * 4))), (1, .int (1 + (p0 - p0 / 4 * 4))), (0, .int p0)]) (by decide) rfl dL_key_26 ?_
  exact fr_sub [4, 3, 2, 1, 0] rfl hW
set_option maxHeartbeats 4000000 in
set_option maxRecDepth 100000 in
theorem q_L_key_28 {g : GG} {σ : Hs} {post : Option Value → Hs → Prop} (v0 : Int32) (v1 : Int32) (v2 : Int32) (v3 : Int32) (v4 : Int32) (hW : (v4 = v1 → J_L_key_28 g post σ v0 v1 v2 v3 ((v4 + 1)) ) ∧ (¬ v4 = v1 → (¬ v4 = v2 → (¬ ((v0 / 64) - (v0 / 64) / 2 * 2) = 0 → J_L_key_64 g post σ v0 v1 v2 ((v3 - v4))) ∧ (((v0 / 64) - (v0 / 64) / 2 * 2) = 0 → J_L_key_64 g post σ v0 v1 v2 v4)) ∧ (v4 = v2 → J_L_key_28 g post σ v0 v1 v2 v3 ((v4 + 1)) ))) : J_L_key_28 g post σ v0 v1 v2 v3 v4 := by
  show Fr g M_L_key (0, 0, 0, 0) [(0, .int v0), (1, .int v1), (2, .int v2), (3, .int v3), (4, .int v4)] [] 28 σ post
  refine fr_iload (pc := 28) 4 rfl dL_key_28 ?_
  refine fr_iload_n (pc := 30) 1 rfl rfl dL_key_30 ?_
  refine fr_icmp_eq (pc := 31) (tgt := 40) (by decide) dL_key_31 hW (fun hW => ?_) (fun hW => ?_)
  · refine fr_iinc (pc := 40) (lv' := [(4, .int (v4 + 1)), (0, .int v0), (1, .int v1), (2, .int v2), (3, .int v3)]) (v4 + 1) 4 rfl (congrArg (fun z => v4 + z) (by decide)) (by decide) rfl dL_key_40 ?_
    refine fr_goto (pc := 43) (tgt := 28) (by decide) dL_key_43 ?_
    exact fr_sub [1, 2, 3, 4, 0] rfl hW
  · refine fr_iload (pc := 34) 4 rfl dL_key_34 ?_
    refine fr_iload_n (pc := 36) 2 rfl rfl dL_key_36 ?_
    refine fr_icmp_ne (pc := 37) (tgt := 46) (by decide) dL_key_37 hW (fun hW => ?_) (fun hW => ?_)
    · refine fr_iload_n (pc := 46) 0 rfl rfl dL_key_46 ?_
      refine fr_bipush (pc := 47) 64 (by decide) dL_key_47 ?_
      refine fr_idiv (pc := 49) (by decide) dL_key_49 ?_
      refine fr_iconst (pc := 50) 2 (by decide) dL_key_50 ?_
      refine fr_irem (pc := 51) (by decide) dL_key_51 ?_
      refine fr_if_ne (pc := 52) (tgt := 60) (by decide) dL_key_52 hW (fun hW => ?_) (fun hW => ?_)
      · refine fr_iload_n (pc := 60) 3 rfl rfl dL_key_60 ?_
        refine fr_iload (pc := 61) 4 rfl dL_key_61 ?_
        refine fr_isub (pc := 63) dL_key_63 ?_
        exact fr_sub [0, 1, 2] rfl hW
      · refine fr_iload (pc := 55) 4 rfl dL_key_55 ?_
        refine fr_goto (pc := 57) (tgt := 64) (by decide) dL_key_57 ?_
        exact fr_sub [0, 1, 2] rfl hW
    · refine fr_iinc (pc := 40) (lv' := [(4, .int (v4 + 1)), (0, .int v0), (1, .int v1), (2, .int v2), (3, .int v3)]) (v4 + 1) 4 rfl (congrArg (fun z => v4 + z) (by decide)) (by decide) rfl dL_key_40 ?_
      refine fr_goto (pc := 43) (tgt := 28) (by decide) dL_key_43 ?_
      exact fr_sub [1, 2, 3, 4, 0] rfl hW
set_option maxHeartbeats 4000000 in
set_option maxRecDepth 100000 in
theorem q_L_key_64 {g : GG} {σ : Hs} {post : Option Value → Hs → Prop} (v0 : Int32) (v1 : Int32) (v2 : Int32) (t0 : Int32) (hW : (¬ ((v0 / 16) - (v0 / 16) / 4 * 4) = 0 → (¬ ((v0 / 16) - (v0 / 16) / 4 * 4) = 1 → post (some (.int ((5 * v1) + v2))) σ) ∧ (((v0 / 16) - (v0 / 16) / 4 * 4) = 1 → post (some (.int (((25 * v1) + (5 * v2)) + t0))) σ)) ∧ (((v0 / 16) - (v0 / 16) / 4 * 4) = 0 → post (some (.int v1)) σ)) : J_L_key_64 g post σ v0 v1 v2 t0 := by
  show Fr g M_L_key (0, 0, 0, 0) [(0, .int v0), (1, .int v1), (2, .int v2)] [.int t0] 64 σ post
  refine fr_istore (pc := 64) (lv' := [(4, .int t0), (0, .int v0), (1, .int v1), (2, .int v2)]) (by decide) rfl dL_key_64 ?_
  refine fr_iload_n (pc := 66) 1 rfl rfl dL_key_66 ?_
  refine fr_bipush (pc := 67) 16 (by decide) dL_key_67 ?_
  refine fr_idiv (pc := 69) (by decide) dL_key_69 ?_
  refine fr_iconst (pc := 70) 4 (by decide) dL_key_70 ?_
  refine fr_irem (pc := 71) (by decide) dL_key_71 ?_
  refine fr_if_ne (pc := 72) (tgt := 79) (by decide) dL_key_72 hW (fun hW => ?_) (fun hW => ?_)
  · refine fr_iload_n (pc := 79) 1 rfl rfl dL_key_79 ?_
    refine fr_bipush (pc := 80) 16 (by decide) dL_key_80 ?_
    refine fr_idiv (pc := 82) (by decide) dL_key_82 ?_
    refine fr_iconst (pc := 83) 4 (by decide) dL_key_83 ?_
    refine fr_irem (pc := 84) (by decide) dL_key_84 ?_
    refine fr_iconst (pc := 85) 1 (by decide) dL_key_85 ?_
    refine fr_icmp_ne (pc := 86) (tgt := 103) (by decide) dL_key_86 hW (fun hW => ?_) (fun hW => ?_)
    · refine fr_iconst (pc := 103) 5 (by decide) dL_key_103 ?_
      refine fr_iload_n (pc := 104) 2 rfl rfl dL_key_104 ?_
      refine fr_imul (pc := 105) dL_key_105 ?_
      refine fr_iload_n (pc := 106) 3 rfl rfl dL_key_106 ?_
      refine fr_iadd (pc := 107) dL_key_107 ?_
      exact fr_iret (pc := 108) dL_key_108 rfl ⟨Nat.le_refl 0, Nat.le_refl 0⟩ hW
    · refine fr_bipush (pc := 89) 25 (by decide) dL_key_89 ?_
      refine fr_iload_n (pc := 91) 2 rfl rfl dL_key_91 ?_
      refine fr_imul (pc := 92) dL_key_92 ?_
      refine fr_iconst (pc := 93) 5 (by decide) dL_key_93 ?_
      refine fr_iload_n (pc := 94) 3 rfl rfl dL_key_94 ?_
      refine fr_imul (pc := 95) dL_key_95 ?_
      refine fr_iadd (pc := 96) dL_key_96 ?_
      refine fr_iload (pc := 97) 0 rfl dL_key_97 ?_
      refine fr_iadd (pc := 99) dL_key_99 ?_
      refine fr_goto (pc := 100) (tgt := 108) (by decide) dL_key_100 ?_
      exact fr_iret (pc := 108) dL_key_108 rfl ⟨Nat.le_refl 0, Nat.le_refl 0⟩ hW
  · refine fr_iload_n (pc := 75) 2 rfl rfl dL_key_75 ?_
    refine fr_goto (pc := 76) (tgt := 108) (by decide) dL_key_76 ?_
    exact fr_iret (pc := 108) dL_key_108 rfl ⟨Nat.le_refl 0, Nat.le_refl 0⟩ hW
set_option maxHeartbeats 4000000 in
set_option maxRecDepth 100000 in
theorem q_L_put {g : GG} {σ : Hs} {post : Option Value → Hs → Prop} (p0 : Nat) (p1 : Int32) (hW : Rc σ p0 11 ∧ Do g M_X11_letters 0 0 [.ref p0, .long p1.toInt64] σ (kI (fun i2 s1 => (i2 ≤ 0 → post (some (.int 0)) s1) ∧ (¬ i2 ≤ 0 → post (some (.int 1)) s1)))) : Do g M_L_put 0 0 [.ref p0, .int p1] σ post := by
  refine Do.of (by decide +kernel) (Nat.le_of_ble_eq_true rfl) ?_
  show Fr g M_L_put (0, 0, 0, 0) [(0, .ref p0), (1, .int p1)] [] 0 σ post
  refine fr_aload_n (pc := 0) 0 rfl rfl dL_put_0 ?_
  refine fr_iload_n (pc := 1) 1 rfl rfl dL_put_1 ?_
  refine fr_i2l (pc := 2) dL_put_2 ?_
  obtain ⟨hrc, hW⟩ := hW
  refine fr_callV_I (pc := 3) (As := [.long p1.toInt64]) (st := []) wd_X11_letters w_678 ok_X11_letters (by decide) rfl (Nat.le_of_ble_eq_true rfl) dL_put_3 ⟨Nat.le_refl 0, Nat.le_refl 0⟩ kc_X11 hrc hW (fun i2 s1 hW => ?_)
  refine fr_if_le (pc := 6) (tgt := 13) (by decide) dL_put_6 hW (fun hW => ?_) (fun hW => ?_)
  · refine fr_iconst (pc := 13) 0 (by decide) dL_put_13 ?_
    exact fr_zret (pc := 14) dL_put_14 rfl ⟨Nat.le_refl 0, Nat.le_refl 0⟩ ⟨rfl, hW⟩
  · refine fr_iconst (pc := 9) 1 (by decide) dL_put_9 ?_
    refine fr_goto (pc := 10) (tgt := 14) (by decide) dL_put_10 ?_
    exact fr_zret (pc := 14) dL_put_14 rfl ⟨Nat.le_refl 0, Nat.le_refl 0⟩ ⟨rfl, hW⟩
def J_L_ask_3 (g : GG) (post : Option Value → Hs → Prop) (cM sM kM nM : Nat) (σ : Hs) (a0 : Nat) (v1 : Int32) (v2 : Int32) (v3 : Int32) (a4 : Nat) (v5 : Int32) : Prop := Fr g M_L_ask (cM, sM, kM, nM) [(0, .ref a0), (1, .int v1), (2, .int v2), (3, .int v3), (4, .ref a4), (5, .int v5)] [] 3 σ post
def J_L_ask_51 (g : GG) (post : Option Value → Hs → Prop) (cM sM kM nM : Nat) (σ : Hs) (a0 : Nat) (v1 : Int32) (v2 : Int32) (v3 : Int32) (a4 : Nat) (v5 : Int32) (v6 : Int32) (v7 : Int32) : Prop := Fr g M_L_ask (cM, sM, kM, nM) [(0, .ref a0), (1, .int v1), (2, .int v2), (3, .int v3), (4, .ref a4), (5, .int v5), (6, .int v6), (7, .int v7)] [] 51 σ post
def J_L_ask_354 (g : GG) (post : Option Value → Hs → Prop) (cM sM kM nM : Nat) (σ : Hs) (a0 : Nat) (v1 : Int32) (v3 : Int32) (a4 : Nat) (v6 : Int32) (v7 : Int32) : Prop := Fr g M_L_ask (cM, sM, kM, nM) [(0, .ref a0), (1, .int v1), (3, .int v3), (4, .ref a4), (6, .int v6), (7, .int v7)] [] 354 σ post
def J_L_ask_202 (g : GG) (post : Option Value → Hs → Prop) (cM sM kM nM : Nat) (σ : Hs) (a0 : Nat) (v1 : Int32) (v2 : Int32) (v3 : Int32) (a4 : Nat) (v5 : Int32) (v7 : Int32) (v8 : Int32) (v9 : Int32) (v10 : Int32) (t0 : Int32) : Prop := Fr g M_L_ask (cM, sM, kM, nM) [(0, .ref a0), (1, .int v1), (2, .int v2), (3, .int v3), (4, .ref a4), (5, .int v5), (7, .int v7), (8, .int v8), (9, .int v9), (10, .int v10)] [.int t0] 202 σ post
def J_L_ask_118 (g : GG) (post : Option Value → Hs → Prop) (cM sM kM nM : Nat) (σ : Hs) (a0 : Nat) (v1 : Int32) (v2 : Int32) (v3 : Int32) (a4 : Nat) (v5 : Int32) (v7 : Int32) (v8 : Int32) (v9 : Int32) (v10 : Int32) : Prop := Fr g M_L_ask (cM, sM, kM, nM) [(0, .ref a0), (1, .int v1), (2, .int v2), (3, .int v3), (4, .ref a4), (5, .int v5), (7, .int v7), (8, .int v8), (9, .int v9), (10, .int v10)] [] 118 σ post
def J_L_ask_489 (g : GG) (post : Option Value → Hs → Prop) (cM sM kM nM : Nat) (σ : Hs) (a0 : Nat) (v1 : Int32) (v3 : Int32) (a4 : Nat) (v7 : Int32) (v8 : Int32) (t0 : Int32) : Prop := Fr g M_L_ask (cM, sM, kM, nM) [(0, .ref a0), (1, .int v1), (3, .int v3), (4, .ref a4), (7, .int v7), (8, .int v8)] [.int t0] 489 σ post
def J_L_ask_229 (g : GG) (post : Option Value → Hs → Prop) (cM sM kM nM : Nat) (σ : Hs) (a0 : Nat) (v1 : Int32) (v2 : Int32) (v3 : Int32) (a4 : Nat) (v5 : Int32) (v6 : Int32) (v7 : Int32) (v8 : Int32) (v9 : Int32) (v10 : Int32) (t0 : Int32) : Prop := Fr g M_L_ask (cM, sM, kM, nM) [(0, .ref a0), (1, .int v1), (2, .int v2), (3, .int v3), (4, .ref a4), (5, .int v5), (6, .int v6), (7, .int v7), (8, .int v8), (9, .int v9), (10, .int v10)] [.int t0] 229 σ post
def J_L_ask_154 (g : GG) (post : Option Value → Hs → Prop) (cM sM kM nM : Nat) (σ : Hs) (a0 : Nat) (v1 : Int32) (v2 : Int32) (v3 : Int32) (a4 : Nat) (v5 : Int32) (v7 : Int32) (v8 : Int32) (v9 : Int32) (v10 : Int32) (t0 : Int32) (t1 : Nat) : Prop := Fr g M_L_ask (cM, sM, kM, nM) [(0, .ref a0), (1, .int v1), (2, .int v2), (3, .int v3), (4, .ref a4), (5, .int v5), (7, .int v7), (8, .int v8), (9, .int v9), (10, .int v10)] [.int t0, .ref t1] 154 σ post
def J_L_ask_515 (g : GG) (post : Option Value → Hs → Prop) (cM sM kM nM : Nat) (σ : Hs) (a0 : Nat) (v1 : Int32) (v3 : Int32) (a4 : Nat) (v6 : Int32) (t0 : Int32) (t1 : Int32) (t2 : Int32) (t3 : Nat) : Prop := Fr g M_L_ask (cM, sM, kM, nM) [(0, .ref a0), (1, .int v1), (3, .int v3), (4, .ref a4), (6, .int v6)] [.int t0, .int t1, .int t2, .ref t3] 515 σ post
def J_L_ask_257 (g : GG) (post : Option Value → Hs → Prop) (cM sM kM nM : Nat) (σ : Hs) (a0 : Nat) (v1 : Int32) (v2 : Int32) (v3 : Int32) (a4 : Nat) (v5 : Int32) (v6 : Int32) (v7 : Int32) (v8 : Int32) (v11 : Int32) (t0 : Int32) : Prop := Fr g M_L_ask (cM, sM, kM, nM) [(0, .ref a0), (1, .int v1), (2, .int v2), (3, .int v3), (4, .ref a4), (5, .int v5), (6, .int v6), (7, .int v7), (8, .int v8), (11, .int v11)] [.int t0] 257 σ post
def J_L_ask_542 (g : GG) (post : Option Value → Hs → Prop) (cM sM kM nM : Nat) (σ : Hs) (a0 : Nat) (v3 : Int32) (a4 : Nat) (v6 : Int32) (t0 : Int32) (t1 : Int32) (t2 : Nat) : Prop := Fr g M_L_ask (cM, sM, kM, nM) [(0, .ref a0), (3, .int v3), (4, .ref a4), (6, .int v6)] [.int t0, .int t1, .ref t2] 542 σ post
def J_L_ask_298 (g : GG) (post : Option Value → Hs → Prop) (cM sM kM nM : Nat) (σ : Hs) (a0 : Nat) (v1 : Int32) (v2 : Int32) (v3 : Int32) (a4 : Nat) (v5 : Int32) (v6 : Int32) (v7 : Int32) (v8 : Int32) (v12 : Int32) (t0 : Int32) (t1 : Int32) (t2 : Nat) : Prop := Fr g M_L_ask (cM, sM, kM, nM) [(0, .ref a0), (1, .int v1), (2, .int v2), (3, .int v3), (4, .ref a4), (5, .int v5), (6, .int v6), (7, .int v7), (8, .int v8), (12, .int v12)] [.int t0, .int t1, .ref t2] 298 σ post
def J_L_ask_590 (g : GG) (post : Option Value → Hs → Prop) (cM sM kM nM : Nat) (σ : Hs) (a0 : Nat) (v3 : Int32) (t0 : Int32) : Prop := Fr g M_L_ask (cM, sM, kM, nM) [(0, .ref a0), (3, .int v3)] [.int t0] 590 σ post
set_option maxHeartbeats 4000000 in
set_option maxRecDepth 100000 in
theorem q_L_ask {g : GG} {σ : Hs} {post : Option Value → Hs → Prop} (cM sM : Nat) (p0 : Nat) (p1 : Int32) (p2 : Int32) (p3 : Int32) (p4 : Nat) (hW : J_L_ask_3 g post cM sM 0 0 σ p0 p1 p2 p3 p4 0 ) : Do g M_L_ask cM sM [.ref p0, .int p1, .int p2, .int p3, .ref p4] σ post := by
  refine Do.of (by decide +kernel) (Nat.le_of_ble_eq_true rfl) ?_
  show Fr g M_L_ask (cM, sM, 0, 0) [(0, .ref p0), (1, .int p1), (2, .int p2), (3, .int p3), (4, .ref p4)] [] 0 σ post
  refine fr_iconst (pc := 0) 0 (by decide) dL_ask_0 ?_
  refine fr_istore (pc := 1) (lv' := [(5, .int 0), (0, .ref p0), (1, .int p1), (2, .int p2), (3, .int p3), (4, .ref p4)]) (by decide) rfl dL_ask_1 ?_
  exact fr_sub [1, 2, 3, 4, 5, 0] rfl hW
set_option maxHeartbeats 4000000 in
set_option maxRecDepth 100000 in
theorem q_L_ask_3 {g : GG} {σ : Hs} {post : Option Value → Hs → Prop} (cM sM kM nM : Nat) (a0 : Nat) (v1 : Int32) (v2 : Int32) (v3 : Int32) (a4 : Nat) (v5 : Int32) (hW : (4 ≤ v5 → J_L_ask_51 g post cM sM kM nM σ a0 v1 v2 v3 a4 ((v1 - v1 / 4 * 4)) 1 0 ) ∧ (¬ 4 ≤ v5 → SI g σ a4 0 ((8 * v3) + v5) 0 (fun s1 => SI g s1 a4 0 (((8 * v3) + 4) + v5) 99 (fun s2 => J_L_ask_3 g post cM sM kM nM s2 a0 v1 v2 v3 a4 ((v5 + 1)) )))) : J_L_ask_3 g post cM sM kM nM σ a0 v1 v2 v3 a4 v5 := by
  show Fr g M_L_ask (cM, sM, kM, nM) [(0, .ref a0), (1, .int v1), (2, .int v2), (3, .int v3), (4, .ref a4), (5, .int v5)] [] 3 σ post
  refine fr_iload (pc := 3) 5 rfl dL_ask_3 ?_
  refine fr_iconst (pc := 5) 4 (by decide) dL_ask_5 ?_
  refine fr_icmp_ge (pc := 6) (tgt := 40) (by decide) dL_ask_6 hW (fun hW => ?_) (fun hW => ?_)
  · refine fr_iload_n (pc := 40) 1 rfl rfl dL_ask_40 ?_
    refine fr_iconst (pc := 41) 4 (by decide) dL_ask_41 ?_
    refine fr_irem (pc := 42) (by decide) dL_ask_42 ?_
    refine fr_istore (pc := 43) (lv' := [(5, .int (v1 - v1 / 4 * 4)), (0, .ref a0), (1, .int v1), (2, .int v2), (3, .int v3), (4, .ref a4)]) (by decide) rfl dL_ask_43 ?_
    refine fr_iconst (pc := 45) 1 (by decide) dL_ask_45 ?_
    refine fr_istore (pc := 46) (lv' := [(6, .int 1), (5, .int (v1 - v1 / 4 * 4)), (0, .ref a0), (1, .int v1), (2, .int v2), (3, .int v3), (4, .ref a4)]) (by decide) rfl dL_ask_46 ?_
    refine fr_iconst (pc := 48) 0 (by decide) dL_ask_48 ?_
    refine fr_istore (pc := 49) (lv' := [(7, .int 0), (6, .int 1), (5, .int (v1 - v1 / 4 * 4)), (0, .ref a0), (1, .int v1), (2, .int v2), (3, .int v3), (4, .ref a4)]) (by decide) rfl dL_ask_49 ?_
    exact fr_sub [3, 4, 5, 6, 7, 2, 1, 0] rfl hW
  · refine fr_aload (pc := 9) 4 rfl dL_ask_9 ?_
    refine fr_bipush (pc := 11) 8 (by decide) dL_ask_11 ?_
    refine fr_iload_n (pc := 13) 3 rfl rfl dL_ask_13 ?_
    refine fr_imul (pc := 14) dL_ask_14 ?_
    refine fr_iload (pc := 15) 5 rfl dL_ask_15 ?_
    refine fr_iadd (pc := 17) dL_ask_17 ?_
    refine fr_iconst (pc := 18) 0 (by decide) dL_ask_18 ?_
    refine fr_iast (pc := 19) dL_ask_19 hW (fun s1 hW => ?_)
    refine fr_aload (pc := 20) 4 rfl dL_ask_20 ?_
    refine fr_bipush (pc := 22) 8 (by decide) dL_ask_22 ?_
    refine fr_iload_n (pc := 24) 3 rfl rfl dL_ask_24 ?_
    refine fr_imul (pc := 25) dL_ask_25 ?_
    refine fr_iconst (pc := 26) 4 (by decide) dL_ask_26 ?_
    refine fr_iadd (pc := 27) dL_ask_27 ?_
    refine fr_iload (pc := 28) 5 rfl dL_ask_28 ?_
    refine fr_iadd (pc := 30) dL_ask_30 ?_
    refine fr_bipush (pc := 31) 99 (by decide) dL_ask_31 ?_
    refine fr_iast (pc := 33) dL_ask_33 hW (fun s2 hW => ?_)
    refine fr_iinc (pc := 34) (lv' := [(5, .int (v5 + 1)), (0, .ref a0), (1, .int v1), (2, .int v2), (3, .int v3), (4, .ref a4)]) (v5 + 1) 5 rfl (congrArg (fun z => v5 + z) (by decide)) (by decide) rfl dL_ask_34 ?_
    refine fr_goto (pc := 37) (tgt := 3) (by decide) dL_ask_37 ?_
    exact fr_sub [1, 2, 3, 4, 5, 0] rfl hW
set_option maxHeartbeats 4000000 in
set_option maxRecDepth 100000 in
theorem q_L_ask_51 {g : GG} {σ : Hs} {post : Option Value → Hs → Prop} (cM sM kM nM : Nat) (a0 : Nat) (v1 : Int32) (v2 : Int32) (v3 : Int32) (a4 : Nat) (v5 : Int32) (v6 : Int32) (v7 : Int32) (hW : (v5 ≤ v7 → J_L_ask_354 g post cM sM kM nM σ a0 v1 v3 a4 v6 0 ) ∧ (¬ v5 ≤ v7 → (v6 = 0 → J_L_ask_202 g post cM sM kM nM σ a0 v1 v2 v3 a4 v5 v7 (((v1 >>> ((2 + (2 * v7)) &&& 31)) &&& 3)) (((((v1 / 512) - (v1 / 512) / 3 * 3) + v7) - (((v1 / 512) - (v1 / 512) / 3 * 3) + v7) / 3 * 3)) (((v2 >>> ((5 * v7) &&& 31)) - (v2 >>> ((5 * v7) &&& 31)) / 23 * 23)) 0) ∧ (¬ v6 = 0 → (v7 = 0 → J_L_ask_118 g post cM sM kM nM σ a0 v1 v2 v3 a4 v5 v7 (((v1 >>> ((2 + (2 * v7)) &&& 31)) &&& 3)) (((((v1 / 512) - (v1 / 512) / 3 * 3) + v7) - (((v1 / 512) - (v1 / 512) / 3 * 3) + v7) / 3 * 3)) (((v2 >>> ((5 * v7) &&& 31)) - (v2 >>> ((5 * v7) &&& 31)) / 23 * 23)) ) ∧ (¬ v7 = 0 → ((kM) ≤ cM ∧ (nM) ≤ sM) ∧ Do g M_L_put 0 0 [.ref a0, .int 38] σ (kI (fun i4 s3 => (i4 = 0 → J_L_ask_202 g post cM sM kM nM s3 a0 v1 v2 v3 a4 v5 v7 (((v1 >>> ((2 + (2 * v7)) &&& 31)) &&& 3)) (((((v1 / 512) - (v1 / 512) / 3 * 3) + v7) - (((v1 / 512) - (v1 / 512) / 3 * 3) + v7) / 3 * 3)) (((v2 >>> ((5 * v7) &&& 31)) - (v2 >>> ((5 * v7) &&& 31)) / 23 * 23)) 0) ∧ (¬ i4 = 0 → J_L_ask_118 g post cM sM kM nM s3 a0 v1 v2 v3 a4 v5 v7 (((v1 >>> ((2 + (2 * v7)) &&& 31)) &&& 3)) (((((v1 / 512) - (v1 / 512) / 3 * 3) + v7) - (((v1 / 512) - (v1 / 512) / 3 * 3) + v7) / 3 * 3)) (((v2 >>> ((5 * v7) &&& 31)) - (v2 >>> ((5 * v7) &&& 31)) / 23 * 23)) ))))))) : J_L_ask_51 g post cM sM kM nM σ a0 v1 v2 v3 a4 v5 v6 v7 := by
  show Fr g M_L_ask (cM, sM, kM, nM) [(0, .ref a0), (1, .int v1), (2, .int v2), (3, .int v3), (4, .ref a4), (5, .int v5), (6, .int v6), (7, .int v7)] [] 51 σ post
  refine fr_iload (pc := 51) 7 rfl dL_ask_51 ?_
  refine fr_iload (pc := 53) 5 rfl dL_ask_53 ?_
  refine fr_icmp_ge (pc := 55) (tgt := 351) (by decide) dL_ask_55 hW (fun hW => ?_) (fun hW => ?_)
  · refine fr_iconst (pc := 351) 0 (by decide) dL_ask_351 ?_
    refine fr_istore (pc := 352) (lv' := [(7, .int 0), (0, .ref a0), (1, .int v1), (2, .int v2), (3, .int v3), (4, .ref a4), (5, .int v5), (6, .int v6)]) (by decide) rfl dL_ask_352 ?_
    exact fr_sub [1, 2, 4, 5, 7, 0] rfl hW
  · refine fr_iload_n (pc := 58) 1 rfl rfl dL_ask_58 ?_
    refine fr_iconst (pc := 59) 2 (by decide) dL_ask_59 ?_
    refine fr_iconst (pc := 60) 2 (by decide) dL_ask_60 ?_
    refine fr_iload (pc := 61) 7 rfl dL_ask_61 ?_
    refine fr_imul (pc := 63) dL_ask_63 ?_
    refine fr_iadd (pc := 64) dL_ask_64 ?_
    refine fr_ishr (pc := 65) dL_ask_65 ?_
    refine fr_iconst (pc := 66) 3 (by decide) dL_ask_66 ?_
    refine fr_iand (pc := 67) dL_ask_67 ?_
    refine fr_istore (pc := 68) (lv' := [(8, .int ((v1 >>> ((2 + (2 * v7)) &&& 31)) &&& 3)), (0, .ref a0), (1, .int v1), (2, .int v2), (3, .int v3), (4, .ref a4), (5, .int v5), (6, .int v6), (7, .int v7)]) (by decide) rfl dL_ask_68 ?_
    refine fr_iload_n (pc := 70) 2 rfl rfl dL_ask_70 ?_
    refine fr_sipush (pc := 71) 512 (by decide) dL_ask_71 ?_
    refine fr_idiv (pc := 74) (by decide) dL_ask_74 ?_
    refine fr_iconst (pc := 75) 3 (by decide) dL_ask_75 ?_
    refine fr_irem (pc := 76) (by decide) dL_ask_76 ?_
    refine fr_istore (pc := 77) (lv' := [(9, .int ((v1 / 512) - (v1 / 512) / 3 * 3)), (8, .int ((v1 >>> ((2 + (2 * v7)) &&& 31)) &&& 3)), (0, .ref a0), (1, .int v1), (2, .int v2), (3, .int v3), (4, .ref a4), (5, .int v5), (6, .int v6), (7, .int v7)]) (by decide) rfl dL_ask_77 ?_
    refine fr_iload (pc := 79) 0 rfl dL_ask_79 ?_
    refine fr_iload (pc := 81) 9 rfl dL_ask_81 ?_
    refine fr_iadd (pc := 83) dL_ask_83 ?_
    refine fr_iconst (pc := 84) 3 (by decide) dL_ask_84 ?_
    refine fr_irem (pc := 85) (by decide) dL_ask_85 ?_
    refine fr_istore (pc := 86) (lv' := [(9, .int ((((v1 / 512) - (v1 / 512) / 3 * 3) + v7) - (((v1 / 512) - (v1 / 512) / 3 * 3) + v7) / 3 * 3)), (8, .int ((v1 >>> ((2 + (2 * v7)) &&& 31)) &&& 3)), (0, .ref a0), (1, .int v1), (2, .int v2), (3, .int v3), (4, .ref a4), (5, .int v5), (6, .int v6), (7, .int v7)]) (by decide) rfl dL_ask_86 ?_
    refine fr_iload_n (pc := 88) 4 rfl rfl dL_ask_88 ?_
    refine fr_iconst (pc := 89) 5 (by decide) dL_ask_89 ?_
    refine fr_iload (pc := 90) 9 rfl dL_ask_90 ?_
    refine fr_imul (pc := 92) dL_ask_92 ?_
    refine fr_ishr (pc := 93) dL_ask_93 ?_
    refine fr_bipush (pc := 94) 23 (by decide) dL_ask_94 ?_
    refine fr_irem (pc := 96) (by decide) dL_ask_96 ?_
    refine fr_istore (pc := 97) (lv' := [(10, .int ((v2 >>> ((5 * v7) &&& 31)) - (v2 >>> ((5 * v7) &&& 31)) / 23 * 23)), (9, .int ((((v1 / 512) - (v1 / 512) / 3 * 3) + v7) - (((v1 / 512) - (v1 / 512) / 3 * 3) + v7) / 3 * 3)), (8, .int ((v1 >>> ((2 + (2 * v7)) &&& 31)) &&& 3)), (0, .ref a0), (1, .int v1), (2, .int v2), (3, .int v3), (4, .ref a4), (5, .int v5), (6, .int v6), (7, .int v7)]) (by decide) rfl dL_ask_97 ?_
    refine fr_iload (pc := 99) 9 rfl dL_ask_99 ?_
    refine fr_if_eq (pc := 101) (tgt := 201) (by decide) dL_ask_101 hW (fun hW => ?_) (fun hW => ?_)
    · refine fr_iconst (pc := 201) 0 (by decide) dL_ask_201 ?_
      exact fr_sub [3, 4, 5, 6, 7, 8, 10, 2, 1, 0] rfl hW
    · refine fr_iload (pc := 104) 10 rfl dL_ask_104 ?_
      refine fr_if_eq (pc := 106) (tgt := 118) (by decide) dL_ask_106 hW (fun hW => ?_) (fun hW => ?_)
      · exact fr_sub [3, 4, 5, 6, 7, 8, 10, 2, 1, 0] rfl hW
      · refine fr_aload_n (pc := 109) 3 rfl rfl dL_ask_109 ?_
        refine fr_bipush (pc := 110) 38 (by decide) dL_ask_110 ?_
        obtain ⟨hz, hW⟩ := hW
        refine fr_callS_I (pc := 112) (As := [.ref a0, .int 38]) (st := []) wd_L_put w_729 ok_L_put (by decide) rfl (Nat.le_of_ble_eq_true rfl) dL_ask_112 hz hW (fun i4 s3 hW => ?_)
        refine fr_if_eq (pc := 115) (tgt := 201) (by decide) dL_ask_115 hW (fun hW => ?_) (fun hW => ?_)
        · refine fr_iconst (pc := 201) 0 (by decide) dL_ask_201 ?_
          exact fr_sub [3, 4, 5, 6, 7, 8, 10, 2, 1, 0] rfl hW
        · exact fr_sub [3, 4, 5, 6, 7, 8, 10, 2, 1, 0] rfl hW
set_option maxHeartbeats 4000000 in
set_option maxRecDepth 100000 in
theorem q_L_ask_354 {g : GG} {σ : Hs} {post : Option Value → Hs → Prop} (cM sM kM nM : Nat) (a0 : Nat) (v1 : Int32) (v3 : Int32) (a4 : Nat) (v6 : Int32) (v7 : Int32) (hW : (4 ≤ v7 → (v6 = 0 → J_L_ask_489 g post cM sM kM nM σ a0 v1 v3 a4 (((v1 / 2048) - (v1 / 2048) / 4 * 4)) (((v1 / 8192) - (v1 / 8192) / 5 * 5)) 0) ∧ (¬ v6 = 0 → ((kM) ≤ cM ∧ (nM) ≤ sM) ∧ Do g M_L_put 0 0 [.ref a0, .int 58] σ (kI (fun i8 s7 => (i8 = 0 → J_L_ask_489 g post cM sM kM nM s7 a0 v1 v3 a4 (((v1 / 2048) - (v1 / 2048) / 4 * 4)) (((v1 / 8192) - (v1 / 8192) / 5 * 5)) 0) ∧ (¬ i8 = 0 → ((kM) ≤ cM ∧ (nM) ≤ sM) ∧ Do g M_L_put 0 0 [.ref a0, .int (97 + ((v1 / 2048) - (v1 / 2048) / 4 * 4))] s7 (kI (fun i12 s11 => (i12 = 0 → J_L_ask_489 g post cM sM kM nM s11 a0 v1 v3 a4 (((v1 / 2048) - (v1 / 2048) / 4 * 4)) (((v1 / 8192) - (v1 / 8192) / 5 * 5)) 0) ∧ (¬ i12 = 0 → (((v1 / 8192) - (v1 / 8192) / 5 * 5) = ((v1 / 2048) - (v1 / 2048) / 4 * 4) → J_L_ask_489 g post cM sM kM nM s11 a0 v1 v3 a4 (((v1 / 2048) - (v1 / 2048) / 4 * 4)) (((v1 / 8192) - (v1 / 8192) / 5 * 5)) 1) ∧ (¬ ((v1 / 8192) - (v1 / 8192) / 5 * 5) = ((v1 / 2048) - (v1 / 2048) / 4 * 4) → (((v1 / 8192) - (v1 / 8192) / 5 * 5) = 4 → J_L_ask_489 g post cM sM kM nM s11 a0 v1 v3 a4 (((v1 / 2048) - (v1 / 2048) / 4 * 4)) (((v1 / 8192) - (v1 / 8192) / 5 * 5)) 1) ∧ (¬ ((v1 / 8192) - (v1 / 8192) / 5 * 5) = 4 → ((kM) ≤ cM ∧ (nM) ≤ sM) ∧ Do g M_L_put 0 0 [.ref a0, .int (97 + ((v1 / 8192) - (v1 / 8192) / 5 * 5))] s11 (kI (fun i16 s15 => (i16 = 0 → J_L_ask_489 g post cM sM kM nM s15 a0 v1 v3 a4 (((v1 / 2048) - (v1 / 2048) / 4 * 4)) (((v1 / 8192) - (v1 / 8192) / 5 * 5)) 0) ∧ (¬ i16 = 0 → J_L_ask_489 g post cM sM kM nM s15 a0 v1 v3 a4 (((v1 / 2048) - (v1 / 2048) / 4 * 4)) (((v1 / 8192) - (v1 / 8192) / 5 * 5)) 1))))))))))))) ∧ (¬ 4 ≤ v7 → AI g σ a4 0 ((8 * v3) + v7) (fun i19 => AI g σ a4 0 (((8 * v3) + 4) + v7) (fun i20 => (i19 ≤ i20 → J_L_ask_354 g post cM sM kM nM σ a0 v1 v3 a4 v6 ((v7 + 1)) ) ∧ (¬ i19 ≤ i20 → SI g σ a4 0 ((8 * v3) + v7) 0 (fun s21 => SI g s21 a4 0 (((8 * v3) + 4) + v7) (-1) (fun s22 => J_L_ask_354 g post cM sM kM nM s22 a0 v1 v3 a4 v6 ((v7 + 1)) ))))))) : J_L_ask_354 g post cM sM kM nM σ a0 v1 v3 a4 v6 v7 := by
  show Fr g M_L_ask (cM, sM, kM, nM) [(0, .ref a0), (1, .int v1), (3, .int v3), (4, .ref a4), (6, .int v6), (7, .int v7)] [] 354 σ post
  refine fr_iload (pc := 354) 5 rfl dL_ask_354 ?_
  refine fr_iconst (pc := 356) 4 (by decide) dL_ask_356 ?_
  refine fr_icmp_ge (pc := 357) (tgt := 415) (by decide) dL_ask_357 hW (fun hW => ?_) (fun hW => ?_)
  · refine fr_iload_n (pc := 415) 1 rfl rfl dL_ask_415 ?_
    refine fr_sipush (pc := 416) 2048 (by decide) dL_ask_416 ?_
    refine fr_idiv (pc := 419) (by decide) dL_ask_419 ?_
    refine fr_iconst (pc := 420) 4 (by decide) dL_ask_420 ?_
    refine fr_irem (pc := 421) (by decide) dL_ask_421 ?_
    refine fr_istore (pc := 422) (lv' := [(7, .int ((v1 / 2048) - (v1 / 2048) / 4 * 4)), (0, .ref a0), (1, .int v1), (3, .int v3), (4, .ref a4), (6, .int v6)]) (by decide) rfl dL_ask_422 ?_
    refine fr_iload_n (pc := 424) 2 rfl rfl dL_ask_424 ?_
    refine fr_sipush (pc := 425) 8192 (by decide) dL_ask_425 ?_
    refine fr_idiv (pc := 428) (by decide) dL_ask_428 ?_
    refine fr_iconst (pc := 429) 5 (by decide) dL_ask_429 ?_
    refine fr_irem (pc := 430) (by decide) dL_ask_430 ?_
    refine fr_istore (pc := 431) (lv' := [(8, .int ((v1 / 8192) - (v1 / 8192) / 5 * 5)), (7, .int ((v1 / 2048) - (v1 / 2048) / 4 * 4)), (0, .ref a0), (1, .int v1), (3, .int v3), (4, .ref a4), (6, .int v6)]) (by decide) rfl dL_ask_431 ?_
    refine fr_iload (pc := 433) 6 rfl dL_ask_433 ?_
    refine fr_if_eq (pc := 435) (tgt := 488) (by decide) dL_ask_435 hW (fun hW => ?_) (fun hW => ?_)
    · refine fr_iconst (pc := 488) 0 (by decide) dL_ask_488 ?_
      exact fr_sub [2, 3, 4, 5, 1, 0] rfl hW
    · refine fr_aload_n (pc := 438) 2 rfl rfl dL_ask_438 ?_
      refine fr_bipush (pc := 439) 58 (by decide) dL_ask_439 ?_
      obtain ⟨hz, hW⟩ := hW
      refine fr_callS_I (pc := 441) (As := [.ref a0, .int 58]) (st := []) wd_L_put w_729 ok_L_put (by decide) rfl (Nat.le_of_ble_eq_true rfl) dL_ask_441 hz hW (fun i8 s7 hW => ?_)
      refine fr_if_eq (pc := 444) (tgt := 488) (by decide) dL_ask_444 hW (fun hW => ?_) (fun hW => ?_)
      · refine fr_iconst (pc := 488) 0 (by decide) dL_ask_488 ?_
        exact fr_sub [2, 3, 4, 5, 1, 0] rfl hW
      · refine fr_aload_n (pc := 447) 2 rfl rfl dL_ask_447 ?_
        refine fr_bipush (pc := 448) 97 (by decide) dL_ask_448 ?_
        refine fr_iload (pc := 450) 1 rfl dL_ask_450 ?_
        refine fr_iadd (pc := 452) dL_ask_452 ?_
        obtain ⟨hz, hW⟩ := hW
        refine fr_callS_I (pc := 453) (As := [.ref a0, .int (97 + ((v1 / 2048) - (v1 / 2048) / 4 * 4))]) (st := []) wd_L_put w_729 ok_L_put (by decide) rfl (Nat.le_of_ble_eq_true rfl) dL_ask_453 hz hW (fun i12 s11 hW => ?_)
        refine fr_if_eq (pc := 456) (tgt := 488) (by decide) dL_ask_456 hW (fun hW => ?_) (fun hW => ?_)
        · refine fr_iconst (pc := 488) 0 (by decide) dL_ask_488 ?_
          exact fr_sub [2, 3, 4, 5, 1, 0] rfl hW
        · refine fr_iload (pc := 459) 0 rfl dL_ask_459 ?_
          refine fr_iload (pc := 461) 1 rfl dL_ask_461 ?_
          refine fr_icmp_eq (pc := 463) (tgt := 484) (by decide) dL_ask_463 hW (fun hW => ?_) (fun hW => ?_)
          · refine fr_iconst (pc := 484) 1 (by decide) dL_ask_484 ?_
            refine fr_goto (pc := 485) (tgt := 489) (by decide) dL_ask_485 ?_
            exact fr_sub [2, 3, 4, 5, 1, 0] rfl hW
          · refine fr_iload (pc := 466) 0 rfl dL_ask_466 ?_
            refine fr_iconst (pc := 468) 4 (by decide) dL_ask_468 ?_
            refine fr_icmp_eq (pc := 469) (tgt := 484) (by decide) dL_ask_469 hW (fun hW => ?_) (fun hW => ?_)
            · refine fr_iconst (pc := 484) 1 (by decide) dL_ask_484 ?_
              refine fr_goto (pc := 485) (tgt := 489) (by decide) dL_ask_485 ?_
              exact fr_sub [2, 3, 4, 5, 1, 0] rfl hW
            · refine fr_aload_n (pc := 472) 2 rfl rfl dL_ask_472 ?_
              refine fr_bipush (pc := 473) 97 (by decide) dL_ask_473 ?_
              refine fr_iload (pc := 475) 0 rfl dL_ask_475 ?_
              refine fr_iadd (pc := 477) dL_ask_477 ?_
              obtain ⟨hz, hW⟩ := hW
              refine fr_callS_I (pc := 478) (As := [.ref a0, .int (97 + ((v1 / 8192) - (v1 / 8192) / 5 * 5))]) (st := []) wd_L_put w_729 ok_L_put (by decide) rfl (Nat.le_of_ble_eq_true rfl) dL_ask_478 hz hW (fun i16 s15 hW => ?_)
              refine fr_if_eq (pc := 481) (tgt := 488) (by decide) dL_ask_481 hW (fun hW => ?_) (fun hW => ?_)
              · refine fr_iconst (pc := 488) 0 (by decide) dL_ask_488 ?_
                exact fr_sub [2, 3, 4, 5, 1, 0] rfl hW
              · refine fr_iconst (pc := 484) 1 (by decide) dL_ask_484 ?_
                refine fr_goto (pc := 485) (tgt := 489) (by decide) dL_ask_485 ?_
                exact fr_sub [2, 3, 4, 5, 1, 0] rfl hW
  · refine fr_aload (pc := 360) 3 rfl dL_ask_360 ?_
    refine fr_bipush (pc := 362) 8 (by decide) dL_ask_362 ?_
    refine fr_iload_n (pc := 364) 2 rfl rfl dL_ask_364 ?_
    refine fr_imul (pc := 365) dL_ask_365 ?_
    refine fr_iload (pc := 366) 5 rfl dL_ask_366 ?_
    refine fr_iadd (pc := 368) dL_ask_368 ?_
    refine fr_iald (pc := 369) dL_ask_369 hW (fun i19 hW => ?_)
    refine fr_aload (pc := 370) 3 rfl dL_ask_370 ?_
    refine fr_bipush (pc := 372) 8 (by decide) dL_ask_372 ?_
    refine fr_iload_n (pc := 374) 2 rfl rfl dL_ask_374 ?_
    refine fr_imul (pc := 375) dL_ask_375 ?_
    refine fr_iconst (pc := 376) 4 (by decide) dL_ask_376 ?_
    refine fr_iadd (pc := 377) dL_ask_377 ?_
    refine fr_iload (pc := 378) 5 rfl dL_ask_378 ?_
    refine fr_iadd (pc := 380) dL_ask_380 ?_
    refine fr_iald (pc := 381) dL_ask_381 hW (fun i20 hW => ?_)
    refine fr_icmp_le (pc := 382) (tgt := 409) (by decide) dL_ask_382 hW (fun hW => ?_) (fun hW => ?_)
    · refine fr_iinc (pc := 409) (lv' := [(7, .int (v7 + 1)), (0, .ref a0), (1, .int v1), (3, .int v3), (4, .ref a4), (6, .int v6)]) (v7 + 1) 5 rfl (congrArg (fun z => v7 + z) (by decide)) (by decide) rfl dL_ask_409 ?_
      refine fr_goto (pc := 412) (tgt := 354) (by decide) dL_ask_412 ?_
      exact fr_sub [1, 2, 3, 4, 5, 0] rfl hW
    · refine fr_aload (pc := 385) 3 rfl dL_ask_385 ?_
      refine fr_bipush (pc := 387) 8 (by decide) dL_ask_387 ?_
      refine fr_iload_n (pc := 389) 2 rfl rfl dL_ask_389 ?_
      refine fr_imul (pc := 390) dL_ask_390 ?_
      refine fr_iload (pc := 391) 5 rfl dL_ask_391 ?_
      refine fr_iadd (pc := 393) dL_ask_393 ?_
      refine fr_iconst (pc := 394) 0 (by decide) dL_ask_394 ?_
      refine fr_iast (pc := 395) dL_ask_395 hW (fun s21 hW => ?_)
      refine fr_aload (pc := 396) 3 rfl dL_ask_396 ?_
      refine fr_bipush (pc := 398) 8 (by decide) dL_ask_398 ?_
      refine fr_iload_n (pc := 400) 2 rfl rfl dL_ask_400 ?_
      refine fr_imul (pc := 401) dL_ask_401 ?_
      refine fr_iconst (pc := 402) 4 (by decide) dL_ask_402 ?_
      refine fr_iadd (pc := 403) dL_ask_403 ?_
      refine fr_iload (pc := 404) 5 rfl dL_ask_404 ?_
      refine fr_iadd (pc := 406) dL_ask_406 ?_
      refine fr_iconst (pc := 407) (-1) (by decide) dL_ask_407 ?_
      refine fr_iast (pc := 408) dL_ask_408 hW (fun s22 hW => ?_)
      refine fr_iinc (pc := 409) (lv' := [(7, .int (v7 + 1)), (0, .ref a0), (1, .int v1), (3, .int v3), (4, .ref a4), (6, .int v6)]) (v7 + 1) 5 rfl (congrArg (fun z => v7 + z) (by decide)) (by decide) rfl dL_ask_409 ?_
      refine fr_goto (pc := 412) (tgt := 354) (by decide) dL_ask_412 ?_
      exact fr_sub [1, 2, 3, 4, 5, 0] rfl hW
set_option maxHeartbeats 4000000 in
set_option maxRecDepth 100000 in
theorem q_L_ask_202 {g : GG} {σ : Hs} {post : Option Value → Hs → Prop} (cM sM kM nM : Nat) (a0 : Nat) (v1 : Int32) (v2 : Int32) (v3 : Int32) (a4 : Nat) (v5 : Int32) (v7 : Int32) (v8 : Int32) (v9 : Int32) (v10 : Int32) (t0 : Int32) (hW : (¬ v9 = 1 → (¬ v9 = 2 → J_L_ask_229 g post cM sM kM nM σ a0 v1 v2 v3 a4 v5 t0 v7 v8 v9 v10 v10) ∧ (v9 = 2 → J_L_ask_229 g post cM sM kM nM σ a0 v1 v2 v3 a4 v5 t0 v7 v8 v9 v10 ((v10 + 1)))) ∧ (v9 = 1 → J_L_ask_229 g post cM sM kM nM σ a0 v1 v2 v3 a4 v5 t0 v7 v8 v9 v10 0)) : J_L_ask_202 g post cM sM kM nM σ a0 v1 v2 v3 a4 v5 v7 v8 v9 v10 t0 := by
  show Fr g M_L_ask (cM, sM, kM, nM) [(0, .ref a0), (1, .int v1), (2, .int v2), (3, .int v3), (4, .ref a4), (5, .int v5), (7, .int v7), (8, .int v8), (9, .int v9), (10, .int v10)] [.int t0] 202 σ post
  refine fr_istore (pc := 202) (lv' := [(6, .int t0), (0, .ref a0), (1, .int v1), (2, .int v2), (3, .int v3), (4, .ref a4), (5, .int v5), (7, .int v7), (8, .int v8), (9, .int v9), (10, .int v10)]) (by decide) rfl dL_ask_202 ?_
  refine fr_iload (pc := 204) 9 rfl dL_ask_204 ?_
  refine fr_iconst (pc := 206) 1 (by decide) dL_ask_206 ?_
  refine fr_icmp_ne (pc := 207) (tgt := 214) (by decide) dL_ask_207 hW (fun hW => ?_) (fun hW => ?_)
  · refine fr_iload (pc := 214) 9 rfl dL_ask_214 ?_
    refine fr_iconst (pc := 216) 2 (by decide) dL_ask_216 ?_
    refine fr_icmp_ne (pc := 217) (tgt := 227) (by decide) dL_ask_217 hW (fun hW => ?_) (fun hW => ?_)
    · refine fr_iload (pc := 227) 10 rfl dL_ask_227 ?_
      exact fr_sub [1, 2, 3, 4, 5, 6, 0, 7, 8, 9, 10] rfl hW
    · refine fr_iload (pc := 220) 10 rfl dL_ask_220 ?_
      refine fr_iconst (pc := 222) 1 (by decide) dL_ask_222 ?_
      refine fr_iadd (pc := 223) dL_ask_223 ?_
      refine fr_goto (pc := 224) (tgt := 229) (by decide) dL_ask_224 ?_
      exact fr_sub [1, 2, 3, 4, 5, 6, 0, 7, 8, 9, 10] rfl hW
  · refine fr_iconst (pc := 210) 0 (by decide) dL_ask_210 ?_
    refine fr_goto (pc := 211) (tgt := 229) (by decide) dL_ask_211 ?_
    exact fr_sub [1, 2, 3, 4, 5, 6, 0, 7, 8, 9, 10] rfl hW
set_option maxHeartbeats 4000000 in
set_option maxRecDepth 100000 in
theorem q_L_ask_118 {g : GG} {σ : Hs} {post : Option Value → Hs → Prop} (cM sM kM nM : Nat) (a0 : Nat) (v1 : Int32) (v2 : Int32) (v3 : Int32) (a4 : Nat) (v5 : Int32) (v7 : Int32) (v8 : Int32) (v9 : Int32) (v10 : Int32) (hW : ((kM) ≤ cM ∧ (nM) ≤ sM) ∧ Do g M_L_put 0 0 [.ref a0, .int (97 + v8)] σ (kI (fun i24 s23 => (i24 = 0 → J_L_ask_202 g post cM sM kM nM s23 a0 v1 v2 v3 a4 v5 v7 v8 v9 v10 0) ∧ (¬ i24 = 0 → (¬ v9 = 0 → (¬ v9 = 1 → J_L_ask_154 g post cM sM kM nM s23 a0 v1 v2 v3 a4 v5 v7 v8 v9 v10 62 a0) ∧ (v9 = 1 → J_L_ask_154 g post cM sM kM nM s23 a0 v1 v2 v3 a4 v5 v7 v8 v9 v10 60 a0)) ∧ (v9 = 0 → J_L_ask_154 g post cM sM kM nM s23 a0 v1 v2 v3 a4 v5 v7 v8 v9 v10 61 a0))))) : J_L_ask_118 g post cM sM kM nM σ a0 v1 v2 v3 a4 v5 v7 v8 v9 v10 := by
  show Fr g M_L_ask (cM, sM, kM, nM) [(0, .ref a0), (1, .int v1), (2, .int v2), (3, .int v3), (4, .ref a4), (5, .int v5), (7, .int v7), (8, .int v8), (9, .int v9), (10, .int v10)] [] 118 σ post
  refine fr_aload_n (pc := 118) 0 rfl rfl dL_ask_118 ?_
  refine fr_bipush (pc := 119) 97 (by decide) dL_ask_119 ?_
  refine fr_iload (pc := 121) 7 rfl dL_ask_121 ?_
  refine fr_iadd (pc := 123) dL_ask_123 ?_
  obtain ⟨hz, hW⟩ := hW
  refine fr_callS_I (pc := 124) (As := [.ref a0, .int (97 + v8)]) (st := []) wd_L_put w_729 ok_L_put (by decide) rfl (Nat.le_of_ble_eq_true rfl) dL_ask_124 hz hW (fun i24 s23 hW => ?_)
  refine fr_if_eq (pc := 127) (tgt := 201) (by decide) dL_ask_127 hW (fun hW => ?_) (fun hW => ?_)
  · refine fr_iconst (pc := 201) 0 (by decide) dL_ask_201 ?_
    exact fr_sub [0, 1, 2, 3, 4, 5, 6, 7, 8, 9] rfl hW
  · refine fr_aload_n (pc := 130) 0 rfl rfl dL_ask_130 ?_
    refine fr_iload (pc := 131) 8 rfl dL_ask_131 ?_
    refine fr_if_ne (pc := 133) (tgt := 141) (by decide) dL_ask_133 hW (fun hW => ?_) (fun hW => ?_)
    · refine fr_iload (pc := 141) 8 rfl dL_ask_141 ?_
      refine fr_iconst (pc := 143) 1 (by decide) dL_ask_143 ?_
      refine fr_icmp_ne (pc := 144) (tgt := 152) (by decide) dL_ask_144 hW (fun hW => ?_) (fun hW => ?_)
      · refine fr_bipush (pc := 152) 62 (by decide) dL_ask_152 ?_
        exact fr_sub [0, 1, 2, 3, 4, 5, 6, 7, 8, 9] rfl hW
      · refine fr_bipush (pc := 147) 60 (by decide) dL_ask_147 ?_
        refine fr_goto (pc := 149) (tgt := 154) (by decide) dL_ask_149 ?_
        exact fr_sub [0, 1, 2, 3, 4, 5, 6, 7, 8, 9] rfl hW
    · refine fr_bipush (pc := 136) 61 (by decide) dL_ask_136 ?_
      refine fr_goto (pc := 138) (tgt := 154) (by decide) dL_ask_138 ?_
      exact fr_sub [0, 1, 2, 3, 4, 5, 6, 7, 8, 9] rfl hW
set_option maxHeartbeats 4000000 in
set_option maxRecDepth 100000 in
theorem q_L_ask_489 {g : GG} {σ : Hs} {post : Option Value → Hs → Prop} (cM sM kM nM : Nat) (a0 : Nat) (v1 : Int32) (v3 : Int32) (a4 : Nat) (v7 : Int32) (v8 : Int32) (t0 : Int32) (hW : (¬ v8 = 4 → J_L_ask_515 g post cM sM kM nM σ a0 v1 v3 a4 t0 (((1 : Int32) <<< (v8 &&& 31))) (((1 : Int32) <<< (v7 &&& 31))) ((48 + v3)) a4) ∧ (v8 = 4 → J_L_ask_515 g post cM sM kM nM σ a0 v1 v3 a4 t0 0 (((1 : Int32) <<< (v7 &&& 31))) ((48 + v3)) a4)) : J_L_ask_489 g post cM sM kM nM σ a0 v1 v3 a4 v7 v8 t0 := by
  show Fr g M_L_ask (cM, sM, kM, nM) [(0, .ref a0), (1, .int v1), (3, .int v3), (4, .ref a4), (7, .int v7), (8, .int v8)] [.int t0] 489 σ post
  refine fr_istore (pc := 489) (lv' := [(6, .int t0), (0, .ref a0), (1, .int v1), (3, .int v3), (4, .ref a4), (7, .int v7), (8, .int v8)]) (by decide) rfl dL_ask_489 ?_
  refine fr_aload (pc := 491) 4 rfl dL_ask_491 ?_
  refine fr_bipush (pc := 493) 48 (by decide) dL_ask_493 ?_
  refine fr_iload_n (pc := 495) 3 rfl rfl dL_ask_495 ?_
  refine fr_iadd (pc := 496) dL_ask_496 ?_
  refine fr_iconst (pc := 497) 1 (by decide) dL_ask_497 ?_
  refine fr_iload (pc := 498) 5 rfl dL_ask_498 ?_
  refine fr_ishl (pc := 500) dL_ask_500 ?_
  refine fr_iload (pc := 501) 6 rfl dL_ask_501 ?_
  refine fr_iconst (pc := 503) 4 (by decide) dL_ask_503 ?_
  refine fr_icmp_ne (pc := 504) (tgt := 511) (by decide) dL_ask_504 hW (fun hW => ?_) (fun hW => ?_)
  · refine fr_iconst (pc := 511) 1 (by decide) dL_ask_511 ?_
    refine fr_iload (pc := 512) 6 rfl dL_ask_512 ?_
    refine fr_ishl (pc := 514) dL_ask_514 ?_
    exact fr_sub [1, 2, 3, 4, 0] rfl hW
  · refine fr_iconst (pc := 507) 0 (by decide) dL_ask_507 ?_
    refine fr_goto (pc := 508) (tgt := 515) (by decide) dL_ask_508 ?_
    exact fr_sub [1, 2, 3, 4, 0] rfl hW
set_option maxHeartbeats 4000000 in
set_option maxRecDepth 100000 in
theorem q_L_ask_229 {g : GG} {σ : Hs} {post : Option Value → Hs → Prop} (cM sM kM nM : Nat) (a0 : Nat) (v1 : Int32) (v2 : Int32) (v3 : Int32) (a4 : Nat) (v5 : Int32) (v6 : Int32) (v7 : Int32) (v8 : Int32) (v9 : Int32) (v10 : Int32) (t0 : Int32) (hW : (¬ v9 = 2 → (¬ v9 = 1 → J_L_ask_257 g post cM sM kM nM σ a0 v1 v2 v3 a4 v5 v6 v7 v8 t0 v10) ∧ (v9 = 1 → J_L_ask_257 g post cM sM kM nM σ a0 v1 v2 v3 a4 v5 v6 v7 v8 t0 ((v10 - 1)))) ∧ (v9 = 2 → J_L_ask_257 g post cM sM kM nM σ a0 v1 v2 v3 a4 v5 v6 v7 v8 t0 99)) : J_L_ask_229 g post cM sM kM nM σ a0 v1 v2 v3 a4 v5 v6 v7 v8 v9 v10 t0 := by
  show Fr g M_L_ask (cM, sM, kM, nM) [(0, .ref a0), (1, .int v1), (2, .int v2), (3, .int v3), (4, .ref a4), (5, .int v5), (6, .int v6), (7, .int v7), (8, .int v8), (9, .int v9), (10, .int v10)] [.int t0] 229 σ post
  refine fr_istore (pc := 229) (lv' := [(11, .int t0), (0, .ref a0), (1, .int v1), (2, .int v2), (3, .int v3), (4, .ref a4), (5, .int v5), (6, .int v6), (7, .int v7), (8, .int v8), (9, .int v9), (10, .int v10)]) (by decide) rfl dL_ask_229 ?_
  refine fr_iload (pc := 231) 10 rfl dL_ask_231 ?_
  refine fr_iconst (pc := 233) 2 (by decide) dL_ask_233 ?_
  refine fr_icmp_ne (pc := 234) (tgt := 242) (by decide) dL_ask_234 hW (fun hW => ?_) (fun hW => ?_)
  · refine fr_iload (pc := 242) 10 rfl dL_ask_242 ?_
    refine fr_iconst (pc := 244) 1 (by decide) dL_ask_244 ?_
    refine fr_icmp_ne (pc := 245) (tgt := 255) (by decide) dL_ask_245 hW (fun hW => ?_) (fun hW => ?_)
    · refine fr_iload (pc := 255) 11 rfl dL_ask_255 ?_
      exact fr_sub [1, 2, 3, 4, 5, 6, 7, 8, 9, 0] rfl hW
    · refine fr_iload (pc := 248) 11 rfl dL_ask_248 ?_
      refine fr_iconst (pc := 250) 1 (by decide) dL_ask_250 ?_
      refine fr_isub (pc := 251) dL_ask_251 ?_
      refine fr_goto (pc := 252) (tgt := 257) (by decide) dL_ask_252 ?_
      exact fr_sub [1, 2, 3, 4, 5, 6, 7, 8, 9, 0] rfl hW
  · refine fr_bipush (pc := 237) 99 (by decide) dL_ask_237 ?_
    refine fr_goto (pc := 239) (tgt := 257) (by decide) dL_ask_239 ?_
    exact fr_sub [1, 2, 3, 4, 5, 6, 7, 8, 9, 0] rfl hW
set_option maxHeartbeats 4000000 in
set_option maxRecDepth 100000 in
theorem q_L_ask_154 {g : GG} {σ : Hs} {post : Option Value → Hs → Prop} (cM sM kM nM : Nat) (a0 : Nat) (v1 : Int32) (v2 : Int32) (v3 : Int32) (a4 : Nat) (v5 : Int32) (v7 : Int32) (v8 : Int32) (v9 : Int32) (v10 : Int32) (t0 : Int32) (t1 : Nat) (hW : ((kM) ≤ cM ∧ (nM) ≤ sM) ∧ Do g M_L_put 0 0 [.ref t1, .int t0] σ (kI (fun i28 s27 => (i28 = 0 → J_L_ask_202 g post cM sM kM nM s27 a0 v1 v2 v3 a4 v5 v7 v8 v9 v10 0) ∧ (¬ i28 = 0 → (v10 < 10 → ((kM) ≤ cM ∧ (nM) ≤ sM) ∧ Do g M_L_put 0 0 [.ref a0, .int (48 + (v10 - v10 / 10 * 10))] s27 (kI (fun i32 s31 => (i32 = 0 → J_L_ask_202 g post cM sM kM nM s31 a0 v1 v2 v3 a4 v5 v7 v8 v9 v10 0) ∧ (¬ i32 = 0 → J_L_ask_202 g post cM sM kM nM s31 a0 v1 v2 v3 a4 v5 v7 v8 v9 v10 1)))) ∧ (¬ v10 < 10 → ((kM) ≤ cM ∧ (nM) ≤ sM) ∧ Do g M_L_put 0 0 [.ref a0, .int (48 + (v10 / 10))] s27 (kI (fun i36 s35 => (i36 = 0 → J_L_ask_202 g post cM sM kM nM s35 a0 v1 v2 v3 a4 v5 v7 v8 v9 v10 0) ∧ (¬ i36 = 0 → ((kM) ≤ cM ∧ (nM) ≤ sM) ∧ Do g M_L_put 0 0 [.ref a0, .int (48 + (v10 - v10 / 10 * 10))] s35 (kI (fun i40 s39 => (i40 = 0 → J_L_ask_202 g post cM sM kM nM s39 a0 v1 v2 v3 a4 v5 v7 v8 v9 v10 0) ∧ (¬ i40 = 0 → J_L_ask_202 g post cM sM kM nM s39 a0 v1 v2 v3 a4 v5 v7 v8 v9 v10 1))))))))))) : J_L_ask_154 g post cM sM kM nM σ a0 v1 v2 v3 a4 v5 v7 v8 v9 v10 t0 t1 := by
  show Fr g M_L_ask (cM, sM, kM, nM) [(0, .ref a0), (1, .int v1), (2, .int v2), (3, .int v3), (4, .ref a4), (5, .int v5), (7, .int v7), (8, .int v8), (9, .int v9), (10, .int v10)] [.int t0, .ref t1] 154 σ post
  obtain ⟨hz, hW⟩ := hW
  refine fr_callS_I (pc := 154) (As := [.ref t1, .int t0]) (st := []) wd_L_put w_729 ok_L_put (by decide) rfl (Nat.le_of_ble_eq_true rfl) dL_ask_154 hz hW (fun i28 s27 hW => ?_)
  refine fr_if_eq (pc := 157) (tgt := 201) (by decide) dL_ask_157 hW (fun hW => ?_) (fun hW => ?_)
  · refine fr_iconst (pc := 201) 0 (by decide) dL_ask_201 ?_
    exact fr_sub [0, 1, 2, 3, 4, 5, 6, 7, 8, 9] rfl hW
  · refine fr_iload (pc := 160) 9 rfl dL_ask_160 ?_
    refine fr_bipush (pc := 162) 10 (by decide) dL_ask_162 ?_
    refine fr_icmp_lt (pc := 164) (tgt := 182) (by decide) dL_ask_164 hW (fun hW => ?_) (fun hW => ?_)
    · refine fr_aload_n (pc := 182) 0 rfl rfl dL_ask_182 ?_
      refine fr_bipush (pc := 183) 48 (by decide) dL_ask_183 ?_
      refine fr_iload (pc := 185) 9 rfl dL_ask_185 ?_
      refine fr_bipush (pc := 187) 10 (by decide) dL_ask_187 ?_
      refine fr_irem (pc := 189) (by decide) dL_ask_189 ?_
      refine fr_iadd (pc := 190) dL_ask_190 ?_
      obtain ⟨hz, hW⟩ := hW
      refine fr_callS_I (pc := 191) (As := [.ref a0, .int (48 + (v10 - v10 / 10 * 10))]) (st := []) wd_L_put w_729 ok_L_put (by decide) rfl (Nat.le_of_ble_eq_true rfl) dL_ask_191 hz hW (fun i32 s31 hW => ?_)
      refine fr_if_eq (pc := 194) (tgt := 201) (by decide) dL_ask_194 hW (fun hW => ?_) (fun hW => ?_)
      · refine fr_iconst (pc := 201) 0 (by decide) dL_ask_201 ?_
        exact fr_sub [0, 1, 2, 3, 4, 5, 6, 7, 8, 9] rfl hW
      · refine fr_iconst (pc := 197) 1 (by decide) dL_ask_197 ?_
        refine fr_goto (pc := 198) (tgt := 202) (by decide) dL_ask_198 ?_
        exact fr_sub [0, 1, 2, 3, 4, 5, 6, 7, 8, 9] rfl hW
    · refine fr_aload_n (pc := 167) 0 rfl rfl dL_ask_167 ?_
      refine fr_bipush (pc := 168) 48 (by decide) dL_ask_168 ?_
      refine fr_iload (pc := 170) 9 rfl dL_ask_170 ?_
      refine fr_bipush (pc := 172) 10 (by decide) dL_ask_172 ?_
      refine fr_idiv (pc := 174) (by decide) dL_ask_174 ?_
      refine fr_iadd (pc := 175) dL_ask_175 ?_
      obtain ⟨hz, hW⟩ := hW
      refine fr_callS_I (pc := 176) (As := [.ref a0, .int (48 + (v10 / 10))]) (st := []) wd_L_put w_729 ok_L_put (by decide) rfl (Nat.le_of_ble_eq_true rfl) dL_ask_176 hz hW (fun i36 s35 hW => ?_)
      refine fr_if_eq (pc := 179) (tgt := 201) (by decide) dL_ask_179 hW (fun hW => ?_) (fun hW => ?_)
      · refine fr_iconst (pc := 201) 0 (by decide) dL_ask_201 ?_
        exact fr_sub [0, 1, 2, 3, 4, 5, 6, 7, 8, 9] rfl hW
      · refine fr_aload_n (pc := 182) 0 rfl rfl dL_ask_182 ?_
        refine fr_bipush (pc := 183) 48 (by decide) dL_ask_183 ?_
        refine fr_iload (pc := 185) 9 rfl dL_ask_185 ?_
        refine fr_bipush (pc := 187) 10 (by decide) dL_ask_187 ?_
        refine fr_irem (pc := 189) (by decide) dL_ask_189 ?_
        refine fr_iadd (pc := 190) dL_ask_190 ?_
        obtain ⟨hz, hW⟩ := hW
        refine fr_callS_I (pc := 191) (As := [.ref a0, .int (48 + (v10 - v10 / 10 * 10))]) (st := []) wd_L_put w_729 ok_L_put (by decide) rfl (Nat.le_of_ble_eq_true rfl) dL_ask_191 hz hW (fun i40 s39 hW => ?_)
        refine fr_if_eq (pc := 194) (tgt := 201) (by decide) dL_ask_194 hW (fun hW => ?_) (fun hW => ?_)
        · refine fr_iconst (pc := 201) 0 (by decide) dL_ask_201 ?_
          exact fr_sub [0, 1, 2, 3, 4, 5, 6, 7, 8, 9] rfl hW
        · refine fr_iconst (pc := 197) 1 (by decide) dL_ask_197 ?_
          refine fr_goto (pc := 198) (tgt := 202) (by decide) dL_ask_198 ?_
          exact fr_sub [0, 1, 2, 3, 4, 5, 6, 7, 8, 9] rfl hW
set_option maxHeartbeats 4000000 in
set_option maxRecDepth 100000 in
theorem q_L_ask_515 {g : GG} {σ : Hs} {post : Option Value → Hs → Prop} (cM sM kM nM : Nat) (a0 : Nat) (v1 : Int32) (v3 : Int32) (a4 : Nat) (v6 : Int32) (t0 : Int32) (t1 : Int32) (t2 : Int32) (t3 : Nat) (hW : SI g σ t3 0 t2 (t1 ||| t0) (fun s43 => (¬ ((v1 / 65536) - (v1 / 65536) / 2 * 2) = 0 → J_L_ask_542 g post cM sM kM nM s43 a0 v3 a4 v6 (((v1 / 131072) - (v1 / 131072) / 4 * 4)) ((56 + v3)) a4) ∧ (((v1 / 65536) - (v1 / 65536) / 2 * 2) = 0 → J_L_ask_542 g post cM sM kM nM s43 a0 v3 a4 v6 4 ((56 + v3)) a4))) : J_L_ask_515 g post cM sM kM nM σ a0 v1 v3 a4 v6 t0 t1 t2 t3 := by
  show Fr g M_L_ask (cM, sM, kM, nM) [(0, .ref a0), (1, .int v1), (3, .int v3), (4, .ref a4), (6, .int v6)] [.int t0, .int t1, .int t2, .ref t3] 515 σ post
  refine fr_ior (pc := 515) dL_ask_515 ?_
  refine fr_iast (pc := 516) dL_ask_516 hW (fun s43 hW => ?_)
  refine fr_aload (pc := 517) 3 rfl dL_ask_517 ?_
  refine fr_bipush (pc := 519) 56 (by decide) dL_ask_519 ?_
  refine fr_iload_n (pc := 521) 2 rfl rfl dL_ask_521 ?_
  refine fr_iadd (pc := 522) dL_ask_522 ?_
  refine fr_iload_n (pc := 523) 1 rfl rfl dL_ask_523 ?_
  refine fr_ldc (pc := 524) w_727 dL_ask_524 ?_
  refine fr_idiv (pc := 526) (by decide) dL_ask_526 ?_
  refine fr_iconst (pc := 527) 2 (by decide) dL_ask_527 ?_
  refine fr_irem (pc := 528) (by decide) dL_ask_528 ?_
  refine fr_if_ne (pc := 529) (tgt := 536) (by decide) dL_ask_529 hW (fun hW => ?_) (fun hW => ?_)
  · refine fr_iload_n (pc := 536) 1 rfl rfl dL_ask_536 ?_
    refine fr_ldc (pc := 537) w_728 dL_ask_537 ?_
    refine fr_idiv (pc := 539) (by decide) dL_ask_539 ?_
    refine fr_iconst (pc := 540) 4 (by decide) dL_ask_540 ?_
    refine fr_irem (pc := 541) (by decide) dL_ask_541 ?_
    exact fr_sub [0, 2, 3, 4] rfl hW
  · refine fr_iconst (pc := 532) 4 (by decide) dL_ask_532 ?_
    refine fr_goto (pc := 533) (tgt := 542) (by decide) dL_ask_533 ?_
    exact fr_sub [0, 2, 3, 4] rfl hW
set_option maxHeartbeats 4000000 in
set_option maxRecDepth 100000 in
theorem q_L_ask_257 {g : GG} {σ : Hs} {post : Option Value → Hs → Prop} (cM sM kM nM : Nat) (a0 : Nat) (v1 : Int32) (v2 : Int32) (v3 : Int32) (a4 : Nat) (v5 : Int32) (v6 : Int32) (v7 : Int32) (v8 : Int32) (v11 : Int32) (t0 : Int32) (hW : AI g σ a4 0 ((8 * v3) + v8) (fun i44 => (v11 ≤ i44 → AI g σ a4 0 ((8 * v3) + v8) (fun i45 => J_L_ask_298 g post cM sM kM nM σ a0 v1 v2 v3 a4 v5 v6 v7 v8 t0 i45 (((8 * v3) + v8)) a4)) ∧ (¬ v11 ≤ i44 → J_L_ask_298 g post cM sM kM nM σ a0 v1 v2 v3 a4 v5 v6 v7 v8 t0 v11 (((8 * v3) + v8)) a4))) : J_L_ask_257 g post cM sM kM nM σ a0 v1 v2 v3 a4 v5 v6 v7 v8 v11 t0 := by
  show Fr g M_L_ask (cM, sM, kM, nM) [(0, .ref a0), (1, .int v1), (2, .int v2), (3, .int v3), (4, .ref a4), (5, .int v5), (6, .int v6), (7, .int v7), (8, .int v8), (11, .int v11)] [.int t0] 257 σ post
  refine fr_istore (pc := 257) (lv' := [(12, .int t0), (0, .ref a0), (1, .int v1), (2, .int v2), (3, .int v3), (4, .ref a4), (5, .int v5), (6, .int v6), (7, .int v7), (8, .int v8), (11, .int v11)]) (by decide) rfl dL_ask_257 ?_
  refine fr_aload (pc := 259) 5 rfl dL_ask_259 ?_
  refine fr_bipush (pc := 261) 8 (by decide) dL_ask_261 ?_
  refine fr_iload_n (pc := 263) 4 rfl rfl dL_ask_263 ?_
  refine fr_imul (pc := 264) dL_ask_264 ?_
  refine fr_iload (pc := 265) 9 rfl dL_ask_265 ?_
  refine fr_iadd (pc := 267) dL_ask_267 ?_
  refine fr_iload (pc := 268) 10 rfl dL_ask_268 ?_
  refine fr_aload (pc := 270) 5 rfl dL_ask_270 ?_
  refine fr_bipush (pc := 272) 8 (by decide) dL_ask_272 ?_
  refine fr_iload_n (pc := 274) 4 rfl rfl dL_ask_274 ?_
  refine fr_imul (pc := 275) dL_ask_275 ?_
  refine fr_iload (pc := 276) 9 rfl dL_ask_276 ?_
  refine fr_iadd (pc := 278) dL_ask_278 ?_
  refine fr_iald (pc := 279) dL_ask_279 hW (fun i44 hW => ?_)
  refine fr_icmp_le (pc := 280) (tgt := 288) (by decide) dL_ask_280 hW (fun hW => ?_) (fun hW => ?_)
  · refine fr_aload (pc := 288) 5 rfl dL_ask_288 ?_
    refine fr_bipush (pc := 290) 8 (by decide) dL_ask_290 ?_
    refine fr_iload_n (pc := 292) 4 rfl rfl dL_ask_292 ?_
    refine fr_imul (pc := 293) dL_ask_293 ?_
    refine fr_iload (pc := 294) 9 rfl dL_ask_294 ?_
    refine fr_iadd (pc := 296) dL_ask_296 ?_
    refine fr_iald (pc := 297) dL_ask_297 hW (fun i45 hW => ?_)
    exact fr_sub [1, 2, 3, 4, 5, 6, 7, 8, 9, 0] rfl hW
  · refine fr_iload (pc := 283) 10 rfl dL_ask_283 ?_
    refine fr_goto (pc := 285) (tgt := 298) (by decide) dL_ask_285 ?_
    exact fr_sub [1, 2, 3, 4, 5, 6, 7, 8, 9, 0] rfl hW
set_option maxHeartbeats 4000000 in
set_option maxRecDepth 100000 in
theorem q_L_ask_542 {g : GG} {σ : Hs} {post : Option Value → Hs → Prop} (cM sM kM nM : Nat) (a0 : Nat) (v3 : Int32) (a4 : Nat) (v6 : Int32) (t0 : Int32) (t1 : Int32) (t2 : Nat) (hW : SI g σ t2 0 t1 t0 (fun s46 => (v6 = 0 → J_L_ask_590 g post cM sM kM nM s46 a0 v3 0) ∧ (¬ v6 = 0 → AI g s46 a4 0 (56 + v3) (fun i47 => (i47 = 4 → J_L_ask_590 g post cM sM kM nM s46 a0 v3 1) ∧ (¬ i47 = 4 → ((kM) ≤ cM ∧ (nM) ≤ sM) ∧ Do g M_L_put 0 0 [.ref a0, .int 47] s46 (kI (fun i49 s48 => (i49 = 0 → J_L_ask_590 g post cM sM kM nM s48 a0 v3 0) ∧ (¬ i49 = 0 → AI g s48 a4 0 (56 + v3) (fun i52 => ((kM) ≤ cM ∧ (nM) ≤ sM) ∧ Do g M_L_put 0 0 [.ref a0, .int (97 + i52)] s48 (kI (fun i54 s53 => (i54 = 0 → J_L_ask_590 g post cM sM kM nM s53 a0 v3 0) ∧ (¬ i54 = 0 → J_L_ask_590 g post cM sM kM nM s53 a0 v3 1)))))))))))) : J_L_ask_542 g post cM sM kM nM σ a0 v3 a4 v6 t0 t1 t2 := by
  show Fr g M_L_ask (cM, sM, kM, nM) [(0, .ref a0), (3, .int v3), (4, .ref a4), (6, .int v6)] [.int t0, .int t1, .ref t2] 542 σ post
  refine fr_iast (pc := 542) dL_ask_542 hW (fun s46 hW => ?_)
  refine fr_iload (pc := 543) 3 rfl dL_ask_543 ?_
  refine fr_if_eq (pc := 545) (tgt := 589) (by decide) dL_ask_545 hW (fun hW => ?_) (fun hW => ?_)
  · refine fr_iconst (pc := 589) 0 (by decide) dL_ask_589 ?_
    exact fr_sub [0, 1] rfl hW
  · refine fr_aload (pc := 548) 2 rfl dL_ask_548 ?_
    refine fr_bipush (pc := 550) 56 (by decide) dL_ask_550 ?_
    refine fr_iload_n (pc := 552) 1 rfl rfl dL_ask_552 ?_
    refine fr_iadd (pc := 553) dL_ask_553 ?_
    refine fr_iald (pc := 554) dL_ask_554 hW (fun i47 hW => ?_)
    refine fr_iconst (pc := 555) 4 (by decide) dL_ask_555 ?_
    refine fr_icmp_eq (pc := 556) (tgt := 585) (by decide) dL_ask_556 hW (fun hW => ?_) (fun hW => ?_)
    · refine fr_iconst (pc := 585) 1 (by decide) dL_ask_585 ?_
      refine fr_goto (pc := 586) (tgt := 590) (by decide) dL_ask_586 ?_
      exact fr_sub [0, 1] rfl hW
    · refine fr_aload_n (pc := 559) 0 rfl rfl dL_ask_559 ?_
      refine fr_bipush (pc := 560) 47 (by decide) dL_ask_560 ?_
      obtain ⟨hz, hW⟩ := hW
      refine fr_callS_I (pc := 562) (As := [.ref a0, .int 47]) (st := []) wd_L_put w_729 ok_L_put (by decide) rfl (Nat.le_of_ble_eq_true rfl) dL_ask_562 hz hW (fun i49 s48 hW => ?_)
      refine fr_if_eq (pc := 565) (tgt := 589) (by decide) dL_ask_565 hW (fun hW => ?_) (fun hW => ?_)
      · refine fr_iconst (pc := 589) 0 (by decide) dL_ask_589 ?_
        exact fr_sub [0, 1] rfl hW
      · refine fr_aload_n (pc := 568) 0 rfl rfl dL_ask_568 ?_
        refine fr_bipush (pc := 569) 97 (by decide) dL_ask_569 ?_
        refine fr_aload (pc := 571) 2 rfl dL_ask_571 ?_
        refine fr_bipush (pc := 573) 56 (by decide) dL_ask_573 ?_
        refine fr_iload_n (pc := 575) 1 rfl rfl dL_ask_575 ?_
        refine fr_iadd (pc := 576) dL_ask_576 ?_
        refine fr_iald (pc := 577) dL_ask_577 hW (fun i52 hW => ?_)
        refine fr_iadd (pc := 578) dL_ask_578 ?_
        obtain ⟨hz, hW⟩ := hW
        refine fr_callS_I (pc := 579) (As := [.ref a0, .int (97 + i52)]) (st := []) wd_L_put w_729 ok_L_put (by decide) rfl (Nat.le_of_ble_eq_true rfl) dL_ask_579 hz hW (fun i54 s53 hW => ?_)
        refine fr_if_eq (pc := 582) (tgt := 589) (by decide) dL_ask_582 hW (fun hW => ?_) (fun hW => ?_)
        · refine fr_iconst (pc := 589) 0 (by decide) dL_ask_589 ?_
          exact fr_sub [0, 1] rfl hW
        · refine fr_iconst (pc := 585) 1 (by decide) dL_ask_585 ?_
          refine fr_goto (pc := 586) (tgt := 590) (by decide) dL_ask_586 ?_
          exact fr_sub [0, 1] rfl hW
set_option maxHeartbeats 4000000 in
set_option maxRecDepth 100000 in
theorem q_L_ask_298 {g : GG} {σ : Hs} {post : Option Value → Hs → Prop} (cM sM kM nM : Nat) (a0 : Nat) (v1 : Int32) (v2 : Int32) (v3 : Int32) (a4 : Nat) (v5 : Int32) (v6 : Int32) (v7 : Int32) (v8 : Int32) (v12 : Int32) (t0 : Int32) (t1 : Int32) (t2 : Nat) (hW : SI g σ t2 0 t1 t0 (fun s57 => AI g s57 a4 0 (((8 * v3) + 4) + v8) (fun i58 => (i58 ≤ v12 → AI g s57 a4 0 (((8 * v3) + 4) + v8) (fun i59 => SI g s57 a4 0 (((8 * v3) + 4) + v8) i59 (fun s60 => J_L_ask_51 g post cM sM kM nM s60 a0 v1 v2 v3 a4 v5 v6 ((v7 + 1)) ))) ∧ (¬ i58 ≤ v12 → SI g s57 a4 0 (((8 * v3) + 4) + v8) v12 (fun s61 => J_L_ask_51 g post cM sM kM nM s61 a0 v1 v2 v3 a4 v5 v6 ((v7 + 1)) ))))) : J_L_ask_298 g post cM sM kM nM σ a0 v1 v2 v3 a4 v5 v6 v7 v8 v12 t0 t1 t2 := by
  show Fr g M_L_ask (cM, sM, kM, nM) [(0, .ref a0), (1, .int v1), (2, .int v2), (3, .int v3), (4, .ref a4), (5, .int v5), (6, .int v6), (7, .int v7), (8, .int v8), (12, .int v12)] [.int t0, .int t1, .ref t2] 298 σ post
  refine fr_iast (pc := 298) dL_ask_298 hW (fun s57 hW => ?_)
  refine fr_aload (pc := 299) 4 rfl dL_ask_299 ?_
  refine fr_bipush (pc := 301) 8 (by decide) dL_ask_301 ?_
  refine fr_iload_n (pc := 303) 3 rfl rfl dL_ask_303 ?_
  refine fr_imul (pc := 304) dL_ask_304 ?_
  refine fr_iconst (pc := 305) 4 (by decide) dL_ask_305 ?_
  refine fr_iadd (pc := 306) dL_ask_306 ?_
  refine fr_iload (pc := 307) 8 rfl dL_ask_307 ?_
  refine fr_iadd (pc := 309) dL_ask_309 ?_
  refine fr_iload (pc := 310) 9 rfl dL_ask_310 ?_
  refine fr_aload (pc := 312) 4 rfl dL_ask_312 ?_
  refine fr_bipush (pc := 314) 8 (by decide) dL_ask_314 ?_
  refine fr_iload_n (pc := 316) 3 rfl rfl dL_ask_316 ?_
  refine fr_imul (pc := 317) dL_ask_317 ?_
  refine fr_iconst (pc := 318) 4 (by decide) dL_ask_318 ?_
  refine fr_iadd (pc := 319) dL_ask_319 ?_
  refine fr_iload (pc := 320) 8 rfl dL_ask_320 ?_
  refine fr_iadd (pc := 322) dL_ask_322 ?_
  refine fr_iald (pc := 323) dL_ask_323 hW (fun i58 hW => ?_)
  refine fr_icmp_ge (pc := 324) (tgt := 332) (by decide) dL_ask_324 hW (fun hW => ?_) (fun hW => ?_)
  · refine fr_aload (pc := 332) 4 rfl dL_ask_332 ?_
    refine fr_bipush (pc := 334) 8 (by decide) dL_ask_334 ?_
    refine fr_iload_n (pc := 336) 3 rfl rfl dL_ask_336 ?_
    refine fr_imul (pc := 337) dL_ask_337 ?_
    refine fr_iconst (pc := 338) 4 (by decide) dL_ask_338 ?_
    refine fr_iadd (pc := 339) dL_ask_339 ?_
    refine fr_iload (pc := 340) 8 rfl dL_ask_340 ?_
    refine fr_iadd (pc := 342) dL_ask_342 ?_
    refine fr_iald (pc := 343) dL_ask_343 hW (fun i59 hW => ?_)
    refine fr_iast (pc := 344) dL_ask_344 hW (fun s60 hW => ?_)
    refine fr_iinc (pc := 345) (lv' := [(7, .int (v7 + 1)), (0, .ref a0), (1, .int v1), (2, .int v2), (3, .int v3), (4, .ref a4), (5, .int v5), (6, .int v6), (8, .int v8), (12, .int v12)]) (v7 + 1) 7 rfl (congrArg (fun z => v7 + z) (by decide)) (by decide) rfl dL_ask_345 ?_
    refine fr_goto (pc := 348) (tgt := 51) (by decide) dL_ask_348 ?_
    exact fr_sub [1, 2, 3, 4, 5, 6, 7, 0] rfl hW
  · refine fr_iload (pc := 327) 9 rfl dL_ask_327 ?_
    refine fr_goto (pc := 329) (tgt := 344) (by decide) dL_ask_329 ?_
    refine fr_iast (pc := 344) dL_ask_344 hW (fun s61 hW => ?_)
    refine fr_iinc (pc := 345) (lv' := [(7, .int (v7 + 1)), (0, .ref a0), (1, .int v1), (2, .int v2), (3, .int v3), (4, .ref a4), (5, .int v5), (6, .int v6), (8, .int v8), (12, .int v12)]) (v7 + 1) 7 rfl (congrArg (fun z => v7 + z) (by decide)) (by decide) rfl dL_ask_345 ?_
    refine fr_goto (pc := 348) (tgt := 51) (by decide) dL_ask_348 ?_
    exact fr_sub [1, 2, 3, 4, 5, 6, 7, 0] rfl hW
set_option maxHeartbeats 4000000 in
set_option maxRecDepth 100000 in
theorem q_L_ask_590 {g : GG} {σ : Hs} {post : Option Value → Hs → Prop} (cM sM kM nM : Nat) (a0 : Nat) (v3 : Int32) (t0 : Int32) (hW : (t0 = 0 → ((kM) ≤ cM ∧ (nM) ≤ sM) ∧ post (some (.int 0)) σ) ∧ (¬ t0 = 0 → ((kM) ≤ cM ∧ (nM) ≤ sM) ∧ Rc σ a0 11 ∧ Do g M_X11_good 0 0 [.ref a0] σ (kI (fun i63 s62 => ((kM) ≤ cM ∧ (nM) ≤ sM) ∧ Rc s62 a0 11 ∧ Do g M_X11_count 0 0 [.ref a0, .int 6] s62 (kI (fun i67 s66 => (¬ i63 = i67 → ((kM) ≤ cM ∧ (nM) ≤ sM) ∧ post (some (.int 0)) s66) ∧ (i63 = i67 → ∃ mc74 ms75 : Nat, ((kM) + mc74 ≤ cM ∧ (nM) + ms75 ≤ sM) ∧ Rc s66 a0 11 ∧ Do g M_X11_ask mc74 ms75 [.ref a0] s66 (kI (fun i71 s70 => (¬ i71 = v3 → ((kM + mc74) ≤ cM ∧ (nM + ms75) ≤ sM) ∧ post (some (.int 0)) s70) ∧ (i71 = v3 → ((kM + mc74) ≤ cM ∧ (nM + ms75) ≤ sM) ∧ post (some (.int 1)) s70)))))))))) : J_L_ask_590 g post cM sM kM nM σ a0 v3 t0 := by
  show Fr g M_L_ask (cM, sM, kM, nM) [(0, .ref a0), (3, .int v3)] [.int t0] 590 σ post
  refine fr_istore (pc := 590) (lv' := [(6, .int t0), (0, .ref a0), (3, .int v3)]) (by decide) rfl dL_ask_590 ?_
  refine fr_iload (pc := 592) 0 rfl dL_ask_592 ?_
  refine fr_if_eq (pc := 594) (tgt := 622) (by decide) dL_ask_594 hW (fun hW => ?_) (fun hW => ?_)
  · refine fr_iconst (pc := 622) 0 (by decide) dL_ask_622 ?_
    obtain ⟨hz, hW⟩ := hW
    exact fr_zret (pc := 623) dL_ask_623 rfl hz ⟨rfl, hW⟩
  · refine fr_aload_n (pc := 597) 1 rfl rfl dL_ask_597 ?_
    obtain ⟨hz, hrc, hW⟩ := hW
    refine fr_callV_I (pc := 598) (As := []) (st := []) wd_X11_good w_730 ok_X11_good (by decide) rfl (Nat.le_of_ble_eq_true rfl) dL_ask_598 hz kc_X11 hrc hW (fun i63 s62 hW => ?_)
    refine fr_aload_n (pc := 601) 1 rfl rfl dL_ask_601 ?_
    refine fr_bipush (pc := 602) 6 (by decide) dL_ask_602 ?_
    obtain ⟨hz, hrc, hW⟩ := hW
    refine fr_callV_I (pc := 604) (As := [.int 6]) (st := [.int i63]) wd_X11_count w_731 ok_X11_count (by decide) rfl (Nat.le_of_ble_eq_true rfl) dL_ask_604 hz kc_X11 hrc hW (fun i67 s66 hW => ?_)
    refine fr_icmp_ne (pc := 607) (tgt := 622) (by decide) dL_ask_607 hW (fun hW => ?_) (fun hW => ?_)
    · refine fr_iconst (pc := 622) 0 (by decide) dL_ask_622 ?_
      obtain ⟨hz, hW⟩ := hW
      exact fr_zret (pc := 623) dL_ask_623 rfl hz ⟨rfl, hW⟩
    · refine fr_aload_n (pc := 610) 1 rfl rfl dL_ask_610 ?_
      obtain ⟨mc74, ms75, hz, hrc, hW⟩ := hW
      refine fr_callV_Ia (pc := 611) (As := []) (st := []) wd_X11_ask w_732 ok_X11_ask (by decide) rfl (Nat.le_of_ble_eq_true rfl) dL_ask_611 hz (Z' := (cM, sM, kM + mc74, nM + ms75)) rfl kc_X11 hrc hW (fun i71 s70 hW => ?_)
      refine fr_iload_n (pc := 614) 2 rfl rfl dL_ask_614 ?_
      refine fr_icmp_ne (pc := 615) (tgt := 622) (by decide) dL_ask_615 hW (fun hW => ?_) (fun hW => ?_)
      · refine fr_iconst (pc := 622) 0 (by decide) dL_ask_622 ?_
        obtain ⟨hz, hW⟩ := hW
        exact fr_zret (pc := 623) dL_ask_623 rfl hz ⟨rfl, hW⟩
      · refine fr_iconst (pc := 618) 1 (by decide) dL_ask_618 ?_
        refine fr_goto (pc := 619) (tgt := 623) (by decide) dL_ask_619 ?_
        obtain ⟨hz, hW⟩ := hW
        exact fr_zret (pc := 623) dL_ask_623 rfl hz ⟨rfl, hW⟩
set_option maxHeartbeats 4000000 in
set_option maxRecDepth 100000 in
theorem q_L_within {g : GG} {σ : Hs} {post : Option Value → Hs → Prop} (p0 : Nat) (p1 : Nat) (p2 : Int32) (p3 : Int32) (p4 : Int32) (hW : Rc σ p0 11 ∧ Do g M_X11_get 0 0 [.ref p0, .int p3, .int p4] σ (kI (fun i2 s1 => AI g s1 p1 0 ((8 * p2) + p4) (fun i5 => (i2 < i5 → post (some (.int 0)) s1) ∧ (¬ i2 < i5 → AI g s1 p1 0 (((8 * p2) + 4) + p4) (fun i6 => (i6 < i2 → post (some (.int 0)) s1) ∧ (¬ i6 < i2 → post (some (.int 1)) s1))))))) : Do g M_L_within 0 0 [.ref p0, .ref p1, .int p2, .int p3, .int p4] σ post := by
  refine Do.of (by decide +kernel) (Nat.le_of_ble_eq_true rfl) ?_
  show Fr g M_L_within (0, 0, 0, 0) [(0, .ref p0), (1, .ref p1), (2, .int p2), (3, .int p3), (4, .int p4)] [] 0 σ post
  refine fr_aload_n (pc := 0) 0 rfl rfl dL_within_0 ?_
  refine fr_iload_n (pc := 1) 3 rfl rfl dL_within_1 ?_
  refine fr_iload (pc := 2) 4 rfl dL_within_2 ?_
  obtain ⟨hrc, hW⟩ := hW
  refine fr_callV_I (pc := 4) (As := [.int p3, .int p4]) (st := []) wd_X11_get w_736 ok_X11_get (by decide) rfl (Nat.le_of_ble_eq_true rfl) dL_within_4 ⟨Nat.le_refl 0, Nat.le_refl 0⟩ kc_X11 hrc hW (fun i2 s1 hW => ?_)
  refine fr_istore (pc := 7) (lv' := [(5, .int i2), (0, .ref p0), (1, .ref p1), (2, .int p2), (3, .int p3), (4, .int p4)]) (by decide) rfl dL_within_7 ?_
  refine fr_iload (pc := 9) 0 rfl dL_within_9 ?_
  refine fr_aload_n (pc := 11) 2 rfl rfl dL_within_11 ?_
  refine fr_bipush (pc := 12) 8 (by decide) dL_within_12 ?_
  refine fr_iload_n (pc := 14) 3 rfl rfl dL_within_14 ?_
  refine fr_imul (pc := 15) dL_within_15 ?_
  refine fr_iload (pc := 16) 5 rfl dL_within_16 ?_
  refine fr_iadd (pc := 18) dL_within_18 ?_
  refine fr_iald (pc := 19) dL_within_19 hW (fun i5 hW => ?_)
  refine fr_icmp_lt (pc := 20) (tgt := 43) (by decide) dL_within_20 hW (fun hW => ?_) (fun hW => ?_)
  · refine fr_iconst (pc := 43) 0 (by decide) dL_within_43 ?_
    exact fr_zret (pc := 44) dL_within_44 rfl ⟨Nat.le_refl 0, Nat.le_refl 0⟩ ⟨rfl, hW⟩
  · refine fr_iload (pc := 23) 0 rfl dL_within_23 ?_
    refine fr_aload_n (pc := 25) 2 rfl rfl dL_within_25 ?_
    refine fr_bipush (pc := 26) 8 (by decide) dL_within_26 ?_
    refine fr_iload_n (pc := 28) 3 rfl rfl dL_within_28 ?_
    refine fr_imul (pc := 29) dL_within_29 ?_
    refine fr_iconst (pc := 30) 4 (by decide) dL_within_30 ?_
    refine fr_iadd (pc := 31) dL_within_31 ?_
    refine fr_iload (pc := 32) 5 rfl dL_within_32 ?_
    refine fr_iadd (pc := 34) dL_within_34 ?_
    refine fr_iald (pc := 35) dL_within_35 hW (fun i6 hW => ?_)
    refine fr_icmp_gt (pc := 36) (tgt := 43) (by decide) dL_within_36 hW (fun hW => ?_) (fun hW => ?_)
    · refine fr_iconst (pc := 43) 0 (by decide) dL_within_43 ?_
      exact fr_zret (pc := 44) dL_within_44 rfl ⟨Nat.le_refl 0, Nat.le_refl 0⟩ ⟨rfl, hW⟩
    · refine fr_iconst (pc := 39) 1 (by decide) dL_within_39 ?_
      refine fr_goto (pc := 40) (tgt := 44) (by decide) dL_within_40 ?_
      exact fr_zret (pc := 44) dL_within_44 rfl ⟨Nat.le_refl 0, Nat.le_refl 0⟩ ⟨rfl, hW⟩
def J_L_all_2 (g : GG) (post : Option Value → Hs → Prop) (σ : Hs) (a0 : Nat) (a1 : Nat) (v2 : Int32) : Prop := Fr g M_L_all (0, 0, 0, 0) [(0, .ref a0), (1, .ref a1), (2, .int v2)] [] 2 σ post
set_option maxHeartbeats 4000000 in
set_option maxRecDepth 100000 in
theorem q_L_all {g : GG} {σ : Hs} {post : Option Value → Hs → Prop} (p0 : Nat) (p1 : Nat) (hW : J_L_all_2 g post σ p0 p1 0 ) : Do g M_L_all 0 0 [.ref p0, .ref p1] σ post := by
  refine Do.of (by decide +kernel) (Nat.le_of_ble_eq_true rfl) ?_
  show Fr g M_L_all (0, 0, 0, 0) [(0, .ref p0), (1, .ref p1)] [] 0 σ post
  refine fr_iconst (pc := 0) 0 (by decide) dL_all_0 ?_
  refine fr_istore_n (pc := 1) (lv' := [(2, .int 0), (0, .ref p0), (1, .ref p1)]) rfl (by decide) rfl dL_all_1 ?_
  exact fr_sub [1, 2, 0] rfl hW
set_option maxHeartbeats 4000000 in
set_option maxRecDepth 100000 in
theorem q_L_all_2 {g : GG} {σ : Hs} {post : Option Value → Hs → Prop} (a0 : Nat) (a1 : Nat) (v2 : Int32) (hW : (64 ≤ v2 → post none σ) ∧ (¬ 64 ≤ v2 → Rc σ a0 11 ∧ Do g M_X11_get 0 0 [.ref a0, .int v2, .int 0] σ (kI (fun i2 s1 => (0 ≤ i2 → SI g s1 a1 0 v2 1 (fun s5 => J_L_all_2 g post s5 a0 a1 ((v2 + 1)) )) ∧ (¬ 0 ≤ i2 → SI g s1 a1 0 v2 0 (fun s6 => J_L_all_2 g post s6 a0 a1 ((v2 + 1)) )))))) : J_L_all_2 g post σ a0 a1 v2 := by
  show Fr g M_L_all (0, 0, 0, 0) [(0, .ref a0), (1, .ref a1), (2, .int v2)] [] 2 σ post
  refine fr_iload_n (pc := 2) 2 rfl rfl dL_all_2 ?_
  refine fr_bipush (pc := 3) 64 (by decide) dL_all_3 ?_
  refine fr_icmp_ge (pc := 5) (tgt := 31) (by decide) dL_all_5 hW (fun hW => ?_) (fun hW => ?_)
  · exact fr_ret (pc := 31) dL_all_31 rfl ⟨Nat.le_refl 0, Nat.le_refl 0⟩ hW
  · refine fr_aload_n (pc := 8) 1 rfl rfl dL_all_8 ?_
    refine fr_iload_n (pc := 9) 2 rfl rfl dL_all_9 ?_
    refine fr_aload_n (pc := 10) 0 rfl rfl dL_all_10 ?_
    refine fr_iload_n (pc := 11) 2 rfl rfl dL_all_11 ?_
    refine fr_iconst (pc := 12) 0 (by decide) dL_all_12 ?_
    obtain ⟨hrc, hW⟩ := hW
    refine fr_callV_I (pc := 13) (As := [.int v2, .int 0]) (st := [.int v2, .ref a1]) wd_X11_get w_736 ok_X11_get (by decide) rfl (Nat.le_of_ble_eq_true rfl) dL_all_13 ⟨Nat.le_refl 0, Nat.le_refl 0⟩ kc_X11 hrc hW (fun i2 s1 hW => ?_)
    refine fr_if_ge (pc := 16) (tgt := 23) (by decide) dL_all_16 hW (fun hW => ?_) (fun hW => ?_)
    · refine fr_iconst (pc := 23) 1 (by decide) dL_all_23 ?_
      refine fr_iast (pc := 24) dL_all_24 hW (fun s5 hW => ?_)
      refine fr_iinc (pc := 25) (lv' := [(2, .int (v2 + 1)), (0, .ref a0), (1, .ref a1)]) (v2 + 1) 2 rfl (congrArg (fun z => v2 + z) (by decide)) (by decide) rfl dL_all_25 ?_
      refine fr_goto (pc := 28) (tgt := 2) (by decide) dL_all_28 ?_
      exact fr_sub [1, 2, 0] rfl hW
    · refine fr_iconst (pc := 19) 0 (by decide) dL_all_19 ?_
      refine fr_goto (pc := 20) (tgt := 24) (by decide) dL_all_20 ?_
      refine fr_iast (pc := 24) dL_all_24 hW (fun s6 hW => ?_)
      refine fr_iinc (pc := 25) (lv' := [(2, .int (v2 + 1)), (0, .ref a0), (1, .ref a1)]) (v2 + 1) 2 rfl (congrArg (fun z => v2 + z) (by decide)) (by decide) rfl dL_all_25 ?_
      refine fr_goto (pc := 28) (tgt := 2) (by decide) dL_all_28 ?_
      exact fr_sub [1, 2, 0] rfl hW
set_option maxHeartbeats 4000000 in
set_option maxRecDepth 100000 in
theorem q_L_fixed {g : GG} {σ : Hs} {post : Option Value → Hs → Prop} (p0 : Nat) (p1 : Int32) (p2 : Int32) (hW : AI g σ p0 0 ((8 * p1) + p2) (fun i1 => AI g σ p0 0 (((8 * p1) + 4) + p2) (fun i2 => (¬ i1 = i2 → post (some (.int 0)) σ) ∧ (i1 = i2 → post (some (.int 1)) σ)))) : Do g M_L_fixed 0 0 [.ref p0, .int p1, .int p2] σ post := by
  refine Do.of (by decide +kernel) (Nat.le_of_ble_eq_true rfl) ?_
  show Fr g M_L_fixed (0, 0, 0, 0) [(0, .ref p0), (1, .int p1), (2, .int p2)] [] 0 σ post
  refine fr_aload_n (pc := 0) 0 rfl rfl dL_fixed_0 ?_
  refine fr_bipush (pc := 1) 8 (by decide) dL_fixed_1 ?_
  refine fr_iload_n (pc := 3) 1 rfl rfl dL_fixed_3 ?_
  refine fr_imul (pc := 4) dL_fixed_4 ?_
  refine fr_iload_n (pc := 5) 2 rfl rfl dL_fixed_5 ?_
  refine fr_iadd (pc := 6) dL_fixed_6 ?_
  refine fr_iald (pc := 7) dL_fixed_7 hW (fun i1 hW => ?_)
  refine fr_aload_n (pc := 8) 0 rfl rfl dL_fixed_8 ?_
  refine fr_bipush (pc := 9) 8 (by decide) dL_fixed_9 ?_
  refine fr_iload_n (pc := 11) 1 rfl rfl dL_fixed_11 ?_
  refine fr_imul (pc := 12) dL_fixed_12 ?_
  refine fr_iconst (pc := 13) 4 (by decide) dL_fixed_13 ?_
  refine fr_iadd (pc := 14) dL_fixed_14 ?_
  refine fr_iload_n (pc := 15) 2 rfl rfl dL_fixed_15 ?_
  refine fr_iadd (pc := 16) dL_fixed_16 ?_
  refine fr_iald (pc := 17) dL_fixed_17 hW (fun i2 hW => ?_)
  refine fr_icmp_ne (pc := 18) (tgt := 25) (by decide) dL_fixed_18 hW (fun hW => ?_) (fun hW => ?_)
  · refine fr_iconst (pc := 25) 0 (by decide) dL_fixed_25 ?_
    exact fr_zret (pc := 26) dL_fixed_26 rfl ⟨Nat.le_refl 0, Nat.le_refl 0⟩ ⟨rfl, hW⟩
  · refine fr_iconst (pc := 21) 1 (by decide) dL_fixed_21 ?_
    refine fr_goto (pc := 22) (tgt := 26) (by decide) dL_fixed_22 ?_
    exact fr_zret (pc := 26) dL_fixed_26 rfl ⟨Nat.le_refl 0, Nat.le_refl 0⟩ ⟨rfl, hW⟩
def J_L_pages_4 (g : GG) (post : Option Value → Hs → Prop) (σ : Hs) (a0 : Nat) (v1 : Int32) (v2 : Int32) (v3 : Int32) : Prop := Fr g M_L_pages (0, 0, 0, 0) [(0, .ref a0), (1, .int v1), (2, .int v2), (3, .int v3)] [] 4 σ post
def J_L_pages_16 (g : GG) (post : Option Value → Hs → Prop) (σ : Hs) (a0 : Nat) (v1 : Int32) (v2 : Int32) (v3 : Int32) (v4 : Int32) (v5 : Int32) : Prop := Fr g M_L_pages (0, 0, 0, 0) [(0, .ref a0), (1, .int v1), (2, .int v2), (3, .int v3), (4, .int v4), (5, .int v5)] [] 16 σ post
def J_L_pages_56 (g : GG) (post : Option Value → Hs → Prop) (σ : Hs) (a0 : Nat) (v1 : Int32) (v2 : Int32) (v3 : Int32) (v4 : Int32) : Prop := Fr g M_L_pages (0, 0, 0, 0) [(0, .ref a0), (1, .int v1), (2, .int v2), (3, .int v3), (4, .int v4)] [] 56 σ post
set_option maxHeartbeats 4000000 in
set_option maxRecDepth 100000 in
theorem q_L_pages {g : GG} {σ : Hs} {post : Option Value → Hs → Prop} (p0 : Nat) (p1 : Int32) (hW : J_L_pages_4 g post σ p0 p1 0 0 ) : Do g M_L_pages 0 0 [.ref p0, .int p1] σ post := by
  refine Do.of (by decide +kernel) (Nat.le_of_ble_eq_true rfl) ?_
  show Fr g M_L_pages (0, 0, 0, 0) [(0, .ref p0), (1, .int p1)] [] 0 σ post
  refine fr_iconst (pc := 0) 0 (by decide) dL_pages_0 ?_
  refine fr_istore_n (pc := 1) (lv' := [(2, .int 0), (0, .ref p0), (1, .int p1)]) rfl (by decide) rfl dL_pages_1 ?_
  refine fr_iconst (pc := 2) 0 (by decide) dL_pages_2 ?_
  refine fr_istore_n (pc := 3) (lv' := [(3, .int 0), (2, .int 0), (0, .ref p0), (1, .int p1)]) rfl (by decide) rfl dL_pages_3 ?_
  exact fr_sub [2, 3, 1, 0] rfl hW
set_option maxHeartbeats 4000000 in
set_option maxRecDepth 100000 in
theorem q_L_pages_4 {g : GG} {σ : Hs} {post : Option Value → Hs → Prop} (a0 : Nat) (v1 : Int32) (v2 : Int32) (v3 : Int32) (hW : (64 ≤ v3 → post (some (.int v2)) σ) ∧ (¬ 64 ≤ v3 → J_L_pages_16 g post σ a0 v1 v2 v3 0 v3 )) : J_L_pages_4 g post σ a0 v1 v2 v3 := by
  show Fr g M_L_pages (0, 0, 0, 0) [(0, .ref a0), (1, .int v1), (2, .int v2), (3, .int v3)] [] 4 σ post
  refine fr_iload_n (pc := 4) 3 rfl rfl dL_pages_4 ?_
  refine fr_bipush (pc := 5) 64 (by decide) dL_pages_5 ?_
  refine fr_icmp_ge (pc := 7) (tgt := 76) (by decide) dL_pages_7 hW (fun hW => ?_) (fun hW => ?_)
  · refine fr_iload_n (pc := 76) 2 rfl rfl dL_pages_76 ?_
    exact fr_iret (pc := 77) dL_pages_77 rfl ⟨Nat.le_refl 0, Nat.le_refl 0⟩ hW
  · refine fr_iconst (pc := 10) 0 (by decide) dL_pages_10 ?_
    refine fr_istore (pc := 11) (lv' := [(4, .int 0), (0, .ref a0), (1, .int v1), (2, .int v2), (3, .int v3)]) (by decide) rfl dL_pages_11 ?_
    refine fr_iload_n (pc := 13) 4 rfl rfl dL_pages_13 ?_
    refine fr_istore (pc := 14) (lv' := [(5, .int v3), (4, .int 0), (0, .ref a0), (1, .int v1), (2, .int v2), (3, .int v3)]) (by decide) rfl dL_pages_14 ?_
    exact fr_sub [2, 3, 4, 5, 1, 0] rfl hW
set_option maxHeartbeats 4000000 in
set_option maxRecDepth 100000 in
theorem q_L_pages_16 {g : GG} {σ : Hs} {post : Option Value → Hs → Prop} (a0 : Nat) (v1 : Int32) (v2 : Int32) (v3 : Int32) (v4 : Int32) (v5 : Int32) (hW : ((v3 + v1) ≤ v5 → J_L_pages_56 g post σ a0 v1 v2 v3 v4 ) ∧ (¬ (v3 + v1) ≤ v5 → (64 ≤ v5 → J_L_pages_56 g post σ a0 v1 v2 v3 v4 ) ∧ (¬ 64 ≤ v5 → (¬ v4 = 0 → J_L_pages_16 g post σ a0 v1 v2 v3 1 ((v5 + 1)) ) ∧ (v4 = 0 → AI g σ a0 0 v5 (fun i1 => (i1 ≤ 0 → J_L_pages_16 g post σ a0 v1 v2 v3 0 ((v5 + 1)) ) ∧ (¬ i1 ≤ 0 → J_L_pages_16 g post σ a0 v1 v2 v3 1 ((v5 + 1)) )))))) : J_L_pages_16 g post σ a0 v1 v2 v3 v4 v5 := by
  show Fr g M_L_pages (0, 0, 0, 0) [(0, .ref a0), (1, .int v1), (2, .int v2), (3, .int v3), (4, .int v4), (5, .int v5)] [] 16 σ post
  refine fr_iload (pc := 16) 5 rfl dL_pages_16 ?_
  refine fr_iload_n (pc := 18) 3 rfl rfl dL_pages_18 ?_
  refine fr_iload_n (pc := 19) 1 rfl rfl dL_pages_19 ?_
  refine fr_iadd (pc := 20) dL_pages_20 ?_
  refine fr_icmp_ge (pc := 21) (tgt := 56) (by decide) dL_pages_21 hW (fun hW => ?_) (fun hW => ?_)
  · exact fr_sub [0, 1, 2, 3, 4] rfl hW
  · refine fr_iload (pc := 24) 5 rfl dL_pages_24 ?_
    refine fr_bipush (pc := 26) 64 (by decide) dL_pages_26 ?_
    refine fr_icmp_ge (pc := 28) (tgt := 56) (by decide) dL_pages_28 hW (fun hW => ?_) (fun hW => ?_)
    · exact fr_sub [0, 1, 2, 3, 4] rfl hW
    · refine fr_iload (pc := 31) 4 rfl dL_pages_31 ?_
      refine fr_if_ne (pc := 33) (tgt := 43) (by decide) dL_pages_33 hW (fun hW => ?_) (fun hW => ?_)
      · refine fr_iconst (pc := 43) 1 (by decide) dL_pages_43 ?_
        refine fr_goto (pc := 44) (tgt := 48) (by decide) dL_pages_44 ?_
        refine fr_istore (pc := 48) (lv' := [(4, .int 1), (0, .ref a0), (1, .int v1), (2, .int v2), (3, .int v3), (5, .int v5)]) (by decide) rfl dL_pages_48 ?_
        refine fr_iinc (pc := 50) (lv' := [(5, .int (v5 + 1)), (4, .int 1), (0, .ref a0), (1, .int v1), (2, .int v2), (3, .int v3)]) (v5 + 1) 5 rfl (congrArg (fun z => v5 + z) (by decide)) (by decide) rfl dL_pages_50 ?_
        refine fr_goto (pc := 53) (tgt := 16) (by decide) dL_pages_53 ?_
        exact fr_sub [2, 3, 4, 5, 1, 0] rfl hW
      · refine fr_aload_n (pc := 36) 0 rfl rfl dL_pages_36 ?_
        refine fr_iload (pc := 37) 5 rfl dL_pages_37 ?_
        refine fr_iald (pc := 39) dL_pages_39 hW (fun i1 hW => ?_)
        refine fr_if_le (pc := 40) (tgt := 47) (by decide) dL_pages_40 hW (fun hW => ?_) (fun hW => ?_)
        · refine fr_iconst (pc := 47) 0 (by decide) dL_pages_47 ?_
          refine fr_istore (pc := 48) (lv' := [(4, .int 0), (0, .ref a0), (1, .int v1), (2, .int v2), (3, .int v3), (5, .int v5)]) (by decide) rfl dL_pages_48 ?_
          refine fr_iinc (pc := 50) (lv' := [(5, .int (v5 + 1)), (4, .int 0), (0, .ref a0), (1, .int v1), (2, .int v2), (3, .int v3)]) (v5 + 1) 5 rfl (congrArg (fun z => v5 + z) (by decide)) (by decide) rfl dL_pages_50 ?_
          refine fr_goto (pc := 53) (tgt := 16) (by decide) dL_pages_53 ?_
          exact fr_sub [2, 3, 4, 5, 1, 0] rfl hW
        · refine fr_iconst (pc := 43) 1 (by decide) dL_pages_43 ?_
          refine fr_goto (pc := 44) (tgt := 48) (by decide) dL_pages_44 ?_
          refine fr_istore (pc := 48) (lv' := [(4, .int 1), (0, .ref a0), (1, .int v1), (2, .int v2), (3, .int v3), (5, .int v5)]) (by decide) rfl dL_pages_48 ?_
          refine fr_iinc (pc := 50) (lv' := [(5, .int (v5 + 1)), (4, .int 1), (0, .ref a0), (1, .int v1), (2, .int v2), (3, .int v3)]) (v5 + 1) 5 rfl (congrArg (fun z => v5 + z) (by decide)) (by decide) rfl dL_pages_50 ?_
          refine fr_goto (pc := 53) (tgt := 16) (by decide) dL_pages_53 ?_
          exact fr_sub [2, 3, 4, 5, 1, 0] rfl hW
set_option maxHeartbeats 4000000 in
set_option maxRecDepth 100000 in
theorem q_L_pages_56 {g : GG} {σ : Hs} {post : Option Value → Hs → Prop} (a0 : Nat) (v1 : Int32) (v2 : Int32) (v3 : Int32) (v4 : Int32) (hW : (v4 = 0 → J_L_pages_4 g post σ a0 v1 ((v2 + 0)) ((v3 + v1)) ) ∧ (¬ v4 = 0 → J_L_pages_4 g post σ a0 v1 ((v2 + 1)) ((v3 + v1)) )) : J_L_pages_56 g post σ a0 v1 v2 v3 v4 := by
  show Fr g M_L_pages (0, 0, 0, 0) [(0, .ref a0), (1, .int v1), (2, .int v2), (3, .int v3), (4, .int v4)] [] 56 σ post
  refine fr_iload_n (pc := 56) 2 rfl rfl dL_pages_56 ?_
  refine fr_iload (pc := 57) 4 rfl dL_pages_57 ?_
  refine fr_if_eq (pc := 59) (tgt := 66) (by decide) dL_pages_59 hW (fun hW => ?_) (fun hW => ?_)
  · refine fr_iconst (pc := 66) 0 (by decide) dL_pages_66 ?_
    refine fr_iadd (pc := 67) dL_pages_67 ?_
    refine fr_istore_n (pc := 68) (lv' := [(2, .int (v2 + 0)), (0, .ref a0), (1, .int v1), (3, .int v3), (4, .int v4)]) rfl (by decide) rfl dL_pages_68 ?_
    refine fr_iload_n (pc := 69) 3 rfl rfl dL_pages_69 ?_
    refine fr_iload_n (pc := 70) 2 rfl rfl dL_pages_70 ?_
    refine fr_iadd (pc := 71) dL_pages_71 ?_
    refine fr_istore_n (pc := 72) (lv' := [(3, .int (v3 + v1)), (2, .int (v2 + 0)), (0, .ref a0), (1, .int v1), (4, .int v4)]) rfl (by decide) rfl dL_pages_72 ?_
    refine fr_goto (pc := 73) (tgt := 4) (by decide) dL_pages_73 ?_
    exact fr_sub [2, 3, 1, 0] rfl hW
  · refine fr_iconst (pc := 62) 1 (by decide) dL_pages_62 ?_
    refine fr_goto (pc := 63) (tgt := 67) (by decide) dL_pages_63 ?_
    refine fr_iadd (pc := 67) dL_pages_67 ?_
    refine fr_istore_n (pc := 68) (lv' := [(2, .int (v2 + 1)), (0, .ref a0), (1, .int v1), (3, .int v3), (4, .int v4)]) rfl (by decide) rfl dL_pages_68 ?_
    refine fr_iload_n (pc := 69) 3 rfl rfl dL_pages_69 ?_
    refine fr_iload_n (pc := 70) 2 rfl rfl dL_pages_70 ?_
    refine fr_iadd (pc := 71) dL_pages_71 ?_
    refine fr_istore_n (pc := 72) (lv' := [(3, .int (v3 + v1)), (2, .int (v2 + 1)), (0, .ref a0), (1, .int v1), (4, .int v4)]) rfl (by decide) rfl dL_pages_72 ?_
    refine fr_goto (pc := 73) (tgt := 4) (by decide) dL_pages_73 ?_
    exact fr_sub [2, 3, 1, 0] rfl hW
def J_L_column_28 (g : GG) (post : Option Value → Hs → Prop) (σ : Hs) (v1 : Int32) (v2 : Int32) (v3 : Int32) (v4 : Int32) : Prop := Fr g M_L_column (0, 0, 0, 0) [(1, .int v1), (2, .int v2), (3, .int v3), (4, .int v4)] [] 28 σ post
set_option maxHeartbeats 4000000 in
set_option maxRecDepth 100000 in
theorem q_L_column {g : GG} {σ : Hs} {post : Option Value → Hs → Prop} (p0 : Int32) (p1 : Int32) (hW : (p0 ≤ 24 → (p0 ≤ 4 → J_L_column_28 g post σ p1 1 p0 ((1 - 1)) ) ∧ (¬ p0 ≤ 4 → J_L_column_28 g post σ p1 2 p0 ((2 - 1)) )) ∧ (¬ p0 ≤ 24 → J_L_column_28 g post σ p1 3 p0 ((3 - 1)) )) : Do g M_L_column 0 0 [.int p0, .int p1] σ post := by
  refine Do.of (by decide +kernel) (Nat.le_of_ble_eq_true rfl) ?_
  show Fr g M_L_column (0, 0, 0, 0) [(0, .int p0), (1, .int p1)] [] 0 σ post
  refine fr_iload_n (pc := 0) 0 rfl rfl dL_column_0 ?_
  refine fr_bipush (pc := 1) 24 (by decide) dL_column_1 ?_
  refine fr_icmp_le (pc := 3) (tgt := 10) (by decide) dL_column_3 hW (fun hW => ?_) (fun hW => ?_)
  · refine fr_iload_n (pc := 10) 0 rfl rfl dL_column_10 ?_
    refine fr_iconst (pc := 11) 4 (by decide) dL_column_11 ?_
    refine fr_icmp_le (pc := 12) (tgt := 19) (by decide) dL_column_12 hW (fun hW => ?_) (fun hW => ?_)
    · refine fr_iconst (pc := 19) 1 (by decide) dL_column_19 ?_
      refine fr_istore_n (pc := 20) (lv' := [(2, .int 1), (0, .int p0), (1, .int p1)]) rfl (by decide) rfl dL_column_20 ?_
      refine fr_iload_n (pc := 21) 1 rfl rfl dL_column_21 ?_
      refine fr_istore_n (pc := 22) (lv' := [(3, .int p0), (2, .int 1), (0, .int p0), (1, .int p1)]) rfl (by decide) rfl dL_column_22 ?_
      refine fr_iload_n (pc := 23) 1 rfl rfl dL_column_23 ?_
      refine fr_iconst (pc := 24) 1 (by decide) dL_column_24 ?_
      refine fr_isub (pc := 25) dL_column_25 ?_
      refine fr_istore (pc := 26) (lv' := [(4, .int (1 - 1)), (3, .int p0), (2, .int 1), (0, .int p0), (1, .int p1)]) (by decide) rfl dL_column_26 ?_
      exact fr_sub [4, 2, 1, 0] rfl hW
    · refine fr_iconst (pc := 15) 2 (by decide) dL_column_15 ?_
      refine fr_goto (pc := 16) (tgt := 20) (by decide) dL_column_16 ?_
      refine fr_istore_n (pc := 20) (lv' := [(2, .int 2), (0, .int p0), (1, .int p1)]) rfl (by decide) rfl dL_column_20 ?_
      refine fr_iload_n (pc := 21) 1 rfl rfl dL_column_21 ?_
      refine fr_istore_n (pc := 22) (lv' := [(3, .int p0), (2, .int 2), (0, .int p0), (1, .int p1)]) rfl (by decide) rfl dL_column_22 ?_
      refine fr_iload_n (pc := 23) 1 rfl rfl dL_column_23 ?_
      refine fr_iconst (pc := 24) 1 (by decide) dL_column_24 ?_
      refine fr_isub (pc := 25) dL_column_25 ?_
      refine fr_istore (pc := 26) (lv' := [(4, .int (2 - 1)), (3, .int p0), (2, .int 2), (0, .int p0), (1, .int p1)]) (by decide) rfl dL_column_26 ?_
      exact fr_sub [4, 2, 1, 0] rfl hW
  · refine fr_iconst (pc := 6) 3 (by decide) dL_column_6 ?_
    refine fr_goto (pc := 7) (tgt := 20) (by decide) dL_column_7 ?_
    refine fr_istore_n (pc := 20) (lv' := [(2, .int 3), (0, .int p0), (1, .int p1)]) rfl (by decide) rfl dL_column_20 ?_
    refine fr_iload_n (pc := 21) 1 rfl rfl dL_column_21 ?_
    refine fr_istore_n (pc := 22) (lv' := [(3, .int p0), (2, .int 3), (0, .int p0), (1, .int p1)]) rfl (by decide) rfl dL_column_22 ?_
    refine fr_iload_n (pc := 23) 1 rfl rfl dL_column_23 ?_
    refine fr_iconst (pc := 24) 1 (by decide) dL_column_24 ?_
    refine fr_isub (pc := 25) dL_column_25 ?_
    refine fr_istore (pc := 26) (lv' := [(4, .int (3 - 1)), (3, .int p0), (2, .int 3), (0, .int p0), (1, .int p1)]) (by decide) rfl dL_column_26 ?_
    exact fr_sub [4, 2, 1, 0] rfl hW
set_option maxHeartbeats 4000000 in
set_option maxRecDepth 100000 in
theorem q_L_column_28 {g : GG} {σ : Hs} {post : Option Value → Hs → Prop} (v1 : Int32) (v2 : Int32) (v3 : Int32) (v4 : Int32) (hW : (v4 ≤ v1 → (v2 ≤ v1 → post (some (.int (-1))) σ) ∧ (¬ v2 ≤ v1 → post (some (.int ((v3 - v3 / 5 * 5) - 1))) σ)) ∧ (¬ v4 ≤ v1 → J_L_column_28 g post σ v1 v2 ((v3 / 5)) ((v4 + (-1))) )) : J_L_column_28 g post σ v1 v2 v3 v4 := by
  show Fr g M_L_column (0, 0, 0, 0) [(1, .int v1), (2, .int v2), (3, .int v3), (4, .int v4)] [] 28 σ post
  refine fr_iload (pc := 28) 3 rfl dL_column_28 ?_
  refine fr_iload_n (pc := 30) 0 rfl rfl dL_column_30 ?_
  refine fr_icmp_le (pc := 31) (tgt := 44) (by decide) dL_column_31 hW (fun hW => ?_) (fun hW => ?_)
  · refine fr_iload_n (pc := 44) 0 rfl rfl dL_column_44 ?_
    refine fr_iload_n (pc := 45) 1 rfl rfl dL_column_45 ?_
    refine fr_icmp_ge (pc := 46) (tgt := 57) (by decide) dL_column_46 hW (fun hW => ?_) (fun hW => ?_)
    · refine fr_iconst (pc := 57) (-1) (by decide) dL_column_57 ?_
      exact fr_iret (pc := 58) dL_column_58 rfl ⟨Nat.le_refl 0, Nat.le_refl 0⟩ hW
    · refine fr_iload_n (pc := 49) 2 rfl rfl dL_column_49 ?_
      refine fr_iconst (pc := 50) 5 (by decide) dL_column_50 ?_
      refine fr_irem (pc := 51) (by decide) dL_column_51 ?_
      refine fr_iconst (pc := 52) 1 (by decide) dL_column_52 ?_
      refine fr_isub (pc := 53) dL_column_53 ?_
      refine fr_goto (pc := 54) (tgt := 58) (by decide) dL_column_54 ?_
      exact fr_iret (pc := 58) dL_column_58 rfl ⟨Nat.le_refl 0, Nat.le_refl 0⟩ hW
  · refine fr_iload_n (pc := 34) 2 rfl rfl dL_column_34 ?_
    refine fr_iconst (pc := 35) 5 (by decide) dL_column_35 ?_
    refine fr_idiv (pc := 36) (by decide) dL_column_36 ?_
    refine fr_istore_n (pc := 37) (lv' := [(3, .int (v3 / 5)), (1, .int v1), (2, .int v2), (4, .int v4)]) rfl (by decide) rfl dL_column_37 ?_
    refine fr_iinc (pc := 38) (lv' := [(4, .int (v4 + (-1))), (3, .int (v3 / 5)), (1, .int v1), (2, .int v2)]) (v4 + (-1)) 3 rfl (congrArg (fun z => v4 + z) (by decide)) (by decide) rfl dL_column_38 ?_
    refine fr_goto (pc := 41) (tgt := 28) (by decide) dL_column_41 ?_
    exact fr_sub [2, 3, 1, 0] rfl hW
set_option maxHeartbeats 4000000 in
set_option maxRecDepth 100000 in
theorem q_L_bound {g : GG} {σ : Hs} {post : Option Value → Hs → Prop} (p0 : Nat) (p1 : Int32) (p2 : Int32) (hW : AI g σ p0 0 ((8 * p1) + p2) (fun i1 => (0 < i1 → post (some (.int 1)) σ) ∧ (¬ 0 < i1 → AI g σ p0 0 (((8 * p1) + 4) + p2) (fun i2 => (99 ≤ i2 → post (some (.int 0)) σ) ∧ (¬ 99 ≤ i2 → post (some (.int 1)) σ))))) : Do g M_L_bound 0 0 [.ref p0, .int p1, .int p2] σ post := by
  refine Do.of (by decide +kernel) (Nat.le_of_ble_eq_true rfl) ?_
  show Fr g M_L_bound (0, 0, 0, 0) [(0, .ref p0), (1, .int p1), (2, .int p2)] [] 0 σ post
  refine fr_aload_n (pc := 0) 0 rfl rfl dL_bound_0 ?_
  refine fr_bipush (pc := 1) 8 (by decide) dL_bound_1 ?_
  refine fr_iload_n (pc := 3) 1 rfl rfl dL_bound_3 ?_
  refine fr_imul (pc := 4) dL_bound_4 ?_
  refine fr_iload_n (pc := 5) 2 rfl rfl dL_bound_5 ?_
  refine fr_iadd (pc := 6) dL_bound_6 ?_
  refine fr_iald (pc := 7) dL_bound_7 hW (fun i1 hW => ?_)
  refine fr_if_gt (pc := 8) (tgt := 26) (by decide) dL_bound_8 hW (fun hW => ?_) (fun hW => ?_)
  · refine fr_iconst (pc := 26) 1 (by decide) dL_bound_26 ?_
    refine fr_goto (pc := 27) (tgt := 31) (by decide) dL_bound_27 ?_
    exact fr_zret (pc := 31) dL_bound_31 rfl ⟨Nat.le_refl 0, Nat.le_refl 0⟩ ⟨rfl, hW⟩
  · refine fr_aload_n (pc := 11) 0 rfl rfl dL_bound_11 ?_
    refine fr_bipush (pc := 12) 8 (by decide) dL_bound_12 ?_
    refine fr_iload_n (pc := 14) 1 rfl rfl dL_bound_14 ?_
    refine fr_imul (pc := 15) dL_bound_15 ?_
    refine fr_iconst (pc := 16) 4 (by decide) dL_bound_16 ?_
    refine fr_iadd (pc := 17) dL_bound_17 ?_
    refine fr_iload_n (pc := 18) 2 rfl rfl dL_bound_18 ?_
    refine fr_iadd (pc := 19) dL_bound_19 ?_
    refine fr_iald (pc := 20) dL_bound_20 hW (fun i2 hW => ?_)
    refine fr_bipush (pc := 21) 99 (by decide) dL_bound_21 ?_
    refine fr_icmp_ge (pc := 23) (tgt := 30) (by decide) dL_bound_23 hW (fun hW => ?_) (fun hW => ?_)
    · refine fr_iconst (pc := 30) 0 (by decide) dL_bound_30 ?_
      exact fr_zret (pc := 31) dL_bound_31 rfl ⟨Nat.le_refl 0, Nat.le_refl 0⟩ ⟨rfl, hW⟩
    · refine fr_iconst (pc := 26) 1 (by decide) dL_bound_26 ?_
      refine fr_goto (pc := 27) (tgt := 31) (by decide) dL_bound_27 ?_
      exact fr_zret (pc := 31) dL_bound_31 rfl ⟨Nat.le_refl 0, Nat.le_refl 0⟩ ⟨rfl, hW⟩
def J_L_run_2 (g : GG) (post : Option Value → Hs → Prop) (σ : Hs) (a0 : Nat) (v1 : Int32) (v2 : Int32) (v3 : Int32) : Prop := Fr g M_L_run (0, 0, 0, 0) [(0, .ref a0), (1, .int v1), (2, .int v2), (3, .int v3)] [] 2 σ post
def J_L_run_29 (g : GG) (post : Option Value → Hs → Prop) (σ : Hs) (a0 : Nat) (v1 : Int32) (v2 : Int32) (v3 : Int32) : Prop := Fr g M_L_run (0, 0, 0, 0) [(0, .ref a0), (1, .int v1), (2, .int v2), (3, .int v3)] [] 29 σ post
def J_L_run_55 (g : GG) (post : Option Value → Hs → Prop) (σ : Hs) (v3 : Int32) (t0 : Int32) : Prop := Fr g M_L_run (0, 0, 0, 0) [(3, .int v3)] [.int t0] 55 σ post
set_option maxHeartbeats 4000000 in
set_option maxRecDepth 100000 in
theorem q_L_run {g : GG} {σ : Hs} {post : Option Value → Hs → Prop} (p0 : Nat) (p1 : Int32) (p2 : Int32) (hW : J_L_run_2 g post σ p0 p1 p2 0 ) : Do g M_L_run 0 0 [.ref p0, .int p1, .int p2] σ post := by
  refine Do.of (by decide +kernel) (Nat.le_of_ble_eq_true rfl) ?_
  show Fr g M_L_run (0, 0, 0, 0) [(0, .ref p0), (1, .int p1), (2, .int p2)] [] 0 σ post
  refine fr_iconst (pc := 0) 0 (by decide) dL_run_0 ?_
  refine fr_istore_n (pc := 1) (lv' := [(3, .int 0), (0, .ref p0), (1, .int p1), (2, .int p2)]) rfl (by decide) rfl dL_run_1 ?_
  exact fr_sub [1, 2, 3, 0] rfl hW
set_option maxHeartbeats 4000000 in
set_option maxRecDepth 100000 in
theorem q_L_run_2 {g : GG} {σ : Hs} {post : Option Value → Hs → Prop} (a0 : Nat) (v1 : Int32) (v2 : Int32) (v3 : Int32) (hW : Do g M_L_column 0 0 [.int v2, .int v3] σ (kI (fun i2 s1 => (i2 < 0 → J_L_run_29 g post s1 a0 v1 v2 v3 ) ∧ (¬ i2 < 0 → Do g M_L_column 0 0 [.int v2, .int v3] s1 (kI (fun i6 s5 => Do g M_L_fixed 0 0 [.ref a0, .int v1, .int i6] s5 (kI (fun i10 s9 => (i10 = 0 → J_L_run_29 g post s9 a0 v1 v2 v3 ) ∧ (¬ i10 = 0 → J_L_run_2 g post s9 a0 v1 v2 ((v3 + 1)) ))))))))) : J_L_run_2 g post σ a0 v1 v2 v3 := by
  show Fr g M_L_run (0, 0, 0, 0) [(0, .ref a0), (1, .int v1), (2, .int v2), (3, .int v3)] [] 2 σ post
  refine fr_iload_n (pc := 2) 2 rfl rfl dL_run_2 ?_
  refine fr_iload_n (pc := 3) 3 rfl rfl dL_run_3 ?_
  refine fr_callS_I (pc := 4) (As := [.int v2, .int v3]) (st := []) wd_L_column w_758 ok_L_column (by decide) rfl (Nat.le_of_ble_eq_true rfl) dL_run_4 ⟨Nat.le_refl 0, Nat.le_refl 0⟩ hW (fun i2 s1 hW => ?_)
  refine fr_if_lt (pc := 7) (tgt := 29) (by decide) dL_run_7 hW (fun hW => ?_) (fun hW => ?_)
  · exact fr_sub [0, 1, 2, 3] rfl hW
  · refine fr_aload_n (pc := 10) 0 rfl rfl dL_run_10 ?_
    refine fr_iload_n (pc := 11) 1 rfl rfl dL_run_11 ?_
    refine fr_iload_n (pc := 12) 2 rfl rfl dL_run_12 ?_
    refine fr_iload_n (pc := 13) 3 rfl rfl dL_run_13 ?_
    refine fr_callS_I (pc := 14) (As := [.int v2, .int v3]) (st := [.int v1, .ref a0]) wd_L_column w_758 ok_L_column (by decide) rfl (Nat.le_of_ble_eq_true rfl) dL_run_14 ⟨Nat.le_refl 0, Nat.le_refl 0⟩ hW (fun i6 s5 hW => ?_)
    refine fr_callS_I (pc := 17) (As := [.ref a0, .int v1, .int i6]) (st := []) wd_L_fixed w_759 ok_L_fixed (by decide) rfl (Nat.le_of_ble_eq_true rfl) dL_run_17 ⟨Nat.le_refl 0, Nat.le_refl 0⟩ hW (fun i10 s9 hW => ?_)
    refine fr_if_eq (pc := 20) (tgt := 29) (by decide) dL_run_20 hW (fun hW => ?_) (fun hW => ?_)
    · exact fr_sub [0, 1, 2, 3] rfl hW
    · refine fr_iinc (pc := 23) (lv' := [(3, .int (v3 + 1)), (0, .ref a0), (1, .int v1), (2, .int v2)]) (v3 + 1) 3 rfl (congrArg (fun z => v3 + z) (by decide)) (by decide) rfl dL_run_23 ?_
      refine fr_goto (pc := 26) (tgt := 2) (by decide) dL_run_26 ?_
      exact fr_sub [1, 2, 3, 0] rfl hW
set_option maxHeartbeats 4000000 in
set_option maxRecDepth 100000 in
theorem q_L_run_29 {g : GG} {σ : Hs} {post : Option Value → Hs → Prop} (a0 : Nat) (v1 : Int32) (v2 : Int32) (v3 : Int32) (hW : Do g M_L_column 0 0 [.int v2, .int v3] σ (kI (fun i14 s13 => (i14 < 0 → J_L_run_55 g post s13 v3 0) ∧ (¬ i14 < 0 → Do g M_L_column 0 0 [.int v2, .int v3] s13 (kI (fun i18 s17 => Do g M_L_bound 0 0 [.ref a0, .int v1, .int i18] s17 (kI (fun i22 s21 => (i22 = 0 → J_L_run_55 g post s21 v3 0) ∧ (¬ i22 = 0 → J_L_run_55 g post s21 v3 1))))))))) : J_L_run_29 g post σ a0 v1 v2 v3 := by
  show Fr g M_L_run (0, 0, 0, 0) [(0, .ref a0), (1, .int v1), (2, .int v2), (3, .int v3)] [] 29 σ post
  refine fr_iload_n (pc := 29) 2 rfl rfl dL_run_29 ?_
  refine fr_iload_n (pc := 30) 3 rfl rfl dL_run_30 ?_
  refine fr_callS_I (pc := 31) (As := [.int v2, .int v3]) (st := []) wd_L_column w_758 ok_L_column (by decide) rfl (Nat.le_of_ble_eq_true rfl) dL_run_31 ⟨Nat.le_refl 0, Nat.le_refl 0⟩ hW (fun i14 s13 hW => ?_)
  refine fr_if_lt (pc := 34) (tgt := 54) (by decide) dL_run_34 hW (fun hW => ?_) (fun hW => ?_)
  · refine fr_iconst (pc := 54) 0 (by decide) dL_run_54 ?_
    exact fr_sub [3] rfl hW
  · refine fr_aload_n (pc := 37) 0 rfl rfl dL_run_37 ?_
    refine fr_iload_n (pc := 38) 1 rfl rfl dL_run_38 ?_
    refine fr_iload_n (pc := 39) 2 rfl rfl dL_run_39 ?_
    refine fr_iload_n (pc := 40) 3 rfl rfl dL_run_40 ?_
    refine fr_callS_I (pc := 41) (As := [.int v2, .int v3]) (st := [.int v1, .ref a0]) wd_L_column w_758 ok_L_column (by decide) rfl (Nat.le_of_ble_eq_true rfl) dL_run_41 ⟨Nat.le_refl 0, Nat.le_refl 0⟩ hW (fun i18 s17 hW => ?_)
    refine fr_callS_I (pc := 44) (As := [.ref a0, .int v1, .int i18]) (st := []) wd_L_bound w_760 ok_L_bound (by decide) rfl (Nat.le_of_ble_eq_true rfl) dL_run_44 ⟨Nat.le_refl 0, Nat.le_refl 0⟩ hW (fun i22 s21 hW => ?_)
    refine fr_if_eq (pc := 47) (tgt := 54) (by decide) dL_run_47 hW (fun hW => ?_) (fun hW => ?_)
    · refine fr_iconst (pc := 54) 0 (by decide) dL_run_54 ?_
      exact fr_sub [3] rfl hW
    · refine fr_iconst (pc := 50) 1 (by decide) dL_run_50 ?_
      refine fr_goto (pc := 51) (tgt := 55) (by decide) dL_run_51 ?_
      exact fr_sub [3] rfl hW
set_option maxHeartbeats 4000000 in
set_option maxRecDepth 100000 in
theorem q_L_run_55 {g : GG} {σ : Hs} {post : Option Value → Hs → Prop} (v3 : Int32) (t0 : Int32) (hW : (t0 = 0 → post (some (.int ((8 * v3) + v3))) σ) ∧ (¬ t0 = 0 → post (some (.int ((8 * v3) + (v3 + 1)))) σ)) : J_L_run_55 g post σ v3 t0 := by
  show Fr g M_L_run (0, 0, 0, 0) [(3, .int v3)] [.int t0] 55 σ post
  refine fr_istore (pc := 55) (lv' := [(4, .int t0), (3, .int v3)]) (by decide) rfl dL_run_55 ?_
  refine fr_bipush (pc := 57) 8 (by decide) dL_run_57 ?_
  refine fr_iload_n (pc := 59) 1 rfl rfl dL_run_59 ?_
  refine fr_imul (pc := 60) dL_run_60 ?_
  refine fr_iload (pc := 61) 0 rfl dL_run_61 ?_
  refine fr_if_eq (pc := 63) (tgt := 72) (by decide) dL_run_63 hW (fun hW => ?_) (fun hW => ?_)
  · refine fr_iload_n (pc := 72) 1 rfl rfl dL_run_72 ?_
    refine fr_iadd (pc := 73) dL_run_73 ?_
    exact fr_iret (pc := 74) dL_run_74 rfl ⟨Nat.le_refl 0, Nat.le_refl 0⟩ hW
  · refine fr_iload_n (pc := 66) 1 rfl rfl dL_run_66 ?_
    refine fr_iconst (pc := 67) 1 (by decide) dL_run_67 ?_
    refine fr_iadd (pc := 68) dL_run_68 ?_
    refine fr_goto (pc := 69) (tgt := 73) (by decide) dL_run_69 ?_
    refine fr_iadd (pc := 73) dL_run_73 ?_
    exact fr_iret (pc := 74) dL_run_74 rfl ⟨Nat.le_refl 0, Nat.le_refl 0⟩ hW
def J_L_leaves_35 (g : GG) (post : Option Value → Hs → Prop) (cM sM kM nM : Nat) (σ : Hs) (a0 : Nat) (a1 : Nat) (v2 : Int32) (v3 : Int32) (a4 : Nat) (v5 : Int32) (v6 : Int32) (v7 : Int32) (v8 : Int32) (a9 : Nat) (v10 : Int32) : Prop := Fr g M_L_leaves (cM, sM, kM, nM) [(0, .ref a0), (1, .ref a1), (2, .int v2), (3, .int v3), (4, .ref a4), (5, .int v5), (6, .int v6), (7, .int v7), (8, .int v8), (9, .ref a9), (10, .int v10)] [] 35 σ post
def J_L_leaves_220 (g : GG) (post : Option Value → Hs → Prop) (cM sM kM nM : Nat) (σ : Hs) (a0 : Nat) (v3 : Int32) (a4 : Nat) (v7 : Int32) (v8 : Int32) (a9 : Nat) (v10 : Int32) : Prop := Fr g M_L_leaves (cM, sM, kM, nM) [(0, .ref a0), (3, .int v3), (4, .ref a4), (7, .int v7), (8, .int v8), (9, .ref a9), (10, .int v10)] [] 220 σ post
def J_L_leaves_51 (g : GG) (post : Option Value → Hs → Prop) (cM sM kM nM : Nat) (σ : Hs) (a0 : Nat) (a1 : Nat) (v2 : Int32) (v3 : Int32) (a4 : Nat) (v5 : Int32) (v6 : Int32) (v7 : Int32) (v8 : Int32) (a9 : Nat) (v10 : Int32) (v11 : Int32) (v12 : Int32) : Prop := Fr g M_L_leaves (cM, sM, kM, nM) [(0, .ref a0), (1, .ref a1), (2, .int v2), (3, .int v3), (4, .ref a4), (5, .int v5), (6, .int v6), (7, .int v7), (8, .int v8), (9, .ref a9), (10, .int v10), (11, .int v11), (12, .int v12)] [] 51 σ post
def J_L_leaves_81 (g : GG) (post : Option Value → Hs → Prop) (cM sM kM nM : Nat) (σ : Hs) (a0 : Nat) (a1 : Nat) (v2 : Int32) (v3 : Int32) (a4 : Nat) (v5 : Int32) (v6 : Int32) (v7 : Int32) (v8 : Int32) (a9 : Nat) (v10 : Int32) (v11 : Int32) (v12 : Int32) (v13 : Int32) (v14 : Int32) (v15 : Int32) (v16 : Int32) : Prop := Fr g M_L_leaves (cM, sM, kM, nM) [(0, .ref a0), (1, .ref a1), (2, .int v2), (3, .int v3), (4, .ref a4), (5, .int v5), (6, .int v6), (7, .int v7), (8, .int v8), (9, .ref a9), (10, .int v10), (11, .int v11), (12, .int v12), (13, .int v13), (14, .int v14), (15, .int v15), (16, .int v16)] [] 81 σ post
def J_L_leaves_170 (g : GG) (post : Option Value → Hs → Prop) (cM sM kM nM : Nat) (σ : Hs) (a0 : Nat) (a1 : Nat) (v2 : Int32) (v3 : Int32) (a4 : Nat) (v5 : Int32) (v6 : Int32) (v7 : Int32) (v8 : Int32) (a9 : Nat) (v10 : Int32) (v12 : Int32) (v13 : Int32) (v15 : Int32) (t0 : Int32) : Prop := Fr g M_L_leaves (cM, sM, kM, nM) [(0, .ref a0), (1, .ref a1), (2, .int v2), (3, .int v3), (4, .ref a4), (5, .int v5), (6, .int v6), (7, .int v7), (8, .int v8), (9, .ref a9), (10, .int v10), (12, .int v12), (13, .int v13), (15, .int v15)] [.int t0] 170 σ post
def J_L_leaves_130 (g : GG) (post : Option Value → Hs → Prop) (cM sM kM nM : Nat) (σ : Hs) (a0 : Nat) (a1 : Nat) (v2 : Int32) (v3 : Int32) (a4 : Nat) (v5 : Int32) (v6 : Int32) (v7 : Int32) (v8 : Int32) (a9 : Nat) (v10 : Int32) (v11 : Int32) (v12 : Int32) (v13 : Int32) (v15 : Int32) (v16 : Int32) (v17 : Int32) (t0 : Int32) : Prop := Fr g M_L_leaves (cM, sM, kM, nM) [(0, .ref a0), (1, .ref a1), (2, .int v2), (3, .int v3), (4, .ref a4), (5, .int v5), (6, .int v6), (7, .int v7), (8, .int v8), (9, .ref a9), (10, .int v10), (11, .int v11), (12, .int v12), (13, .int v13), (15, .int v15), (16, .int v16), (17, .int v17)] [.int t0] 130 σ post
set_option maxHeartbeats 4000000 in
set_option maxRecDepth 100000 in
theorem q_L_leaves {g : GG} {σ : Hs} {post : Option Value → Hs → Prop} (cM sM : Nat) (p0 : Nat) (p1 : Nat) (p2 : Int32) (p3 : Int32) (p4 : Nat) (hW : ((0) ≤ cM ∧ (0) ≤ sM) ∧ Rc σ p0 11 ∧ Do g M_X11_about 0 0 [.ref p0, .int p3, .int 0] σ (kI (fun i2 s1 => ((0) ≤ cM ∧ (0) ≤ sM) ∧ Do g M_L_run 0 0 [.ref p1, .int p2, .int i2] s1 (kI (fun i6 s5 => ((0) + 1 ≤ cM ∧ (0) + 64 ≤ sM) ∧ NA g s5 0 64 ndef (fun r9 s10 => J_L_leaves_35 g post cM sM 1 64 s10 p0 p1 p2 p3 p4 i2 ((i6 - i6 / 8 * 8)) 0 0 r9 0 )))))) : Do g M_L_leaves cM sM [.ref p0, .ref p1, .int p2, .int p3, .ref p4] σ post := by
  refine Do.of (by decide +kernel) (Nat.le_of_ble_eq_true rfl) ?_
  show Fr g M_L_leaves (cM, sM, 0, 0) [(0, .ref p0), (1, .ref p1), (2, .int p2), (3, .int p3), (4, .ref p4)] [] 0 σ post
  refine fr_aload_n (pc := 0) 0 rfl rfl dL_leaves_0 ?_
  refine fr_iload_n (pc := 1) 3 rfl rfl dL_leaves_1 ?_
  refine fr_iconst (pc := 2) 0 (by decide) dL_leaves_2 ?_
  obtain ⟨hz, hrc, hW⟩ := hW
  refine fr_callV_I (pc := 3) (As := [.int p3, .int 0]) (st := []) wd_X11_about w_763 ok_X11_about (by decide) rfl (Nat.le_of_ble_eq_true rfl) dL_leaves_3 hz kc_X11 hrc hW (fun i2 s1 hW => ?_)
  refine fr_istore (pc := 6) (lv' := [(5, .int i2), (0, .ref p0), (1, .ref p1), (2, .int p2), (3, .int p3), (4, .ref p4)]) (by decide) rfl dL_leaves_6 ?_
  refine fr_aload_n (pc := 8) 2 rfl rfl dL_leaves_8 ?_
  refine fr_iload_n (pc := 9) 3 rfl rfl dL_leaves_9 ?_
  refine fr_iload (pc := 10) 0 rfl dL_leaves_10 ?_
  obtain ⟨hz, hW⟩ := hW
  refine fr_callS_I (pc := 12) (As := [.ref p1, .int p2, .int i2]) (st := []) wd_L_run w_764 ok_L_run (by decide) rfl (Nat.le_of_ble_eq_true rfl) dL_leaves_12 hz hW (fun i6 s5 hW => ?_)
  refine fr_bipush (pc := 15) 8 (by decide) dL_leaves_15 ?_
  refine fr_irem (pc := 17) (by decide) dL_leaves_17 ?_
  refine fr_istore (pc := 18) (lv' := [(6, .int (i6 - i6 / 8 * 8)), (5, .int i2), (0, .ref p0), (1, .ref p1), (2, .int p2), (3, .int p3), (4, .ref p4)]) (by decide) rfl dL_leaves_18 ?_
  refine fr_iconst (pc := 20) 0 (by decide) dL_leaves_20 ?_
  refine fr_istore (pc := 21) (lv' := [(7, .int 0), (6, .int (i6 - i6 / 8 * 8)), (5, .int i2), (0, .ref p0), (1, .ref p1), (2, .int p2), (3, .int p3), (4, .ref p4)]) (by decide) rfl dL_leaves_21 ?_
  refine fr_iconst (pc := 23) 0 (by decide) dL_leaves_23 ?_
  refine fr_istore (pc := 24) (lv' := [(8, .int 0), (7, .int 0), (6, .int (i6 - i6 / 8 * 8)), (5, .int i2), (0, .ref p0), (1, .ref p1), (2, .int p2), (3, .int p3), (4, .ref p4)]) (by decide) rfl dL_leaves_24 ?_
  refine fr_bipush (pc := 26) 64 (by decide) dL_leaves_26 ?_
  obtain ⟨hz, hW⟩ := hW
  refine fr_newI (pc := 28) 0 .int (Or.inl ⟨rfl, rfl⟩) w_500 dL_leaves_28 (by decide) (by decide) hz (Z' := (cM, sM, 1, 64)) rfl hW (fun r9 s10 hW => ?_)
  refine fr_astore (pc := 30) (lv' := [(9, .ref r9), (8, .int 0), (7, .int 0), (6, .int (i6 - i6 / 8 * 8)), (5, .int i2), (0, .ref p0), (1, .ref p1), (2, .int p2), (3, .int p3), (4, .ref p4)]) (by decide) rfl dL_leaves_30 ?_
  refine fr_iconst (pc := 32) 0 (by decide) dL_leaves_32 ?_
  refine fr_istore (pc := 33) (lv' := [(10, .int 0), (9, .ref r9), (8, .int 0), (7, .int 0), (6, .int (i6 - i6 / 8 * 8)), (5, .int i2), (0, .ref p0), (1, .ref p1), (2, .int p2), (3, .int p3), (4, .ref p4)]) (by decide) rfl dL_leaves_33 ?_
  exact fr_sub [6, 7, 8, 9, 10, 5, 4, 3, 2, 1, 0] rfl hW
set_option maxHeartbeats 4000000 in
set_option maxRecDepth 100000 in
theorem q_L_leaves_35 {g : GG} {σ : Hs} {post : Option Value → Hs → Prop} (cM sM kM nM : Nat) (a0 : Nat) (a1 : Nat) (v2 : Int32) (v3 : Int32) (a4 : Nat) (v5 : Int32) (v6 : Int32) (v7 : Int32) (v8 : Int32) (a9 : Nat) (v10 : Int32) (hW : ((kM) ≤ cM ∧ (nM) ≤ sM) ∧ Rc σ a0 11 ∧ Do g M_X11_leaf 0 0 [.ref a0, .int v3, .int v10] σ (kI (fun i12 s11 => (i12 ≤ 0 → J_L_leaves_220 g post cM sM kM nM s11 a0 v3 a4 v7 v8 a9 0 ) ∧ (¬ i12 ≤ 0 → J_L_leaves_51 g post cM sM kM nM s11 a0 a1 v2 v3 a4 v5 v6 v7 v8 a9 v10 0 0 )))) : J_L_leaves_35 g post cM sM kM nM σ a0 a1 v2 v3 a4 v5 v6 v7 v8 a9 v10 := by
  show Fr g M_L_leaves (cM, sM, kM, nM) [(0, .ref a0), (1, .ref a1), (2, .int v2), (3, .int v3), (4, .ref a4), (5, .int v5), (6, .int v6), (7, .int v7), (8, .int v8), (9, .ref a9), (10, .int v10)] [] 35 σ post
  refine fr_aload_n (pc := 35) 0 rfl rfl dL_leaves_35 ?_
  refine fr_iload_n (pc := 36) 3 rfl rfl dL_leaves_36 ?_
  refine fr_iload (pc := 37) 10 rfl dL_leaves_37 ?_
  obtain ⟨hz, hrc, hW⟩ := hW
  refine fr_callV_I (pc := 39) (As := [.int v3, .int v10]) (st := []) wd_X11_leaf w_765 ok_X11_leaf (by decide) rfl (Nat.le_of_ble_eq_true rfl) dL_leaves_39 hz kc_X11 hrc hW (fun i12 s11 hW => ?_)
  refine fr_if_le (pc := 42) (tgt := 217) (by decide) dL_leaves_42 hW (fun hW => ?_) (fun hW => ?_)
  · refine fr_iconst (pc := 217) 0 (by decide) dL_leaves_217 ?_
    refine fr_istore (pc := 218) (lv' := [(10, .int 0), (0, .ref a0), (1, .ref a1), (2, .int v2), (3, .int v3), (4, .ref a4), (5, .int v5), (6, .int v6), (7, .int v7), (8, .int v8), (9, .ref a9)]) (by decide) rfl dL_leaves_218 ?_
    exact fr_sub [1, 4, 5, 8, 9, 10, 0] rfl hW
  · refine fr_iconst (pc := 45) 0 (by decide) dL_leaves_45 ?_
    refine fr_istore (pc := 46) (lv' := [(11, .int 0), (0, .ref a0), (1, .ref a1), (2, .int v2), (3, .int v3), (4, .ref a4), (5, .int v5), (6, .int v6), (7, .int v7), (8, .int v8), (9, .ref a9), (10, .int v10)]) (by decide) rfl dL_leaves_46 ?_
    refine fr_iconst (pc := 48) 0 (by decide) dL_leaves_48 ?_
    refine fr_istore (pc := 49) (lv' := [(12, .int 0), (11, .int 0), (0, .ref a0), (1, .ref a1), (2, .int v2), (3, .int v3), (4, .ref a4), (5, .int v5), (6, .int v6), (7, .int v7), (8, .int v8), (9, .ref a9), (10, .int v10)]) (by decide) rfl dL_leaves_49 ?_
    exact fr_sub [2, 3, 4, 5, 6, 7, 8, 9, 10, 11, 12, 1, 0] rfl hW
set_option maxHeartbeats 4000000 in
set_option maxRecDepth 100000 in
theorem q_L_leaves_220 {g : GG} {σ : Hs} {post : Option Value → Hs → Prop} (cM sM kM nM : Nat) (a0 : Nat) (v3 : Int32) (a4 : Nat) (v7 : Int32) (v8 : Int32) (a9 : Nat) (v10 : Int32) (hW : (64 ≤ v10 → (¬ v7 = 0 → ((kM) ≤ cM ∧ (nM) ≤ sM) ∧ Rc σ a0 11 ∧ Do g M_X11_about 0 0 [.ref a0, .int v3, .int 2] σ (kI (fun i16 s15 => ((kM) ≤ cM ∧ (nM) ≤ sM) ∧ post (some (.int (i16 + v7))) s15))) ∧ (v7 = 0 → (v8 ≤ 0 → ((kM) ≤ cM ∧ (nM) ≤ sM) ∧ Rc σ a0 11 ∧ Do g M_X11_about 0 0 [.ref a0, .int v3, .int 2] σ (kI (fun i20 s19 => ((kM) ≤ cM ∧ (nM) ≤ sM) ∧ post (some (.int (i20 + v7))) s19))) ∧ (¬ v8 ≤ 0 → ((kM) ≤ cM ∧ (nM) ≤ sM) ∧ Rc σ a0 11 ∧ Do g M_X11_about 0 0 [.ref a0, .int v3, .int 2] σ (kI (fun i24 s23 => ((kM) ≤ cM ∧ (nM) ≤ sM) ∧ post (some (.int (i24 + 1))) s23))))) ∧ (¬ 64 ≤ v10 → AI g σ a4 0 v10 (fun i27 => AI g σ a9 0 v10 (fun i28 => SI g σ a4 0 v10 (i27 * i28) (fun s29 => J_L_leaves_220 g post cM sM kM nM s29 a0 v3 a4 v7 v8 a9 ((v10 + 1)) ))))) : J_L_leaves_220 g post cM sM kM nM σ a0 v3 a4 v7 v8 a9 v10 := by
  show Fr g M_L_leaves (cM, sM, kM, nM) [(0, .ref a0), (3, .int v3), (4, .ref a4), (7, .int v7), (8, .int v8), (9, .ref a9), (10, .int v10)] [] 220 σ post
  refine fr_iload (pc := 220) 6 rfl dL_leaves_220 ?_
  refine fr_bipush (pc := 222) 64 (by decide) dL_leaves_222 ?_
  refine fr_icmp_ge (pc := 224) (tgt := 249) (by decide) dL_leaves_224 hW (fun hW => ?_) (fun hW => ?_)
  · refine fr_iload (pc := 249) 3 rfl dL_leaves_249 ?_
    refine fr_if_ne (pc := 251) (tgt := 263) (by decide) dL_leaves_251 hW (fun hW => ?_) (fun hW => ?_)
    · refine fr_iload (pc := 263) 3 rfl dL_leaves_263 ?_
      refine fr_istore (pc := 265) (lv' := [(7, .int v7), (0, .ref a0), (3, .int v3), (4, .ref a4), (8, .int v8), (9, .ref a9), (10, .int v10)]) (by decide) rfl dL_leaves_265 ?_
      refine fr_aload_n (pc := 267) 1 rfl rfl dL_leaves_267 ?_
      refine fr_iload_n (pc := 268) 2 rfl rfl dL_leaves_268 ?_
      refine fr_iconst (pc := 269) 2 (by decide) dL_leaves_269 ?_
      obtain ⟨hz, hrc, hW⟩ := hW
      refine fr_callV_I (pc := 270) (As := [.int v3, .int 2]) (st := []) wd_X11_about w_763 ok_X11_about (by decide) rfl (Nat.le_of_ble_eq_true rfl) dL_leaves_270 hz kc_X11 hrc hW (fun i16 s15 hW => ?_)
      refine fr_iload (pc := 273) 0 rfl dL_leaves_273 ?_
      refine fr_iadd (pc := 275) dL_leaves_275 ?_
      obtain ⟨hz, hW⟩ := hW
      exact fr_iret (pc := 276) dL_leaves_276 rfl hz hW
    · refine fr_iload (pc := 254) 4 rfl dL_leaves_254 ?_
      refine fr_if_le (pc := 256) (tgt := 263) (by decide) dL_leaves_256 hW (fun hW => ?_) (fun hW => ?_)
      · refine fr_iload (pc := 263) 3 rfl dL_leaves_263 ?_
        refine fr_istore (pc := 265) (lv' := [(7, .int v7), (0, .ref a0), (3, .int v3), (4, .ref a4), (8, .int v8), (9, .ref a9), (10, .int v10)]) (by decide) rfl dL_leaves_265 ?_
        refine fr_aload_n (pc := 267) 1 rfl rfl dL_leaves_267 ?_
        refine fr_iload_n (pc := 268) 2 rfl rfl dL_leaves_268 ?_
        refine fr_iconst (pc := 269) 2 (by decide) dL_leaves_269 ?_
        obtain ⟨hz, hrc, hW⟩ := hW
        refine fr_callV_I (pc := 270) (As := [.int v3, .int 2]) (st := []) wd_X11_about w_763 ok_X11_about (by decide) rfl (Nat.le_of_ble_eq_true rfl) dL_leaves_270 hz kc_X11 hrc hW (fun i20 s19 hW => ?_)
        refine fr_iload (pc := 273) 0 rfl dL_leaves_273 ?_
        refine fr_iadd (pc := 275) dL_leaves_275 ?_
        obtain ⟨hz, hW⟩ := hW
        exact fr_iret (pc := 276) dL_leaves_276 rfl hz hW
      · refine fr_iconst (pc := 259) 1 (by decide) dL_leaves_259 ?_
        refine fr_goto (pc := 260) (tgt := 265) (by decide) dL_leaves_260 ?_
        refine fr_istore (pc := 265) (lv' := [(7, .int 1), (0, .ref a0), (3, .int v3), (4, .ref a4), (8, .int v8), (9, .ref a9), (10, .int v10)]) (by decide) rfl dL_leaves_265 ?_
        refine fr_aload_n (pc := 267) 1 rfl rfl dL_leaves_267 ?_
        refine fr_iload_n (pc := 268) 2 rfl rfl dL_leaves_268 ?_
        refine fr_iconst (pc := 269) 2 (by decide) dL_leaves_269 ?_
        obtain ⟨hz, hrc, hW⟩ := hW
        refine fr_callV_I (pc := 270) (As := [.int v3, .int 2]) (st := []) wd_X11_about w_763 ok_X11_about (by decide) rfl (Nat.le_of_ble_eq_true rfl) dL_leaves_270 hz kc_X11 hrc hW (fun i24 s23 hW => ?_)
        refine fr_iload (pc := 273) 0 rfl dL_leaves_273 ?_
        refine fr_iadd (pc := 275) dL_leaves_275 ?_
        obtain ⟨hz, hW⟩ := hW
        exact fr_iret (pc := 276) dL_leaves_276 rfl hz hW
  · refine fr_aload (pc := 227) 2 rfl dL_leaves_227 ?_
    refine fr_iload (pc := 229) 6 rfl dL_leaves_229 ?_
    refine fr_aload (pc := 231) 2 rfl dL_leaves_231 ?_
    refine fr_iload (pc := 233) 6 rfl dL_leaves_233 ?_
    refine fr_iald (pc := 235) dL_leaves_235 hW (fun i27 hW => ?_)
    refine fr_aload (pc := 236) 5 rfl dL_leaves_236 ?_
    refine fr_iload (pc := 238) 6 rfl dL_leaves_238 ?_
    refine fr_iald (pc := 240) dL_leaves_240 hW (fun i28 hW => ?_)
    refine fr_imul (pc := 241) dL_leaves_241 ?_
    refine fr_iast (pc := 242) dL_leaves_242 hW (fun s29 hW => ?_)
    refine fr_iinc (pc := 243) (lv' := [(10, .int (v10 + 1)), (0, .ref a0), (3, .int v3), (4, .ref a4), (7, .int v7), (8, .int v8), (9, .ref a9)]) (v10 + 1) 6 rfl (congrArg (fun z => v10 + z) (by decide)) (by decide) rfl dL_leaves_243 ?_
    refine fr_goto (pc := 246) (tgt := 220) (by decide) dL_leaves_246 ?_
    exact fr_sub [1, 2, 3, 4, 5, 6, 0] rfl hW
set_option maxHeartbeats 4000000 in
set_option maxRecDepth 100000 in
theorem q_L_leaves_51 {g : GG} {σ : Hs} {post : Option Value → Hs → Prop} (cM sM kM nM : Nat) (a0 : Nat) (a1 : Nat) (v2 : Int32) (v3 : Int32) (a4 : Nat) (v5 : Int32) (v6 : Int32) (v7 : Int32) (v8 : Int32) (a9 : Nat) (v10 : Int32) (v11 : Int32) (v12 : Int32) (hW : ((kM) ≤ cM ∧ (nM) ≤ sM) ∧ Rc σ a0 11 ∧ Do g M_X11_leaf 0 0 [.ref a0, .int v3, .int v10] σ (kI (fun i31 s30 => (i31 ≤ v12 → (v11 = 0 → J_L_leaves_35 g post cM sM kM nM s30 a0 a1 v2 v3 a4 v5 v6 ((v7 + 0)) v8 a9 ((v10 + 1)) ) ∧ (¬ v11 = 0 → J_L_leaves_35 g post cM sM kM nM s30 a0 a1 v2 v3 a4 v5 v6 ((v7 + 1)) v8 a9 ((v10 + 1)) )) ∧ (¬ i31 ≤ v12 → ((kM) ≤ cM ∧ (nM) ≤ sM) ∧ Rc s30 a0 11 ∧ Do g M_X11_entry 0 0 [.ref a0, .int v3, .int v8] s30 (kI (fun i35 s34 => J_L_leaves_81 g post cM sM kM nM s34 a0 a1 v2 v3 a4 v5 v6 v7 v8 a9 v10 v11 v12 i35 1 1 0 )))))) : J_L_leaves_51 g post cM sM kM nM σ a0 a1 v2 v3 a4 v5 v6 v7 v8 a9 v10 v11 v12 := by
  show Fr g M_L_leaves (cM, sM, kM, nM) [(0, .ref a0), (1, .ref a1), (2, .int v2), (3, .int v3), (4, .ref a4), (5, .int v5), (6, .int v6), (7, .int v7), (8, .int v8), (9, .ref a9), (10, .int v10), (11, .int v11), (12, .int v12)] [] 51 σ post
  refine fr_iload (pc := 51) 12 rfl dL_leaves_51 ?_
  refine fr_aload_n (pc := 53) 0 rfl rfl dL_leaves_53 ?_
  refine fr_iload_n (pc := 54) 3 rfl rfl dL_leaves_54 ?_
  refine fr_iload (pc := 55) 10 rfl dL_leaves_55 ?_
  obtain ⟨hz, hrc, hW⟩ := hW
  refine fr_callV_I (pc := 57) (As := [.int v3, .int v10]) (st := [.int v12]) wd_X11_leaf w_765 ok_X11_leaf (by decide) rfl (Nat.le_of_ble_eq_true rfl) dL_leaves_57 hz kc_X11 hrc hW (fun i31 s30 hW => ?_)
  refine fr_icmp_ge (pc := 60) (tgt := 196) (by decide) dL_leaves_60 hW (fun hW => ?_) (fun hW => ?_)
  · refine fr_iload (pc := 196) 7 rfl dL_leaves_196 ?_
    refine fr_iload (pc := 198) 11 rfl dL_leaves_198 ?_
    refine fr_if_eq (pc := 200) (tgt := 207) (by decide) dL_leaves_200 hW (fun hW => ?_) (fun hW => ?_)
    · refine fr_iconst (pc := 207) 0 (by decide) dL_leaves_207 ?_
      refine fr_iadd (pc := 208) dL_leaves_208 ?_
      refine fr_istore (pc := 209) (lv' := [(7, .int (v7 + 0)), (0, .ref a0), (1, .ref a1), (2, .int v2), (3, .int v3), (4, .ref a4), (5, .int v5), (6, .int v6), (8, .int v8), (9, .ref a9), (10, .int v10), (11, .int v11), (12, .int v12)]) (by decide) rfl dL_leaves_209 ?_
      refine fr_iinc (pc := 211) (lv' := [(10, .int (v10 + 1)), (7, .int (v7 + 0)), (0, .ref a0), (1, .ref a1), (2, .int v2), (3, .int v3), (4, .ref a4), (5, .int v5), (6, .int v6), (8, .int v8), (9, .ref a9), (11, .int v11), (12, .int v12)]) (v10 + 1) 10 rfl (congrArg (fun z => v10 + z) (by decide)) (by decide) rfl dL_leaves_211 ?_
      refine fr_goto (pc := 214) (tgt := 35) (by decide) dL_leaves_214 ?_
      exact fr_sub [2, 3, 4, 5, 6, 7, 8, 1, 9, 10, 0] rfl hW
    · refine fr_iconst (pc := 203) 1 (by decide) dL_leaves_203 ?_
      refine fr_goto (pc := 204) (tgt := 208) (by decide) dL_leaves_204 ?_
      refine fr_iadd (pc := 208) dL_leaves_208 ?_
      refine fr_istore (pc := 209) (lv' := [(7, .int (v7 + 1)), (0, .ref a0), (1, .ref a1), (2, .int v2), (3, .int v3), (4, .ref a4), (5, .int v5), (6, .int v6), (8, .int v8), (9, .ref a9), (10, .int v10), (11, .int v11), (12, .int v12)]) (by decide) rfl dL_leaves_209 ?_
      refine fr_iinc (pc := 211) (lv' := [(10, .int (v10 + 1)), (7, .int (v7 + 1)), (0, .ref a0), (1, .ref a1), (2, .int v2), (3, .int v3), (4, .ref a4), (5, .int v5), (6, .int v6), (8, .int v8), (9, .ref a9), (11, .int v11), (12, .int v12)]) (v10 + 1) 10 rfl (congrArg (fun z => v10 + z) (by decide)) (by decide) rfl dL_leaves_211 ?_
      refine fr_goto (pc := 214) (tgt := 35) (by decide) dL_leaves_214 ?_
      exact fr_sub [2, 3, 4, 5, 6, 7, 8, 1, 9, 10, 0] rfl hW
  · refine fr_aload_n (pc := 63) 0 rfl rfl dL_leaves_63 ?_
    refine fr_iload_n (pc := 64) 3 rfl rfl dL_leaves_64 ?_
    refine fr_iload (pc := 65) 8 rfl dL_leaves_65 ?_
    obtain ⟨hz, hrc, hW⟩ := hW
    refine fr_callV_I (pc := 67) (As := [.int v3, .int v8]) (st := []) wd_X11_entry w_766 ok_X11_entry (by decide) rfl (Nat.le_of_ble_eq_true rfl) dL_leaves_67 hz kc_X11 hrc hW (fun i35 s34 hW => ?_)
    refine fr_istore (pc := 70) (lv' := [(13, .int i35), (0, .ref a0), (1, .ref a1), (2, .int v2), (3, .int v3), (4, .ref a4), (5, .int v5), (6, .int v6), (7, .int v7), (8, .int v8), (9, .ref a9), (10, .int v10), (11, .int v11), (12, .int v12)]) (by decide) rfl dL_leaves_70 ?_
    refine fr_iconst (pc := 72) 1 (by decide) dL_leaves_72 ?_
    refine fr_istore (pc := 73) (lv' := [(14, .int 1), (13, .int i35), (0, .ref a0), (1, .ref a1), (2, .int v2), (3, .int v3), (4, .ref a4), (5, .int v5), (6, .int v6), (7, .int v7), (8, .int v8), (9, .ref a9), (10, .int v10), (11, .int v11), (12, .int v12)]) (by decide) rfl dL_leaves_73 ?_
    refine fr_iconst (pc := 75) 1 (by decide) dL_leaves_75 ?_
    refine fr_istore (pc := 76) (lv' := [(15, .int 1), (14, .int 1), (13, .int i35), (0, .ref a0), (1, .ref a1), (2, .int v2), (3, .int v3), (4, .ref a4), (5, .int v5), (6, .int v6), (7, .int v7), (8, .int v8), (9, .ref a9), (10, .int v10), (11, .int v11), (12, .int v12)]) (by decide) rfl dL_leaves_76 ?_
    refine fr_iconst (pc := 78) 0 (by decide) dL_leaves_78 ?_
    refine fr_istore (pc := 79) (lv' := [(16, .int 0), (15, .int 1), (14, .int 1), (13, .int i35), (0, .ref a0), (1, .ref a1), (2, .int v2), (3, .int v3), (4, .ref a4), (5, .int v5), (6, .int v6), (7, .int v7), (8, .int v8), (9, .ref a9), (10, .int v10), (11, .int v11), (12, .int v12)]) (by decide) rfl dL_leaves_79 ?_
    exact fr_sub [4, 5, 6, 7, 8, 9, 10, 11, 12, 13, 14, 15, 16, 3, 2, 1, 0] rfl hW
set_option maxHeartbeats 4000000 in
set_option maxRecDepth 100000 in
theorem q_L_leaves_81 {g : GG} {σ : Hs} {post : Option Value → Hs → Prop} (cM sM kM nM : Nat) (a0 : Nat) (a1 : Nat) (v2 : Int32) (v3 : Int32) (a4 : Nat) (v5 : Int32) (v6 : Int32) (v7 : Int32) (v8 : Int32) (a9 : Nat) (v10 : Int32) (v11 : Int32) (v12 : Int32) (v13 : Int32) (v14 : Int32) (v15 : Int32) (v16 : Int32) (hW : ((kM) ≤ cM ∧ (nM) ≤ sM) ∧ Do g M_L_column 0 0 [.int v5, .int v16] σ (kI (fun i39 s38 => (i39 < 0 → (¬ v11 = 0 → J_L_leaves_170 g post cM sM kM nM s38 a0 a1 v2 v3 a4 v5 v6 v7 v8 a9 v10 v12 v13 v15 1) ∧ (v11 = 0 → (v14 = 0 → J_L_leaves_170 g post cM sM kM nM s38 a0 a1 v2 v3 a4 v5 v6 v7 v8 a9 v10 v12 v13 v15 0) ∧ (¬ v14 = 0 → J_L_leaves_170 g post cM sM kM nM s38 a0 a1 v2 v3 a4 v5 v6 v7 v8 a9 v10 v12 v13 v15 1))) ∧ (¬ i39 < 0 → ((kM) ≤ cM ∧ (nM) ≤ sM) ∧ Do g M_L_column 0 0 [.int v5, .int v16] s38 (kI (fun i43 s42 => ((kM) ≤ cM ∧ (nM) ≤ sM) ∧ Do g M_L_within 0 0 [.ref a0, .ref a1, .int v2, .int v13, .int i43] s42 (kI (fun i47 s46 => (v14 = 0 → J_L_leaves_130 g post cM sM kM nM s46 a0 a1 v2 v3 a4 v5 v6 v7 v8 a9 v10 v11 v12 v13 v15 v16 i47 0) ∧ (¬ v14 = 0 → (v6 ≤ v16 → J_L_leaves_130 g post cM sM kM nM s46 a0 a1 v2 v3 a4 v5 v6 v7 v8 a9 v10 v11 v12 v13 v15 v16 i47 1) ∧ (¬ v6 ≤ v16 → (i47 = 0 → J_L_leaves_130 g post cM sM kM nM s46 a0 a1 v2 v3 a4 v5 v6 v7 v8 a9 v10 v11 v12 v13 v15 v16 i47 0) ∧ (¬ i47 = 0 → J_L_leaves_130 g post cM sM kM nM s46 a0 a1 v2 v3 a4 v5 v6 v7 v8 a9 v10 v11 v12 v13 v15 v16 i47 1))))))))))) : J_L_leaves_81 g post cM sM kM nM σ a0 a1 v2 v3 a4 v5 v6 v7 v8 a9 v10 v11 v12 v13 v14 v15 v16 := by
  show Fr g M_L_leaves (cM, sM, kM, nM) [(0, .ref a0), (1, .ref a1), (2, .int v2), (3, .int v3), (4, .ref a4), (5, .int v5), (6, .int v6), (7, .int v7), (8, .int v8), (9, .ref a9), (10, .int v10), (11, .int v11), (12, .int v12), (13, .int v13), (14, .int v14), (15, .int v15), (16, .int v16)] [] 81 σ post
  refine fr_iload (pc := 81) 5 rfl dL_leaves_81 ?_
  refine fr_iload (pc := 83) 16 rfl dL_leaves_83 ?_
  obtain ⟨hz, hW⟩ := hW
  refine fr_callS_I (pc := 85) (As := [.int v5, .int v16]) (st := []) wd_L_column w_758 ok_L_column (by decide) rfl (Nat.le_of_ble_eq_true rfl) dL_leaves_85 hz hW (fun i39 s38 hW => ?_)
  refine fr_if_lt (pc := 88) (tgt := 155) (by decide) dL_leaves_88 hW (fun hW => ?_) (fun hW => ?_)
  · refine fr_iload (pc := 155) 11 rfl dL_leaves_155 ?_
    refine fr_if_ne (pc := 157) (tgt := 165) (by decide) dL_leaves_157 hW (fun hW => ?_) (fun hW => ?_)
    · refine fr_iconst (pc := 165) 1 (by decide) dL_leaves_165 ?_
      refine fr_goto (pc := 166) (tgt := 170) (by decide) dL_leaves_166 ?_
      exact fr_sub [0, 1, 2, 3, 4, 5, 6, 7, 8, 9, 10, 12, 13, 15] rfl hW
    · refine fr_iload (pc := 160) 14 rfl dL_leaves_160 ?_
      refine fr_if_eq (pc := 162) (tgt := 169) (by decide) dL_leaves_162 hW (fun hW => ?_) (fun hW => ?_)
      · refine fr_iconst (pc := 169) 0 (by decide) dL_leaves_169 ?_
        exact fr_sub [0, 1, 2, 3, 4, 5, 6, 7, 8, 9, 10, 12, 13, 15] rfl hW
      · refine fr_iconst (pc := 165) 1 (by decide) dL_leaves_165 ?_
        refine fr_goto (pc := 166) (tgt := 170) (by decide) dL_leaves_166 ?_
        exact fr_sub [0, 1, 2, 3, 4, 5, 6, 7, 8, 9, 10, 12, 13, 15] rfl hW
  · refine fr_aload_n (pc := 91) 0 rfl rfl dL_leaves_91 ?_
    refine fr_aload_n (pc := 92) 1 rfl rfl dL_leaves_92 ?_
    refine fr_iload_n (pc := 93) 2 rfl rfl dL_leaves_93 ?_
    refine fr_iload (pc := 94) 13 rfl dL_leaves_94 ?_
    refine fr_iload (pc := 96) 5 rfl dL_leaves_96 ?_
    refine fr_iload (pc := 98) 16 rfl dL_leaves_98 ?_
    obtain ⟨hz, hW⟩ := hW
    refine fr_callS_I (pc := 100) (As := [.int v5, .int v16]) (st := [.int v13, .int v2, .ref a1, .ref a0]) wd_L_column w_758 ok_L_column (by decide) rfl (Nat.le_of_ble_eq_true rfl) dL_leaves_100 hz hW (fun i43 s42 hW => ?_)
    obtain ⟨hz, hW⟩ := hW
    refine fr_callS_I (pc := 103) (As := [.ref a0, .ref a1, .int v2, .int v13, .int i43]) (st := []) wd_L_within w_767 ok_L_within (by decide) rfl (Nat.le_of_ble_eq_true rfl) dL_leaves_103 hz hW (fun i47 s46 hW => ?_)
    refine fr_istore (pc := 106) (lv' := [(17, .int i47), (0, .ref a0), (1, .ref a1), (2, .int v2), (3, .int v3), (4, .ref a4), (5, .int v5), (6, .int v6), (7, .int v7), (8, .int v8), (9, .ref a9), (10, .int v10), (11, .int v11), (12, .int v12), (13, .int v13), (14, .int v14), (15, .int v15), (16, .int v16)]) (by decide) rfl dL_leaves_106 ?_
    refine fr_iload (pc := 108) 15 rfl dL_leaves_108 ?_
    refine fr_if_eq (pc := 110) (tgt := 129) (by decide) dL_leaves_110 hW (fun hW => ?_) (fun hW => ?_)
    · refine fr_iconst (pc := 129) 0 (by decide) dL_leaves_129 ?_
      exact fr_sub [1, 2, 3, 4, 5, 6, 7, 8, 9, 10, 11, 12, 13, 14, 16, 17, 0] rfl hW
    · refine fr_iload (pc := 113) 17 rfl dL_leaves_113 ?_
      refine fr_iload (pc := 115) 7 rfl dL_leaves_115 ?_
      refine fr_icmp_ge (pc := 117) (tgt := 125) (by decide) dL_leaves_117 hW (fun hW => ?_) (fun hW => ?_)
      · refine fr_iconst (pc := 125) 1 (by decide) dL_leaves_125 ?_
        refine fr_goto (pc := 126) (tgt := 130) (by decide) dL_leaves_126 ?_
        exact fr_sub [1, 2, 3, 4, 5, 6, 7, 8, 9, 10, 11, 12, 13, 14, 16, 17, 0] rfl hW
      · refine fr_iload (pc := 120) 0 rfl dL_leaves_120 ?_
        refine fr_if_eq (pc := 122) (tgt := 129) (by decide) dL_leaves_122 hW (fun hW => ?_) (fun hW => ?_)
        · refine fr_iconst (pc := 129) 0 (by decide) dL_leaves_129 ?_
          exact fr_sub [1, 2, 3, 4, 5, 6, 7, 8, 9, 10, 11, 12, 13, 14, 16, 17, 0] rfl hW
        · refine fr_iconst (pc := 125) 1 (by decide) dL_leaves_125 ?_
          refine fr_goto (pc := 126) (tgt := 130) (by decide) dL_leaves_126 ?_
          exact fr_sub [1, 2, 3, 4, 5, 6, 7, 8, 9, 10, 11, 12, 13, 14, 16, 17, 0] rfl hW
set_option maxHeartbeats 4000000 in
set_option maxRecDepth 100000 in
theorem q_L_leaves_170 {g : GG} {σ : Hs} {post : Option Value → Hs → Prop} (cM sM kM nM : Nat) (a0 : Nat) (a1 : Nat) (v2 : Int32) (v3 : Int32) (a4 : Nat) (v5 : Int32) (v6 : Int32) (v7 : Int32) (v8 : Int32) (a9 : Nat) (v10 : Int32) (v12 : Int32) (v13 : Int32) (v15 : Int32) (t0 : Int32) (hW : (v15 = 0 → SI g σ a9 0 v13 0 (fun s50 => J_L_leaves_51 g post cM sM kM nM s50 a0 a1 v2 v3 a4 v5 v6 v7 ((v8 + 1)) a9 v10 t0 ((v12 + 1)) )) ∧ (¬ v15 = 0 → SI g σ a9 0 v13 1 (fun s51 => J_L_leaves_51 g post cM sM kM nM s51 a0 a1 v2 v3 a4 v5 v6 v7 ((v8 + 1)) a9 v10 t0 ((v12 + 1)) ))) : J_L_leaves_170 g post cM sM kM nM σ a0 a1 v2 v3 a4 v5 v6 v7 v8 a9 v10 v12 v13 v15 t0 := by
  show Fr g M_L_leaves (cM, sM, kM, nM) [(0, .ref a0), (1, .ref a1), (2, .int v2), (3, .int v3), (4, .ref a4), (5, .int v5), (6, .int v6), (7, .int v7), (8, .int v8), (9, .ref a9), (10, .int v10), (12, .int v12), (13, .int v13), (15, .int v15)] [.int t0] 170 σ post
  refine fr_istore (pc := 170) (lv' := [(11, .int t0), (0, .ref a0), (1, .ref a1), (2, .int v2), (3, .int v3), (4, .ref a4), (5, .int v5), (6, .int v6), (7, .int v7), (8, .int v8), (9, .ref a9), (10, .int v10), (12, .int v12), (13, .int v13), (15, .int v15)]) (by decide) rfl dL_leaves_170 ?_
  refine fr_aload (pc := 172) 10 rfl dL_leaves_172 ?_
  refine fr_iload (pc := 174) 13 rfl dL_leaves_174 ?_
  refine fr_iload (pc := 176) 14 rfl dL_leaves_176 ?_
  refine fr_if_eq (pc := 178) (tgt := 185) (by decide) dL_leaves_178 hW (fun hW => ?_) (fun hW => ?_)
  · refine fr_iconst (pc := 185) 0 (by decide) dL_leaves_185 ?_
    refine fr_iast (pc := 186) dL_leaves_186 hW (fun s50 hW => ?_)
    refine fr_iinc (pc := 187) (lv' := [(8, .int (v8 + 1)), (11, .int t0), (0, .ref a0), (1, .ref a1), (2, .int v2), (3, .int v3), (4, .ref a4), (5, .int v5), (6, .int v6), (7, .int v7), (9, .ref a9), (10, .int v10), (12, .int v12), (13, .int v13), (15, .int v15)]) (v8 + 1) 9 rfl (congrArg (fun z => v8 + z) (by decide)) (by decide) rfl dL_leaves_187 ?_
    refine fr_iinc (pc := 190) (lv' := [(12, .int (v12 + 1)), (8, .int (v8 + 1)), (11, .int t0), (0, .ref a0), (1, .ref a1), (2, .int v2), (3, .int v3), (4, .ref a4), (5, .int v5), (6, .int v6), (7, .int v7), (9, .ref a9), (10, .int v10), (13, .int v13), (15, .int v15)]) (v12 + 1) 12 rfl (congrArg (fun z => v12 + z) (by decide)) (by decide) rfl dL_leaves_190 ?_
    refine fr_goto (pc := 193) (tgt := 51) (by decide) dL_leaves_193 ?_
    exact fr_sub [3, 4, 5, 6, 7, 8, 9, 10, 1, 11, 12, 2, 0] rfl hW
  · refine fr_iconst (pc := 181) 1 (by decide) dL_leaves_181 ?_
    refine fr_goto (pc := 182) (tgt := 186) (by decide) dL_leaves_182 ?_
    refine fr_iast (pc := 186) dL_leaves_186 hW (fun s51 hW => ?_)
    refine fr_iinc (pc := 187) (lv' := [(8, .int (v8 + 1)), (11, .int t0), (0, .ref a0), (1, .ref a1), (2, .int v2), (3, .int v3), (4, .ref a4), (5, .int v5), (6, .int v6), (7, .int v7), (9, .ref a9), (10, .int v10), (12, .int v12), (13, .int v13), (15, .int v15)]) (v8 + 1) 9 rfl (congrArg (fun z => v8 + z) (by decide)) (by decide) rfl dL_leaves_187 ?_
    refine fr_iinc (pc := 190) (lv' := [(12, .int (v12 + 1)), (8, .int (v8 + 1)), (11, .int t0), (0, .ref a0), (1, .ref a1), (2, .int v2), (3, .int v3), (4, .ref a4), (5, .int v5), (6, .int v6), (7, .int v7), (9, .ref a9), (10, .int v10), (13, .int v13), (15, .int v15)]) (v12 + 1) 12 rfl (congrArg (fun z => v12 + z) (by decide)) (by decide) rfl dL_leaves_190 ?_
    refine fr_goto (pc := 193) (tgt := 51) (by decide) dL_leaves_193 ?_
    exact fr_sub [3, 4, 5, 6, 7, 8, 9, 10, 1, 11, 12, 2, 0] rfl hW
set_option maxHeartbeats 4000000 in
set_option maxRecDepth 100000 in
theorem q_L_leaves_130 {g : GG} {σ : Hs} {post : Option Value → Hs → Prop} (cM sM kM nM : Nat) (a0 : Nat) (a1 : Nat) (v2 : Int32) (v3 : Int32) (a4 : Nat) (v5 : Int32) (v6 : Int32) (v7 : Int32) (v8 : Int32) (a9 : Nat) (v10 : Int32) (v11 : Int32) (v12 : Int32) (v13 : Int32) (v15 : Int32) (v16 : Int32) (v17 : Int32) (t0 : Int32) (hW : (v15 = 0 → J_L_leaves_81 g post cM sM kM nM σ a0 a1 v2 v3 a4 v5 v6 v7 v8 a9 v10 v11 v12 v13 t0 0 ((v16 + 1)) ) ∧ (¬ v15 = 0 → (v17 = 0 → J_L_leaves_81 g post cM sM kM nM σ a0 a1 v2 v3 a4 v5 v6 v7 v8 a9 v10 v11 v12 v13 t0 0 ((v16 + 1)) ) ∧ (¬ v17 = 0 → J_L_leaves_81 g post cM sM kM nM σ a0 a1 v2 v3 a4 v5 v6 v7 v8 a9 v10 v11 v12 v13 t0 1 ((v16 + 1)) ))) : J_L_leaves_130 g post cM sM kM nM σ a0 a1 v2 v3 a4 v5 v6 v7 v8 a9 v10 v11 v12 v13 v15 v16 v17 t0 := by
  show Fr g M_L_leaves (cM, sM, kM, nM) [(0, .ref a0), (1, .ref a1), (2, .int v2), (3, .int v3), (4, .ref a4), (5, .int v5), (6, .int v6), (7, .int v7), (8, .int v8), (9, .ref a9), (10, .int v10), (11, .int v11), (12, .int v12), (13, .int v13), (15, .int v15), (16, .int v16), (17, .int v17)] [.int t0] 130 σ post
  refine fr_istore (pc := 130) (lv' := [(14, .int t0), (0, .ref a0), (1, .ref a1), (2, .int v2), (3, .int v3), (4, .ref a4), (5, .int v5), (6, .int v6), (7, .int v7), (8, .int v8), (9, .ref a9), (10, .int v10), (11, .int v11), (12, .int v12), (13, .int v13), (15, .int v15), (16, .int v16), (17, .int v17)]) (by decide) rfl dL_leaves_130 ?_
  refine fr_iload (pc := 132) 15 rfl dL_leaves_132 ?_
  refine fr_if_eq (pc := 134) (tgt := 146) (by decide) dL_leaves_134 hW (fun hW => ?_) (fun hW => ?_)
  · refine fr_iconst (pc := 146) 0 (by decide) dL_leaves_146 ?_
    refine fr_istore (pc := 147) (lv' := [(15, .int 0), (14, .int t0), (0, .ref a0), (1, .ref a1), (2, .int v2), (3, .int v3), (4, .ref a4), (5, .int v5), (6, .int v6), (7, .int v7), (8, .int v8), (9, .ref a9), (10, .int v10), (11, .int v11), (12, .int v12), (13, .int v13), (16, .int v16), (17, .int v17)]) (by decide) rfl dL_leaves_147 ?_
    refine fr_iinc (pc := 149) (lv' := [(16, .int (v16 + 1)), (15, .int 0), (14, .int t0), (0, .ref a0), (1, .ref a1), (2, .int v2), (3, .int v3), (4, .ref a4), (5, .int v5), (6, .int v6), (7, .int v7), (8, .int v8), (9, .ref a9), (10, .int v10), (11, .int v11), (12, .int v12), (13, .int v13), (17, .int v17)]) (v16 + 1) 16 rfl (congrArg (fun z => v16 + z) (by decide)) (by decide) rfl dL_leaves_149 ?_
    refine fr_goto (pc := 152) (tgt := 81) (by decide) dL_leaves_152 ?_
    exact fr_sub [3, 4, 5, 6, 7, 8, 9, 10, 11, 12, 13, 14, 15, 16, 2, 1, 0] rfl hW
  · refine fr_iload (pc := 137) 17 rfl dL_leaves_137 ?_
    refine fr_if_eq (pc := 139) (tgt := 146) (by decide) dL_leaves_139 hW (fun hW => ?_) (fun hW => ?_)
    · refine fr_iconst (pc := 146) 0 (by decide) dL_leaves_146 ?_
      refine fr_istore (pc := 147) (lv' := [(15, .int 0), (14, .int t0), (0, .ref a0), (1, .ref a1), (2, .int v2), (3, .int v3), (4, .ref a4), (5, .int v5), (6, .int v6), (7, .int v7), (8, .int v8), (9, .ref a9), (10, .int v10), (11, .int v11), (12, .int v12), (13, .int v13), (16, .int v16), (17, .int v17)]) (by decide) rfl dL_leaves_147 ?_
      refine fr_iinc (pc := 149) (lv' := [(16, .int (v16 + 1)), (15, .int 0), (14, .int t0), (0, .ref a0), (1, .ref a1), (2, .int v2), (3, .int v3), (4, .ref a4), (5, .int v5), (6, .int v6), (7, .int v7), (8, .int v8), (9, .ref a9), (10, .int v10), (11, .int v11), (12, .int v12), (13, .int v13), (17, .int v17)]) (v16 + 1) 16 rfl (congrArg (fun z => v16 + z) (by decide)) (by decide) rfl dL_leaves_149 ?_
      refine fr_goto (pc := 152) (tgt := 81) (by decide) dL_leaves_152 ?_
      exact fr_sub [3, 4, 5, 6, 7, 8, 9, 10, 11, 12, 13, 14, 15, 16, 2, 1, 0] rfl hW
    · refine fr_iconst (pc := 142) 1 (by decide) dL_leaves_142 ?_
      refine fr_goto (pc := 143) (tgt := 147) (by decide) dL_leaves_143 ?_
      refine fr_istore (pc := 147) (lv' := [(15, .int 1), (14, .int t0), (0, .ref a0), (1, .ref a1), (2, .int v2), (3, .int v3), (4, .ref a4), (5, .int v5), (6, .int v6), (7, .int v7), (8, .int v8), (9, .ref a9), (10, .int v10), (11, .int v11), (12, .int v12), (13, .int v13), (16, .int v16), (17, .int v17)]) (by decide) rfl dL_leaves_147 ?_
      refine fr_iinc (pc := 149) (lv' := [(16, .int (v16 + 1)), (15, .int 1), (14, .int t0), (0, .ref a0), (1, .ref a1), (2, .int v2), (3, .int v3), (4, .ref a4), (5, .int v5), (6, .int v6), (7, .int v7), (8, .int v8), (9, .ref a9), (10, .int v10), (11, .int v11), (12, .int v12), (13, .int v13), (17, .int v17)]) (v16 + 1) 16 rfl (congrArg (fun z => v16 + z) (by decide)) (by decide) rfl dL_leaves_149 ?_
      refine fr_goto (pc := 152) (tgt := 81) (by decide) dL_leaves_152 ?_
      exact fr_sub [3, 4, 5, 6, 7, 8, 9, 10, 11, 12, 13, 14, 15, 16, 2, 1, 0] rfl hW
def J_L_looks_41 (g : GG) (post : Option Value → Hs → Prop) (cM sM kM nM : Nat) (σ : Hs) (a0 : Nat) (a1 : Nat) (v2 : Int32) (v3 : Int32) (v4 : Int32) (v5 : Int32) (a6 : Nat) (v7 : Int32) (t0 : Int32) : Prop := Fr g M_L_looks (cM, sM, kM, nM) [(0, .ref a0), (1, .ref a1), (2, .int v2), (3, .int v3), (4, .int v4), (5, .int v5), (6, .ref a6), (7, .int v7)] [.int t0] 41 σ post
def J_L_looks_159 (g : GG) (post : Option Value → Hs → Prop) (cM sM kM nM : Nat) (σ : Hs) (a1 : Nat) (v2 : Int32) (v4 : Int32) (v5 : Int32) (a6 : Nat) (v7 : Int32) (v8 : Int32) (v9 : Int32) (v10 : Int32) (v11 : Int32) (v12 : Int32) : Prop := Fr g M_L_looks (cM, sM, kM, nM) [(1, .ref a1), (2, .int v2), (4, .int v4), (5, .int v5), (6, .ref a6), (7, .int v7), (8, .int v8), (9, .int v9), (10, .int v10), (11, .int v11), (12, .int v12)] [] 159 σ post
def J_L_looks_290 (g : GG) (post : Option Value → Hs → Prop) (cM sM kM nM : Nat) (σ : Hs) (a1 : Nat) (v2 : Int32) (v5 : Int32) (v7 : Int32) (v8 : Int32) (v9 : Int32) (t0 : Int32) (t1 : Int32) : Prop := Fr g M_L_looks (cM, sM, kM, nM) [(1, .ref a1), (2, .int v2), (5, .int v5), (7, .int v7), (8, .int v8), (9, .int v9)] [.int t0, .int t1] 290 σ post
def J_L_looks_202 (g : GG) (post : Option Value → Hs → Prop) (cM sM kM nM : Nat) (σ : Hs) (a1 : Nat) (v2 : Int32) (v4 : Int32) (v5 : Int32) (a6 : Nat) (v7 : Int32) (v8 : Int32) (v9 : Int32) (v10 : Int32) (v11 : Int32) (v12 : Int32) (t0 : Int32) : Prop := Fr g M_L_looks (cM, sM, kM, nM) [(1, .ref a1), (2, .int v2), (4, .int v4), (5, .int v5), (6, .ref a6), (7, .int v7), (8, .int v8), (9, .int v9), (10, .int v10), (11, .int v11), (12, .int v12)] [.int t0] 202 σ post
def J_L_looks_318 (g : GG) (post : Option Value → Hs → Prop) (cM sM kM nM : Nat) (σ : Hs) (v5 : Int32) (v8 : Int32) (v10 : Int32) (t0 : Int32) : Prop := Fr g M_L_looks (cM, sM, kM, nM) [(5, .int v5), (8, .int v8), (10, .int v10)] [.int t0] 318 σ post
def J_L_looks_242 (g : GG) (post : Option Value → Hs → Prop) (cM sM kM nM : Nat) (σ : Hs) (a1 : Nat) (v2 : Int32) (v4 : Int32) (v5 : Int32) (a6 : Nat) (v7 : Int32) (v8 : Int32) (v9 : Int32) (v10 : Int32) (v11 : Int32) (v12 : Int32) (v13 : Int32) (t0 : Int32) : Prop := Fr g M_L_looks (cM, sM, kM, nM) [(1, .ref a1), (2, .int v2), (4, .int v4), (5, .int v5), (6, .ref a6), (7, .int v7), (8, .int v8), (9, .int v9), (10, .int v10), (11, .int v11), (12, .int v12), (13, .int v13)] [.int t0] 242 σ post
set_option maxHeartbeats 4000000 in
set_option maxRecDepth 100000 in
theorem q_L_looks {g : GG} {σ : Hs} {post : Option Value → Hs → Prop} (cM sM : Nat) (p0 : Nat) (p1 : Nat) (p2 : Int32) (p3 : Int32) (p4 : Int32) (p5 : Int32) (hW : ((0) + 1 ≤ cM ∧ (0) + 64 ≤ sM) ∧ NA g σ 0 64 ndef (fun r1 s2 => ((1) ≤ cM ∧ (64) ≤ sM) ∧ Do g M_L_all 0 0 [.ref p0, .ref r1] s2 (kV (fun s3 => AI g s3 p1 0 (56 + p2) (fun i4 => (4 ≤ i4 → J_L_looks_41 g post cM sM 1 64 s3 p0 p1 p2 p3 p4 p5 r1 i4 0) ∧ (¬ 4 ≤ i4 → ((1) ≤ cM ∧ (64) ≤ sM) ∧ Do g M_L_fixed 0 0 [.ref p1, .int p2, .int i4] s3 (kI (fun i6 s5 => (¬ i6 = 0 → J_L_looks_41 g post cM sM 1 64 s5 p0 p1 p2 p3 p4 p5 r1 i4 0) ∧ (i6 = 0 → J_L_looks_41 g post cM sM 1 64 s5 p0 p1 p2 p3 p4 p5 r1 i4 1))))))))) : Do g M_L_looks cM sM [.ref p0, .ref p1, .int p2, .int p3, .int p4, .int p5] σ post := by
  refine Do.of (by decide +kernel) (Nat.le_of_ble_eq_true rfl) ?_
  show Fr g M_L_looks (cM, sM, 0, 0) [(0, .ref p0), (1, .ref p1), (2, .int p2), (3, .int p3), (4, .int p4), (5, .int p5)] [] 0 σ post
  refine fr_bipush (pc := 0) 64 (by decide) dL_looks_0 ?_
  obtain ⟨hz, hW⟩ := hW
  refine fr_newI (pc := 2) 0 .int (Or.inl ⟨rfl, rfl⟩) w_500 dL_looks_2 (by decide) (by decide) hz (Z' := (cM, sM, 1, 64)) rfl hW (fun r1 s2 hW => ?_)
  refine fr_astore (pc := 4) (lv' := [(6, .ref r1), (0, .ref p0), (1, .ref p1), (2, .int p2), (3, .int p3), (4, .int p4), (5, .int p5)]) (by decide) rfl dL_looks_4 ?_
  refine fr_aload_n (pc := 6) 1 rfl rfl dL_looks_6 ?_
  refine fr_aload (pc := 7) 0 rfl dL_looks_7 ?_
  obtain ⟨hz, hW⟩ := hW
  refine fr_callS_V (pc := 9) (As := [.ref p0, .ref r1]) (st := []) wd_L_all w_768 ok_L_all (by decide) rfl (Nat.le_of_ble_eq_true rfl) dL_looks_9 hz hW (fun s3 hW => ?_)
  refine fr_aload_n (pc := 12) 2 rfl rfl dL_looks_12 ?_
  refine fr_bipush (pc := 13) 56 (by decide) dL_looks_13 ?_
  refine fr_iload_n (pc := 15) 3 rfl rfl dL_looks_15 ?_
  refine fr_iadd (pc := 16) dL_looks_16 ?_
  refine fr_iald (pc := 17) dL_looks_17 hW (fun i4 hW => ?_)
  refine fr_istore (pc := 18) (lv' := [(7, .int i4), (6, .ref r1), (0, .ref p0), (1, .ref p1), (2, .int p2), (3, .int p3), (4, .int p4), (5, .int p5)]) (by decide) rfl dL_looks_18 ?_
  refine fr_iload (pc := 20) 0 rfl dL_looks_20 ?_
  refine fr_iconst (pc := 22) 4 (by decide) dL_looks_22 ?_
  refine fr_icmp_ge (pc := 23) (tgt := 40) (by decide) dL_looks_23 hW (fun hW => ?_) (fun hW => ?_)
  · refine fr_iconst (pc := 40) 0 (by decide) dL_looks_40 ?_
    exact fr_sub [2, 3, 4, 5, 6, 7, 1, 0] rfl hW
  · refine fr_aload_n (pc := 26) 3 rfl rfl dL_looks_26 ?_
    refine fr_iload_n (pc := 27) 4 rfl rfl dL_looks_27 ?_
    refine fr_iload (pc := 28) 0 rfl dL_looks_28 ?_
    obtain ⟨hz, hW⟩ := hW
    refine fr_callS_I (pc := 30) (As := [.ref p1, .int p2, .int i4]) (st := []) wd_L_fixed w_759 ok_L_fixed (by decide) rfl (Nat.le_of_ble_eq_true rfl) dL_looks_30 hz hW (fun i6 s5 hW => ?_)
    refine fr_if_ne (pc := 33) (tgt := 40) (by decide) dL_looks_33 hW (fun hW => ?_) (fun hW => ?_)
    · refine fr_iconst (pc := 40) 0 (by decide) dL_looks_40 ?_
      exact fr_sub [2, 3, 4, 5, 6, 7, 1, 0] rfl hW
    · refine fr_iconst (pc := 36) 1 (by decide) dL_looks_36 ?_
      refine fr_goto (pc := 37) (tgt := 41) (by decide) dL_looks_37 ?_
      exact fr_sub [2, 3, 4, 5, 6, 7, 1, 0] rfl hW
set_option maxHeartbeats 4000000 in
set_option maxRecDepth 100000 in
theorem q_L_looks_41 {g : GG} {σ : Hs} {post : Option Value → Hs → Prop} (cM sM kM nM : Nat) (a0 : Nat) (a1 : Nat) (v2 : Int32) (v3 : Int32) (v4 : Int32) (v5 : Int32) (a6 : Nat) (v7 : Int32) (t0 : Int32) (hW : (¬ v3 = 0 → (v3 ≤ 99 → ((kM) ≤ cM ∧ (nM) ≤ sM) ∧ Rc σ a0 11 ∧ Do g M_X11_about 0 0 [.ref a0, .int (v3 - 1), .int 0] σ (kI (fun i10 s9 => ∃ mc17 ms18 : Nat, ((kM) + mc17 ≤ cM ∧ (nM) + ms18 ≤ sM) ∧ Do g M_L_leaves mc17 ms18 [.ref a0, .ref a1, .int v2, .int (v3 - 1), .ref a6] s9 (kI (fun i14 s13 => J_L_looks_159 g post cM sM (kM + mc17) (nM + ms18) s13 a1 v2 v4 v5 a6 v7 t0 i10 i14 1 0 ))))) ∧ (¬ v3 ≤ 99 → ∃ mc23 ms24 : Nat, ((kM) + mc23 ≤ cM ∧ (nM) + ms24 ≤ sM) ∧ Do g M_L_leaves mc23 ms24 [.ref a0, .ref a1, .int v2, .int ((v3 / 10) - (v3 / 10) / 10 * 10), .ref a6] σ (kI (fun i20 s19 => ∃ mc29 ms30 : Nat, ((kM + mc23) + mc29 ≤ cM ∧ (nM + ms24) + ms30 ≤ sM) ∧ Do g M_L_leaves mc29 ms30 [.ref a0, .ref a1, .int v2, .int (v3 - v3 / 10 * 10), .ref a6] s19 (kI (fun i26 s25 => ((kM + mc23 + mc29) ≤ cM ∧ (nM + ms24 + ms30) ≤ sM) ∧ Do g M_L_pages 0 0 [.ref a6, .int v4] s25 (kI (fun i32 s31 => (t0 = 0 → ((kM + mc23 + mc29) ≤ cM ∧ (nM + ms24 + ms30) ≤ sM) ∧ post (some (.int (((i20 + i26) + i32) + 0))) s31) ∧ (¬ t0 = 0 → ((kM + mc23 + mc29) ≤ cM ∧ (nM + ms24 + ms30) ≤ sM) ∧ post (some (.int (((i20 + i26) + i32) + v5))) s31))))))))) ∧ (v3 = 0 → ((kM) ≤ cM ∧ (nM) ≤ sM) ∧ Do g M_L_pages 0 0 [.ref a6, .int v4] σ (kI (fun i36 s35 => (t0 = 0 → ((kM) ≤ cM ∧ (nM) ≤ sM) ∧ post (some (.int (i36 + 0))) s35) ∧ (¬ t0 = 0 → ((kM) ≤ cM ∧ (nM) ≤ sM) ∧ post (some (.int (i36 + v5))) s35))))) : J_L_looks_41 g post cM sM kM nM σ a0 a1 v2 v3 v4 v5 a6 v7 t0 := by
  show Fr g M_L_looks (cM, sM, kM, nM) [(0, .ref a0), (1, .ref a1), (2, .int v2), (3, .int v3), (4, .int v4), (5, .int v5), (6, .ref a6), (7, .int v7)] [.int t0] 41 σ post
  refine fr_istore (pc := 41) (lv' := [(8, .int t0), (0, .ref a0), (1, .ref a1), (2, .int v2), (3, .int v3), (4, .int v4), (5, .int v5), (6, .ref a6), (7, .int v7)]) (by decide) rfl dL_looks_41 ?_
  refine fr_iload_n (pc := 43) 4 rfl rfl dL_looks_43 ?_
  refine fr_if_ne (pc := 44) (tgt := 67) (by decide) dL_looks_44 hW (fun hW => ?_) (fun hW => ?_)
  · refine fr_iload_n (pc := 67) 4 rfl rfl dL_looks_67 ?_
    refine fr_bipush (pc := 68) 99 (by decide) dL_looks_68 ?_
    refine fr_icmp_le (pc := 70) (tgt := 130) (by decide) dL_looks_70 hW (fun hW => ?_) (fun hW => ?_)
    · refine fr_aload_n (pc := 130) 1 rfl rfl dL_looks_130 ?_
      refine fr_iload_n (pc := 131) 4 rfl rfl dL_looks_131 ?_
      refine fr_iconst (pc := 132) 1 (by decide) dL_looks_132 ?_
      refine fr_isub (pc := 133) dL_looks_133 ?_
      refine fr_iconst (pc := 134) 0 (by decide) dL_looks_134 ?_
      obtain ⟨hz, hrc, hW⟩ := hW
      refine fr_callV_I (pc := 135) (As := [.int (v3 - 1), .int 0]) (st := []) wd_X11_about w_763 ok_X11_about (by decide) rfl (Nat.le_of_ble_eq_true rfl) dL_looks_135 hz kc_X11 hrc hW (fun i10 s9 hW => ?_)
      refine fr_istore (pc := 138) (lv' := [(9, .int i10), (8, .int t0), (0, .ref a0), (1, .ref a1), (2, .int v2), (3, .int v3), (4, .int v4), (5, .int v5), (6, .ref a6), (7, .int v7)]) (by decide) rfl dL_looks_138 ?_
      refine fr_aload_n (pc := 140) 2 rfl rfl dL_looks_140 ?_
      refine fr_aload_n (pc := 141) 3 rfl rfl dL_looks_141 ?_
      refine fr_iload_n (pc := 142) 4 rfl rfl dL_looks_142 ?_
      refine fr_iload_n (pc := 143) 5 rfl rfl dL_looks_143 ?_
      refine fr_iconst (pc := 144) 1 (by decide) dL_looks_144 ?_
      refine fr_isub (pc := 145) dL_looks_145 ?_
      refine fr_aload (pc := 146) 8 rfl dL_looks_146 ?_
      obtain ⟨mc17, ms18, hz, hW⟩ := hW
      refine fr_callS_Ia (pc := 148) (As := [.ref a0, .ref a1, .int v2, .int (v3 - 1), .ref a6]) (st := []) wd_L_leaves w_770 ok_L_leaves (by decide) rfl (Nat.le_of_ble_eq_true rfl) dL_looks_148 hz (Z' := (cM, sM, kM + mc17, nM + ms18)) rfl hW (fun i14 s13 hW => ?_)
      refine fr_istore (pc := 151) (lv' := [(10, .int i14), (9, .int i10), (8, .int t0), (0, .ref a0), (1, .ref a1), (2, .int v2), (3, .int v3), (4, .int v4), (5, .int v5), (6, .ref a6), (7, .int v7)]) (by decide) rfl dL_looks_151 ?_
      refine fr_iconst (pc := 153) 1 (by decide) dL_looks_153 ?_
      refine fr_istore (pc := 154) (lv' := [(11, .int 1), (10, .int i14), (9, .int i10), (8, .int t0), (0, .ref a0), (1, .ref a1), (2, .int v2), (3, .int v3), (4, .int v4), (5, .int v5), (6, .ref a6), (7, .int v7)]) (by decide) rfl dL_looks_154 ?_
      refine fr_iconst (pc := 156) 0 (by decide) dL_looks_156 ?_
      refine fr_istore (pc := 157) (lv' := [(12, .int 0), (11, .int 1), (10, .int i14), (9, .int i10), (8, .int t0), (0, .ref a0), (1, .ref a1), (2, .int v2), (3, .int v3), (4, .int v4), (5, .int v5), (6, .ref a6), (7, .int v7)]) (by decide) rfl dL_looks_157 ?_
      exact fr_sub [6, 7, 9, 10, 11, 12, 4, 3, 2, 1, 0] rfl hW
    · refine fr_aload_n (pc := 73) 1 rfl rfl dL_looks_73 ?_
      refine fr_aload_n (pc := 74) 2 rfl rfl dL_looks_74 ?_
      refine fr_iload_n (pc := 75) 3 rfl rfl dL_looks_75 ?_
      refine fr_iload_n (pc := 76) 4 rfl rfl dL_looks_76 ?_
      refine fr_bipush (pc := 77) 10 (by decide) dL_looks_77 ?_
      refine fr_idiv (pc := 79) (by decide) dL_looks_79 ?_
      refine fr_bipush (pc := 80) 10 (by decide) dL_looks_80 ?_
      refine fr_irem (pc := 82) (by decide) dL_looks_82 ?_
      refine fr_aload (pc := 83) 7 rfl dL_looks_83 ?_
      obtain ⟨mc23, ms24, hz, hW⟩ := hW
      refine fr_callS_Ia (pc := 85) (As := [.ref a0, .ref a1, .int v2, .int ((v3 / 10) - (v3 / 10) / 10 * 10), .ref a6]) (st := []) wd_L_leaves w_770 ok_L_leaves (by decide) rfl (Nat.le_of_ble_eq_true rfl) dL_looks_85 hz (Z' := (cM, sM, kM + mc23, nM + ms24)) rfl hW (fun i20 s19 hW => ?_)
      refine fr_istore (pc := 88) (lv' := [(9, .int i20), (8, .int t0), (0, .ref a0), (1, .ref a1), (2, .int v2), (3, .int v3), (4, .int v4), (5, .int v5), (6, .ref a6), (7, .int v7)]) (by decide) rfl dL_looks_88 ?_
      refine fr_iload (pc := 90) 0 rfl dL_looks_90 ?_
      refine fr_aload_n (pc := 92) 2 rfl rfl dL_looks_92 ?_
      refine fr_aload_n (pc := 93) 3 rfl rfl dL_looks_93 ?_
      refine fr_iload_n (pc := 94) 4 rfl rfl dL_looks_94 ?_
      refine fr_iload_n (pc := 95) 5 rfl rfl dL_looks_95 ?_
      refine fr_bipush (pc := 96) 10 (by decide) dL_looks_96 ?_
      refine fr_irem (pc := 98) (by decide) dL_looks_98 ?_
      refine fr_aload (pc := 99) 8 rfl dL_looks_99 ?_
      obtain ⟨mc29, ms30, hz, hW⟩ := hW
      refine fr_callS_Ia (pc := 101) (As := [.ref a0, .ref a1, .int v2, .int (v3 - v3 / 10 * 10), .ref a6]) (st := [.int i20]) wd_L_leaves w_770 ok_L_leaves (by decide) rfl (Nat.le_of_ble_eq_true rfl) dL_looks_101 hz (Z' := (cM, sM, kM + mc23 + mc29, nM + ms24 + ms30)) rfl hW (fun i26 s25 hW => ?_)
      refine fr_iadd (pc := 104) dL_looks_104 ?_
      refine fr_istore (pc := 105) (lv' := [(9, .int (i20 + i26)), (8, .int t0), (0, .ref a0), (1, .ref a1), (2, .int v2), (3, .int v3), (4, .int v4), (5, .int v5), (6, .ref a6), (7, .int v7)]) (by decide) rfl dL_looks_105 ?_
      refine fr_iload (pc := 107) 0 rfl dL_looks_107 ?_
      refine fr_aload (pc := 109) 8 rfl dL_looks_109 ?_
      refine fr_iload (pc := 111) 6 rfl dL_looks_111 ?_
      obtain ⟨hz, hW⟩ := hW
      refine fr_callS_I (pc := 113) (As := [.ref a6, .int v4]) (st := [.int (i20 + i26)]) wd_L_pages w_769 ok_L_pages (by decide) rfl (Nat.le_of_ble_eq_true rfl) dL_looks_113 hz hW (fun i32 s31 hW => ?_)
      refine fr_iadd (pc := 116) dL_looks_116 ?_
      refine fr_iload (pc := 117) 1 rfl dL_looks_117 ?_
      refine fr_if_eq (pc := 119) (tgt := 127) (by decide) dL_looks_119 hW (fun hW => ?_) (fun hW => ?_)
      · refine fr_iconst (pc := 127) 0 (by decide) dL_looks_127 ?_
        refine fr_iadd (pc := 128) dL_looks_128 ?_
        obtain ⟨hz, hW⟩ := hW
        exact fr_iret (pc := 129) dL_looks_129 rfl hz hW
      · refine fr_iload (pc := 122) 7 rfl dL_looks_122 ?_
        refine fr_goto (pc := 124) (tgt := 128) (by decide) dL_looks_124 ?_
        refine fr_iadd (pc := 128) dL_looks_128 ?_
        obtain ⟨hz, hW⟩ := hW
        exact fr_iret (pc := 129) dL_looks_129 rfl hz hW
  · refine fr_aload (pc := 47) 7 rfl dL_looks_47 ?_
    refine fr_iload (pc := 49) 5 rfl dL_looks_49 ?_
    obtain ⟨hz, hW⟩ := hW
    refine fr_callS_I (pc := 51) (As := [.ref a6, .int v4]) (st := []) wd_L_pages w_769 ok_L_pages (by decide) rfl (Nat.le_of_ble_eq_true rfl) dL_looks_51 hz hW (fun i36 s35 hW => ?_)
    refine fr_iload (pc := 54) 0 rfl dL_looks_54 ?_
    refine fr_if_eq (pc := 56) (tgt := 64) (by decide) dL_looks_56 hW (fun hW => ?_) (fun hW => ?_)
    · refine fr_iconst (pc := 64) 0 (by decide) dL_looks_64 ?_
      refine fr_iadd (pc := 65) dL_looks_65 ?_
      obtain ⟨hz, hW⟩ := hW
      exact fr_iret (pc := 66) dL_looks_66 rfl hz hW
    · refine fr_iload (pc := 59) 6 rfl dL_looks_59 ?_
      refine fr_goto (pc := 61) (tgt := 65) (by decide) dL_looks_61 ?_
      refine fr_iadd (pc := 65) dL_looks_65 ?_
      obtain ⟨hz, hW⟩ := hW
      exact fr_iret (pc := 66) dL_looks_66 rfl hz hW
set_option maxHeartbeats 4000000 in
set_option maxRecDepth 100000 in
theorem q_L_looks_159 {g : GG} {σ : Hs} {post : Option Value → Hs → Prop} (cM sM kM nM : Nat) (a1 : Nat) (v2 : Int32) (v4 : Int32) (v5 : Int32) (a6 : Nat) (v7 : Int32) (v8 : Int32) (v9 : Int32) (v10 : Int32) (v11 : Int32) (v12 : Int32) (hW : (4 ≤ v12 → (v11 = 0 → ((kM) ≤ cM ∧ (nM) ≤ sM) ∧ Do g M_L_pages 0 0 [.ref a6, .int v4] σ (kI (fun i40 s39 => J_L_looks_290 g post cM sM kM nM s39 a1 v2 v5 v7 v8 v9 i40 v10))) ∧ (¬ v11 = 0 → J_L_looks_290 g post cM sM kM nM σ a1 v2 v5 v7 v8 v9 0 v10)) ∧ (¬ 4 ≤ v12 → ((kM) ≤ cM ∧ (nM) ≤ sM) ∧ Do g M_L_bound 0 0 [.ref a1, .int v2, .int v12] σ (kI (fun i44 s43 => (¬ i44 = 0 → J_L_looks_202 g post cM sM kM nM s43 a1 v2 v4 v5 a6 v7 v8 v9 v10 v11 v12 1) ∧ (i44 = 0 → AI g s43 a1 0 (48 + v2) (fun i47 => (((i47 >>> (v12 &&& 31)) &&& 1) = 1 → J_L_looks_202 g post cM sM kM nM s43 a1 v2 v4 v5 a6 v7 v8 v9 v10 v11 v12 1) ∧ (¬ ((i47 >>> (v12 &&& 31)) &&& 1) = 1 → (¬ v7 = v12 → J_L_looks_202 g post cM sM kM nM s43 a1 v2 v4 v5 a6 v7 v8 v9 v10 v11 v12 0) ∧ (v7 = v12 → J_L_looks_202 g post cM sM kM nM s43 a1 v2 v4 v5 a6 v7 v8 v9 v10 v11 v12 1)))))))) : J_L_looks_159 g post cM sM kM nM σ a1 v2 v4 v5 a6 v7 v8 v9 v10 v11 v12 := by
  show Fr g M_L_looks (cM, sM, kM, nM) [(1, .ref a1), (2, .int v2), (4, .int v4), (5, .int v5), (6, .ref a6), (7, .int v7), (8, .int v8), (9, .int v9), (10, .int v10), (11, .int v11), (12, .int v12)] [] 159 σ post
  refine fr_iload (pc := 159) 10 rfl dL_looks_159 ?_
  refine fr_iconst (pc := 161) 4 (by decide) dL_looks_161 ?_
  refine fr_icmp_ge (pc := 162) (tgt := 272) (by decide) dL_looks_162 hW (fun hW => ?_) (fun hW => ?_)
  · refine fr_iload (pc := 272) 8 rfl dL_looks_272 ?_
    refine fr_iload (pc := 274) 9 rfl dL_looks_274 ?_
    refine fr_if_eq (pc := 276) (tgt := 283) (by decide) dL_looks_276 hW (fun hW => ?_) (fun hW => ?_)
    · refine fr_aload (pc := 283) 4 rfl dL_looks_283 ?_
      refine fr_iload (pc := 285) 2 rfl dL_looks_285 ?_
      obtain ⟨hz, hW⟩ := hW
      refine fr_callS_I (pc := 287) (As := [.ref a6, .int v4]) (st := [.int v10]) wd_L_pages w_769 ok_L_pages (by decide) rfl (Nat.le_of_ble_eq_true rfl) dL_looks_287 hz hW (fun i40 s39 hW => ?_)
      exact fr_sub [0, 1, 3, 5, 6, 7] rfl hW
    · refine fr_iconst (pc := 279) 0 (by decide) dL_looks_279 ?_
      refine fr_goto (pc := 280) (tgt := 290) (by decide) dL_looks_280 ?_
      exact fr_sub [0, 1, 3, 5, 6, 7] rfl hW
  · refine fr_aload_n (pc := 165) 0 rfl rfl dL_looks_165 ?_
    refine fr_iload_n (pc := 166) 1 rfl rfl dL_looks_166 ?_
    refine fr_iload (pc := 167) 10 rfl dL_looks_167 ?_
    obtain ⟨hz, hW⟩ := hW
    refine fr_callS_I (pc := 169) (As := [.ref a1, .int v2, .int v12]) (st := []) wd_L_bound w_760 ok_L_bound (by decide) rfl (Nat.le_of_ble_eq_true rfl) dL_looks_169 hz hW (fun i44 s43 hW => ?_)
    refine fr_if_ne (pc := 172) (tgt := 197) (by decide) dL_looks_172 hW (fun hW => ?_) (fun hW => ?_)
    · refine fr_iconst (pc := 197) 1 (by decide) dL_looks_197 ?_
      refine fr_goto (pc := 198) (tgt := 202) (by decide) dL_looks_198 ?_
      exact fr_sub [0, 1, 2, 3, 4, 5, 6, 7, 8, 9, 10] rfl hW
    · refine fr_aload_n (pc := 175) 0 rfl rfl dL_looks_175 ?_
      refine fr_bipush (pc := 176) 48 (by decide) dL_looks_176 ?_
      refine fr_iload_n (pc := 178) 1 rfl rfl dL_looks_178 ?_
      refine fr_iadd (pc := 179) dL_looks_179 ?_
      refine fr_iald (pc := 180) dL_looks_180 hW (fun i47 hW => ?_)
      refine fr_iload (pc := 181) 10 rfl dL_looks_181 ?_
      refine fr_ishr (pc := 183) dL_looks_183 ?_
      refine fr_iconst (pc := 184) 1 (by decide) dL_looks_184 ?_
      refine fr_iand (pc := 185) dL_looks_185 ?_
      refine fr_iconst (pc := 186) 1 (by decide) dL_looks_186 ?_
      refine fr_icmp_eq (pc := 187) (tgt := 197) (by decide) dL_looks_187 hW (fun hW => ?_) (fun hW => ?_)
      · refine fr_iconst (pc := 197) 1 (by decide) dL_looks_197 ?_
        refine fr_goto (pc := 198) (tgt := 202) (by decide) dL_looks_198 ?_
        exact fr_sub [0, 1, 2, 3, 4, 5, 6, 7, 8, 9, 10] rfl hW
      · refine fr_iload (pc := 190) 5 rfl dL_looks_190 ?_
        refine fr_iload (pc := 192) 10 rfl dL_looks_192 ?_
        refine fr_icmp_ne (pc := 194) (tgt := 201) (by decide) dL_looks_194 hW (fun hW => ?_) (fun hW => ?_)
        · refine fr_iconst (pc := 201) 0 (by decide) dL_looks_201 ?_
          exact fr_sub [0, 1, 2, 3, 4, 5, 6, 7, 8, 9, 10] rfl hW
        · refine fr_iconst (pc := 197) 1 (by decide) dL_looks_197 ?_
          refine fr_goto (pc := 198) (tgt := 202) (by decide) dL_looks_198 ?_
          exact fr_sub [0, 1, 2, 3, 4, 5, 6, 7, 8, 9, 10] rfl hW
set_option maxHeartbeats 4000000 in
set_option maxRecDepth 100000 in
theorem q_L_looks_290 {g : GG} {σ : Hs} {post : Option Value → Hs → Prop} (cM sM kM nM : Nat) (a1 : Nat) (v2 : Int32) (v5 : Int32) (v7 : Int32) (v8 : Int32) (v9 : Int32) (t0 : Int32) (t1 : Int32) (hW : ((kM) ≤ cM ∧ (nM) ≤ sM) ∧ Do g M_L_run 0 0 [.ref a1, .int v2, .int v9] σ (kI (fun i49 s48 => ((kM) ≤ cM ∧ (nM) ≤ sM) ∧ Do g M_L_column 0 0 [.int v9, .int (i49 / 8)] s48 (kI (fun i53 s52 => (¬ i53 = v7 → J_L_looks_318 g post cM sM kM nM s52 v5 v8 ((t1 + t0)) 0) ∧ (i53 = v7 → J_L_looks_318 g post cM sM kM nM s52 v5 v8 ((t1 + t0)) 1)))))) : J_L_looks_290 g post cM sM kM nM σ a1 v2 v5 v7 v8 v9 t0 t1 := by
  show Fr g M_L_looks (cM, sM, kM, nM) [(1, .ref a1), (2, .int v2), (5, .int v5), (7, .int v7), (8, .int v8), (9, .int v9)] [.int t0, .int t1] 290 σ post
  refine fr_iadd (pc := 290) dL_looks_290 ?_
  refine fr_istore (pc := 291) (lv' := [(10, .int (t1 + t0)), (1, .ref a1), (2, .int v2), (5, .int v5), (7, .int v7), (8, .int v8), (9, .int v9)]) (by decide) rfl dL_looks_291 ?_
  refine fr_iload (pc := 293) 6 rfl dL_looks_293 ?_
  refine fr_aload_n (pc := 295) 1 rfl rfl dL_looks_295 ?_
  refine fr_iload_n (pc := 296) 2 rfl rfl dL_looks_296 ?_
  refine fr_iload (pc := 297) 6 rfl dL_looks_297 ?_
  obtain ⟨hz, hW⟩ := hW
  refine fr_callS_I (pc := 299) (As := [.ref a1, .int v2, .int v9]) (st := [.int v9]) wd_L_run w_764 ok_L_run (by decide) rfl (Nat.le_of_ble_eq_true rfl) dL_looks_299 hz hW (fun i49 s48 hW => ?_)
  refine fr_bipush (pc := 302) 8 (by decide) dL_looks_302 ?_
  refine fr_idiv (pc := 304) (by decide) dL_looks_304 ?_
  obtain ⟨hz, hW⟩ := hW
  refine fr_callS_I (pc := 305) (As := [.int v9, .int (i49 / 8)]) (st := []) wd_L_column w_758 ok_L_column (by decide) rfl (Nat.le_of_ble_eq_true rfl) dL_looks_305 hz hW (fun i53 s52 hW => ?_)
  refine fr_iload (pc := 308) 4 rfl dL_looks_308 ?_
  refine fr_icmp_ne (pc := 310) (tgt := 317) (by decide) dL_looks_310 hW (fun hW => ?_) (fun hW => ?_)
  · refine fr_iconst (pc := 317) 0 (by decide) dL_looks_317 ?_
    exact fr_sub [3, 5, 0] rfl hW
  · refine fr_iconst (pc := 313) 1 (by decide) dL_looks_313 ?_
    refine fr_goto (pc := 314) (tgt := 318) (by decide) dL_looks_314 ?_
    exact fr_sub [3, 5, 0] rfl hW
set_option maxHeartbeats 4000000 in
set_option maxRecDepth 100000 in
theorem q_L_looks_202 {g : GG} {σ : Hs} {post : Option Value → Hs → Prop} (cM sM kM nM : Nat) (a1 : Nat) (v2 : Int32) (v4 : Int32) (v5 : Int32) (a6 : Nat) (v7 : Int32) (v8 : Int32) (v9 : Int32) (v10 : Int32) (v11 : Int32) (v12 : Int32) (t0 : Int32) (hW : ((kM) ≤ cM ∧ (nM) ≤ sM) ∧ Do g M_L_column 0 0 [.int v9, .int 0] σ (kI (fun i57 s56 => (i57 = v12 → J_L_looks_242 g post cM sM kM nM s56 a1 v2 v4 v5 a6 v7 v8 v9 v10 v11 v12 t0 1) ∧ (¬ i57 = v12 → ((kM) ≤ cM ∧ (nM) ≤ sM) ∧ Do g M_L_column 0 0 [.int v9, .int 1] s56 (kI (fun i61 s60 => (i61 = v12 → J_L_looks_242 g post cM sM kM nM s60 a1 v2 v4 v5 a6 v7 v8 v9 v10 v11 v12 t0 1) ∧ (¬ i61 = v12 → ((kM) ≤ cM ∧ (nM) ≤ sM) ∧ Do g M_L_column 0 0 [.int v9, .int 2] s60 (kI (fun i65 s64 => (¬ i65 = v12 → J_L_looks_242 g post cM sM kM nM s64 a1 v2 v4 v5 a6 v7 v8 v9 v10 v11 v12 t0 0) ∧ (i65 = v12 → J_L_looks_242 g post cM sM kM nM s64 a1 v2 v4 v5 a6 v7 v8 v9 v10 v11 v12 t0 1)))))))))) : J_L_looks_202 g post cM sM kM nM σ a1 v2 v4 v5 a6 v7 v8 v9 v10 v11 v12 t0 := by
  show Fr g M_L_looks (cM, sM, kM, nM) [(1, .ref a1), (2, .int v2), (4, .int v4), (5, .int v5), (6, .ref a6), (7, .int v7), (8, .int v8), (9, .int v9), (10, .int v10), (11, .int v11), (12, .int v12)] [.int t0] 202 σ post
  refine fr_istore (pc := 202) (lv' := [(13, .int t0), (1, .ref a1), (2, .int v2), (4, .int v4), (5, .int v5), (6, .ref a6), (7, .int v7), (8, .int v8), (9, .int v9), (10, .int v10), (11, .int v11), (12, .int v12)]) (by decide) rfl dL_looks_202 ?_
  refine fr_iload (pc := 204) 8 rfl dL_looks_204 ?_
  refine fr_iconst (pc := 206) 0 (by decide) dL_looks_206 ?_
  obtain ⟨hz, hW⟩ := hW
  refine fr_callS_I (pc := 207) (As := [.int v9, .int 0]) (st := []) wd_L_column w_758 ok_L_column (by decide) rfl (Nat.le_of_ble_eq_true rfl) dL_looks_207 hz hW (fun i57 s56 hW => ?_)
  refine fr_iload (pc := 210) 11 rfl dL_looks_210 ?_
  refine fr_icmp_eq (pc := 212) (tgt := 237) (by decide) dL_looks_212 hW (fun hW => ?_) (fun hW => ?_)
  · refine fr_iconst (pc := 237) 1 (by decide) dL_looks_237 ?_
    refine fr_goto (pc := 238) (tgt := 242) (by decide) dL_looks_238 ?_
    exact fr_sub [1, 2, 3, 4, 5, 6, 7, 8, 9, 10, 11, 0] rfl hW
  · refine fr_iload (pc := 215) 8 rfl dL_looks_215 ?_
    refine fr_iconst (pc := 217) 1 (by decide) dL_looks_217 ?_
    obtain ⟨hz, hW⟩ := hW
    refine fr_callS_I (pc := 218) (As := [.int v9, .int 1]) (st := []) wd_L_column w_758 ok_L_column (by decide) rfl (Nat.le_of_ble_eq_true rfl) dL_looks_218 hz hW (fun i61 s60 hW => ?_)
    refine fr_iload (pc := 221) 11 rfl dL_looks_221 ?_
    refine fr_icmp_eq (pc := 223) (tgt := 237) (by decide) dL_looks_223 hW (fun hW => ?_) (fun hW => ?_)
    · refine fr_iconst (pc := 237) 1 (by decide) dL_looks_237 ?_
      refine fr_goto (pc := 238) (tgt := 242) (by decide) dL_looks_238 ?_
      exact fr_sub [1, 2, 3, 4, 5, 6, 7, 8, 9, 10, 11, 0] rfl hW
    · refine fr_iload (pc := 226) 8 rfl dL_looks_226 ?_
      refine fr_iconst (pc := 228) 2 (by decide) dL_looks_228 ?_
      obtain ⟨hz, hW⟩ := hW
      refine fr_callS_I (pc := 229) (As := [.int v9, .int 2]) (st := []) wd_L_column w_758 ok_L_column (by decide) rfl (Nat.le_of_ble_eq_true rfl) dL_looks_229 hz hW (fun i65 s64 hW => ?_)
      refine fr_iload (pc := 232) 11 rfl dL_looks_232 ?_
      refine fr_icmp_ne (pc := 234) (tgt := 241) (by decide) dL_looks_234 hW (fun hW => ?_) (fun hW => ?_)
      · refine fr_iconst (pc := 241) 0 (by decide) dL_looks_241 ?_
        exact fr_sub [1, 2, 3, 4, 5, 6, 7, 8, 9, 10, 11, 0] rfl hW
      · refine fr_iconst (pc := 237) 1 (by decide) dL_looks_237 ?_
        refine fr_goto (pc := 238) (tgt := 242) (by decide) dL_looks_238 ?_
        exact fr_sub [1, 2, 3, 4, 5, 6, 7, 8, 9, 10, 11, 0] rfl hW
set_option maxHeartbeats 4000000 in
set_option maxRecDepth 100000 in
theorem q_L_looks_318 {g : GG} {σ : Hs} {post : Option Value → Hs → Prop} (cM sM kM nM : Nat) (v5 : Int32) (v8 : Int32) (v10 : Int32) (t0 : Int32) (hW : (v8 = 0 → ((kM) ≤ cM ∧ (nM) ≤ sM) ∧ post (some (.int (v10 + 0))) σ) ∧ (¬ v8 = 0 → (¬ t0 = 0 → ((kM) ≤ cM ∧ (nM) ≤ sM) ∧ post (some (.int (v10 + 0))) σ) ∧ (t0 = 0 → ((kM) ≤ cM ∧ (nM) ≤ sM) ∧ post (some (.int (v10 + v5))) σ))) : J_L_looks_318 g post cM sM kM nM σ v5 v8 v10 t0 := by
  show Fr g M_L_looks (cM, sM, kM, nM) [(5, .int v5), (8, .int v8), (10, .int v10)] [.int t0] 318 σ post
  refine fr_istore (pc := 318) (lv' := [(12, .int t0), (5, .int v5), (8, .int v8), (10, .int v10)]) (by decide) rfl dL_looks_318 ?_
  refine fr_iload (pc := 320) 3 rfl dL_looks_320 ?_
  refine fr_iload (pc := 322) 2 rfl dL_looks_322 ?_
  refine fr_if_eq (pc := 324) (tgt := 337) (by decide) dL_looks_324 hW (fun hW => ?_) (fun hW => ?_)
  · refine fr_iconst (pc := 337) 0 (by decide) dL_looks_337 ?_
    refine fr_iadd (pc := 338) dL_looks_338 ?_
    obtain ⟨hz, hW⟩ := hW
    exact fr_iret (pc := 339) dL_looks_339 rfl hz hW
  · refine fr_iload (pc := 327) 0 rfl dL_looks_327 ?_
    refine fr_if_ne (pc := 329) (tgt := 337) (by decide) dL_looks_329 hW (fun hW => ?_) (fun hW => ?_)
    · refine fr_iconst (pc := 337) 0 (by decide) dL_looks_337 ?_
      refine fr_iadd (pc := 338) dL_looks_338 ?_
      obtain ⟨hz, hW⟩ := hW
      exact fr_iret (pc := 339) dL_looks_339 rfl hz hW
    · refine fr_iload (pc := 332) 1 rfl dL_looks_332 ?_
      refine fr_goto (pc := 334) (tgt := 338) (by decide) dL_looks_334 ?_
      refine fr_iadd (pc := 338) dL_looks_338 ?_
      obtain ⟨hz, hW⟩ := hW
      exact fr_iret (pc := 339) dL_looks_339 rfl hz hW
set_option maxHeartbeats 4000000 in
set_option maxRecDepth 100000 in
theorem q_L_looks_242 {g : GG} {σ : Hs} {post : Option Value → Hs → Prop} (cM sM kM nM : Nat) (a1 : Nat) (v2 : Int32) (v4 : Int32) (v5 : Int32) (a6 : Nat) (v7 : Int32) (v8 : Int32) (v9 : Int32) (v10 : Int32) (v11 : Int32) (v12 : Int32) (v13 : Int32) (t0 : Int32) (hW : (v11 = 0 → J_L_looks_159 g post cM sM kM nM σ a1 v2 v4 v5 a6 v7 v8 v9 v10 0 ((v12 + 1)) ) ∧ (¬ v11 = 0 → (v13 = 0 → J_L_looks_159 g post cM sM kM nM σ a1 v2 v4 v5 a6 v7 v8 v9 v10 1 ((v12 + 1)) ) ∧ (¬ v13 = 0 → (t0 = 0 → J_L_looks_159 g post cM sM kM nM σ a1 v2 v4 v5 a6 v7 v8 v9 v10 0 ((v12 + 1)) ) ∧ (¬ t0 = 0 → J_L_looks_159 g post cM sM kM nM σ a1 v2 v4 v5 a6 v7 v8 v9 v10 1 ((v12 + 1)) )))) : J_L_looks_242 g post cM sM kM nM σ a1 v2 v4 v5 a6 v7 v8 v9 v10 v11 v12 v13 t0 := by
  show Fr g M_L_looks (cM, sM, kM, nM) [(1, .ref a1), (2, .int v2), (4, .int v4), (5, .int v5), (6, .ref a6), (7, .int v7), (8, .int v8), (9, .int v9), (10, .int v10), (11, .int v11), (12, .int v12), (13, .int v13)] [.int t0] 242 σ post
  refine fr_istore (pc := 242) (lv' := [(14, .int t0), (1, .ref a1), (2, .int v2), (4, .int v4), (5, .int v5), (6, .ref a6), (7, .int v7), (8, .int v8), (9, .int v9), (10, .int v10), (11, .int v11), (12, .int v12), (13, .int v13)]) (by decide) rfl dL_looks_242 ?_
  refine fr_iload (pc := 244) 10 rfl dL_looks_244 ?_
  refine fr_if_eq (pc := 246) (tgt := 263) (by decide) dL_looks_246 hW (fun hW => ?_) (fun hW => ?_)
  · refine fr_iconst (pc := 263) 0 (by decide) dL_looks_263 ?_
    refine fr_istore (pc := 264) (lv' := [(11, .int 0), (14, .int t0), (1, .ref a1), (2, .int v2), (4, .int v4), (5, .int v5), (6, .ref a6), (7, .int v7), (8, .int v8), (9, .int v9), (10, .int v10), (12, .int v12), (13, .int v13)]) (by decide) rfl dL_looks_264 ?_
    refine fr_iinc (pc := 266) (lv' := [(12, .int (v12 + 1)), (11, .int 0), (14, .int t0), (1, .ref a1), (2, .int v2), (4, .int v4), (5, .int v5), (6, .ref a6), (7, .int v7), (8, .int v8), (9, .int v9), (10, .int v10), (13, .int v13)]) (v12 + 1) 11 rfl (congrArg (fun z => v12 + z) (by decide)) (by decide) rfl dL_looks_266 ?_
    refine fr_goto (pc := 269) (tgt := 159) (by decide) dL_looks_269 ?_
    exact fr_sub [3, 4, 5, 6, 7, 8, 9, 10, 11, 1, 0] rfl hW
  · refine fr_iload (pc := 249) 12 rfl dL_looks_249 ?_
    refine fr_if_eq (pc := 251) (tgt := 259) (by decide) dL_looks_251 hW (fun hW => ?_) (fun hW => ?_)
    · refine fr_iconst (pc := 259) 1 (by decide) dL_looks_259 ?_
      refine fr_goto (pc := 260) (tgt := 264) (by decide) dL_looks_260 ?_
      refine fr_istore (pc := 264) (lv' := [(11, .int 1), (14, .int t0), (1, .ref a1), (2, .int v2), (4, .int v4), (5, .int v5), (6, .ref a6), (7, .int v7), (8, .int v8), (9, .int v9), (10, .int v10), (12, .int v12), (13, .int v13)]) (by decide) rfl dL_looks_264 ?_
      refine fr_iinc (pc := 266) (lv' := [(12, .int (v12 + 1)), (11, .int 1), (14, .int t0), (1, .ref a1), (2, .int v2), (4, .int v4), (5, .int v5), (6, .ref a6), (7, .int v7), (8, .int v8), (9, .int v9), (10, .int v10), (13, .int v13)]) (v12 + 1) 11 rfl (congrArg (fun z => v12 + z) (by decide)) (by decide) rfl dL_looks_266 ?_
      refine fr_goto (pc := 269) (tgt := 159) (by decide) dL_looks_269 ?_
      exact fr_sub [3, 4, 5, 6, 7, 8, 9, 10, 11, 1, 0] rfl hW
    · refine fr_iload (pc := 254) 0 rfl dL_looks_254 ?_
      refine fr_if_eq (pc := 256) (tgt := 263) (by decide) dL_looks_256 hW (fun hW => ?_) (fun hW => ?_)
      · refine fr_iconst (pc := 263) 0 (by decide) dL_looks_263 ?_
        refine fr_istore (pc := 264) (lv' := [(11, .int 0), (14, .int t0), (1, .ref a1), (2, .int v2), (4, .int v4), (5, .int v5), (6, .ref a6), (7, .int v7), (8, .int v8), (9, .int v9), (10, .int v10), (12, .int v12), (13, .int v13)]) (by decide) rfl dL_looks_264 ?_
        refine fr_iinc (pc := 266) (lv' := [(12, .int (v12 + 1)), (11, .int 0), (14, .int t0), (1, .ref a1), (2, .int v2), (4, .int v4), (5, .int v5), (6, .ref a6), (7, .int v7), (8, .int v8), (9, .int v9), (10, .int v10), (13, .int v13)]) (v12 + 1) 11 rfl (congrArg (fun z => v12 + z) (by decide)) (by decide) rfl dL_looks_266 ?_
        refine fr_goto (pc := 269) (tgt := 159) (by decide) dL_looks_269 ?_
        exact fr_sub [3, 4, 5, 6, 7, 8, 9, 10, 11, 1, 0] rfl hW
      · refine fr_iconst (pc := 259) 1 (by decide) dL_looks_259 ?_
        refine fr_goto (pc := 260) (tgt := 264) (by decide) dL_looks_260 ?_
        refine fr_istore (pc := 264) (lv' := [(11, .int 1), (14, .int t0), (1, .ref a1), (2, .int v2), (4, .int v4), (5, .int v5), (6, .ref a6), (7, .int v7), (8, .int v8), (9, .int v9), (10, .int v10), (12, .int v12), (13, .int v13)]) (by decide) rfl dL_looks_264 ?_
        refine fr_iinc (pc := 266) (lv' := [(12, .int (v12 + 1)), (11, .int 1), (14, .int t0), (1, .ref a1), (2, .int v2), (4, .int v4), (5, .int v5), (6, .ref a6), (7, .int v7), (8, .int v8), (9, .int v9), (10, .int v10), (13, .int v13)]) (v12 + 1) 11 rfl (congrArg (fun z => v12 + z) (by decide)) (by decide) rfl dL_looks_266 ?_
        refine fr_goto (pc := 269) (tgt := 159) (by decide) dL_looks_269 ?_
        exact fr_sub [3, 4, 5, 6, 7, 8, 9, 10, 11, 1, 0] rfl hW
