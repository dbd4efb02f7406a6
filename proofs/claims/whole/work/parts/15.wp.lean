def J_X12_narrow_86 (g : GG) (post : Option Value → Hs → Prop) (σ : Hs) (a0 : Nat) (v1 : Int32) (v2 : Int32) (v3 : Int32) (v5 : Int32) (t0 : Int32) : Prop := Fr g M_X12_narrow (0, 0, 0, 0) [(0, .ref a0), (1, .int v1), (2, .int v2), (3, .int v3), (5, .int v5)] [.int t0] 86 σ post
def J_X12_narrow_41 (g : GG) (post : Option Value → Hs → Prop) (σ : Hs) (a0 : Nat) (v1 : Int32) (v2 : Int32) (v3 : Int32) (v4 : Int32) (v5 : Int32) (t0 : Int32) : Prop := Fr g M_X12_narrow (0, 0, 0, 0) [(0, .ref a0), (1, .int v1), (2, .int v2), (3, .int v3), (4, .int v4), (5, .int v5)] [.int t0] 41 σ post
def J_X12_narrow_66 (g : GG) (post : Option Value → Hs → Prop) (σ : Hs) (a0 : Nat) (v1 : Int32) (v2 : Int32) (v3 : Int32) (v5 : Int32) (t0 : Int32) (t1 : Int32) (t2 : Nat) : Prop := Fr g M_X12_narrow (0, 0, 0, 0) [(0, .ref a0), (1, .int v1), (2, .int v2), (3, .int v3), (5, .int v5)] [.int t0, .int t1, .ref t2] 66 σ post
set_option maxHeartbeats 4000000 in
set_option maxRecDepth 100000 in
theorem q_X12_narrow {g : GG} {σ : Hs} {post : Option Value → Hs → Prop} (r0 : Nat) (p0 : Int32) (p1 : Int32) (p2 : Int32) (hW : FR σ r0 12 31 (fun r1 => AI g σ r1 0 (2 * p0) (fun i2 => FR σ r0 12 31 (fun r3 => AI g σ r3 0 ((2 * p0) + 1) (fun i4 => (p1 = 60 → (p1 = 62 → post none σ) ∧ (¬ p1 = 62 → (¬ p1 = 61 → J_X12_narrow_86 g post σ r0 p0 p1 p2 i4 ((p2 - 1))) ∧ (p1 = 61 → J_X12_narrow_86 g post σ r0 p0 p1 p2 i4 p2))) ∧ (¬ p1 = 60 → (¬ p1 = 61 → J_X12_narrow_41 g post σ r0 p0 p1 p2 i2 i4 ((p2 + 1))) ∧ (p1 = 61 → J_X12_narrow_41 g post σ r0 p0 p1 p2 i2 i4 p2))))))) : Do g M_X12_narrow 0 0 [.ref r0, .int p0, .int p1, .int p2] σ post := by
  refine Do.of (by decide +kernel) (Nat.le_of_ble_eq_true rfl) ?_
  show Fr g M_X12_narrow (0, 0, 0, 0) [(0, .ref r0), (1, .int p0), (2, .int p1), (3, .int p2)] [] 0 σ post
  refine fr_aload_n (pc := 0) 0 rfl rfl dX12_narrow_0 ?_
  refine fr_getR (pc := 1) (T := TX12) (k := 31) kc_X12 (by decide) w_1026 dX12_narrow_1 hW (fun r1 hW => ?_)
  refine fr_iconst (pc := 4) 2 (by decide) dX12_narrow_4 ?_
  refine fr_iload_n (pc := 5) 1 rfl rfl dX12_narrow_5 ?_
  refine fr_imul (pc := 6) dX12_narrow_6 ?_
  refine fr_iald (pc := 7) dX12_narrow_7 hW (fun i2 hW => ?_)
  refine fr_istore (pc := 8) (lv' := [(4, .int i2), (0, .ref r0), (1, .int p0), (2, .int p1), (3, .int p2)]) (by decide) rfl dX12_narrow_8 ?_
  refine fr_aload_n (pc := 10) 1 rfl rfl dX12_narrow_10 ?_
  refine fr_getR (pc := 11) (T := TX12) (k := 31) kc_X12 (by decide) w_1026 dX12_narrow_11 hW (fun r3 hW => ?_)
  refine fr_iconst (pc := 14) 2 (by decide) dX12_narrow_14 ?_
  refine fr_iload_n (pc := 15) 2 rfl rfl dX12_narrow_15 ?_
  refine fr_imul (pc := 16) dX12_narrow_16 ?_
  refine fr_iconst (pc := 17) 1 (by decide) dX12_narrow_17 ?_
  refine fr_iadd (pc := 18) dX12_narrow_18 ?_
  refine fr_iald (pc := 19) dX12_narrow_19 hW (fun i4 hW => ?_)
  refine fr_istore (pc := 20) (lv' := [(5, .int i4), (4, .int i2), (0, .ref r0), (1, .int p0), (2, .int p1), (3, .int p2)]) (by decide) rfl dX12_narrow_20 ?_
  refine fr_iload_n (pc := 22) 4 rfl rfl dX12_narrow_22 ?_
  refine fr_bipush (pc := 23) 60 (by decide) dX12_narrow_23 ?_
  refine fr_icmp_eq (pc := 25) (tgt := 67) (by decide) dX12_narrow_25 hW (fun hW => ?_) (fun hW => ?_)
  · refine fr_iload_n (pc := 67) 4 rfl rfl dX12_narrow_67 ?_
    refine fr_bipush (pc := 68) 62 (by decide) dX12_narrow_68 ?_
    refine fr_icmp_eq (pc := 70) (tgt := 114) (by decide) dX12_narrow_70 hW (fun hW => ?_) (fun hW => ?_)
    · exact fr_ret (pc := 114) dX12_narrow_114 rfl ⟨Nat.le_refl 0, Nat.le_refl 0⟩ hW
    · refine fr_iload_n (pc := 73) 4 rfl rfl dX12_narrow_73 ?_
      refine fr_bipush (pc := 74) 61 (by decide) dX12_narrow_74 ?_
      refine fr_icmp_ne (pc := 76) (tgt := 83) (by decide) dX12_narrow_76 hW (fun hW => ?_) (fun hW => ?_)
      · refine fr_iload_n (pc := 83) 5 rfl rfl dX12_narrow_83 ?_
        refine fr_iconst (pc := 84) 1 (by decide) dX12_narrow_84 ?_
        refine fr_isub (pc := 85) dX12_narrow_85 ?_
        exact fr_sub [2, 3, 4, 5, 0] rfl hW
      · refine fr_iload_n (pc := 79) 5 rfl rfl dX12_narrow_79 ?_
        refine fr_goto (pc := 80) (tgt := 86) (by decide) dX12_narrow_80 ?_
        exact fr_sub [2, 3, 4, 5, 0] rfl hW
  · refine fr_iload_n (pc := 28) 4 rfl rfl dX12_narrow_28 ?_
    refine fr_bipush (pc := 29) 61 (by decide) dX12_narrow_29 ?_
    refine fr_icmp_ne (pc := 31) (tgt := 38) (by decide) dX12_narrow_31 hW (fun hW => ?_) (fun hW => ?_)
    · refine fr_iload_n (pc := 38) 5 rfl rfl dX12_narrow_38 ?_
      refine fr_iconst (pc := 39) 1 (by decide) dX12_narrow_39 ?_
      refine fr_iadd (pc := 40) dX12_narrow_40 ?_
      exact fr_sub [2, 3, 4, 5, 1, 0] rfl hW
    · refine fr_iload_n (pc := 34) 5 rfl rfl dX12_narrow_34 ?_
      refine fr_goto (pc := 35) (tgt := 41) (by decide) dX12_narrow_35 ?_
      exact fr_sub [2, 3, 4, 5, 1, 0] rfl hW
set_option maxHeartbeats 4000000 in
set_option maxRecDepth 100000 in
theorem q_X12_narrow_86 {g : GG} {σ : Hs} {post : Option Value → Hs → Prop} (a0 : Nat) (v1 : Int32) (v2 : Int32) (v3 : Int32) (v5 : Int32) (t0 : Int32) (hW : (v5 ≤ t0 → post none σ) ∧ (¬ v5 ≤ t0 → FR σ a0 12 31 (fun r5 => (¬ v2 = 61 → SI g σ r5 0 ((2 * v1) + 1) (v3 - 1) (fun s6 => post none s6)) ∧ (v2 = 61 → SI g σ r5 0 ((2 * v1) + 1) v3 (fun s7 => post none s7))))) : J_X12_narrow_86 g post σ a0 v1 v2 v3 v5 t0 := by
  show Fr g M_X12_narrow (0, 0, 0, 0) [(0, .ref a0), (1, .int v1), (2, .int v2), (3, .int v3), (5, .int v5)] [.int t0] 86 σ post
  refine fr_iload (pc := 86) 4 rfl dX12_narrow_86 ?_
  refine fr_icmp_ge (pc := 88) (tgt := 114) (by decide) dX12_narrow_88 hW (fun hW => ?_) (fun hW => ?_)
  · exact fr_ret (pc := 114) dX12_narrow_114 rfl ⟨Nat.le_refl 0, Nat.le_refl 0⟩ hW
  · refine fr_aload_n (pc := 91) 0 rfl rfl dX12_narrow_91 ?_
    refine fr_getR (pc := 92) (T := TX12) (k := 31) kc_X12 (by decide) w_1026 dX12_narrow_92 hW (fun r5 hW => ?_)
    refine fr_iconst (pc := 95) 2 (by decide) dX12_narrow_95 ?_
    refine fr_iload_n (pc := 96) 1 rfl rfl dX12_narrow_96 ?_
    refine fr_imul (pc := 97) dX12_narrow_97 ?_
    refine fr_iconst (pc := 98) 1 (by decide) dX12_narrow_98 ?_
    refine fr_iadd (pc := 99) dX12_narrow_99 ?_
    refine fr_iload_n (pc := 100) 2 rfl rfl dX12_narrow_100 ?_
    refine fr_bipush (pc := 101) 61 (by decide) dX12_narrow_101 ?_
    refine fr_icmp_ne (pc := 103) (tgt := 110) (by decide) dX12_narrow_103 hW (fun hW => ?_) (fun hW => ?_)
    · refine fr_iload_n (pc := 110) 3 rfl rfl dX12_narrow_110 ?_
      refine fr_iconst (pc := 111) 1 (by decide) dX12_narrow_111 ?_
      refine fr_isub (pc := 112) dX12_narrow_112 ?_
      refine fr_iast (pc := 113) dX12_narrow_113 hW (fun s6 hW => ?_)
      exact fr_ret (pc := 114) dX12_narrow_114 rfl ⟨Nat.le_refl 0, Nat.le_refl 0⟩ hW
    · refine fr_iload_n (pc := 106) 3 rfl rfl dX12_narrow_106 ?_
      refine fr_goto (pc := 107) (tgt := 113) (by decide) dX12_narrow_107 ?_
      refine fr_iast (pc := 113) dX12_narrow_113 hW (fun s7 hW => ?_)
      exact fr_ret (pc := 114) dX12_narrow_114 rfl ⟨Nat.le_refl 0, Nat.le_refl 0⟩ hW
set_option maxHeartbeats 4000000 in
set_option maxRecDepth 100000 in
theorem q_X12_narrow_41 {g : GG} {σ : Hs} {post : Option Value → Hs → Prop} (a0 : Nat) (v1 : Int32) (v2 : Int32) (v3 : Int32) (v4 : Int32) (v5 : Int32) (t0 : Int32) (hW : (t0 ≤ v4 → (v2 = 62 → post none σ) ∧ (¬ v2 = 62 → (¬ v2 = 61 → J_X12_narrow_86 g post σ a0 v1 v2 v3 v5 ((v3 - 1))) ∧ (v2 = 61 → J_X12_narrow_86 g post σ a0 v1 v2 v3 v5 v3))) ∧ (¬ t0 ≤ v4 → FR σ a0 12 31 (fun r8 => (¬ v2 = 61 → J_X12_narrow_66 g post σ a0 v1 v2 v3 v5 ((v3 + 1)) ((2 * v1)) r8) ∧ (v2 = 61 → J_X12_narrow_66 g post σ a0 v1 v2 v3 v5 v3 ((2 * v1)) r8)))) : J_X12_narrow_41 g post σ a0 v1 v2 v3 v4 v5 t0 := by
  show Fr g M_X12_narrow (0, 0, 0, 0) [(0, .ref a0), (1, .int v1), (2, .int v2), (3, .int v3), (4, .int v4), (5, .int v5)] [.int t0] 41 σ post
  refine fr_iload (pc := 41) 4 rfl dX12_narrow_41 ?_
  refine fr_icmp_le (pc := 43) (tgt := 67) (by decide) dX12_narrow_43 hW (fun hW => ?_) (fun hW => ?_)
  · refine fr_iload_n (pc := 67) 2 rfl rfl dX12_narrow_67 ?_
    refine fr_bipush (pc := 68) 62 (by decide) dX12_narrow_68 ?_
    refine fr_icmp_eq (pc := 70) (tgt := 114) (by decide) dX12_narrow_70 hW (fun hW => ?_) (fun hW => ?_)
    · exact fr_ret (pc := 114) dX12_narrow_114 rfl ⟨Nat.le_refl 0, Nat.le_refl 0⟩ hW
    · refine fr_iload_n (pc := 73) 2 rfl rfl dX12_narrow_73 ?_
      refine fr_bipush (pc := 74) 61 (by decide) dX12_narrow_74 ?_
      refine fr_icmp_ne (pc := 76) (tgt := 83) (by decide) dX12_narrow_76 hW (fun hW => ?_) (fun hW => ?_)
      · refine fr_iload_n (pc := 83) 3 rfl rfl dX12_narrow_83 ?_
        refine fr_iconst (pc := 84) 1 (by decide) dX12_narrow_84 ?_
        refine fr_isub (pc := 85) dX12_narrow_85 ?_
        exact fr_sub [0, 1, 2, 3, 5] rfl hW
      · refine fr_iload_n (pc := 79) 3 rfl rfl dX12_narrow_79 ?_
        refine fr_goto (pc := 80) (tgt := 86) (by decide) dX12_narrow_80 ?_
        exact fr_sub [0, 1, 2, 3, 5] rfl hW
  · refine fr_aload_n (pc := 46) 0 rfl rfl dX12_narrow_46 ?_
    refine fr_getR (pc := 47) (T := TX12) (k := 31) kc_X12 (by decide) w_1026 dX12_narrow_47 hW (fun r8 hW => ?_)
    refine fr_iconst (pc := 50) 2 (by decide) dX12_narrow_50 ?_
    refine fr_iload_n (pc := 51) 1 rfl rfl dX12_narrow_51 ?_
    refine fr_imul (pc := 52) dX12_narrow_52 ?_
    refine fr_iload_n (pc := 53) 2 rfl rfl dX12_narrow_53 ?_
    refine fr_bipush (pc := 54) 61 (by decide) dX12_narrow_54 ?_
    refine fr_icmp_ne (pc := 56) (tgt := 63) (by decide) dX12_narrow_56 hW (fun hW => ?_) (fun hW => ?_)
    · refine fr_iload_n (pc := 63) 3 rfl rfl dX12_narrow_63 ?_
      refine fr_iconst (pc := 64) 1 (by decide) dX12_narrow_64 ?_
      refine fr_iadd (pc := 65) dX12_narrow_65 ?_
      exact fr_sub [0, 1, 2, 3, 5] rfl hW
    · refine fr_iload_n (pc := 59) 3 rfl rfl dX12_narrow_59 ?_
      refine fr_goto (pc := 60) (tgt := 66) (by decide) dX12_narrow_60 ?_
      exact fr_sub [0, 1, 2, 3, 5] rfl hW
set_option maxHeartbeats 4000000 in
set_option maxRecDepth 100000 in
theorem q_X12_narrow_66 {g : GG} {σ : Hs} {post : Option Value → Hs → Prop} (a0 : Nat) (v1 : Int32) (v2 : Int32) (v3 : Int32) (v5 : Int32) (t0 : Int32) (t1 : Int32) (t2 : Nat) (hW : SI g σ t2 0 t1 t0 (fun s9 => (v2 = 62 → post none s9) ∧ (¬ v2 = 62 → (¬ v2 = 61 → J_X12_narrow_86 g post s9 a0 v1 v2 v3 v5 ((v3 - 1))) ∧ (v2 = 61 → J_X12_narrow_86 g post s9 a0 v1 v2 v3 v5 v3)))) : J_X12_narrow_66 g post σ a0 v1 v2 v3 v5 t0 t1 t2 := by
  show Fr g M_X12_narrow (0, 0, 0, 0) [(0, .ref a0), (1, .int v1), (2, .int v2), (3, .int v3), (5, .int v5)] [.int t0, .int t1, .ref t2] 66 σ post
  refine fr_iast (pc := 66) dX12_narrow_66 hW (fun s9 hW => ?_)
  refine fr_iload_n (pc := 67) 2 rfl rfl dX12_narrow_67 ?_
  refine fr_bipush (pc := 68) 62 (by decide) dX12_narrow_68 ?_
  refine fr_icmp_eq (pc := 70) (tgt := 114) (by decide) dX12_narrow_70 hW (fun hW => ?_) (fun hW => ?_)
  · exact fr_ret (pc := 114) dX12_narrow_114 rfl ⟨Nat.le_refl 0, Nat.le_refl 0⟩ hW
  · refine fr_iload_n (pc := 73) 2 rfl rfl dX12_narrow_73 ?_
    refine fr_bipush (pc := 74) 61 (by decide) dX12_narrow_74 ?_
    refine fr_icmp_ne (pc := 76) (tgt := 83) (by decide) dX12_narrow_76 hW (fun hW => ?_) (fun hW => ?_)
    · refine fr_iload_n (pc := 83) 3 rfl rfl dX12_narrow_83 ?_
      refine fr_iconst (pc := 84) 1 (by decide) dX12_narrow_84 ?_
      refine fr_isub (pc := 85) dX12_narrow_85 ?_
      exact fr_sub [0, 1, 2, 3, 4] rfl hW
    · refine fr_iload_n (pc := 79) 3 rfl rfl dX12_narrow_79 ?_
      refine fr_goto (pc := 80) (tgt := 86) (by decide) dX12_narrow_80 ?_
      exact fr_sub [0, 1, 2, 3, 4] rfl hW
def J_X12_readQuestion_2 (g : GG) (post : Option Value → Hs → Prop) (σ : Hs) (a0 : Nat) (v1 : Int32) : Prop := Fr g M_X12_readQuestion (0, 0, 0, 0) [(0, .ref a0), (1, .int v1)] [] 2 σ post
def J_X12_readQuestion_59 (g : GG) (post : Option Value → Hs → Prop) (σ : Hs) (a0 : Nat) (v1 : Int32) (v2 : Int32) (v3 : Int32) (v4 : Int32) (v5 : Int32) (v6 : Int32) : Prop := Fr g M_X12_readQuestion (0, 0, 0, 0) [(0, .ref a0), (1, .int v1), (2, .int v2), (3, .int v3), (4, .int v4), (5, .int v5), (6, .int v6)] [] 59 σ post
def J_X12_readQuestion_396 (g : GG) (post : Option Value → Hs → Prop) (σ : Hs) (a0 : Nat) (v1 : Int32) (v5 : Int32) : Prop := Fr g M_X12_readQuestion (0, 0, 0, 0) [(0, .ref a0), (1, .int v1), (5, .int v5)] [] 396 σ post
def J_X12_readQuestion_116 (g : GG) (post : Option Value → Hs → Prop) (σ : Hs) (a0 : Nat) (v1 : Int32) (v2 : Int32) (v3 : Int32) (v4 : Int32) (v5 : Int32) (v6 : Int32) (v7 : Int32) (v8 : Int32) (v9 : Int32) : Prop := Fr g M_X12_readQuestion (0, 0, 0, 0) [(0, .ref a0), (1, .int v1), (2, .int v2), (3, .int v3), (4, .int v4), (5, .int v5), (6, .int v6), (7, .int v7), (8, .int v8), (9, .int v9)] [] 116 σ post
def J_X12_readQuestion_132 (g : GG) (post : Option Value → Hs → Prop) (σ : Hs) (a0 : Nat) (v1 : Int32) (v2 : Int32) (v3 : Int32) (v4 : Int32) (v5 : Int32) (v6 : Int32) (v7 : Int32) (v8 : Int32) (v9 : Int32) : Prop := Fr g M_X12_readQuestion (0, 0, 0, 0) [(0, .ref a0), (1, .int v1), (2, .int v2), (3, .int v3), (4, .int v4), (5, .int v5), (6, .int v6), (7, .int v7), (8, .int v8), (9, .int v9)] [] 132 σ post
def J_X12_readQuestion_157 (g : GG) (post : Option Value → Hs → Prop) (σ : Hs) (a0 : Nat) (v1 : Int32) (v2 : Int32) (v3 : Int32) (v4 : Int32) (v5 : Int32) (v6 : Int32) (v7 : Int32) (v8 : Int32) (v9 : Int32) : Prop := Fr g M_X12_readQuestion (0, 0, 0, 0) [(0, .ref a0), (1, .int v1), (2, .int v2), (3, .int v3), (4, .int v4), (5, .int v5), (6, .int v6), (7, .int v7), (8, .int v8), (9, .int v9)] [] 157 σ post
def J_X12_readQuestion_179 (g : GG) (post : Option Value → Hs → Prop) (σ : Hs) (a0 : Nat) (v1 : Int32) (v2 : Int32) (v3 : Int32) (v4 : Int32) (v5 : Int32) (v6 : Int32) (v7 : Int32) (v8 : Int32) (v9 : Int32) : Prop := Fr g M_X12_readQuestion (0, 0, 0, 0) [(0, .ref a0), (1, .int v1), (2, .int v2), (3, .int v3), (4, .int v4), (5, .int v5), (6, .int v6), (7, .int v7), (8, .int v8), (9, .int v9)] [] 179 σ post
def J_X12_readQuestion_217 (g : GG) (post : Option Value → Hs → Prop) (σ : Hs) (a0 : Nat) (v1 : Int32) (v2 : Int32) (v3 : Int32) (v4 : Int32) (v5 : Int32) (v6 : Int32) (v7 : Int32) (v8 : Int32) : Prop := Fr g M_X12_readQuestion (0, 0, 0, 0) [(0, .ref a0), (1, .int v1), (2, .int v2), (3, .int v3), (4, .int v4), (5, .int v5), (6, .int v6), (7, .int v7), (8, .int v8)] [] 217 σ post
def J_X12_readQuestion_237 (g : GG) (post : Option Value → Hs → Prop) (σ : Hs) (a0 : Nat) (v1 : Int32) (v2 : Int32) (v3 : Int32) (v4 : Int32) (v5 : Int32) (v6 : Int32) (v7 : Int32) (v8 : Int32) : Prop := Fr g M_X12_readQuestion (0, 0, 0, 0) [(0, .ref a0), (1, .int v1), (2, .int v2), (3, .int v3), (4, .int v4), (5, .int v5), (6, .int v6), (7, .int v7), (8, .int v8)] [] 237 σ post
def J_X12_readQuestion_251 (g : GG) (post : Option Value → Hs → Prop) (σ : Hs) (a0 : Nat) (v1 : Int32) (v2 : Int32) (v3 : Int32) (v4 : Int32) (v5 : Int32) (v6 : Int32) (v7 : Int32) (v8 : Int32) : Prop := Fr g M_X12_readQuestion (0, 0, 0, 0) [(0, .ref a0), (1, .int v1), (2, .int v2), (3, .int v3), (4, .int v4), (5, .int v5), (6, .int v6), (7, .int v7), (8, .int v8)] [] 251 σ post
def J_X12_readQuestion_288 (g : GG) (post : Option Value → Hs → Prop) (σ : Hs) (a0 : Nat) (v1 : Int32) (v2 : Int32) (v3 : Int32) (v4 : Int32) (v5 : Int32) (v6 : Int32) (v7 : Int32) (v8 : Int32) : Prop := Fr g M_X12_readQuestion (0, 0, 0, 0) [(0, .ref a0), (1, .int v1), (2, .int v2), (3, .int v3), (4, .int v4), (5, .int v5), (6, .int v6), (7, .int v7), (8, .int v8)] [] 288 σ post
def J_X12_readQuestion_330 (g : GG) (post : Option Value → Hs → Prop) (σ : Hs) (a0 : Nat) (v1 : Int32) (v2 : Int32) (v3 : Int32) (v4 : Int32) (v5 : Int32) (v6 : Int32) (v7 : Int32) (v8 : Int32) : Prop := Fr g M_X12_readQuestion (0, 0, 0, 0) [(0, .ref a0), (1, .int v1), (2, .int v2), (3, .int v3), (4, .int v4), (5, .int v5), (6, .int v6), (7, .int v7), (8, .int v8)] [] 330 σ post
def J_X12_readQuestion_270 (g : GG) (post : Option Value → Hs → Prop) (σ : Hs) (a0 : Nat) (v2 : Int32) (v3 : Int32) (v4 : Int32) (v5 : Int32) (v6 : Int32) : Prop := Fr g M_X12_readQuestion (0, 0, 0, 0) [(0, .ref a0), (2, .int v2), (3, .int v3), (4, .int v4), (5, .int v5), (6, .int v6)] [] 270 σ post
def J_X12_readQuestion_349 (g : GG) (post : Option Value → Hs → Prop) (σ : Hs) (a0 : Nat) (v1 : Int32) (v2 : Int32) (v3 : Int32) (v4 : Int32) (v5 : Int32) (v6 : Int32) (v7 : Int32) (v8 : Int32) : Prop := Fr g M_X12_readQuestion (0, 0, 0, 0) [(0, .ref a0), (1, .int v1), (2, .int v2), (3, .int v3), (4, .int v4), (5, .int v5), (6, .int v6), (7, .int v7), (8, .int v8)] [] 349 σ post
def J_X12_readQuestion_375 (g : GG) (post : Option Value → Hs → Prop) (σ : Hs) (a0 : Nat) (v1 : Int32) (v2 : Int32) (v3 : Int32) (v4 : Int32) (v5 : Int32) : Prop := Fr g M_X12_readQuestion (0, 0, 0, 0) [(0, .ref a0), (1, .int v1), (2, .int v2), (3, .int v3), (4, .int v4), (5, .int v5)] [] 375 σ post
set_option maxHeartbeats 4000000 in
set_option maxRecDepth 100000 in
theorem q_X12_readQuestion {g : GG} {σ : Hs} {post : Option Value → Hs → Prop} (r0 : Nat) (hW : J_X12_readQuestion_2 g post σ r0 0 ) : Do g M_X12_readQuestion 0 0 [.ref r0] σ post := by
  refine Do.of (by decide +kernel) (Nat.le_of_ble_eq_true rfl) ?_
  show Fr g M_X12_readQuestion (0, 0, 0, 0) [(0, .ref r0)] [] 0 σ post
  refine fr_iconst (pc := 0) 0 (by decide) dX12_readQuestion_0 ?_
  refine fr_istore_n (pc := 1) (lv' := [(1, .int 0), (0, .ref r0)]) rfl (by decide) rfl dX12_readQuestion_1 ?_
  exact fr_sub [1, 0] rfl hW
set_option maxHeartbeats 4000000 in
set_option maxRecDepth 100000 in
theorem q_X12_readQuestion_2 {g : GG} {σ : Hs} {post : Option Value → Hs → Prop} (a0 : Nat) (v1 : Int32) (hW : (4 ≤ v1 → PF σ a0 12 32 (.int 0) (fun s1 => PF s1 a0 12 33 (.int (-1)) (fun s2 => J_X12_readQuestion_59 g post s2 a0 0 0 0 0 0 1 ))) ∧ (¬ 4 ≤ v1 → FR σ a0 12 31 (fun r3 => SI g σ r3 0 (2 * v1) 0 (fun s4 => FR s4 a0 12 31 (fun r5 => SI g s4 r5 0 ((2 * v1) + 1) 99 (fun s6 => J_X12_readQuestion_2 g post s6 a0 ((v1 + 1)) )))))) : J_X12_readQuestion_2 g post σ a0 v1 := by
  show Fr g M_X12_readQuestion (0, 0, 0, 0) [(0, .ref a0), (1, .int v1)] [] 2 σ post
  refine fr_iload_n (pc := 2) 1 rfl rfl dX12_readQuestion_2 ?_
  refine fr_iconst (pc := 3) 4 (by decide) dX12_readQuestion_3 ?_
  refine fr_icmp_ge (pc := 4) (tgt := 34) (by decide) dX12_readQuestion_4 hW (fun hW => ?_) (fun hW => ?_)
  · refine fr_aload_n (pc := 34) 0 rfl rfl dX12_readQuestion_34 ?_
    refine fr_iconst (pc := 35) 0 (by decide) dX12_readQuestion_35 ?_
    refine fr_put (pc := 36) (T := TX12) (k := 32) kc_X12 (by decide) w_1187 rfl rfl rfl dX12_readQuestion_36 hW (fun s1 hW => ?_)
    refine fr_aload_n (pc := 39) 0 rfl rfl dX12_readQuestion_39 ?_
    refine fr_iconst (pc := 40) (-1) (by decide) dX12_readQuestion_40 ?_
    refine fr_put (pc := 41) (T := TX12) (k := 33) kc_X12 (by decide) w_1188 rfl rfl rfl dX12_readQuestion_41 hW (fun s2 hW => ?_)
    refine fr_iconst (pc := 44) 0 (by decide) dX12_readQuestion_44 ?_
    refine fr_istore_n (pc := 45) (lv' := [(1, .int 0), (0, .ref a0)]) rfl (by decide) rfl dX12_readQuestion_45 ?_
    refine fr_iconst (pc := 46) 0 (by decide) dX12_readQuestion_46 ?_
    refine fr_istore_n (pc := 47) (lv' := [(2, .int 0), (1, .int 0), (0, .ref a0)]) rfl (by decide) rfl dX12_readQuestion_47 ?_
    refine fr_iconst (pc := 48) 0 (by decide) dX12_readQuestion_48 ?_
    refine fr_istore_n (pc := 49) (lv' := [(3, .int 0), (2, .int 0), (1, .int 0), (0, .ref a0)]) rfl (by decide) rfl dX12_readQuestion_49 ?_
    refine fr_iconst (pc := 50) 0 (by decide) dX12_readQuestion_50 ?_
    refine fr_istore (pc := 51) (lv' := [(4, .int 0), (3, .int 0), (2, .int 0), (1, .int 0), (0, .ref a0)]) (by decide) rfl dX12_readQuestion_51 ?_
    refine fr_iconst (pc := 53) 0 (by decide) dX12_readQuestion_53 ?_
    refine fr_istore (pc := 54) (lv' := [(5, .int 0), (4, .int 0), (3, .int 0), (2, .int 0), (1, .int 0), (0, .ref a0)]) (by decide) rfl dX12_readQuestion_54 ?_
    refine fr_iconst (pc := 56) 1 (by decide) dX12_readQuestion_56 ?_
    refine fr_istore (pc := 57) (lv' := [(6, .int 1), (5, .int 0), (4, .int 0), (3, .int 0), (2, .int 0), (1, .int 0), (0, .ref a0)]) (by decide) rfl dX12_readQuestion_57 ?_
    exact fr_sub [6, 5, 4, 3, 2, 1, 0] rfl hW
  · refine fr_aload_n (pc := 7) 0 rfl rfl dX12_readQuestion_7 ?_
    refine fr_getR (pc := 8) (T := TX12) (k := 31) kc_X12 (by decide) w_1026 dX12_readQuestion_8 hW (fun r3 hW => ?_)
    refine fr_iconst (pc := 11) 2 (by decide) dX12_readQuestion_11 ?_
    refine fr_iload_n (pc := 12) 1 rfl rfl dX12_readQuestion_12 ?_
    refine fr_imul (pc := 13) dX12_readQuestion_13 ?_
    refine fr_iconst (pc := 14) 0 (by decide) dX12_readQuestion_14 ?_
    refine fr_iast (pc := 15) dX12_readQuestion_15 hW (fun s4 hW => ?_)
    refine fr_aload_n (pc := 16) 0 rfl rfl dX12_readQuestion_16 ?_
    refine fr_getR (pc := 17) (T := TX12) (k := 31) kc_X12 (by decide) w_1026 dX12_readQuestion_17 hW (fun r5 hW => ?_)
    refine fr_iconst (pc := 20) 2 (by decide) dX12_readQuestion_20 ?_
    refine fr_iload_n (pc := 21) 1 rfl rfl dX12_readQuestion_21 ?_
    refine fr_imul (pc := 22) dX12_readQuestion_22 ?_
    refine fr_iconst (pc := 23) 1 (by decide) dX12_readQuestion_23 ?_
    refine fr_iadd (pc := 24) dX12_readQuestion_24 ?_
    refine fr_bipush (pc := 25) 99 (by decide) dX12_readQuestion_25 ?_
    refine fr_iast (pc := 27) dX12_readQuestion_27 hW (fun s6 hW => ?_)
    refine fr_iinc (pc := 28) (lv' := [(1, .int (v1 + 1)), (0, .ref a0)]) (v1 + 1) 1 rfl (congrArg (fun z => v1 + z) (by decide)) (by decide) rfl dX12_readQuestion_28 ?_
    refine fr_goto (pc := 31) (tgt := 2) (by decide) dX12_readQuestion_31 ?_
    exact fr_sub [1, 0] rfl hW
set_option maxHeartbeats 4000000 in
set_option maxRecDepth 100000 in
theorem q_X12_readQuestion_59 {g : GG} {σ : Hs} {post : Option Value → Hs → Prop} (a0 : Nat) (v1 : Int32) (v2 : Int32) (v3 : Int32) (v4 : Int32) (v5 : Int32) (v6 : Int32) (hW : FI σ a0 12 12 (fun i7 => (i7 ≤ v5 → J_X12_readQuestion_396 g post σ a0 v1 v5 ) ∧ (¬ i7 ≤ v5 → (v6 = 0 → J_X12_readQuestion_396 g post σ a0 v1 v5 ) ∧ (¬ v6 = 0 → FR σ a0 12 13 (fun r8 => AI g σ r8 2 v5 (fun i9 => Do g M_X12_in 0 0 [.int i9, .int 97, .int 100] σ (kI (fun i11 s10 => Do g M_X12_in 0 0 [.int i9, .int 48, .int 57] s10 (kI (fun i15 s14 => (v1 = 0 → J_X12_readQuestion_116 g post s14 a0 v1 v2 v3 v4 v5 1 i9 i11 i15 ) ∧ (¬ v1 = 0 → (¬ v1 = 1 → J_X12_readQuestion_132 g post s14 a0 v1 v2 v3 v4 v5 1 i9 i11 i15 ) ∧ (v1 = 1 → J_X12_readQuestion_116 g post s14 a0 v1 v2 v3 v4 v5 1 i9 i11 i15 )))))))))))) : J_X12_readQuestion_59 g post σ a0 v1 v2 v3 v4 v5 v6 := by
  show Fr g M_X12_readQuestion (0, 0, 0, 0) [(0, .ref a0), (1, .int v1), (2, .int v2), (3, .int v3), (4, .int v4), (5, .int v5), (6, .int v6)] [] 59 σ post
  refine fr_iload (pc := 59) 5 rfl dX12_readQuestion_59 ?_
  refine fr_aload_n (pc := 61) 0 rfl rfl dX12_readQuestion_61 ?_
  refine fr_getI (pc := 62) (T := TX12) (k := 12) kc_X12 (by decide) w_1154 dX12_readQuestion_62 hW (fun i7 hW => ?_)
  refine fr_icmp_ge (pc := 65) (tgt := 396) (by decide) dX12_readQuestion_65 hW (fun hW => ?_) (fun hW => ?_)
  · exact fr_sub [0, 1, 5] rfl hW
  · refine fr_iload (pc := 68) 6 rfl dX12_readQuestion_68 ?_
    refine fr_if_eq (pc := 70) (tgt := 396) (by decide) dX12_readQuestion_70 hW (fun hW => ?_) (fun hW => ?_)
    · exact fr_sub [0, 1, 5] rfl hW
    · refine fr_aload_n (pc := 73) 0 rfl rfl dX12_readQuestion_73 ?_
      refine fr_getR (pc := 74) (T := TX12) (k := 13) kc_X12 (by decide) w_1017 dX12_readQuestion_74 hW (fun r8 hW => ?_)
      refine fr_iload (pc := 77) 5 rfl dX12_readQuestion_77 ?_
      refine fr_bald (pc := 79) dX12_readQuestion_79 hW (fun i9 hW => ?_)
      refine fr_istore (pc := 80) (lv' := [(7, .int i9), (0, .ref a0), (1, .int v1), (2, .int v2), (3, .int v3), (4, .int v4), (5, .int v5), (6, .int v6)]) (by decide) rfl dX12_readQuestion_80 ?_
      refine fr_iload (pc := 82) 0 rfl dX12_readQuestion_82 ?_
      refine fr_bipush (pc := 84) 97 (by decide) dX12_readQuestion_84 ?_
      refine fr_bipush (pc := 86) 100 (by decide) dX12_readQuestion_86 ?_
      refine fr_callS_I (pc := 88) (As := [.int i9, .int 97, .int 100]) (st := []) wd_X12_in w_1067 ok_X12_in (by decide) rfl (Nat.le_of_ble_eq_true rfl) dX12_readQuestion_88 ⟨Nat.le_refl 0, Nat.le_refl 0⟩ hW (fun i11 s10 hW => ?_)
      refine fr_istore (pc := 91) (lv' := [(8, .int i11), (7, .int i9), (0, .ref a0), (1, .int v1), (2, .int v2), (3, .int v3), (4, .int v4), (5, .int v5), (6, .int v6)]) (by decide) rfl dX12_readQuestion_91 ?_
      refine fr_iload (pc := 93) 1 rfl dX12_readQuestion_93 ?_
      refine fr_bipush (pc := 95) 48 (by decide) dX12_readQuestion_95 ?_
      refine fr_bipush (pc := 97) 57 (by decide) dX12_readQuestion_97 ?_
      refine fr_callS_I (pc := 99) (As := [.int i9, .int 48, .int 57]) (st := []) wd_X12_in w_1067 ok_X12_in (by decide) rfl (Nat.le_of_ble_eq_true rfl) dX12_readQuestion_99 ⟨Nat.le_refl 0, Nat.le_refl 0⟩ hW (fun i15 s14 hW => ?_)
      refine fr_istore (pc := 102) (lv' := [(9, .int i15), (8, .int i11), (7, .int i9), (0, .ref a0), (1, .int v1), (2, .int v2), (3, .int v3), (4, .int v4), (5, .int v5), (6, .int v6)]) (by decide) rfl dX12_readQuestion_102 ?_
      refine fr_iconst (pc := 104) 1 (by decide) dX12_readQuestion_104 ?_
      refine fr_istore (pc := 105) (lv' := [(6, .int 1), (9, .int i15), (8, .int i11), (7, .int i9), (0, .ref a0), (1, .int v1), (2, .int v2), (3, .int v3), (4, .int v4), (5, .int v5)]) (by decide) rfl dX12_readQuestion_105 ?_
      refine fr_iload_n (pc := 107) 5 rfl rfl dX12_readQuestion_107 ?_
      refine fr_if_eq (pc := 108) (tgt := 116) (by decide) dX12_readQuestion_108 hW (fun hW => ?_) (fun hW => ?_)
      · exact fr_sub [4, 5, 6, 7, 8, 9, 0, 3, 2, 1] rfl hW
      · refine fr_iload_n (pc := 111) 5 rfl rfl dX12_readQuestion_111 ?_
        refine fr_iconst (pc := 112) 1 (by decide) dX12_readQuestion_112 ?_
        refine fr_icmp_ne (pc := 113) (tgt := 132) (by decide) dX12_readQuestion_113 hW (fun hW => ?_) (fun hW => ?_)
        · exact fr_sub [4, 5, 6, 7, 8, 9, 0, 3, 2, 1] rfl hW
        · exact fr_sub [4, 5, 6, 7, 8, 9, 0, 3, 2, 1] rfl hW
set_option maxHeartbeats 4000000 in
set_option maxRecDepth 100000 in
theorem q_X12_readQuestion_396 {g : GG} {σ : Hs} {post : Option Value → Hs → Prop} (a0 : Nat) (v1 : Int32) (v5 : Int32) (hW : PF σ a0 12 29 (.int v5) (fun s18 => FI s18 a0 12 12 (fun i19 => (¬ v5 = i19 → PF s18 a0 12 30 (.int 0) (fun s20 => post none s20)) ∧ (v5 = i19 → (v1 = 7 → PF s18 a0 12 30 (.int 1) (fun s21 => post none s21)) ∧ (¬ v1 = 7 → (¬ v1 = 9 → PF s18 a0 12 30 (.int 0) (fun s22 => post none s22)) ∧ (v1 = 9 → PF s18 a0 12 30 (.int 1) (fun s23 => post none s23))))))) : J_X12_readQuestion_396 g post σ a0 v1 v5 := by
  show Fr g M_X12_readQuestion (0, 0, 0, 0) [(0, .ref a0), (1, .int v1), (5, .int v5)] [] 396 σ post
  refine fr_aload_n (pc := 396) 0 rfl rfl dX12_readQuestion_396 ?_
  refine fr_iload (pc := 397) 2 rfl dX12_readQuestion_397 ?_
  refine fr_put (pc := 399) (T := TX12) (k := 29) kc_X12 (by decide) w_1189 rfl rfl rfl dX12_readQuestion_399 hW (fun s18 hW => ?_)
  refine fr_aload_n (pc := 402) 0 rfl rfl dX12_readQuestion_402 ?_
  refine fr_iload (pc := 403) 2 rfl dX12_readQuestion_403 ?_
  refine fr_aload_n (pc := 405) 0 rfl rfl dX12_readQuestion_405 ?_
  refine fr_getI (pc := 406) (T := TX12) (k := 12) kc_X12 (by decide) w_1154 dX12_readQuestion_406 hW (fun i19 hW => ?_)
  refine fr_icmp_ne (pc := 409) (tgt := 428) (by decide) dX12_readQuestion_409 hW (fun hW => ?_) (fun hW => ?_)
  · refine fr_iconst (pc := 428) 0 (by decide) dX12_readQuestion_428 ?_
    refine fr_put (pc := 429) (T := TX12) (k := 30) kc_X12 (by decide) w_1190 rfl rfl rfl dX12_readQuestion_429 hW (fun s20 hW => ?_)
    exact fr_ret (pc := 432) dX12_readQuestion_432 rfl ⟨Nat.le_refl 0, Nat.le_refl 0⟩ hW
  · refine fr_iload_n (pc := 412) 1 rfl rfl dX12_readQuestion_412 ?_
    refine fr_bipush (pc := 413) 7 (by decide) dX12_readQuestion_413 ?_
    refine fr_icmp_eq (pc := 415) (tgt := 424) (by decide) dX12_readQuestion_415 hW (fun hW => ?_) (fun hW => ?_)
    · refine fr_iconst (pc := 424) 1 (by decide) dX12_readQuestion_424 ?_
      refine fr_goto (pc := 425) (tgt := 429) (by decide) dX12_readQuestion_425 ?_
      refine fr_put (pc := 429) (T := TX12) (k := 30) kc_X12 (by decide) w_1190 rfl rfl rfl dX12_readQuestion_429 hW (fun s21 hW => ?_)
      exact fr_ret (pc := 432) dX12_readQuestion_432 rfl ⟨Nat.le_refl 0, Nat.le_refl 0⟩ hW
    · refine fr_iload_n (pc := 418) 1 rfl rfl dX12_readQuestion_418 ?_
      refine fr_bipush (pc := 419) 9 (by decide) dX12_readQuestion_419 ?_
      refine fr_icmp_ne (pc := 421) (tgt := 428) (by decide) dX12_readQuestion_421 hW (fun hW => ?_) (fun hW => ?_)
      · refine fr_iconst (pc := 428) 0 (by decide) dX12_readQuestion_428 ?_
        refine fr_put (pc := 429) (T := TX12) (k := 30) kc_X12 (by decide) w_1190 rfl rfl rfl dX12_readQuestion_429 hW (fun s22 hW => ?_)
        exact fr_ret (pc := 432) dX12_readQuestion_432 rfl ⟨Nat.le_refl 0, Nat.le_refl 0⟩ hW
      · refine fr_iconst (pc := 424) 1 (by decide) dX12_readQuestion_424 ?_
        refine fr_goto (pc := 425) (tgt := 429) (by decide) dX12_readQuestion_425 ?_
        refine fr_put (pc := 429) (T := TX12) (k := 30) kc_X12 (by decide) w_1190 rfl rfl rfl dX12_readQuestion_429 hW (fun s23 hW => ?_)
        exact fr_ret (pc := 432) dX12_readQuestion_432 rfl ⟨Nat.le_refl 0, Nat.le_refl 0⟩ hW
set_option maxHeartbeats 4000000 in
set_option maxRecDepth 100000 in
theorem q_X12_readQuestion_116 {g : GG} {σ : Hs} {post : Option Value → Hs → Prop} (a0 : Nat) (v1 : Int32) (v2 : Int32) (v3 : Int32) (v4 : Int32) (v5 : Int32) (v6 : Int32) (v7 : Int32) (v8 : Int32) (v9 : Int32) (hW : (v8 = 0 → J_X12_readQuestion_132 g post σ a0 v1 v2 v3 v4 v5 v6 v7 v8 v9 ) ∧ (¬ v8 = 0 → (v6 = 0 → J_X12_readQuestion_59 g post σ a0 2 ((v7 - 97)) v3 v4 ((v5 + 0)) v6 ) ∧ (¬ v6 = 0 → J_X12_readQuestion_59 g post σ a0 2 ((v7 - 97)) v3 v4 ((v5 + 1)) v6 ))) : J_X12_readQuestion_116 g post σ a0 v1 v2 v3 v4 v5 v6 v7 v8 v9 := by
  show Fr g M_X12_readQuestion (0, 0, 0, 0) [(0, .ref a0), (1, .int v1), (2, .int v2), (3, .int v3), (4, .int v4), (5, .int v5), (6, .int v6), (7, .int v7), (8, .int v8), (9, .int v9)] [] 116 σ post
  refine fr_iload (pc := 116) 8 rfl dX12_readQuestion_116 ?_
  refine fr_if_eq (pc := 118) (tgt := 132) (by decide) dX12_readQuestion_118 hW (fun hW => ?_) (fun hW => ?_)
  · exact fr_sub [0, 1, 2, 3, 4, 5, 6, 7, 8, 9] rfl hW
  · refine fr_iload (pc := 121) 7 rfl dX12_readQuestion_121 ?_
    refine fr_bipush (pc := 123) 97 (by decide) dX12_readQuestion_123 ?_
    refine fr_isub (pc := 125) dX12_readQuestion_125 ?_
    refine fr_istore_n (pc := 126) (lv' := [(2, .int (v7 - 97)), (0, .ref a0), (1, .int v1), (3, .int v3), (4, .int v4), (5, .int v5), (6, .int v6), (7, .int v7), (8, .int v8), (9, .int v9)]) rfl (by decide) rfl dX12_readQuestion_126 ?_
    refine fr_iconst (pc := 127) 2 (by decide) dX12_readQuestion_127 ?_
    refine fr_istore_n (pc := 128) (lv' := [(1, .int 2), (2, .int (v7 - 97)), (0, .ref a0), (3, .int v3), (4, .int v4), (5, .int v5), (6, .int v6), (7, .int v7), (8, .int v8), (9, .int v9)]) rfl (by decide) rfl dX12_readQuestion_128 ?_
    refine fr_goto (pc := 129) (tgt := 378) (by decide) dX12_readQuestion_129 ?_
    refine fr_iload (pc := 378) 5 rfl dX12_readQuestion_378 ?_
    refine fr_iload (pc := 380) 6 rfl dX12_readQuestion_380 ?_
    refine fr_if_eq (pc := 382) (tgt := 389) (by decide) dX12_readQuestion_382 hW (fun hW => ?_) (fun hW => ?_)
    · refine fr_iconst (pc := 389) 0 (by decide) dX12_readQuestion_389 ?_
      refine fr_iadd (pc := 390) dX12_readQuestion_390 ?_
      refine fr_istore (pc := 391) (lv' := [(5, .int (v5 + 0)), (1, .int 2), (2, .int (v7 - 97)), (0, .ref a0), (3, .int v3), (4, .int v4), (6, .int v6), (7, .int v7), (8, .int v8), (9, .int v9)]) (by decide) rfl dX12_readQuestion_391 ?_
      refine fr_goto (pc := 393) (tgt := 59) (by decide) dX12_readQuestion_393 ?_
      exact fr_sub [3, 1, 2, 4, 5, 0, 6] rfl hW
    · refine fr_iconst (pc := 385) 1 (by decide) dX12_readQuestion_385 ?_
      refine fr_goto (pc := 386) (tgt := 390) (by decide) dX12_readQuestion_386 ?_
      refine fr_iadd (pc := 390) dX12_readQuestion_390 ?_
      refine fr_istore (pc := 391) (lv' := [(5, .int (v5 + 1)), (1, .int 2), (2, .int (v7 - 97)), (0, .ref a0), (3, .int v3), (4, .int v4), (6, .int v6), (7, .int v7), (8, .int v8), (9, .int v9)]) (by decide) rfl dX12_readQuestion_391 ?_
      refine fr_goto (pc := 393) (tgt := 59) (by decide) dX12_readQuestion_393 ?_
      exact fr_sub [3, 1, 2, 4, 5, 0, 6] rfl hW
set_option maxHeartbeats 4000000 in
set_option maxRecDepth 100000 in
theorem q_X12_readQuestion_132 {g : GG} {σ : Hs} {post : Option Value → Hs → Prop} (a0 : Nat) (v1 : Int32) (v2 : Int32) (v3 : Int32) (v4 : Int32) (v5 : Int32) (v6 : Int32) (v7 : Int32) (v8 : Int32) (v9 : Int32) (hW : (¬ v1 = 2 → J_X12_readQuestion_157 g post σ a0 v1 v2 v3 v4 v5 v6 v7 v8 v9 ) ∧ (v1 = 2 → Do g M_X12_in 0 0 [.int v7, .int 60, .int 62] σ (kI (fun i25 s24 => (i25 = 0 → J_X12_readQuestion_157 g post s24 a0 v1 v2 v3 v4 v5 v6 v7 v8 v9 ) ∧ (¬ i25 = 0 → (v6 = 0 → J_X12_readQuestion_59 g post s24 a0 3 v2 v7 v4 ((v5 + 0)) v6 ) ∧ (¬ v6 = 0 → J_X12_readQuestion_59 g post s24 a0 3 v2 v7 v4 ((v5 + 1)) v6 )))))) : J_X12_readQuestion_132 g post σ a0 v1 v2 v3 v4 v5 v6 v7 v8 v9 := by
  show Fr g M_X12_readQuestion (0, 0, 0, 0) [(0, .ref a0), (1, .int v1), (2, .int v2), (3, .int v3), (4, .int v4), (5, .int v5), (6, .int v6), (7, .int v7), (8, .int v8), (9, .int v9)] [] 132 σ post
  refine fr_iload_n (pc := 132) 1 rfl rfl dX12_readQuestion_132 ?_
  refine fr_iconst (pc := 133) 2 (by decide) dX12_readQuestion_133 ?_
  refine fr_icmp_ne (pc := 134) (tgt := 157) (by decide) dX12_readQuestion_134 hW (fun hW => ?_) (fun hW => ?_)
  · exact fr_sub [0, 1, 2, 3, 4, 5, 6, 7, 8, 9] rfl hW
  · refine fr_iload (pc := 137) 7 rfl dX12_readQuestion_137 ?_
    refine fr_bipush (pc := 139) 60 (by decide) dX12_readQuestion_139 ?_
    refine fr_bipush (pc := 141) 62 (by decide) dX12_readQuestion_141 ?_
    refine fr_callS_I (pc := 143) (As := [.int v7, .int 60, .int 62]) (st := []) wd_X12_in w_1067 ok_X12_in (by decide) rfl (Nat.le_of_ble_eq_true rfl) dX12_readQuestion_143 ⟨Nat.le_refl 0, Nat.le_refl 0⟩ hW (fun i25 s24 hW => ?_)
    refine fr_if_eq (pc := 146) (tgt := 157) (by decide) dX12_readQuestion_146 hW (fun hW => ?_) (fun hW => ?_)
    · exact fr_sub [0, 1, 2, 3, 4, 5, 6, 7, 8, 9] rfl hW
    · refine fr_iload (pc := 149) 7 rfl dX12_readQuestion_149 ?_
      refine fr_istore_n (pc := 151) (lv' := [(3, .int v7), (0, .ref a0), (1, .int v1), (2, .int v2), (4, .int v4), (5, .int v5), (6, .int v6), (7, .int v7), (8, .int v8), (9, .int v9)]) rfl (by decide) rfl dX12_readQuestion_151 ?_
      refine fr_iconst (pc := 152) 3 (by decide) dX12_readQuestion_152 ?_
      refine fr_istore_n (pc := 153) (lv' := [(1, .int 3), (3, .int v7), (0, .ref a0), (2, .int v2), (4, .int v4), (5, .int v5), (6, .int v6), (7, .int v7), (8, .int v8), (9, .int v9)]) rfl (by decide) rfl dX12_readQuestion_153 ?_
      refine fr_goto (pc := 154) (tgt := 378) (by decide) dX12_readQuestion_154 ?_
      refine fr_iload (pc := 378) 5 rfl dX12_readQuestion_378 ?_
      refine fr_iload (pc := 380) 6 rfl dX12_readQuestion_380 ?_
      refine fr_if_eq (pc := 382) (tgt := 389) (by decide) dX12_readQuestion_382 hW (fun hW => ?_) (fun hW => ?_)
      · refine fr_iconst (pc := 389) 0 (by decide) dX12_readQuestion_389 ?_
        refine fr_iadd (pc := 390) dX12_readQuestion_390 ?_
        refine fr_istore (pc := 391) (lv' := [(5, .int (v5 + 0)), (1, .int 3), (3, .int v7), (0, .ref a0), (2, .int v2), (4, .int v4), (6, .int v6), (7, .int v7), (8, .int v8), (9, .int v9)]) (by decide) rfl dX12_readQuestion_391 ?_
        refine fr_goto (pc := 393) (tgt := 59) (by decide) dX12_readQuestion_393 ?_
        exact fr_sub [3, 1, 4, 2, 5, 0, 6] rfl hW
      · refine fr_iconst (pc := 385) 1 (by decide) dX12_readQuestion_385 ?_
        refine fr_goto (pc := 386) (tgt := 390) (by decide) dX12_readQuestion_386 ?_
        refine fr_iadd (pc := 390) dX12_readQuestion_390 ?_
        refine fr_istore (pc := 391) (lv' := [(5, .int (v5 + 1)), (1, .int 3), (3, .int v7), (0, .ref a0), (2, .int v2), (4, .int v4), (6, .int v6), (7, .int v7), (8, .int v8), (9, .int v9)]) (by decide) rfl dX12_readQuestion_391 ?_
        refine fr_goto (pc := 393) (tgt := 59) (by decide) dX12_readQuestion_393 ?_
        exact fr_sub [3, 1, 4, 2, 5, 0, 6] rfl hW
set_option maxHeartbeats 4000000 in
set_option maxRecDepth 100000 in
theorem q_X12_readQuestion_157 {g : GG} {σ : Hs} {post : Option Value → Hs → Prop} (a0 : Nat) (v1 : Int32) (v2 : Int32) (v3 : Int32) (v4 : Int32) (v5 : Int32) (v6 : Int32) (v7 : Int32) (v8 : Int32) (v9 : Int32) (hW : (¬ v1 = 3 → J_X12_readQuestion_179 g post σ a0 v1 v2 v3 v4 v5 v6 v7 v8 v9 ) ∧ (v1 = 3 → (v9 = 0 → J_X12_readQuestion_179 g post σ a0 v1 v2 v3 v4 v5 v6 v7 v8 v9 ) ∧ (¬ v9 = 0 → (v6 = 0 → J_X12_readQuestion_59 g post σ a0 4 v2 v3 ((v7 - 48)) ((v5 + 0)) v6 ) ∧ (¬ v6 = 0 → J_X12_readQuestion_59 g post σ a0 4 v2 v3 ((v7 - 48)) ((v5 + 1)) v6 )))) : J_X12_readQuestion_157 g post σ a0 v1 v2 v3 v4 v5 v6 v7 v8 v9 := by
  show Fr g M_X12_readQuestion (0, 0, 0, 0) [(0, .ref a0), (1, .int v1), (2, .int v2), (3, .int v3), (4, .int v4), (5, .int v5), (6, .int v6), (7, .int v7), (8, .int v8), (9, .int v9)] [] 157 σ post
  refine fr_iload_n (pc := 157) 1 rfl rfl dX12_readQuestion_157 ?_
  refine fr_iconst (pc := 158) 3 (by decide) dX12_readQuestion_158 ?_
  refine fr_icmp_ne (pc := 159) (tgt := 179) (by decide) dX12_readQuestion_159 hW (fun hW => ?_) (fun hW => ?_)
  · exact fr_sub [0, 1, 2, 3, 4, 5, 6, 7, 8, 9] rfl hW
  · refine fr_iload (pc := 162) 9 rfl dX12_readQuestion_162 ?_
    refine fr_if_eq (pc := 164) (tgt := 179) (by decide) dX12_readQuestion_164 hW (fun hW => ?_) (fun hW => ?_)
    · exact fr_sub [0, 1, 2, 3, 4, 5, 6, 7, 8, 9] rfl hW
    · refine fr_iload (pc := 167) 7 rfl dX12_readQuestion_167 ?_
      refine fr_bipush (pc := 169) 48 (by decide) dX12_readQuestion_169 ?_
      refine fr_isub (pc := 171) dX12_readQuestion_171 ?_
      refine fr_istore (pc := 172) (lv' := [(4, .int (v7 - 48)), (0, .ref a0), (1, .int v1), (2, .int v2), (3, .int v3), (5, .int v5), (6, .int v6), (7, .int v7), (8, .int v8), (9, .int v9)]) (by decide) rfl dX12_readQuestion_172 ?_
      refine fr_iconst (pc := 174) 4 (by decide) dX12_readQuestion_174 ?_
      refine fr_istore_n (pc := 175) (lv' := [(1, .int 4), (4, .int (v7 - 48)), (0, .ref a0), (2, .int v2), (3, .int v3), (5, .int v5), (6, .int v6), (7, .int v7), (8, .int v8), (9, .int v9)]) rfl (by decide) rfl dX12_readQuestion_175 ?_
      refine fr_goto (pc := 176) (tgt := 378) (by decide) dX12_readQuestion_176 ?_
      refine fr_iload (pc := 378) 5 rfl dX12_readQuestion_378 ?_
      refine fr_iload (pc := 380) 6 rfl dX12_readQuestion_380 ?_
      refine fr_if_eq (pc := 382) (tgt := 389) (by decide) dX12_readQuestion_382 hW (fun hW => ?_) (fun hW => ?_)
      · refine fr_iconst (pc := 389) 0 (by decide) dX12_readQuestion_389 ?_
        refine fr_iadd (pc := 390) dX12_readQuestion_390 ?_
        refine fr_istore (pc := 391) (lv' := [(5, .int (v5 + 0)), (1, .int 4), (4, .int (v7 - 48)), (0, .ref a0), (2, .int v2), (3, .int v3), (6, .int v6), (7, .int v7), (8, .int v8), (9, .int v9)]) (by decide) rfl dX12_readQuestion_391 ?_
        refine fr_goto (pc := 393) (tgt := 59) (by decide) dX12_readQuestion_393 ?_
        exact fr_sub [3, 1, 4, 5, 2, 0, 6] rfl hW
      · refine fr_iconst (pc := 385) 1 (by decide) dX12_readQuestion_385 ?_
        refine fr_goto (pc := 386) (tgt := 390) (by decide) dX12_readQuestion_386 ?_
        refine fr_iadd (pc := 390) dX12_readQuestion_390 ?_
        refine fr_istore (pc := 391) (lv' := [(5, .int (v5 + 1)), (1, .int 4), (4, .int (v7 - 48)), (0, .ref a0), (2, .int v2), (3, .int v3), (6, .int v6), (7, .int v7), (8, .int v8), (9, .int v9)]) (by decide) rfl dX12_readQuestion_391 ?_
        refine fr_goto (pc := 393) (tgt := 59) (by decide) dX12_readQuestion_393 ?_
        exact fr_sub [3, 1, 4, 5, 2, 0, 6] rfl hW
set_option maxHeartbeats 4000000 in
set_option maxRecDepth 100000 in
theorem q_X12_readQuestion_179 {g : GG} {σ : Hs} {post : Option Value → Hs → Prop} (a0 : Nat) (v1 : Int32) (v2 : Int32) (v3 : Int32) (v4 : Int32) (v5 : Int32) (v6 : Int32) (v7 : Int32) (v8 : Int32) (v9 : Int32) (hW : (¬ v1 = 4 → (v1 = 4 → J_X12_readQuestion_217 g post σ a0 v1 v2 v3 v4 v5 v6 v7 v8 ) ∧ (¬ v1 = 4 → (¬ v1 = 5 → J_X12_readQuestion_237 g post σ a0 v1 v2 v3 v4 v5 v6 v7 v8 ) ∧ (v1 = 5 → J_X12_readQuestion_217 g post σ a0 v1 v2 v3 v4 v5 v6 v7 v8 ))) ∧ (v1 = 4 → (v9 = 0 → (v1 = 4 → J_X12_readQuestion_217 g post σ a0 v1 v2 v3 v4 v5 v6 v7 v8 ) ∧ (¬ v1 = 4 → (¬ v1 = 5 → J_X12_readQuestion_237 g post σ a0 v1 v2 v3 v4 v5 v6 v7 v8 ) ∧ (v1 = 5 → J_X12_readQuestion_217 g post σ a0 v1 v2 v3 v4 v5 v6 v7 v8 ))) ∧ (¬ v9 = 0 → (v6 = 0 → J_X12_readQuestion_59 g post σ a0 5 v2 v3 ((((10 * v4) + v7) - 48)) ((v5 + 0)) v6 ) ∧ (¬ v6 = 0 → J_X12_readQuestion_59 g post σ a0 5 v2 v3 ((((10 * v4) + v7) - 48)) ((v5 + 1)) v6 )))) : J_X12_readQuestion_179 g post σ a0 v1 v2 v3 v4 v5 v6 v7 v8 v9 := by
  show Fr g M_X12_readQuestion (0, 0, 0, 0) [(0, .ref a0), (1, .int v1), (2, .int v2), (3, .int v3), (4, .int v4), (5, .int v5), (6, .int v6), (7, .int v7), (8, .int v8), (9, .int v9)] [] 179 σ post
  refine fr_iload_n (pc := 179) 1 rfl rfl dX12_readQuestion_179 ?_
  refine fr_iconst (pc := 180) 4 (by decide) dX12_readQuestion_180 ?_
  refine fr_icmp_ne (pc := 181) (tgt := 207) (by decide) dX12_readQuestion_181 hW (fun hW => ?_) (fun hW => ?_)
  · refine fr_iload_n (pc := 207) 1 rfl rfl dX12_readQuestion_207 ?_
    refine fr_iconst (pc := 208) 4 (by decide) dX12_readQuestion_208 ?_
    refine fr_icmp_eq (pc := 209) (tgt := 217) (by decide) dX12_readQuestion_209 hW (fun hW => ?_) (fun hW => ?_)
    · exact fr_sub [0, 1, 2, 3, 4, 5, 6, 7, 8] rfl hW
    · refine fr_iload_n (pc := 212) 1 rfl rfl dX12_readQuestion_212 ?_
      refine fr_iconst (pc := 213) 5 (by decide) dX12_readQuestion_213 ?_
      refine fr_icmp_ne (pc := 214) (tgt := 237) (by decide) dX12_readQuestion_214 hW (fun hW => ?_) (fun hW => ?_)
      · exact fr_sub [0, 1, 2, 3, 4, 5, 6, 7, 8] rfl hW
      · exact fr_sub [0, 1, 2, 3, 4, 5, 6, 7, 8] rfl hW
  · refine fr_iload (pc := 184) 9 rfl dX12_readQuestion_184 ?_
    refine fr_if_eq (pc := 186) (tgt := 207) (by decide) dX12_readQuestion_186 hW (fun hW => ?_) (fun hW => ?_)
    · refine fr_iload_n (pc := 207) 1 rfl rfl dX12_readQuestion_207 ?_
      refine fr_iconst (pc := 208) 4 (by decide) dX12_readQuestion_208 ?_
      refine fr_icmp_eq (pc := 209) (tgt := 217) (by decide) dX12_readQuestion_209 hW (fun hW => ?_) (fun hW => ?_)
      · exact fr_sub [0, 1, 2, 3, 4, 5, 6, 7, 8] rfl hW
      · refine fr_iload_n (pc := 212) 1 rfl rfl dX12_readQuestion_212 ?_
        refine fr_iconst (pc := 213) 5 (by decide) dX12_readQuestion_213 ?_
        refine fr_icmp_ne (pc := 214) (tgt := 237) (by decide) dX12_readQuestion_214 hW (fun hW => ?_) (fun hW => ?_)
        · exact fr_sub [0, 1, 2, 3, 4, 5, 6, 7, 8] rfl hW
        · exact fr_sub [0, 1, 2, 3, 4, 5, 6, 7, 8] rfl hW
    · refine fr_bipush (pc := 189) 10 (by decide) dX12_readQuestion_189 ?_
      refine fr_iload (pc := 191) 4 rfl dX12_readQuestion_191 ?_
      refine fr_imul (pc := 193) dX12_readQuestion_193 ?_
      refine fr_iload (pc := 194) 7 rfl dX12_readQuestion_194 ?_
      refine fr_iadd (pc := 196) dX12_readQuestion_196 ?_
      refine fr_bipush (pc := 197) 48 (by decide) dX12_readQuestion_197 ?_
      refine fr_isub (pc := 199) dX12_readQuestion_199 ?_
      refine fr_istore (pc := 200) (lv' := [(4, .int (((10 * v4) + v7) - 48)), (0, .ref a0), (1, .int v1), (2, .int v2), (3, .int v3), (5, .int v5), (6, .int v6), (7, .int v7), (8, .int v8), (9, .int v9)]) (by decide) rfl dX12_readQuestion_200 ?_
      refine fr_iconst (pc := 202) 5 (by decide) dX12_readQuestion_202 ?_
      refine fr_istore_n (pc := 203) (lv' := [(1, .int 5), (4, .int (((10 * v4) + v7) - 48)), (0, .ref a0), (2, .int v2), (3, .int v3), (5, .int v5), (6, .int v6), (7, .int v7), (8, .int v8), (9, .int v9)]) rfl (by decide) rfl dX12_readQuestion_203 ?_
      refine fr_goto (pc := 204) (tgt := 378) (by decide) dX12_readQuestion_204 ?_
      refine fr_iload (pc := 378) 5 rfl dX12_readQuestion_378 ?_
      refine fr_iload (pc := 380) 6 rfl dX12_readQuestion_380 ?_
      refine fr_if_eq (pc := 382) (tgt := 389) (by decide) dX12_readQuestion_382 hW (fun hW => ?_) (fun hW => ?_)
      · refine fr_iconst (pc := 389) 0 (by decide) dX12_readQuestion_389 ?_
        refine fr_iadd (pc := 390) dX12_readQuestion_390 ?_
        refine fr_istore (pc := 391) (lv' := [(5, .int (v5 + 0)), (1, .int 5), (4, .int (((10 * v4) + v7) - 48)), (0, .ref a0), (2, .int v2), (3, .int v3), (6, .int v6), (7, .int v7), (8, .int v8), (9, .int v9)]) (by decide) rfl dX12_readQuestion_391 ?_
        refine fr_goto (pc := 393) (tgt := 59) (by decide) dX12_readQuestion_393 ?_
        exact fr_sub [3, 1, 4, 5, 2, 0, 6] rfl hW
      · refine fr_iconst (pc := 385) 1 (by decide) dX12_readQuestion_385 ?_
        refine fr_goto (pc := 386) (tgt := 390) (by decide) dX12_readQuestion_386 ?_
        refine fr_iadd (pc := 390) dX12_readQuestion_390 ?_
        refine fr_istore (pc := 391) (lv' := [(5, .int (v5 + 1)), (1, .int 5), (4, .int (((10 * v4) + v7) - 48)), (0, .ref a0), (2, .int v2), (3, .int v3), (6, .int v6), (7, .int v7), (8, .int v8), (9, .int v9)]) (by decide) rfl dX12_readQuestion_391 ?_
        refine fr_goto (pc := 393) (tgt := 59) (by decide) dX12_readQuestion_393 ?_
        exact fr_sub [3, 1, 4, 5, 2, 0, 6] rfl hW
set_option maxHeartbeats 4000000 in
set_option maxRecDepth 100000 in
theorem q_X12_readQuestion_217 {g : GG} {σ : Hs} {post : Option Value → Hs → Prop} (a0 : Nat) (v1 : Int32) (v2 : Int32) (v3 : Int32) (v4 : Int32) (v5 : Int32) (v6 : Int32) (v7 : Int32) (v8 : Int32) (hW : (¬ v7 = 38 → J_X12_readQuestion_237 g post σ a0 v1 v2 v3 v4 v5 v6 v7 v8 ) ∧ (v7 = 38 → Rc σ a0 12 ∧ Do g M_X12_narrow 0 0 [.ref a0, .int v2, .int v3, .int v4] σ (kV (fun s28 => (v6 = 0 → J_X12_readQuestion_59 g post s28 a0 1 v2 v3 v4 ((v5 + 0)) v6 ) ∧ (¬ v6 = 0 → J_X12_readQuestion_59 g post s28 a0 1 v2 v3 v4 ((v5 + 1)) v6 ))))) : J_X12_readQuestion_217 g post σ a0 v1 v2 v3 v4 v5 v6 v7 v8 := by
  show Fr g M_X12_readQuestion (0, 0, 0, 0) [(0, .ref a0), (1, .int v1), (2, .int v2), (3, .int v3), (4, .int v4), (5, .int v5), (6, .int v6), (7, .int v7), (8, .int v8)] [] 217 σ post
  refine fr_iload (pc := 217) 7 rfl dX12_readQuestion_217 ?_
  refine fr_bipush (pc := 219) 38 (by decide) dX12_readQuestion_219 ?_
  refine fr_icmp_ne (pc := 221) (tgt := 237) (by decide) dX12_readQuestion_221 hW (fun hW => ?_) (fun hW => ?_)
  · exact fr_sub [0, 1, 2, 3, 4, 5, 6, 7, 8] rfl hW
  · refine fr_aload_n (pc := 224) 0 rfl rfl dX12_readQuestion_224 ?_
    refine fr_iload_n (pc := 225) 2 rfl rfl dX12_readQuestion_225 ?_
    refine fr_iload_n (pc := 226) 3 rfl rfl dX12_readQuestion_226 ?_
    refine fr_iload (pc := 227) 4 rfl dX12_readQuestion_227 ?_
    obtain ⟨hrc, hW⟩ := hW
    refine fr_callV_V (pc := 229) (As := [.int v2, .int v3, .int v4]) (st := []) wd_X12_narrow w_1191 ok_X12_narrow (by decide) rfl (Nat.le_of_ble_eq_true rfl) dX12_readQuestion_229 ⟨Nat.le_refl 0, Nat.le_refl 0⟩ kc_X12 hrc hW (fun s28 hW => ?_)
    refine fr_iconst (pc := 232) 1 (by decide) dX12_readQuestion_232 ?_
    refine fr_istore_n (pc := 233) (lv' := [(1, .int 1), (0, .ref a0), (2, .int v2), (3, .int v3), (4, .int v4), (5, .int v5), (6, .int v6), (7, .int v7), (8, .int v8)]) rfl (by decide) rfl dX12_readQuestion_233 ?_
    refine fr_goto (pc := 234) (tgt := 378) (by decide) dX12_readQuestion_234 ?_
    refine fr_iload (pc := 378) 5 rfl dX12_readQuestion_378 ?_
    refine fr_iload (pc := 380) 6 rfl dX12_readQuestion_380 ?_
    refine fr_if_eq (pc := 382) (tgt := 389) (by decide) dX12_readQuestion_382 hW (fun hW => ?_) (fun hW => ?_)
    · refine fr_iconst (pc := 389) 0 (by decide) dX12_readQuestion_389 ?_
      refine fr_iadd (pc := 390) dX12_readQuestion_390 ?_
      refine fr_istore (pc := 391) (lv' := [(5, .int (v5 + 0)), (1, .int 1), (0, .ref a0), (2, .int v2), (3, .int v3), (4, .int v4), (6, .int v6), (7, .int v7), (8, .int v8)]) (by decide) rfl dX12_readQuestion_391 ?_
      refine fr_goto (pc := 393) (tgt := 59) (by decide) dX12_readQuestion_393 ?_
      exact fr_sub [2, 1, 3, 4, 5, 0, 6] rfl hW
    · refine fr_iconst (pc := 385) 1 (by decide) dX12_readQuestion_385 ?_
      refine fr_goto (pc := 386) (tgt := 390) (by decide) dX12_readQuestion_386 ?_
      refine fr_iadd (pc := 390) dX12_readQuestion_390 ?_
      refine fr_istore (pc := 391) (lv' := [(5, .int (v5 + 1)), (1, .int 1), (0, .ref a0), (2, .int v2), (3, .int v3), (4, .int v4), (6, .int v6), (7, .int v7), (8, .int v8)]) (by decide) rfl dX12_readQuestion_391 ?_
      refine fr_goto (pc := 393) (tgt := 59) (by decide) dX12_readQuestion_393 ?_
      exact fr_sub [2, 1, 3, 4, 5, 0, 6] rfl hW
set_option maxHeartbeats 4000000 in
set_option maxRecDepth 100000 in
theorem q_X12_readQuestion_237 {g : GG} {σ : Hs} {post : Option Value → Hs → Prop} (a0 : Nat) (v1 : Int32) (v2 : Int32) (v3 : Int32) (v4 : Int32) (v5 : Int32) (v6 : Int32) (v7 : Int32) (v8 : Int32) (hW : (v1 = 0 → J_X12_readQuestion_251 g post σ a0 v1 v2 v3 v4 v5 v6 v7 v8 ) ∧ (¬ v1 = 0 → (v1 = 4 → J_X12_readQuestion_251 g post σ a0 v1 v2 v3 v4 v5 v6 v7 v8 ) ∧ (¬ v1 = 4 → (¬ v1 = 5 → (v1 = 6 → J_X12_readQuestion_288 g post σ a0 v1 v2 v3 v4 v5 v6 v7 v8 ) ∧ (¬ v1 = 6 → (¬ v1 = 7 → J_X12_readQuestion_330 g post σ a0 v1 v2 v3 v4 v5 v6 v7 v8 ) ∧ (v1 = 7 → J_X12_readQuestion_288 g post σ a0 v1 v2 v3 v4 v5 v6 v7 v8 ))) ∧ (v1 = 5 → J_X12_readQuestion_251 g post σ a0 v1 v2 v3 v4 v5 v6 v7 v8 )))) : J_X12_readQuestion_237 g post σ a0 v1 v2 v3 v4 v5 v6 v7 v8 := by
  show Fr g M_X12_readQuestion (0, 0, 0, 0) [(0, .ref a0), (1, .int v1), (2, .int v2), (3, .int v3), (4, .int v4), (5, .int v5), (6, .int v6), (7, .int v7), (8, .int v8)] [] 237 σ post
  refine fr_iload_n (pc := 237) 1 rfl rfl dX12_readQuestion_237 ?_
  refine fr_if_eq (pc := 238) (tgt := 251) (by decide) dX12_readQuestion_238 hW (fun hW => ?_) (fun hW => ?_)
  · exact fr_sub [0, 1, 2, 3, 4, 5, 6, 7, 8] rfl hW
  · refine fr_iload_n (pc := 241) 1 rfl rfl dX12_readQuestion_241 ?_
    refine fr_iconst (pc := 242) 4 (by decide) dX12_readQuestion_242 ?_
    refine fr_icmp_eq (pc := 243) (tgt := 251) (by decide) dX12_readQuestion_243 hW (fun hW => ?_) (fun hW => ?_)
    · exact fr_sub [0, 1, 2, 3, 4, 5, 6, 7, 8] rfl hW
    · refine fr_iload_n (pc := 246) 1 rfl rfl dX12_readQuestion_246 ?_
      refine fr_iconst (pc := 247) 5 (by decide) dX12_readQuestion_247 ?_
      refine fr_icmp_ne (pc := 248) (tgt := 276) (by decide) dX12_readQuestion_248 hW (fun hW => ?_) (fun hW => ?_)
      · refine fr_iload_n (pc := 276) 1 rfl rfl dX12_readQuestion_276 ?_
        refine fr_bipush (pc := 277) 6 (by decide) dX12_readQuestion_277 ?_
        refine fr_icmp_eq (pc := 279) (tgt := 288) (by decide) dX12_readQuestion_279 hW (fun hW => ?_) (fun hW => ?_)
        · exact fr_sub [0, 1, 2, 3, 4, 5, 6, 7, 8] rfl hW
        · refine fr_iload_n (pc := 282) 1 rfl rfl dX12_readQuestion_282 ?_
          refine fr_bipush (pc := 283) 7 (by decide) dX12_readQuestion_283 ?_
          refine fr_icmp_ne (pc := 285) (tgt := 330) (by decide) dX12_readQuestion_285 hW (fun hW => ?_) (fun hW => ?_)
          · exact fr_sub [0, 1, 2, 3, 4, 5, 6, 7, 8] rfl hW
          · exact fr_sub [0, 1, 2, 3, 4, 5, 6, 7, 8] rfl hW
      · exact fr_sub [0, 1, 2, 3, 4, 5, 6, 7, 8] rfl hW
set_option maxHeartbeats 4000000 in
set_option maxRecDepth 100000 in
theorem q_X12_readQuestion_251 {g : GG} {σ : Hs} {post : Option Value → Hs → Prop} (a0 : Nat) (v1 : Int32) (v2 : Int32) (v3 : Int32) (v4 : Int32) (v5 : Int32) (v6 : Int32) (v7 : Int32) (v8 : Int32) (hW : (¬ v7 = 58 → (v1 = 6 → J_X12_readQuestion_288 g post σ a0 v1 v2 v3 v4 v5 v6 v7 v8 ) ∧ (¬ v1 = 6 → (¬ v1 = 7 → J_X12_readQuestion_330 g post σ a0 v1 v2 v3 v4 v5 v6 v7 v8 ) ∧ (v1 = 7 → J_X12_readQuestion_288 g post σ a0 v1 v2 v3 v4 v5 v6 v7 v8 ))) ∧ (v7 = 58 → (v1 ≤ 0 → J_X12_readQuestion_270 g post σ a0 v2 v3 v4 v5 v6 ) ∧ (¬ v1 ≤ 0 → Rc σ a0 12 ∧ Do g M_X12_narrow 0 0 [.ref a0, .int v2, .int v3, .int v4] σ (kV (fun s29 => J_X12_readQuestion_270 g post s29 a0 v2 v3 v4 v5 v6 ))))) : J_X12_readQuestion_251 g post σ a0 v1 v2 v3 v4 v5 v6 v7 v8 := by
  show Fr g M_X12_readQuestion (0, 0, 0, 0) [(0, .ref a0), (1, .int v1), (2, .int v2), (3, .int v3), (4, .int v4), (5, .int v5), (6, .int v6), (7, .int v7), (8, .int v8)] [] 251 σ post
  refine fr_iload (pc := 251) 7 rfl dX12_readQuestion_251 ?_
  refine fr_bipush (pc := 253) 58 (by decide) dX12_readQuestion_253 ?_
  refine fr_icmp_ne (pc := 255) (tgt := 276) (by decide) dX12_readQuestion_255 hW (fun hW => ?_) (fun hW => ?_)
  · refine fr_iload_n (pc := 276) 1 rfl rfl dX12_readQuestion_276 ?_
    refine fr_bipush (pc := 277) 6 (by decide) dX12_readQuestion_277 ?_
    refine fr_icmp_eq (pc := 279) (tgt := 288) (by decide) dX12_readQuestion_279 hW (fun hW => ?_) (fun hW => ?_)
    · exact fr_sub [0, 1, 2, 3, 4, 5, 6, 7, 8] rfl hW
    · refine fr_iload_n (pc := 282) 1 rfl rfl dX12_readQuestion_282 ?_
      refine fr_bipush (pc := 283) 7 (by decide) dX12_readQuestion_283 ?_
      refine fr_icmp_ne (pc := 285) (tgt := 330) (by decide) dX12_readQuestion_285 hW (fun hW => ?_) (fun hW => ?_)
      · exact fr_sub [0, 1, 2, 3, 4, 5, 6, 7, 8] rfl hW
      · exact fr_sub [0, 1, 2, 3, 4, 5, 6, 7, 8] rfl hW
  · refine fr_iload_n (pc := 258) 1 rfl rfl dX12_readQuestion_258 ?_
    refine fr_if_le (pc := 259) (tgt := 270) (by decide) dX12_readQuestion_259 hW (fun hW => ?_) (fun hW => ?_)
    · exact fr_sub [0, 2, 3, 4, 5, 6] rfl hW
    · refine fr_aload_n (pc := 262) 0 rfl rfl dX12_readQuestion_262 ?_
      refine fr_iload_n (pc := 263) 2 rfl rfl dX12_readQuestion_263 ?_
      refine fr_iload_n (pc := 264) 3 rfl rfl dX12_readQuestion_264 ?_
      refine fr_iload (pc := 265) 4 rfl dX12_readQuestion_265 ?_
      obtain ⟨hrc, hW⟩ := hW
      refine fr_callV_V (pc := 267) (As := [.int v2, .int v3, .int v4]) (st := []) wd_X12_narrow w_1191 ok_X12_narrow (by decide) rfl (Nat.le_of_ble_eq_true rfl) dX12_readQuestion_267 ⟨Nat.le_refl 0, Nat.le_refl 0⟩ kc_X12 hrc hW (fun s29 hW => ?_)
      exact fr_sub [0, 2, 3, 4, 5, 6] rfl hW
set_option maxHeartbeats 4000000 in
set_option maxRecDepth 100000 in
theorem q_X12_readQuestion_288 {g : GG} {σ : Hs} {post : Option Value → Hs → Prop} (a0 : Nat) (v1 : Int32) (v2 : Int32) (v3 : Int32) (v4 : Int32) (v5 : Int32) (v6 : Int32) (v7 : Int32) (v8 : Int32) (hW : (v8 = 0 → J_X12_readQuestion_330 g post σ a0 v1 v2 v3 v4 v5 v6 v7 v8 ) ∧ (¬ v8 = 0 → FI σ a0 12 32 (fun i30 => (¬ ((i30 >>> ((v7 - 97) &&& 31)) &&& 1) = 0 → J_X12_readQuestion_330 g post σ a0 v1 v2 v3 v4 v5 v6 v7 v8 ) ∧ (((i30 >>> ((v7 - 97) &&& 31)) &&& 1) = 0 → FI σ a0 12 32 (fun i31 => PF σ a0 12 32 (.int (i31 ||| ((1 : Int32) <<< ((v7 - 97) &&& 31)))) (fun s32 => (v6 = 0 → J_X12_readQuestion_59 g post s32 a0 7 v2 v3 v4 ((v5 + 0)) v6 ) ∧ (¬ v6 = 0 → J_X12_readQuestion_59 g post s32 a0 7 v2 v3 v4 ((v5 + 1)) v6 ))))))) : J_X12_readQuestion_288 g post σ a0 v1 v2 v3 v4 v5 v6 v7 v8 := by
  show Fr g M_X12_readQuestion (0, 0, 0, 0) [(0, .ref a0), (1, .int v1), (2, .int v2), (3, .int v3), (4, .int v4), (5, .int v5), (6, .int v6), (7, .int v7), (8, .int v8)] [] 288 σ post
  refine fr_iload (pc := 288) 8 rfl dX12_readQuestion_288 ?_
  refine fr_if_eq (pc := 290) (tgt := 330) (by decide) dX12_readQuestion_290 hW (fun hW => ?_) (fun hW => ?_)
  · exact fr_sub [0, 1, 2, 3, 4, 5, 6, 7, 8] rfl hW
  · refine fr_aload_n (pc := 293) 0 rfl rfl dX12_readQuestion_293 ?_
    refine fr_getI (pc := 294) (T := TX12) (k := 32) kc_X12 (by decide) w_1187 dX12_readQuestion_294 hW (fun i30 hW => ?_)
    refine fr_iload (pc := 297) 7 rfl dX12_readQuestion_297 ?_
    refine fr_bipush (pc := 299) 97 (by decide) dX12_readQuestion_299 ?_
    refine fr_isub (pc := 301) dX12_readQuestion_301 ?_
    refine fr_ishr (pc := 302) dX12_readQuestion_302 ?_
    refine fr_iconst (pc := 303) 1 (by decide) dX12_readQuestion_303 ?_
    refine fr_iand (pc := 304) dX12_readQuestion_304 ?_
    refine fr_if_ne (pc := 305) (tgt := 330) (by decide) dX12_readQuestion_305 hW (fun hW => ?_) (fun hW => ?_)
    · exact fr_sub [0, 1, 2, 3, 4, 5, 6, 7, 8] rfl hW
    · refine fr_aload_n (pc := 308) 0 rfl rfl dX12_readQuestion_308 ?_
      refine fr_dup (pc := 309) rfl dX12_readQuestion_309 ?_
      refine fr_getI (pc := 310) (T := TX12) (k := 32) kc_X12 (by decide) w_1187 dX12_readQuestion_310 hW (fun i31 hW => ?_)
      refine fr_iconst (pc := 313) 1 (by decide) dX12_readQuestion_313 ?_
      refine fr_iload (pc := 314) 7 rfl dX12_readQuestion_314 ?_
      refine fr_bipush (pc := 316) 97 (by decide) dX12_readQuestion_316 ?_
      refine fr_isub (pc := 318) dX12_readQuestion_318 ?_
      refine fr_ishl (pc := 319) dX12_readQuestion_319 ?_
      refine fr_ior (pc := 320) dX12_readQuestion_320 ?_
      refine fr_put (pc := 321) (T := TX12) (k := 32) kc_X12 (by decide) w_1187 rfl rfl rfl dX12_readQuestion_321 hW (fun s32 hW => ?_)
      refine fr_bipush (pc := 324) 7 (by decide) dX12_readQuestion_324 ?_
      refine fr_istore_n (pc := 326) (lv' := [(1, .int 7), (0, .ref a0), (2, .int v2), (3, .int v3), (4, .int v4), (5, .int v5), (6, .int v6), (7, .int v7), (8, .int v8)]) rfl (by decide) rfl dX12_readQuestion_326 ?_
      refine fr_goto (pc := 327) (tgt := 378) (by decide) dX12_readQuestion_327 ?_
      refine fr_iload (pc := 378) 5 rfl dX12_readQuestion_378 ?_
      refine fr_iload (pc := 380) 6 rfl dX12_readQuestion_380 ?_
      refine fr_if_eq (pc := 382) (tgt := 389) (by decide) dX12_readQuestion_382 hW (fun hW => ?_) (fun hW => ?_)
      · refine fr_iconst (pc := 389) 0 (by decide) dX12_readQuestion_389 ?_
        refine fr_iadd (pc := 390) dX12_readQuestion_390 ?_
        refine fr_istore (pc := 391) (lv' := [(5, .int (v5 + 0)), (1, .int 7), (0, .ref a0), (2, .int v2), (3, .int v3), (4, .int v4), (6, .int v6), (7, .int v7), (8, .int v8)]) (by decide) rfl dX12_readQuestion_391 ?_
        refine fr_goto (pc := 393) (tgt := 59) (by decide) dX12_readQuestion_393 ?_
        exact fr_sub [2, 1, 3, 4, 5, 0, 6] rfl hW
      · refine fr_iconst (pc := 385) 1 (by decide) dX12_readQuestion_385 ?_
        refine fr_goto (pc := 386) (tgt := 390) (by decide) dX12_readQuestion_386 ?_
        refine fr_iadd (pc := 390) dX12_readQuestion_390 ?_
        refine fr_istore (pc := 391) (lv' := [(5, .int (v5 + 1)), (1, .int 7), (0, .ref a0), (2, .int v2), (3, .int v3), (4, .int v4), (6, .int v6), (7, .int v7), (8, .int v8)]) (by decide) rfl dX12_readQuestion_391 ?_
        refine fr_goto (pc := 393) (tgt := 59) (by decide) dX12_readQuestion_393 ?_
        exact fr_sub [2, 1, 3, 4, 5, 0, 6] rfl hW
set_option maxHeartbeats 4000000 in
set_option maxRecDepth 100000 in
theorem q_X12_readQuestion_330 {g : GG} {σ : Hs} {post : Option Value → Hs → Prop} (a0 : Nat) (v1 : Int32) (v2 : Int32) (v3 : Int32) (v4 : Int32) (v5 : Int32) (v6 : Int32) (v7 : Int32) (v8 : Int32) (hW : (¬ v1 = 7 → J_X12_readQuestion_349 g post σ a0 v1 v2 v3 v4 v5 v6 v7 v8 ) ∧ (v1 = 7 → (¬ v7 = 47 → J_X12_readQuestion_349 g post σ a0 v1 v2 v3 v4 v5 v6 v7 v8 ) ∧ (v7 = 47 → (v6 = 0 → J_X12_readQuestion_59 g post σ a0 8 v2 v3 v4 ((v5 + 0)) v6 ) ∧ (¬ v6 = 0 → J_X12_readQuestion_59 g post σ a0 8 v2 v3 v4 ((v5 + 1)) v6 )))) : J_X12_readQuestion_330 g post σ a0 v1 v2 v3 v4 v5 v6 v7 v8 := by
  show Fr g M_X12_readQuestion (0, 0, 0, 0) [(0, .ref a0), (1, .int v1), (2, .int v2), (3, .int v3), (4, .int v4), (5, .int v5), (6, .int v6), (7, .int v7), (8, .int v8)] [] 330 σ post
  refine fr_iload_n (pc := 330) 1 rfl rfl dX12_readQuestion_330 ?_
  refine fr_bipush (pc := 331) 7 (by decide) dX12_readQuestion_331 ?_
  refine fr_icmp_ne (pc := 333) (tgt := 349) (by decide) dX12_readQuestion_333 hW (fun hW => ?_) (fun hW => ?_)
  · exact fr_sub [0, 1, 2, 3, 4, 5, 6, 7, 8] rfl hW
  · refine fr_iload (pc := 336) 7 rfl dX12_readQuestion_336 ?_
    refine fr_bipush (pc := 338) 47 (by decide) dX12_readQuestion_338 ?_
    refine fr_icmp_ne (pc := 340) (tgt := 349) (by decide) dX12_readQuestion_340 hW (fun hW => ?_) (fun hW => ?_)
    · exact fr_sub [0, 1, 2, 3, 4, 5, 6, 7, 8] rfl hW
    · refine fr_bipush (pc := 343) 8 (by decide) dX12_readQuestion_343 ?_
      refine fr_istore_n (pc := 345) (lv' := [(1, .int 8), (0, .ref a0), (2, .int v2), (3, .int v3), (4, .int v4), (5, .int v5), (6, .int v6), (7, .int v7), (8, .int v8)]) rfl (by decide) rfl dX12_readQuestion_345 ?_
      refine fr_goto (pc := 346) (tgt := 378) (by decide) dX12_readQuestion_346 ?_
      refine fr_iload (pc := 378) 5 rfl dX12_readQuestion_378 ?_
      refine fr_iload (pc := 380) 6 rfl dX12_readQuestion_380 ?_
      refine fr_if_eq (pc := 382) (tgt := 389) (by decide) dX12_readQuestion_382 hW (fun hW => ?_) (fun hW => ?_)
      · refine fr_iconst (pc := 389) 0 (by decide) dX12_readQuestion_389 ?_
        refine fr_iadd (pc := 390) dX12_readQuestion_390 ?_
        refine fr_istore (pc := 391) (lv' := [(5, .int (v5 + 0)), (1, .int 8), (0, .ref a0), (2, .int v2), (3, .int v3), (4, .int v4), (6, .int v6), (7, .int v7), (8, .int v8)]) (by decide) rfl dX12_readQuestion_391 ?_
        refine fr_goto (pc := 393) (tgt := 59) (by decide) dX12_readQuestion_393 ?_
        exact fr_sub [2, 1, 3, 4, 5, 0, 6] rfl hW
      · refine fr_iconst (pc := 385) 1 (by decide) dX12_readQuestion_385 ?_
        refine fr_goto (pc := 386) (tgt := 390) (by decide) dX12_readQuestion_386 ?_
        refine fr_iadd (pc := 390) dX12_readQuestion_390 ?_
        refine fr_istore (pc := 391) (lv' := [(5, .int (v5 + 1)), (1, .int 8), (0, .ref a0), (2, .int v2), (3, .int v3), (4, .int v4), (6, .int v6), (7, .int v7), (8, .int v8)]) (by decide) rfl dX12_readQuestion_391 ?_
        refine fr_goto (pc := 393) (tgt := 59) (by decide) dX12_readQuestion_393 ?_
        exact fr_sub [2, 1, 3, 4, 5, 0, 6] rfl hW
set_option maxHeartbeats 4000000 in
set_option maxRecDepth 100000 in
theorem q_X12_readQuestion_270 {g : GG} {σ : Hs} {post : Option Value → Hs → Prop} (a0 : Nat) (v2 : Int32) (v3 : Int32) (v4 : Int32) (v5 : Int32) (v6 : Int32) (hW : (v6 = 0 → J_X12_readQuestion_59 g post σ a0 6 v2 v3 v4 ((v5 + 0)) v6 ) ∧ (¬ v6 = 0 → J_X12_readQuestion_59 g post σ a0 6 v2 v3 v4 ((v5 + 1)) v6 )) : J_X12_readQuestion_270 g post σ a0 v2 v3 v4 v5 v6 := by
  show Fr g M_X12_readQuestion (0, 0, 0, 0) [(0, .ref a0), (2, .int v2), (3, .int v3), (4, .int v4), (5, .int v5), (6, .int v6)] [] 270 σ post
  refine fr_bipush (pc := 270) 6 (by decide) dX12_readQuestion_270 ?_
  refine fr_istore_n (pc := 272) (lv' := [(1, .int 6), (0, .ref a0), (2, .int v2), (3, .int v3), (4, .int v4), (5, .int v5), (6, .int v6)]) rfl (by decide) rfl dX12_readQuestion_272 ?_
  refine fr_goto (pc := 273) (tgt := 378) (by decide) dX12_readQuestion_273 ?_
  refine fr_iload (pc := 378) 5 rfl dX12_readQuestion_378 ?_
  refine fr_iload (pc := 380) 6 rfl dX12_readQuestion_380 ?_
  refine fr_if_eq (pc := 382) (tgt := 389) (by decide) dX12_readQuestion_382 hW (fun hW => ?_) (fun hW => ?_)
  · refine fr_iconst (pc := 389) 0 (by decide) dX12_readQuestion_389 ?_
    refine fr_iadd (pc := 390) dX12_readQuestion_390 ?_
    refine fr_istore (pc := 391) (lv' := [(5, .int (v5 + 0)), (1, .int 6), (0, .ref a0), (2, .int v2), (3, .int v3), (4, .int v4), (6, .int v6)]) (by decide) rfl dX12_readQuestion_391 ?_
    refine fr_goto (pc := 393) (tgt := 59) (by decide) dX12_readQuestion_393 ?_
    exact fr_sub [2, 1, 3, 4, 5, 0, 6] rfl hW
  · refine fr_iconst (pc := 385) 1 (by decide) dX12_readQuestion_385 ?_
    refine fr_goto (pc := 386) (tgt := 390) (by decide) dX12_readQuestion_386 ?_
    refine fr_iadd (pc := 390) dX12_readQuestion_390 ?_
    refine fr_istore (pc := 391) (lv' := [(5, .int (v5 + 1)), (1, .int 6), (0, .ref a0), (2, .int v2), (3, .int v3), (4, .int v4), (6, .int v6)]) (by decide) rfl dX12_readQuestion_391 ?_
    refine fr_goto (pc := 393) (tgt := 59) (by decide) dX12_readQuestion_393 ?_
    exact fr_sub [2, 1, 3, 4, 5, 0, 6] rfl hW
set_option maxHeartbeats 4000000 in
set_option maxRecDepth 100000 in
theorem q_X12_readQuestion_349 {g : GG} {σ : Hs} {post : Option Value → Hs → Prop} (a0 : Nat) (v1 : Int32) (v2 : Int32) (v3 : Int32) (v4 : Int32) (v5 : Int32) (v6 : Int32) (v7 : Int32) (v8 : Int32) (hW : (¬ v1 = 8 → J_X12_readQuestion_375 g post σ a0 v1 v2 v3 v4 v5 ) ∧ (v1 = 8 → (v8 = 0 → J_X12_readQuestion_375 g post σ a0 v1 v2 v3 v4 v5 ) ∧ (¬ v8 = 0 → PF σ a0 12 33 (.int (v7 - 97)) (fun s33 => (v6 = 0 → J_X12_readQuestion_59 g post s33 a0 9 v2 v3 v4 ((v5 + 0)) v6 ) ∧ (¬ v6 = 0 → J_X12_readQuestion_59 g post s33 a0 9 v2 v3 v4 ((v5 + 1)) v6 ))))) : J_X12_readQuestion_349 g post σ a0 v1 v2 v3 v4 v5 v6 v7 v8 := by
  show Fr g M_X12_readQuestion (0, 0, 0, 0) [(0, .ref a0), (1, .int v1), (2, .int v2), (3, .int v3), (4, .int v4), (5, .int v5), (6, .int v6), (7, .int v7), (8, .int v8)] [] 349 σ post
  refine fr_iload_n (pc := 349) 1 rfl rfl dX12_readQuestion_349 ?_
  refine fr_bipush (pc := 350) 8 (by decide) dX12_readQuestion_350 ?_
  refine fr_icmp_ne (pc := 352) (tgt := 375) (by decide) dX12_readQuestion_352 hW (fun hW => ?_) (fun hW => ?_)
  · exact fr_sub [0, 1, 2, 3, 4, 5] rfl hW
  · refine fr_iload (pc := 355) 8 rfl dX12_readQuestion_355 ?_
    refine fr_if_eq (pc := 357) (tgt := 375) (by decide) dX12_readQuestion_357 hW (fun hW => ?_) (fun hW => ?_)
    · exact fr_sub [0, 1, 2, 3, 4, 5] rfl hW
    · refine fr_aload_n (pc := 360) 0 rfl rfl dX12_readQuestion_360 ?_
      refine fr_iload (pc := 361) 7 rfl dX12_readQuestion_361 ?_
      refine fr_bipush (pc := 363) 97 (by decide) dX12_readQuestion_363 ?_
      refine fr_isub (pc := 365) dX12_readQuestion_365 ?_
      refine fr_put (pc := 366) (T := TX12) (k := 33) kc_X12 (by decide) w_1188 rfl rfl rfl dX12_readQuestion_366 hW (fun s33 hW => ?_)
      refine fr_bipush (pc := 369) 9 (by decide) dX12_readQuestion_369 ?_
      refine fr_istore_n (pc := 371) (lv' := [(1, .int 9), (0, .ref a0), (2, .int v2), (3, .int v3), (4, .int v4), (5, .int v5), (6, .int v6), (7, .int v7), (8, .int v8)]) rfl (by decide) rfl dX12_readQuestion_371 ?_
      refine fr_goto (pc := 372) (tgt := 378) (by decide) dX12_readQuestion_372 ?_
      refine fr_iload (pc := 378) 5 rfl dX12_readQuestion_378 ?_
      refine fr_iload (pc := 380) 6 rfl dX12_readQuestion_380 ?_
      refine fr_if_eq (pc := 382) (tgt := 389) (by decide) dX12_readQuestion_382 hW (fun hW => ?_) (fun hW => ?_)
      · refine fr_iconst (pc := 389) 0 (by decide) dX12_readQuestion_389 ?_
        refine fr_iadd (pc := 390) dX12_readQuestion_390 ?_
        refine fr_istore (pc := 391) (lv' := [(5, .int (v5 + 0)), (1, .int 9), (0, .ref a0), (2, .int v2), (3, .int v3), (4, .int v4), (6, .int v6), (7, .int v7), (8, .int v8)]) (by decide) rfl dX12_readQuestion_391 ?_
        refine fr_goto (pc := 393) (tgt := 59) (by decide) dX12_readQuestion_393 ?_
        exact fr_sub [2, 1, 3, 4, 5, 0, 6] rfl hW
      · refine fr_iconst (pc := 385) 1 (by decide) dX12_readQuestion_385 ?_
        refine fr_goto (pc := 386) (tgt := 390) (by decide) dX12_readQuestion_386 ?_
        refine fr_iadd (pc := 390) dX12_readQuestion_390 ?_
        refine fr_istore (pc := 391) (lv' := [(5, .int (v5 + 1)), (1, .int 9), (0, .ref a0), (2, .int v2), (3, .int v3), (4, .int v4), (6, .int v6), (7, .int v7), (8, .int v8)]) (by decide) rfl dX12_readQuestion_391 ?_
        refine fr_goto (pc := 393) (tgt := 59) (by decide) dX12_readQuestion_393 ?_
        exact fr_sub [2, 1, 3, 4, 5, 0, 6] rfl hW
set_option maxHeartbeats 4000000 in
set_option maxRecDepth 100000 in
theorem q_X12_readQuestion_375 {g : GG} {σ : Hs} {post : Option Value → Hs → Prop} (a0 : Nat) (v1 : Int32) (v2 : Int32) (v3 : Int32) (v4 : Int32) (v5 : Int32) (hW : J_X12_readQuestion_59 g post σ a0 v1 v2 v3 v4 ((v5 + 0)) 0 ) : J_X12_readQuestion_375 g post σ a0 v1 v2 v3 v4 v5 := by
  show Fr g M_X12_readQuestion (0, 0, 0, 0) [(0, .ref a0), (1, .int v1), (2, .int v2), (3, .int v3), (4, .int v4), (5, .int v5)] [] 375 σ post
  refine fr_iconst (pc := 375) 0 (by decide) dX12_readQuestion_375 ?_
  refine fr_istore (pc := 376) (lv' := [(6, .int 0), (0, .ref a0), (1, .int v1), (2, .int v2), (3, .int v3), (4, .int v4), (5, .int v5)]) (by decide) rfl dX12_readQuestion_376 ?_
  refine fr_iload (pc := 378) 6 rfl dX12_readQuestion_378 ?_
  refine fr_iload (pc := 380) 0 rfl dX12_readQuestion_380 ?_
  refine fr_if_eq (pc := 382) (tgt := 389) (φ := True) (ψ := False) (by decide) dX12_readQuestion_382 ⟨fun _ => trivial, fun e => absurd (by decide) e⟩ (fun _ => ?_) (fun h => h.elim)
  refine fr_iconst (pc := 389) 0 (by decide) dX12_readQuestion_389 ?_
  refine fr_iadd (pc := 390) dX12_readQuestion_390 ?_
  refine fr_istore (pc := 391) (lv' := [(5, .int (v5 + 0)), (6, .int 0), (0, .ref a0), (1, .int v1), (2, .int v2), (3, .int v3), (4, .int v4)]) (by decide) rfl dX12_readQuestion_391 ?_
  refine fr_goto (pc := 393) (tgt := 59) (by decide) dX12_readQuestion_393 ?_
  exact fr_sub [2, 3, 4, 5, 6, 0, 1] rfl hW
set_option maxHeartbeats 4000000 in
set_option maxRecDepth 100000 in
theorem q_X12_good {g : GG} {σ : Hs} {post : Option Value → Hs → Prop} (r0 : Nat) (hW : Rc σ r0 12 ∧ Do g M_X12_readQuestion 0 0 [.ref r0] σ (kV (fun s1 => FI s1 r0 12 29 (fun i2 => post (some (.int i2)) s1)))) : Do g M_X12_good 0 0 [.ref r0] σ post := by
  refine Do.of (by decide +kernel) (Nat.le_of_ble_eq_true rfl) ?_
  show Fr g M_X12_good (0, 0, 0, 0) [(0, .ref r0)] [] 0 σ post
  refine fr_aload_n (pc := 0) 0 rfl rfl dX12_good_0 ?_
  obtain ⟨hrc, hW⟩ := hW
  refine fr_callV_V (pc := 1) (As := []) (st := []) wd_X12_readQuestion w_1192 ok_X12_readQuestion (by decide) rfl (Nat.le_of_ble_eq_true rfl) dX12_good_1 ⟨Nat.le_refl 0, Nat.le_refl 0⟩ kc_X12 hrc hW (fun s1 hW => ?_)
  refine fr_aload_n (pc := 4) 0 rfl rfl dX12_good_4 ?_
  refine fr_getI (pc := 5) (T := TX12) (k := 29) kc_X12 (by decide) w_1189 dX12_good_5 hW (fun i2 hW => ?_)
  exact fr_iret (pc := 8) dX12_good_8 rfl ⟨Nat.le_refl 0, Nat.le_refl 0⟩ hW
set_option maxHeartbeats 4000000 in
set_option maxRecDepth 100000 in
theorem q_X7_isWhole {g : GG} {σ : Hs} {post : Option Value → Hs → Prop} (r0 : Nat) (hW : FI σ r0 7 3 (fun i1 => (i1 = 7 → post (some (.int 1)) σ) ∧ (¬ i1 = 7 → FI σ r0 7 3 (fun i2 => (¬ i2 = 9 → post (some (.int 0)) σ) ∧ (i2 = 9 → post (some (.int 1)) σ))))) : Do g M_X7_isWhole 0 0 [.ref r0] σ post := by
  refine Do.of (by decide +kernel) (Nat.le_of_ble_eq_true rfl) ?_
  show Fr g M_X7_isWhole (0, 0, 0, 0) [(0, .ref r0)] [] 0 σ post
  refine fr_aload_n (pc := 0) 0 rfl rfl dX7_isWhole_0 ?_
  refine fr_getI (pc := 1) (T := TX7) (k := 3) kc_X7 (by decide) w_1162 dX7_isWhole_1 hW (fun i1 hW => ?_)
  refine fr_bipush (pc := 4) 7 (by decide) dX7_isWhole_4 ?_
  refine fr_icmp_eq (pc := 6) (tgt := 18) (by decide) dX7_isWhole_6 hW (fun hW => ?_) (fun hW => ?_)
  · refine fr_iconst (pc := 18) 1 (by decide) dX7_isWhole_18 ?_
    refine fr_goto (pc := 19) (tgt := 23) (by decide) dX7_isWhole_19 ?_
    exact fr_zret (pc := 23) dX7_isWhole_23 rfl ⟨Nat.le_refl 0, Nat.le_refl 0⟩ ⟨rfl, hW⟩
  · refine fr_aload_n (pc := 9) 0 rfl rfl dX7_isWhole_9 ?_
    refine fr_getI (pc := 10) (T := TX7) (k := 3) kc_X7 (by decide) w_1162 dX7_isWhole_10 hW (fun i2 hW => ?_)
    refine fr_bipush (pc := 13) 9 (by decide) dX7_isWhole_13 ?_
    refine fr_icmp_ne (pc := 15) (tgt := 22) (by decide) dX7_isWhole_15 hW (fun hW => ?_) (fun hW => ?_)
    · refine fr_iconst (pc := 22) 0 (by decide) dX7_isWhole_22 ?_
      exact fr_zret (pc := 23) dX7_isWhole_23 rfl ⟨Nat.le_refl 0, Nat.le_refl 0⟩ ⟨rfl, hW⟩
    · refine fr_iconst (pc := 18) 1 (by decide) dX7_isWhole_18 ?_
      refine fr_goto (pc := 19) (tgt := 23) (by decide) dX7_isWhole_19 ?_
      exact fr_zret (pc := 23) dX7_isWhole_23 rfl ⟨Nat.le_refl 0, Nat.le_refl 0⟩ ⟨rfl, hW⟩
set_option maxHeartbeats 4000000 in
set_option maxRecDepth 100000 in
theorem q_X10_asked {g : GG} {σ : Hs} {post : Option Value → Hs → Prop} (r0 : Nat) (hW : FI σ r0 10 6 (fun i1 => post (some (.int i1)) σ)) : Do g M_X10_asked 0 0 [.ref r0] σ post := by
  refine Do.of (by decide +kernel) (Nat.le_of_ble_eq_true rfl) ?_
  show Fr g M_X10_asked (0, 0, 0, 0) [(0, .ref r0)] [] 0 σ post
  refine fr_aload_n (pc := 0) 0 rfl rfl dX10_asked_0 ?_
  refine fr_getI (pc := 1) (T := TX10) (k := 6) kc_X10 (by decide) w_1193 dX10_asked_1 hW (fun i1 hW => ?_)
  exact fr_iret (pc := 4) dX10_asked_4 rfl ⟨Nat.le_refl 0, Nat.le_refl 0⟩ hW
set_option maxHeartbeats 4000000 in
set_option maxRecDepth 100000 in
theorem q_X7_handOver {g : GG} {σ : Hs} {post : Option Value → Hs → Prop} (cM sM : Nat) (r0 : Nat) (hW : FR σ r0 7 2 (fun r1 => ((0) + 1 ≤ cM ∧ (0) + 7 ≤ sM) ∧ NW σ 6 [.null, .null, .int 0, .int 0, .int 0, .int 0, .int 0] (fun r2 s3 => ∃ mc5 ms6 : Nat, ((1) + mc5 ≤ cM ∧ (7) + ms6 ≤ sM) ∧ Do g M_X6_init mc5 ms6 [.ref r2] s3 (kV (fun s4 => PF s4 r0 7 2 (.ref r2) (fun s7 => ((1 + mc5) ≤ cM ∧ (7 + ms6) ≤ sM) ∧ post (some (.ref r1)) s7)))))) : Do g M_X7_handOver cM sM [.ref r0] σ post := by
  refine Do.of (by decide +kernel) (Nat.le_of_ble_eq_true rfl) ?_
  show Fr g M_X7_handOver (cM, sM, 0, 0) [(0, .ref r0)] [] 0 σ post
  refine fr_aload_n (pc := 0) 0 rfl rfl dX7_handOver_0 ?_
  refine fr_getR (pc := 1) (T := TX7) (k := 2) kc_X7 (by decide) w_927 dX7_handOver_1 hW (fun r1 hW => ?_)
  refine fr_astore_n (pc := 4) (lv' := [(1, .ref r1), (0, .ref r0)]) rfl (by decide) rfl dX7_handOver_4 ?_
  refine fr_aload_n (pc := 5) 1 rfl rfl dX7_handOver_5 ?_
  obtain ⟨hz, hW⟩ := hW
  refine fr_new (pc := 6) [.null, .null, .int 0, .int 0, .int 0, .int 0, .int 0] kc_X6 df_X6 ⟨w_925, w_926, w_4⟩ dX7_handOver_6 hz (Z' := (cM, sM, 1, 7)) rfl hW (fun r2 s3 hW => ?_)
  refine fr_dup (pc := 9) rfl dX7_handOver_9 ?_
  obtain ⟨mc5, ms6, hz, hW⟩ := hW
  refine fr_callIN_Va (pc := 10) (As := []) (st := [.ref r2, .ref r0]) wd_X6_init ⟨RX11, by decide +kernel⟩ ok_X6_init (by decide) rfl (Nat.le_of_ble_eq_true rfl) dX7_handOver_10 hz (Z' := (cM, sM, 1 + mc5, 7 + ms6)) rfl rfl rfl hW (fun s4 hW => ?_)
  refine fr_put (pc := 13) (T := TX7) (k := 2) kc_X7 (by decide) w_927 rfl rfl rfl dX7_handOver_13 hW (fun s7 hW => ?_)
  refine fr_aload_n (pc := 16) 0 rfl rfl dX7_handOver_16 ?_
  obtain ⟨hz, hW⟩ := hW
  exact fr_aret (pc := 17) dX7_handOver_17 rfl (Or.inr ⟨_, rfl⟩) hz hW
set_option maxHeartbeats 4000000 in
set_option maxRecDepth 100000 in
theorem q_X10_add {g : GG} {σ : Hs} {post : Option Value → Hs → Prop} (r0 : Nat) (p0 : Nat) (hW : FI σ r0 10 6 (fun i1 => (i1 < 0 → post (some (.int (-104))) σ) ∧ (¬ i1 < 0 → FR σ r0 10 2 (fun r2 => AN g σ r2 6 (fun i3 => (i1 < i3 → FR σ r0 10 2 (fun r4 => SR g σ r4 6 6 i1 p0 (fun s5 => FI s5 r0 10 6 (fun i6 => PF s5 r0 10 6 (.int (i6 + 1)) (fun s7 => post (some (.int i1)) s7))))) ∧ (¬ i1 < i3 → post (some (.int (-104))) σ)))))) : Do g M_X10_add 0 0 [.ref r0, .ref p0] σ post := by
  refine Do.of (by decide +kernel) (Nat.le_of_ble_eq_true rfl) ?_
  show Fr g M_X10_add (0, 0, 0, 0) [(0, .ref r0), (1, .ref p0)] [] 0 σ post
  refine fr_aload_n (pc := 0) 0 rfl rfl dX10_add_0 ?_
  refine fr_getI (pc := 1) (T := TX10) (k := 6) kc_X10 (by decide) w_1193 dX10_add_1 hW (fun i1 hW => ?_)
  refine fr_istore_n (pc := 4) (lv' := [(2, .int i1), (0, .ref r0), (1, .ref p0)]) rfl (by decide) rfl dX10_add_4 ?_
  refine fr_iload_n (pc := 5) 0 rfl rfl dX10_add_5 ?_
  refine fr_if_lt (pc := 6) (tgt := 18) (by decide) dX10_add_6 hW (fun hW => ?_) (fun hW => ?_)
  · refine fr_bipush (pc := 18) (-104) (by decide) dX10_add_18 ?_
    exact fr_iret (pc := 20) dX10_add_20 rfl ⟨Nat.le_refl 0, Nat.le_refl 0⟩ hW
  · refine fr_iload_n (pc := 9) 0 rfl rfl dX10_add_9 ?_
    refine fr_aload_n (pc := 10) 1 rfl rfl dX10_add_10 ?_
    refine fr_getR (pc := 11) (T := TX10) (k := 2) kc_X10 (by decide) w_955 dX10_add_11 hW (fun r2 hW => ?_)
    refine fr_alen (pc := 14) 6 (fun _ => rfl) dX10_add_14 hW (fun i3 hW => ?_)
    refine fr_icmp_lt (pc := 15) (tgt := 21) (by decide) dX10_add_15 hW (fun hW => ?_) (fun hW => ?_)
    · refine fr_aload_n (pc := 21) 1 rfl rfl dX10_add_21 ?_
      refine fr_getR (pc := 22) (T := TX10) (k := 2) kc_X10 (by decide) w_955 dX10_add_22 hW (fun r4 hW => ?_)
      refine fr_iload_n (pc := 25) 0 rfl rfl dX10_add_25 ?_
      refine fr_aload_n (pc := 26) 2 rfl rfl dX10_add_26 ?_
      refine fr_aast (pc := 27) 6 kc_X6 (fun _ => rfl) dX10_add_27 hW (fun s5 hW => ?_)
      refine fr_aload_n (pc := 28) 1 rfl rfl dX10_add_28 ?_
      refine fr_dup (pc := 29) rfl dX10_add_29 ?_
      refine fr_getI (pc := 30) (T := TX10) (k := 6) kc_X10 (by decide) w_1193 dX10_add_30 hW (fun i6 hW => ?_)
      refine fr_iconst (pc := 33) 1 (by decide) dX10_add_33 ?_
      refine fr_iadd (pc := 34) dX10_add_34 ?_
      refine fr_put (pc := 35) (T := TX10) (k := 6) kc_X10 (by decide) w_1193 rfl rfl rfl dX10_add_35 hW (fun s7 hW => ?_)
      refine fr_iload_n (pc := 38) 0 rfl rfl dX10_add_38 ?_
      exact fr_iret (pc := 39) dX10_add_39 rfl ⟨Nat.le_refl 0, Nat.le_refl 0⟩ hW
    · refine fr_bipush (pc := 18) (-104) (by decide) dX10_add_18 ?_
      exact fr_iret (pc := 20) dX10_add_20 rfl ⟨Nat.le_refl 0, Nat.le_refl 0⟩ hW
set_option maxHeartbeats 4000000 in
set_option maxRecDepth 100000 in
theorem q_X11_ask {g : GG} {σ : Hs} {post : Option Value → Hs → Prop} (cM sM : Nat) (r0 : Nat) (hW : FR σ r0 11 5 (fun r1 => ((0) ≤ cM ∧ (0) ≤ sM) ∧ Rc σ r1 7 ∧ Do g M_X7_read 0 0 [.ref r1] σ (kI (fun i3 s2 => FR s2 r0 11 5 (fun r6 => ((0) ≤ cM ∧ (0) ≤ sM) ∧ Rc s2 r6 7 ∧ Do g M_X7_length 0 0 [.ref r6] s2 (kI (fun i8 s7 => (i3 < i8 → ((0) ≤ cM ∧ (0) ≤ sM) ∧ post (some (.int (-103))) s7) ∧ (¬ i3 < i8 → FR s7 r0 11 5 (fun r11 => ((0) ≤ cM ∧ (0) ≤ sM) ∧ Rc s7 r11 7 ∧ Do g M_X7_isWhole 0 0 [.ref r11] s7 (kI (fun i13 s12 => (¬ i13 = 0 → FR s12 r0 11 3 (fun r16 => ((0) ≤ cM ∧ (0) ≤ sM) ∧ Rc s12 r16 10 ∧ Do g M_X10_asked 0 0 [.ref r16] s12 (kI (fun i18 s17 => (i18 < 8 → FR s17 r0 11 3 (fun r21 => FR s17 r0 11 5 (fun r22 => ∃ mc27 ms28 : Nat, ((0) + mc27 ≤ cM ∧ (0) + ms28 ≤ sM) ∧ Rc s17 r22 7 ∧ Do g M_X7_handOver mc27 ms28 [.ref r22] s17 (kA (fun s23 => ((0 + mc27) ≤ cM ∧ (0 + ms28) ≤ sM) ∧ Rc s23 r21 10 ∧ Do g M_X10_add 0 0 [.ref r21, .null] s23 (kI (fun i30 s29 => FR s29 r0 11 5 (fun r33 => ((0 + mc27) ≤ cM ∧ (0 + ms28) ≤ sM) ∧ Rc s29 r33 7 ∧ Do g M_X7_clear 0 0 [.ref r33] s29 (kV (fun s34 => ((0 + mc27) ≤ cM ∧ (0 + ms28) ≤ sM) ∧ post (some (.int i30)) s34)))))) (fun r26 s23 => ((0 + mc27) ≤ cM ∧ (0 + ms28) ≤ sM) ∧ Rc s23 r21 10 ∧ Do g M_X10_add 0 0 [.ref r21, .ref r26] s23 (kI (fun i36 s35 => FR s35 r0 11 5 (fun r39 => ((0 + mc27) ≤ cM ∧ (0 + ms28) ≤ sM) ∧ Rc s35 r39 7 ∧ Do g M_X7_clear 0 0 [.ref r39] s35 (kV (fun s40 => ((0 + mc27) ≤ cM ∧ (0 + ms28) ≤ sM) ∧ post (some (.int i36)) s40)))))))))) ∧ (¬ i18 < 8 → ((0) ≤ cM ∧ (0) ≤ sM) ∧ post (some (.int (-104))) s17))))) ∧ (i13 = 0 → ((0) ≤ cM ∧ (0) ≤ sM) ∧ post (some (.int (-103))) s12)))))))))))) : Do g M_X11_ask cM sM [.ref r0] σ post := by
  refine Do.of (by decide +kernel) (Nat.le_of_ble_eq_true rfl) ?_
  show Fr g M_X11_ask (cM, sM, 0, 0) [(0, .ref r0)] [] 0 σ post
  refine fr_aload_n (pc := 0) 0 rfl rfl dX11_ask_0 ?_
  refine fr_getR (pc := 1) (T := TX11) (k := 5) kc_X11 (by decide) w_981 dX11_ask_1 hW (fun r1 hW => ?_)
  obtain ⟨hz, hrc, hW⟩ := hW
  refine fr_callV_I (pc := 4) (As := []) (st := []) wd_X7_read w_1186 ok_X7_read (by decide) rfl (Nat.le_of_ble_eq_true rfl) dX11_ask_4 hz kc_X7 hrc hW (fun i3 s2 hW => ?_)
  refine fr_aload_n (pc := 7) 0 rfl rfl dX11_ask_7 ?_
  refine fr_getR (pc := 8) (T := TX11) (k := 5) kc_X11 (by decide) w_981 dX11_ask_8 hW (fun r6 hW => ?_)
  obtain ⟨hz, hrc, hW⟩ := hW
  refine fr_callV_I (pc := 11) (As := []) (st := [.int i3]) wd_X7_length w_1151 ok_X7_length (by decide) rfl (Nat.le_of_ble_eq_true rfl) dX11_ask_11 hz kc_X7 hrc hW (fun i8 s7 hW => ?_)
  refine fr_icmp_lt (pc := 14) (tgt := 27) (by decide) dX11_ask_14 hW (fun hW => ?_) (fun hW => ?_)
  · refine fr_bipush (pc := 27) (-103) (by decide) dX11_ask_27 ?_
    obtain ⟨hz, hW⟩ := hW
    exact fr_iret (pc := 29) dX11_ask_29 rfl hz hW
  · refine fr_aload_n (pc := 17) 0 rfl rfl dX11_ask_17 ?_
    refine fr_getR (pc := 18) (T := TX11) (k := 5) kc_X11 (by decide) w_981 dX11_ask_18 hW (fun r11 hW => ?_)
    obtain ⟨hz, hrc, hW⟩ := hW
    refine fr_callV_I (pc := 21) (As := []) (st := []) wd_X7_isWhole w_1194 ok_X7_isWhole (by decide) rfl (Nat.le_of_ble_eq_true rfl) dX11_ask_21 hz kc_X7 hrc hW (fun i13 s12 hW => ?_)
    refine fr_if_ne (pc := 24) (tgt := 30) (by decide) dX11_ask_24 hW (fun hW => ?_) (fun hW => ?_)
    · refine fr_aload_n (pc := 30) 0 rfl rfl dX11_ask_30 ?_
      refine fr_getR (pc := 31) (T := TX11) (k := 3) kc_X11 (by decide) w_995 dX11_ask_31 hW (fun r16 hW => ?_)
      obtain ⟨hz, hrc, hW⟩ := hW
      refine fr_callV_I (pc := 34) (As := []) (st := []) wd_X10_asked w_1195 ok_X10_asked (by decide) rfl (Nat.le_of_ble_eq_true rfl) dX11_ask_34 hz kc_X10 hrc hW (fun i18 s17 hW => ?_)
      refine fr_bipush (pc := 37) 8 (by decide) dX11_ask_37 ?_
      refine fr_icmp_lt (pc := 39) (tgt := 45) (by decide) dX11_ask_39 hW (fun hW => ?_) (fun hW => ?_)
      · refine fr_aload_n (pc := 45) 0 rfl rfl dX11_ask_45 ?_
        refine fr_getR (pc := 46) (T := TX11) (k := 3) kc_X11 (by decide) w_995 dX11_ask_46 hW (fun r21 hW => ?_)
        refine fr_aload_n (pc := 49) 0 rfl rfl dX11_ask_49 ?_
        refine fr_getR (pc := 50) (T := TX11) (k := 5) kc_X11 (by decide) w_981 dX11_ask_50 hW (fun r22 hW => ?_)
        obtain ⟨mc27, ms28, hz, hrc, hW⟩ := hW
        refine fr_callV_Aa (pc := 53) (As := []) (st := [.ref r21]) wd_X7_handOver w_1196 ok_X7_handOver (by decide) rfl (Nat.le_of_ble_eq_true rfl) dX11_ask_53 hz (Z' := (cM, sM, 0 + mc27, 0 + ms28)) rfl kc_X7 hrc hW (fun s23 hW => ?_) (fun r26 s23 hW => ?_)
        · obtain ⟨hz, hrc, hW⟩ := hW
          refine fr_callV_I (pc := 56) (As := [.null]) (st := []) wd_X10_add w_1197 ok_X10_add (by decide) rfl (Nat.le_of_ble_eq_true rfl) dX11_ask_56 hz kc_X10 hrc hW (fun i30 s29 hW => ?_)
          refine fr_istore_n (pc := 59) (lv' := [(1, .int i30), (0, .ref r0)]) rfl (by decide) rfl dX11_ask_59 ?_
          refine fr_aload_n (pc := 60) 1 rfl rfl dX11_ask_60 ?_
          refine fr_getR (pc := 61) (T := TX11) (k := 5) kc_X11 (by decide) w_981 dX11_ask_61 hW (fun r33 hW => ?_)
          obtain ⟨hz, hrc, hW⟩ := hW
          refine fr_callV_V (pc := 64) (As := []) (st := []) wd_X7_clear w_1155 ok_X7_clear (by decide) rfl (Nat.le_of_ble_eq_true rfl) dX11_ask_64 hz kc_X7 hrc hW (fun s34 hW => ?_)
          refine fr_iload_n (pc := 67) 0 rfl rfl dX11_ask_67 ?_
          obtain ⟨hz, hW⟩ := hW
          exact fr_iret (pc := 68) dX11_ask_68 rfl hz hW
        · obtain ⟨hz, hrc, hW⟩ := hW
          refine fr_callV_I (pc := 56) (As := [.ref r26]) (st := []) wd_X10_add w_1197 ok_X10_add (by decide) rfl (Nat.le_of_ble_eq_true rfl) dX11_ask_56 hz kc_X10 hrc hW (fun i36 s35 hW => ?_)
          refine fr_istore_n (pc := 59) (lv' := [(1, .int i36), (0, .ref r0)]) rfl (by decide) rfl dX11_ask_59 ?_
          refine fr_aload_n (pc := 60) 1 rfl rfl dX11_ask_60 ?_
          refine fr_getR (pc := 61) (T := TX11) (k := 5) kc_X11 (by decide) w_981 dX11_ask_61 hW (fun r39 hW => ?_)
          obtain ⟨hz, hrc, hW⟩ := hW
          refine fr_callV_V (pc := 64) (As := []) (st := []) wd_X7_clear w_1155 ok_X7_clear (by decide) rfl (Nat.le_of_ble_eq_true rfl) dX11_ask_64 hz kc_X7 hrc hW (fun s40 hW => ?_)
          refine fr_iload_n (pc := 67) 0 rfl rfl dX11_ask_67 ?_
          obtain ⟨hz, hW⟩ := hW
          exact fr_iret (pc := 68) dX11_ask_68 rfl hz hW
      · refine fr_bipush (pc := 42) (-104) (by decide) dX11_ask_42 ?_
        obtain ⟨hz, hW⟩ := hW
        exact fr_iret (pc := 44) dX11_ask_44 rfl hz hW
    · refine fr_bipush (pc := 27) (-103) (by decide) dX11_ask_27 ?_
      obtain ⟨hz, hW⟩ := hW
      exact fr_iret (pc := 29) dX11_ask_29 rfl hz hW
def J_X12_ask_28 (g : GG) (post : Option Value → Hs → Prop) (σ : Hs) (a0 : Nat) (v1 : Int32) : Prop := Fr g M_X12_ask (0, 0, 0, 0) [(0, .ref a0), (1, .int v1)] [] 28 σ post
def J_X12_ask_59 (g : GG) (post : Option Value → Hs → Prop) (σ : Hs) (a0 : Nat) (v1 : Int32) (t0 : Int32) : Prop := Fr g M_X12_ask (0, 0, 0, 0) [(0, .ref a0), (1, .int v1)] [.int t0] 59 σ post
def J_X12_ask_91 (g : GG) (post : Option Value → Hs → Prop) (σ : Hs) (a0 : Nat) (v1 : Int32) (v2 : Int32) (t0 : Int32) (t1 : Int32) (t2 : Nat) : Prop := Fr g M_X12_ask (0, 0, 0, 0) [(0, .ref a0), (1, .int v1), (2, .int v2)] [.int t0, .int t1, .ref t2] 91 σ post
set_option maxHeartbeats 4000000 in
set_option maxRecDepth 100000 in
theorem q_X12_ask {g : GG} {σ : Hs} {post : Option Value → Hs → Prop} (r0 : Nat) (hW : Rc σ r0 12 ∧ Do g M_X12_readQuestion 0 0 [.ref r0] σ (kV (fun s1 => FI s1 r0 12 30 (fun i2 => (¬ i2 = 0 → FI s1 r0 12 14 (fun i3 => (¬ i3 = 8 → J_X12_ask_28 g post s1 r0 0 ) ∧ (i3 = 8 → post (some (.int (-104))) s1))) ∧ (i2 = 0 → post (some (.int (-103))) s1))))) : Do g M_X12_ask 0 0 [.ref r0] σ post := by
  refine Do.of (by decide +kernel) (Nat.le_of_ble_eq_true rfl) ?_
  show Fr g M_X12_ask (0, 0, 0, 0) [(0, .ref r0)] [] 0 σ post
  refine fr_aload_n (pc := 0) 0 rfl rfl dX12_ask_0 ?_
  obtain ⟨hrc, hW⟩ := hW
  refine fr_callV_V (pc := 1) (As := []) (st := []) wd_X12_readQuestion w_1192 ok_X12_readQuestion (by decide) rfl (Nat.le_of_ble_eq_true rfl) dX12_ask_1 ⟨Nat.le_refl 0, Nat.le_refl 0⟩ kc_X12 hrc hW (fun s1 hW => ?_)
  refine fr_aload_n (pc := 4) 0 rfl rfl dX12_ask_4 ?_
  refine fr_getI (pc := 5) (T := TX12) (k := 30) kc_X12 (by decide) w_1190 dX12_ask_5 hW (fun i2 hW => ?_)
  refine fr_if_ne (pc := 8) (tgt := 14) (by decide) dX12_ask_8 hW (fun hW => ?_) (fun hW => ?_)
  · refine fr_aload_n (pc := 14) 0 rfl rfl dX12_ask_14 ?_
    refine fr_getI (pc := 15) (T := TX12) (k := 14) kc_X12 (by decide) w_1198 dX12_ask_15 hW (fun i3 hW => ?_)
    refine fr_bipush (pc := 18) 8 (by decide) dX12_ask_18 ?_
    refine fr_icmp_ne (pc := 20) (tgt := 26) (by decide) dX12_ask_20 hW (fun hW => ?_) (fun hW => ?_)
    · refine fr_iconst (pc := 26) 0 (by decide) dX12_ask_26 ?_
      refine fr_istore_n (pc := 27) (lv' := [(1, .int 0), (0, .ref r0)]) rfl (by decide) rfl dX12_ask_27 ?_
      exact fr_sub [1, 0] rfl hW
    · refine fr_bipush (pc := 23) (-104) (by decide) dX12_ask_23 ?_
      exact fr_iret (pc := 25) dX12_ask_25 rfl ⟨Nat.le_refl 0, Nat.le_refl 0⟩ hW
  · refine fr_bipush (pc := 11) (-103) (by decide) dX12_ask_11 ?_
    exact fr_iret (pc := 13) dX12_ask_13 rfl ⟨Nat.le_refl 0, Nat.le_refl 0⟩ hW
set_option maxHeartbeats 4000000 in
set_option maxRecDepth 100000 in
theorem q_X12_ask_28 {g : GG} {σ : Hs} {post : Option Value → Hs → Prop} (a0 : Nat) (v1 : Int32) (hW : (4 ≤ v1 → FR σ a0 12 16 (fun r4 => FI σ a0 12 14 (fun i5 => FI σ a0 12 32 (fun i6 => SI g σ r4 0 i5 i6 (fun s7 => FR s7 a0 12 17 (fun r8 => FI s7 a0 12 14 (fun i9 => FI s7 a0 12 33 (fun i10 => SI g s7 r8 0 i9 i10 (fun s11 => FR s11 a0 12 18 (fun r12 => FI s11 a0 12 14 (fun i13 => SI g s11 r12 0 i13 1 (fun s14 => FI s14 a0 12 14 (fun i15 => PF s14 a0 12 14 (.int (i15 + 1)) (fun s16 => PF s16 a0 12 12 (.int 0) (fun s17 => FI s17 a0 12 14 (fun i18 => post (some (.int (i18 - 1))) s17)))))))))))))))) ∧ (¬ 4 ≤ v1 → FR σ a0 12 31 (fun r19 => AI g σ r19 0 (2 * v1) (fun i20 => FR σ a0 12 31 (fun r21 => AI g σ r21 0 ((2 * v1) + 1) (fun i22 => (i20 ≤ i22 → J_X12_ask_59 g post σ a0 v1 0) ∧ (¬ i20 ≤ i22 → J_X12_ask_59 g post σ a0 v1 1))))))) : J_X12_ask_28 g post σ a0 v1 := by
  show Fr g M_X12_ask (0, 0, 0, 0) [(0, .ref a0), (1, .int v1)] [] 28 σ post
  refine fr_iload_n (pc := 28) 1 rfl rfl dX12_ask_28 ?_
  refine fr_iconst (pc := 29) 4 (by decide) dX12_ask_29 ?_
  refine fr_icmp_ge (pc := 30) (tgt := 134) (by decide) dX12_ask_30 hW (fun hW => ?_) (fun hW => ?_)
  · refine fr_aload_n (pc := 134) 0 rfl rfl dX12_ask_134 ?_
    refine fr_getR (pc := 135) (T := TX12) (k := 16) kc_X12 (by decide) w_1019 dX12_ask_135 hW (fun r4 hW => ?_)
    refine fr_aload_n (pc := 138) 0 rfl rfl dX12_ask_138 ?_
    refine fr_getI (pc := 139) (T := TX12) (k := 14) kc_X12 (by decide) w_1198 dX12_ask_139 hW (fun i5 hW => ?_)
    refine fr_aload_n (pc := 142) 0 rfl rfl dX12_ask_142 ?_
    refine fr_getI (pc := 143) (T := TX12) (k := 32) kc_X12 (by decide) w_1187 dX12_ask_143 hW (fun i6 hW => ?_)
    refine fr_iast (pc := 146) dX12_ask_146 hW (fun s7 hW => ?_)
    refine fr_aload_n (pc := 147) 0 rfl rfl dX12_ask_147 ?_
    refine fr_getR (pc := 148) (T := TX12) (k := 17) kc_X12 (by decide) w_1020 dX12_ask_148 hW (fun r8 hW => ?_)
    refine fr_aload_n (pc := 151) 0 rfl rfl dX12_ask_151 ?_
    refine fr_getI (pc := 152) (T := TX12) (k := 14) kc_X12 (by decide) w_1198 dX12_ask_152 hW (fun i9 hW => ?_)
    refine fr_aload_n (pc := 155) 0 rfl rfl dX12_ask_155 ?_
    refine fr_getI (pc := 156) (T := TX12) (k := 33) kc_X12 (by decide) w_1188 dX12_ask_156 hW (fun i10 hW => ?_)
    refine fr_iast (pc := 159) dX12_ask_159 hW (fun s11 hW => ?_)
    refine fr_aload_n (pc := 160) 0 rfl rfl dX12_ask_160 ?_
    refine fr_getR (pc := 161) (T := TX12) (k := 18) kc_X12 (by decide) w_1021 dX12_ask_161 hW (fun r12 hW => ?_)
    refine fr_aload_n (pc := 164) 0 rfl rfl dX12_ask_164 ?_
    refine fr_getI (pc := 165) (T := TX12) (k := 14) kc_X12 (by decide) w_1198 dX12_ask_165 hW (fun i13 hW => ?_)
    refine fr_iconst (pc := 168) 1 (by decide) dX12_ask_168 ?_
    refine fr_iast (pc := 169) dX12_ask_169 hW (fun s14 hW => ?_)
    refine fr_aload_n (pc := 170) 0 rfl rfl dX12_ask_170 ?_
    refine fr_dup (pc := 171) rfl dX12_ask_171 ?_
    refine fr_getI (pc := 172) (T := TX12) (k := 14) kc_X12 (by decide) w_1198 dX12_ask_172 hW (fun i15 hW => ?_)
    refine fr_iconst (pc := 175) 1 (by decide) dX12_ask_175 ?_
    refine fr_iadd (pc := 176) dX12_ask_176 ?_
    refine fr_put (pc := 177) (T := TX12) (k := 14) kc_X12 (by decide) w_1198 rfl rfl rfl dX12_ask_177 hW (fun s16 hW => ?_)
    refine fr_aload_n (pc := 180) 0 rfl rfl dX12_ask_180 ?_
    refine fr_iconst (pc := 181) 0 (by decide) dX12_ask_181 ?_
    refine fr_put (pc := 182) (T := TX12) (k := 12) kc_X12 (by decide) w_1154 rfl rfl rfl dX12_ask_182 hW (fun s17 hW => ?_)
    refine fr_aload_n (pc := 185) 0 rfl rfl dX12_ask_185 ?_
    refine fr_getI (pc := 186) (T := TX12) (k := 14) kc_X12 (by decide) w_1198 dX12_ask_186 hW (fun i18 hW => ?_)
    refine fr_iconst (pc := 189) 1 (by decide) dX12_ask_189 ?_
    refine fr_isub (pc := 190) dX12_ask_190 ?_
    exact fr_iret (pc := 191) dX12_ask_191 rfl ⟨Nat.le_refl 0, Nat.le_refl 0⟩ hW
  · refine fr_aload_n (pc := 33) 0 rfl rfl dX12_ask_33 ?_
    refine fr_getR (pc := 34) (T := TX12) (k := 31) kc_X12 (by decide) w_1026 dX12_ask_34 hW (fun r19 hW => ?_)
    refine fr_iconst (pc := 37) 2 (by decide) dX12_ask_37 ?_
    refine fr_iload_n (pc := 38) 1 rfl rfl dX12_ask_38 ?_
    refine fr_imul (pc := 39) dX12_ask_39 ?_
    refine fr_iald (pc := 40) dX12_ask_40 hW (fun i20 hW => ?_)
    refine fr_aload_n (pc := 41) 0 rfl rfl dX12_ask_41 ?_
    refine fr_getR (pc := 42) (T := TX12) (k := 31) kc_X12 (by decide) w_1026 dX12_ask_42 hW (fun r21 hW => ?_)
    refine fr_iconst (pc := 45) 2 (by decide) dX12_ask_45 ?_
    refine fr_iload_n (pc := 46) 1 rfl rfl dX12_ask_46 ?_
    refine fr_imul (pc := 47) dX12_ask_47 ?_
    refine fr_iconst (pc := 48) 1 (by decide) dX12_ask_48 ?_
    refine fr_iadd (pc := 49) dX12_ask_49 ?_
    refine fr_iald (pc := 50) dX12_ask_50 hW (fun i22 hW => ?_)
    refine fr_icmp_le (pc := 51) (tgt := 58) (by decide) dX12_ask_51 hW (fun hW => ?_) (fun hW => ?_)
    · refine fr_iconst (pc := 58) 0 (by decide) dX12_ask_58 ?_
      exact fr_sub [0, 1] rfl hW
    · refine fr_iconst (pc := 54) 1 (by decide) dX12_ask_54 ?_
      refine fr_goto (pc := 55) (tgt := 59) (by decide) dX12_ask_55 ?_
      exact fr_sub [0, 1] rfl hW
set_option maxHeartbeats 4000000 in
set_option maxRecDepth 100000 in
theorem q_X12_ask_59 {g : GG} {σ : Hs} {post : Option Value → Hs → Prop} (a0 : Nat) (v1 : Int32) (t0 : Int32) (hW : FR σ a0 12 15 (fun r23 => FI σ a0 12 14 (fun i24 => (t0 = 0 → FR σ a0 12 31 (fun r25 => AI g σ r25 0 (2 * v1) (fun i26 => J_X12_ask_91 g post σ a0 v1 t0 i26 (((8 * i24) + (2 * v1))) r23))) ∧ (¬ t0 = 0 → J_X12_ask_91 g post σ a0 v1 t0 0 (((8 * i24) + (2 * v1))) r23)))) : J_X12_ask_59 g post σ a0 v1 t0 := by
  show Fr g M_X12_ask (0, 0, 0, 0) [(0, .ref a0), (1, .int v1)] [.int t0] 59 σ post
  refine fr_istore_n (pc := 59) (lv' := [(2, .int t0), (0, .ref a0), (1, .int v1)]) rfl (by decide) rfl dX12_ask_59 ?_
  refine fr_aload_n (pc := 60) 1 rfl rfl dX12_ask_60 ?_
  refine fr_getR (pc := 61) (T := TX12) (k := 15) kc_X12 (by decide) w_1018 dX12_ask_61 hW (fun r23 hW => ?_)
  refine fr_bipush (pc := 64) 8 (by decide) dX12_ask_64 ?_
  refine fr_aload_n (pc := 66) 1 rfl rfl dX12_ask_66 ?_
  refine fr_getI (pc := 67) (T := TX12) (k := 14) kc_X12 (by decide) w_1198 dX12_ask_67 hW (fun i24 hW => ?_)
  refine fr_imul (pc := 70) dX12_ask_70 ?_
  refine fr_iconst (pc := 71) 2 (by decide) dX12_ask_71 ?_
  refine fr_iload_n (pc := 72) 2 rfl rfl dX12_ask_72 ?_
  refine fr_imul (pc := 73) dX12_ask_73 ?_
  refine fr_iadd (pc := 74) dX12_ask_74 ?_
  refine fr_iload_n (pc := 75) 0 rfl rfl dX12_ask_75 ?_
  refine fr_if_eq (pc := 76) (tgt := 83) (by decide) dX12_ask_76 hW (fun hW => ?_) (fun hW => ?_)
  · refine fr_aload_n (pc := 83) 1 rfl rfl dX12_ask_83 ?_
    refine fr_getR (pc := 84) (T := TX12) (k := 31) kc_X12 (by decide) w_1026 dX12_ask_84 hW (fun r25 hW => ?_)
    refine fr_iconst (pc := 87) 2 (by decide) dX12_ask_87 ?_
    refine fr_iload_n (pc := 88) 2 rfl rfl dX12_ask_88 ?_
    refine fr_imul (pc := 89) dX12_ask_89 ?_
    refine fr_iald (pc := 90) dX12_ask_90 hW (fun i26 hW => ?_)
    exact fr_sub [1, 2, 0] rfl hW
  · refine fr_iconst (pc := 79) 0 (by decide) dX12_ask_79 ?_
    refine fr_goto (pc := 80) (tgt := 91) (by decide) dX12_ask_80 ?_
    exact fr_sub [1, 2, 0] rfl hW
set_option maxHeartbeats 4000000 in
set_option maxRecDepth 100000 in
theorem q_X12_ask_91 {g : GG} {σ : Hs} {post : Option Value → Hs → Prop} (a0 : Nat) (v1 : Int32) (v2 : Int32) (t0 : Int32) (t1 : Int32) (t2 : Nat) (hW : SI g σ t2 0 t1 t0 (fun s27 => FR s27 a0 12 15 (fun r28 => FI s27 a0 12 14 (fun i29 => (v2 = 0 → FR s27 a0 12 31 (fun r30 => AI g s27 r30 0 ((2 * v1) + 1) (fun i31 => SI g s27 r28 0 (((8 * i29) + (2 * v1)) + 1) i31 (fun s32 => J_X12_ask_28 g post s32 a0 ((v1 + 1)) )))) ∧ (¬ v2 = 0 → SI g s27 r28 0 (((8 * i29) + (2 * v1)) + 1) (-1) (fun s33 => J_X12_ask_28 g post s33 a0 ((v1 + 1)) )))))) : J_X12_ask_91 g post σ a0 v1 v2 t0 t1 t2 := by
  show Fr g M_X12_ask (0, 0, 0, 0) [(0, .ref a0), (1, .int v1), (2, .int v2)] [.int t0, .int t1, .ref t2] 91 σ post
  refine fr_iast (pc := 91) dX12_ask_91 hW (fun s27 hW => ?_)
  refine fr_aload_n (pc := 92) 0 rfl rfl dX12_ask_92 ?_
  refine fr_getR (pc := 93) (T := TX12) (k := 15) kc_X12 (by decide) w_1018 dX12_ask_93 hW (fun r28 hW => ?_)
  refine fr_bipush (pc := 96) 8 (by decide) dX12_ask_96 ?_
  refine fr_aload_n (pc := 98) 0 rfl rfl dX12_ask_98 ?_
  refine fr_getI (pc := 99) (T := TX12) (k := 14) kc_X12 (by decide) w_1198 dX12_ask_99 hW (fun i29 hW => ?_)
  refine fr_imul (pc := 102) dX12_ask_102 ?_
  refine fr_iconst (pc := 103) 2 (by decide) dX12_ask_103 ?_
  refine fr_iload_n (pc := 104) 1 rfl rfl dX12_ask_104 ?_
  refine fr_imul (pc := 105) dX12_ask_105 ?_
  refine fr_iadd (pc := 106) dX12_ask_106 ?_
  refine fr_iconst (pc := 107) 1 (by decide) dX12_ask_107 ?_
  refine fr_iadd (pc := 108) dX12_ask_108 ?_
  refine fr_iload_n (pc := 109) 2 rfl rfl dX12_ask_109 ?_
  refine fr_if_eq (pc := 110) (tgt := 117) (by decide) dX12_ask_110 hW (fun hW => ?_) (fun hW => ?_)
  · refine fr_aload_n (pc := 117) 0 rfl rfl dX12_ask_117 ?_
    refine fr_getR (pc := 118) (T := TX12) (k := 31) kc_X12 (by decide) w_1026 dX12_ask_118 hW (fun r30 hW => ?_)
    refine fr_iconst (pc := 121) 2 (by decide) dX12_ask_121 ?_
    refine fr_iload_n (pc := 122) 1 rfl rfl dX12_ask_122 ?_
    refine fr_imul (pc := 123) dX12_ask_123 ?_
    refine fr_iconst (pc := 124) 1 (by decide) dX12_ask_124 ?_
    refine fr_iadd (pc := 125) dX12_ask_125 ?_
    refine fr_iald (pc := 126) dX12_ask_126 hW (fun i31 hW => ?_)
    refine fr_iast (pc := 127) dX12_ask_127 hW (fun s32 hW => ?_)
    refine fr_iinc (pc := 128) (lv' := [(1, .int (v1 + 1)), (0, .ref a0), (2, .int v2)]) (v1 + 1) 1 rfl (congrArg (fun z => v1 + z) (by decide)) (by decide) rfl dX12_ask_128 ?_
    refine fr_goto (pc := 131) (tgt := 28) (by decide) dX12_ask_131 ?_
    exact fr_sub [1, 0] rfl hW
  · refine fr_iconst (pc := 113) (-1) (by decide) dX12_ask_113 ?_
    refine fr_goto (pc := 114) (tgt := 127) (by decide) dX12_ask_114 ?_
    refine fr_iast (pc := 127) dX12_ask_127 hW (fun s33 hW => ?_)
    refine fr_iinc (pc := 128) (lv' := [(1, .int (v1 + 1)), (0, .ref a0), (2, .int v2)]) (v1 + 1) 1 rfl (congrArg (fun z => v1 + z) (by decide)) (by decide) rfl dX12_ask_128 ?_
    refine fr_goto (pc := 131) (tgt := 28) (by decide) dX12_ask_131 ?_
    exact fr_sub [1, 0] rfl hW
set_option maxHeartbeats 4000000 in
set_option maxRecDepth 100000 in
theorem q_X10_question {g : GG} {σ : Hs} {post : Option Value → Hs → Prop} (r0 : Nat) (p0 : Int32) (hW : (p0 < 0 → post (some (.null)) σ) ∧ (¬ p0 < 0 → FR σ r0 10 2 (fun r1 => AN g σ r1 6 (fun i2 => (i2 ≤ p0 → post (some (.null)) σ) ∧ (¬ i2 ≤ p0 → FR σ r0 10 2 (fun r3 => AR g σ r3 6 p0 (post (some (.null)) σ) (fun r4 => post (some (.ref r4)) σ))))))) : Do g M_X10_question 0 0 [.ref r0, .int p0] σ post := by
  refine Do.of (by decide +kernel) (Nat.le_of_ble_eq_true rfl) ?_
  show Fr g M_X10_question (0, 0, 0, 0) [(0, .ref r0), (1, .int p0)] [] 0 σ post
  refine fr_iload_n (pc := 0) 1 rfl rfl dX10_question_0 ?_
  refine fr_if_lt (pc := 1) (tgt := 22) (by decide) dX10_question_1 hW (fun hW => ?_) (fun hW => ?_)
  · refine fr_null (pc := 22) dX10_question_22 ?_
    exact fr_aret (pc := 23) dX10_question_23 rfl (Or.inl rfl) ⟨Nat.le_refl 0, Nat.le_refl 0⟩ hW
  · refine fr_iload_n (pc := 4) 1 rfl rfl dX10_question_4 ?_
    refine fr_aload_n (pc := 5) 0 rfl rfl dX10_question_5 ?_
    refine fr_getR (pc := 6) (T := TX10) (k := 2) kc_X10 (by decide) w_955 dX10_question_6 hW (fun r1 hW => ?_)
    refine fr_alen (pc := 9) 6 (fun _ => rfl) dX10_question_9 hW (fun i2 hW => ?_)
    refine fr_icmp_ge (pc := 10) (tgt := 22) (by decide) dX10_question_10 hW (fun hW => ?_) (fun hW => ?_)
    · refine fr_null (pc := 22) dX10_question_22 ?_
      exact fr_aret (pc := 23) dX10_question_23 rfl (Or.inl rfl) ⟨Nat.le_refl 0, Nat.le_refl 0⟩ hW
    · refine fr_aload_n (pc := 13) 0 rfl rfl dX10_question_13 ?_
      refine fr_getR (pc := 14) (T := TX10) (k := 2) kc_X10 (by decide) w_955 dX10_question_14 hW (fun r3 hW => ?_)
      refine fr_iload_n (pc := 17) 1 rfl rfl dX10_question_17 ?_
      refine fr_aald (pc := 18) 6 (fun _ => rfl) dX10_question_18 hW (fun hW => ?_) (fun r4 hW => ?_)
      · refine fr_goto (pc := 19) (tgt := 23) (by decide) dX10_question_19 ?_
        exact fr_aret (pc := 23) dX10_question_23 rfl (Or.inl rfl) ⟨Nat.le_refl 0, Nat.le_refl 0⟩ hW
      · refine fr_goto (pc := 19) (tgt := 23) (by decide) dX10_question_19 ?_
        exact fr_aret (pc := 23) dX10_question_23 rfl (Or.inr ⟨_, rfl⟩) ⟨Nat.le_refl 0, Nat.le_refl 0⟩ hW
set_option maxHeartbeats 4000000 in
set_option maxRecDepth 100000 in
theorem q_X6_least {g : GG} {σ : Hs} {post : Option Value → Hs → Prop} (r0 : Nat) (p0 : Int32) (hW : FR σ r0 6 0 (fun r1 => Rc σ r1 1 ∧ Do g M_X1_at 0 0 [.ref r1, .int p0] σ (kI (fun i3 s2 => post (some (.int i3)) s2)))) : Do g M_X6_least 0 0 [.ref r0, .int p0] σ post := by
  refine Do.of (by decide +kernel) (Nat.le_of_ble_eq_true rfl) ?_
  show Fr g M_X6_least (0, 0, 0, 0) [(0, .ref r0), (1, .int p0)] [] 0 σ post
  refine fr_aload_n (pc := 0) 0 rfl rfl dX6_least_0 ?_
  refine fr_getR (pc := 1) (T := TX6) (k := 0) kc_X6 (by decide) w_919 dX6_least_1 hW (fun r1 hW => ?_)
  refine fr_iload_n (pc := 4) 1 rfl rfl dX6_least_4 ?_
  obtain ⟨hrc, hW⟩ := hW
  refine fr_callV_I (pc := 5) (As := [.int p0]) (st := []) wd_X1_at w_1168 ok_X1_at (by decide) rfl (Nat.le_of_ble_eq_true rfl) dX6_least_5 ⟨Nat.le_refl 0, Nat.le_refl 0⟩ kc_X1 hrc hW (fun i3 s2 hW => ?_)
  exact fr_iret (pc := 8) dX6_least_8 rfl ⟨Nat.le_refl 0, Nat.le_refl 0⟩ hW
set_option maxHeartbeats 4000000 in
set_option maxRecDepth 100000 in
theorem q_X6_greatest {g : GG} {σ : Hs} {post : Option Value → Hs → Prop} (r0 : Nat) (p0 : Int32) (hW : FR σ r0 6 1 (fun r1 => Rc σ r1 1 ∧ Do g M_X1_at 0 0 [.ref r1, .int p0] σ (kI (fun i3 s2 => post (some (.int i3)) s2)))) : Do g M_X6_greatest 0 0 [.ref r0, .int p0] σ post := by
  refine Do.of (by decide +kernel) (Nat.le_of_ble_eq_true rfl) ?_
  show Fr g M_X6_greatest (0, 0, 0, 0) [(0, .ref r0), (1, .int p0)] [] 0 σ post
  refine fr_aload_n (pc := 0) 0 rfl rfl dX6_greatest_0 ?_
  refine fr_getR (pc := 1) (T := TX6) (k := 1) kc_X6 (by decide) w_920 dX6_greatest_1 hW (fun r1 hW => ?_)
  refine fr_iload_n (pc := 4) 1 rfl rfl dX6_greatest_4 ?_
  obtain ⟨hrc, hW⟩ := hW
  refine fr_callV_I (pc := 5) (As := [.int p0]) (st := []) wd_X1_at w_1168 ok_X1_at (by decide) rfl (Nat.le_of_ble_eq_true rfl) dX6_greatest_5 ⟨Nat.le_refl 0, Nat.le_refl 0⟩ kc_X1 hrc hW (fun i3 s2 hW => ?_)
  exact fr_iret (pc := 8) dX6_greatest_8 rfl ⟨Nat.le_refl 0, Nat.le_refl 0⟩ hW
set_option maxHeartbeats 4000000 in
set_option maxRecDepth 100000 in
theorem q_X6_letsNone {g : GG} {σ : Hs} {post : Option Value → Hs → Prop} (r0 : Nat) (p0 : Int32) (hW : Rc σ r0 6 ∧ Do g M_X6_least 0 0 [.ref r0, .int p0] σ (kI (fun i2 s1 => Rc s1 r0 6 ∧ Do g M_X6_greatest 0 0 [.ref r0, .int p0] s1 (kI (fun i6 s5 => (i2 ≤ i6 → post (some (.int 0)) s5) ∧ (¬ i2 ≤ i6 → post (some (.int 1)) s5)))))) : Do g M_X6_letsNone 0 0 [.ref r0, .int p0] σ post := by
  refine Do.of (by decide +kernel) (Nat.le_of_ble_eq_true rfl) ?_
  show Fr g M_X6_letsNone (0, 0, 0, 0) [(0, .ref r0), (1, .int p0)] [] 0 σ post
  refine fr_aload_n (pc := 0) 0 rfl rfl dX6_letsNone_0 ?_
  refine fr_iload_n (pc := 1) 1 rfl rfl dX6_letsNone_1 ?_
  obtain ⟨hrc, hW⟩ := hW
  refine fr_callV_I (pc := 2) (As := [.int p0]) (st := []) wd_X6_least w_1199 ok_X6_least (by decide) rfl (Nat.le_of_ble_eq_true rfl) dX6_letsNone_2 ⟨Nat.le_refl 0, Nat.le_refl 0⟩ kc_X6 hrc hW (fun i2 s1 hW => ?_)
  refine fr_aload_n (pc := 5) 0 rfl rfl dX6_letsNone_5 ?_
  refine fr_iload_n (pc := 6) 1 rfl rfl dX6_letsNone_6 ?_
  obtain ⟨hrc, hW⟩ := hW
  refine fr_callV_I (pc := 7) (As := [.int p0]) (st := [.int i2]) wd_X6_greatest w_1200 ok_X6_greatest (by decide) rfl (Nat.le_of_ble_eq_true rfl) dX6_letsNone_7 ⟨Nat.le_refl 0, Nat.le_refl 0⟩ kc_X6 hrc hW (fun i6 s5 hW => ?_)
  refine fr_icmp_le (pc := 10) (tgt := 17) (by decide) dX6_letsNone_10 hW (fun hW => ?_) (fun hW => ?_)
  · refine fr_iconst (pc := 17) 0 (by decide) dX6_letsNone_17 ?_
    exact fr_zret (pc := 18) dX6_letsNone_18 rfl ⟨Nat.le_refl 0, Nat.le_refl 0⟩ ⟨rfl, hW⟩
  · refine fr_iconst (pc := 13) 1 (by decide) dX6_letsNone_13 ?_
    refine fr_goto (pc := 14) (tgt := 18) (by decide) dX6_letsNone_14 ?_
    exact fr_zret (pc := 18) dX6_letsNone_18 rfl ⟨Nat.le_refl 0, Nat.le_refl 0⟩ ⟨rfl, hW⟩
def J_X11_bound_37 (g : GG) (post : Option Value → Hs → Prop) (σ : Hs) (v2 : Int32) (v3 : Int32) (a4 : Nat) : Prop := Fr g M_X11_bound (0, 0, 0, 0) [(2, .int v2), (3, .int v3), (4, .ref a4)] [] 37 σ post
set_option maxHeartbeats 4000000 in
set_option maxRecDepth 100000 in
theorem q_X11_bound {g : GG} {σ : Hs} {post : Option Value → Hs → Prop} (r0 : Nat) (p0 : Int32) (p1 : Int32) (p2 : Int32) (hW : FR σ r0 11 3 (fun r1 => Rc σ r1 10 ∧ Do g M_X10_question 0 0 [.ref r1, .int p0] σ (kA (fun s2 => post (some (.int (-101))) s2) (fun r5 s2 => Do g M_X11_isColumn 0 0 [.int p1] s2 (kI (fun i7 s6 => (¬ i7 = 0 → (p2 = 0 → J_X11_bound_37 g post s6 p1 p2 r5 ) ∧ (¬ p2 = 0 → (p2 = 1 → J_X11_bound_37 g post s6 p1 p2 r5 ) ∧ (¬ p2 = 1 → post (some (.int (-102))) s6))) ∧ (i7 = 0 → post (some (.int (-101))) s6))))))) : Do g M_X11_bound 0 0 [.ref r0, .int p0, .int p1, .int p2] σ post := by
  refine Do.of (by decide +kernel) (Nat.le_of_ble_eq_true rfl) ?_
  show Fr g M_X11_bound (0, 0, 0, 0) [(0, .ref r0), (1, .int p0), (2, .int p1), (3, .int p2)] [] 0 σ post
  refine fr_aload_n (pc := 0) 0 rfl rfl dX11_bound_0 ?_
  refine fr_getR (pc := 1) (T := TX11) (k := 3) kc_X11 (by decide) w_995 dX11_bound_1 hW (fun r1 hW => ?_)
  refine fr_iload_n (pc := 4) 1 rfl rfl dX11_bound_4 ?_
  obtain ⟨hrc, hW⟩ := hW
  refine fr_callV_A (pc := 5) (As := [.int p0]) (st := []) wd_X10_question w_1201 ok_X10_question (by decide) rfl (Nat.le_of_ble_eq_true rfl) dX11_bound_5 ⟨Nat.le_refl 0, Nat.le_refl 0⟩ kc_X10 hrc hW (fun s2 hW => ?_) (fun r5 s2 hW => ?_)
  · refine fr_astoreN (pc := 8) (lv' := [(4, .null), (0, .ref r0), (1, .int p0), (2, .int p1), (3, .int p2)]) (by decide) rfl dX11_bound_8 ?_
    refine fr_aloadN (pc := 10) 0 rfl dX11_bound_10 ?_
    refine fr_ifnullN (pc := 12) (tgt := 22) (by decide) dX11_bound_12 ?_
    refine fr_bipush (pc := 22) (-101) (by decide) dX11_bound_22 ?_
    exact fr_iret (pc := 24) dX11_bound_24 rfl ⟨Nat.le_refl 0, Nat.le_refl 0⟩ hW
  · refine fr_astore (pc := 8) (lv' := [(4, .ref r5), (0, .ref r0), (1, .int p0), (2, .int p1), (3, .int p2)]) (by decide) rfl dX11_bound_8 ?_
    refine fr_aload (pc := 10) 0 rfl dX11_bound_10 ?_
    refine fr_ifnull (pc := 12) dX11_bound_12 ?_
    refine fr_iload_n (pc := 15) 3 rfl rfl dX11_bound_15 ?_
    refine fr_callS_I (pc := 16) (As := [.int p1]) (st := []) wd_X11_isColumn w_1084 ok_X11_isColumn (by decide) rfl (Nat.le_of_ble_eq_true rfl) dX11_bound_16 ⟨Nat.le_refl 0, Nat.le_refl 0⟩ hW (fun i7 s6 hW => ?_)
    refine fr_if_ne (pc := 19) (tgt := 25) (by decide) dX11_bound_19 hW (fun hW => ?_) (fun hW => ?_)
    · refine fr_iload_n (pc := 25) 4 rfl rfl dX11_bound_25 ?_
      refine fr_if_eq (pc := 26) (tgt := 37) (by decide) dX11_bound_26 hW (fun hW => ?_) (fun hW => ?_)
      · exact fr_sub [3, 4, 0] rfl hW
      · refine fr_iload_n (pc := 29) 4 rfl rfl dX11_bound_29 ?_
        refine fr_iconst (pc := 30) 1 (by decide) dX11_bound_30 ?_
        refine fr_icmp_eq (pc := 31) (tgt := 37) (by decide) dX11_bound_31 hW (fun hW => ?_) (fun hW => ?_)
        · exact fr_sub [3, 4, 0] rfl hW
        · refine fr_bipush (pc := 34) (-102) (by decide) dX11_bound_34 ?_
          exact fr_iret (pc := 36) dX11_bound_36 rfl ⟨Nat.le_refl 0, Nat.le_refl 0⟩ hW
    · refine fr_bipush (pc := 22) (-101) (by decide) dX11_bound_22 ?_
      exact fr_iret (pc := 24) dX11_bound_24 rfl ⟨Nat.le_refl 0, Nat.le_refl 0⟩ hW
set_option maxHeartbeats 4000000 in
set_option maxRecDepth 100000 in
theorem q_X11_bound_37 {g : GG} {σ : Hs} {post : Option Value → Hs → Prop} (v2 : Int32) (v3 : Int32) (a4 : Nat) (hW : Rc σ a4 6 ∧ Do g M_X6_letsNone 0 0 [.ref a4, .int v2] σ (kI (fun i11 s10 => (i11 = 0 → (¬ v3 = 0 → Rc s10 a4 6 ∧ Do g M_X6_greatest 0 0 [.ref a4, .int v2] s10 (kI (fun i15 s14 => post (some (.int i15)) s14))) ∧ (v3 = 0 → Rc s10 a4 6 ∧ Do g M_X6_least 0 0 [.ref a4, .int v2] s10 (kI (fun i19 s18 => post (some (.int i19)) s18)))) ∧ (¬ i11 = 0 → (¬ v3 = 0 → post (some (.int (-1))) s10) ∧ (v3 = 0 → post (some (.int 0)) s10))))) : J_X11_bound_37 g post σ v2 v3 a4 := by
  show Fr g M_X11_bound (0, 0, 0, 0) [(2, .int v2), (3, .int v3), (4, .ref a4)] [] 37 σ post
  refine fr_aload (pc := 37) 2 rfl dX11_bound_37 ?_
  refine fr_iload_n (pc := 39) 0 rfl rfl dX11_bound_39 ?_
  obtain ⟨hrc, hW⟩ := hW
  refine fr_callV_I (pc := 40) (As := [.int v2]) (st := []) wd_X6_letsNone w_1202 ok_X6_letsNone (by decide) rfl (Nat.le_of_ble_eq_true rfl) dX11_bound_40 ⟨Nat.le_refl 0, Nat.le_refl 0⟩ kc_X6 hrc hW (fun i11 s10 hW => ?_)
  refine fr_if_eq (pc := 43) (tgt := 56) (by decide) dX11_bound_43 hW (fun hW => ?_) (fun hW => ?_)
  · refine fr_iload_n (pc := 56) 1 rfl rfl dX11_bound_56 ?_
    refine fr_if_ne (pc := 57) (tgt := 69) (by decide) dX11_bound_57 hW (fun hW => ?_) (fun hW => ?_)
    · refine fr_aload (pc := 69) 2 rfl dX11_bound_69 ?_
      refine fr_iload_n (pc := 71) 0 rfl rfl dX11_bound_71 ?_
      obtain ⟨hrc, hW⟩ := hW
      refine fr_callV_I (pc := 72) (As := [.int v2]) (st := []) wd_X6_greatest w_1204 ok_X6_greatest (by decide) rfl (Nat.le_of_ble_eq_true rfl) dX11_bound_72 ⟨Nat.le_refl 0, Nat.le_refl 0⟩ kc_X6 hrc hW (fun i15 s14 hW => ?_)
      exact fr_iret (pc := 75) dX11_bound_75 rfl ⟨Nat.le_refl 0, Nat.le_refl 0⟩ hW
    · refine fr_aload (pc := 60) 2 rfl dX11_bound_60 ?_
      refine fr_iload_n (pc := 62) 0 rfl rfl dX11_bound_62 ?_
      obtain ⟨hrc, hW⟩ := hW
      refine fr_callV_I (pc := 63) (As := [.int v2]) (st := []) wd_X6_least w_1203 ok_X6_least (by decide) rfl (Nat.le_of_ble_eq_true rfl) dX11_bound_63 ⟨Nat.le_refl 0, Nat.le_refl 0⟩ kc_X6 hrc hW (fun i19 s18 hW => ?_)
      refine fr_goto (pc := 66) (tgt := 75) (by decide) dX11_bound_66 ?_
      exact fr_iret (pc := 75) dX11_bound_75 rfl ⟨Nat.le_refl 0, Nat.le_refl 0⟩ hW
  · refine fr_iload_n (pc := 46) 1 rfl rfl dX11_bound_46 ?_
    refine fr_if_ne (pc := 47) (tgt := 54) (by decide) dX11_bound_47 hW (fun hW => ?_) (fun hW => ?_)
    · refine fr_iconst (pc := 54) (-1) (by decide) dX11_bound_54 ?_
      exact fr_iret (pc := 55) dX11_bound_55 rfl ⟨Nat.le_refl 0, Nat.le_refl 0⟩ hW
    · refine fr_iconst (pc := 50) 0 (by decide) dX11_bound_50 ?_
      refine fr_goto (pc := 51) (tgt := 55) (by decide) dX11_bound_51 ?_
      exact fr_iret (pc := 55) dX11_bound_55 rfl ⟨Nat.le_refl 0, Nat.le_refl 0⟩ hW
