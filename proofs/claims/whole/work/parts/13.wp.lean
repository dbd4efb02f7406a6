def J_X2_init_73 (g : GG) (post : Option Value → Hs → Prop) (cM sM kM nM : Nat) (σ : Hs) (a0 : Nat) (v2 : Int32) (t0 : Int32) (t1 : Nat) : Prop := Fr g M_X2_init (cM, sM, kM, nM) [(0, .ref a0), (2, .int v2)] [.int t0, .ref t1] 73 σ post
def J_X2_init_119 (g : GG) (post : Option Value → Hs → Prop) (cM sM kM nM : Nat) (σ : Hs) (a0 : Nat) (v3 : Int32) (v4 : Int32) (v5 : Int32) : Prop := Fr g M_X2_init (cM, sM, kM, nM) [(0, .ref a0), (3, .int v3), (4, .int v4), (5, .int v5)] [] 119 σ post
set_option maxHeartbeats 4000000 in
set_option maxRecDepth 100000 in
theorem q_X2_init {g : GG} {σ : Hs} {post : Option Value → Hs → Prop} (cM sM : Nat) (r0 : Nat) (p0 : Nat) (p1 : Int32) (hW : ((0) + 1 ≤ cM ∧ (0) + 1 ≤ sM) ∧ NW σ 1 [.null] (fun r1 s2 => ∃ mc4 ms5 : Nat, ((1) + mc4 ≤ cM ∧ (1) + ms5 ≤ sM) ∧ Do g M_X1_init mc4 ms5 [.ref r1, .int 3] s2 (kV (fun s3 => PF s3 r0 2 5 (.ref r1) (fun s6 => ((1 + mc4) + 1 ≤ cM ∧ (1 + ms5) + 1 ≤ sM) ∧ NW s6 1 [.null] (fun r7 s8 => ∃ mc10 ms11 : Nat, ((1 + mc4 + 1) + mc10 ≤ cM ∧ (1 + ms5 + 1) + ms11 ≤ sM) ∧ Do g M_X1_init mc10 ms11 [.ref r7, .int 64] s8 (kV (fun s9 => PF s9 r0 2 6 (.ref r7) (fun s12 => ((1 + mc4 + 1 + mc10) + 1 ≤ cM ∧ (1 + ms5 + 1 + ms11) + 1 ≤ sM) ∧ NW s12 1 [.null] (fun r13 s14 => ∃ mc16 ms17 : Nat, ((1 + mc4 + 1 + mc10 + 1) + mc16 ≤ cM ∧ (1 + ms5 + 1 + ms11 + 1) + ms17 ≤ sM) ∧ Do g M_X1_init mc16 ms17 [.ref r13, .int 64] s14 (kV (fun s15 => PF s15 r0 2 7 (.ref r13) (fun s18 => PF s18 r0 2 0 (.ref p0) (fun s19 => PF s19 r0 2 1 (.int p1) (fun s20 => (p1 < 25 → (p1 < 5 → J_X2_init_73 g post cM sM (1 + mc4 + 1 + mc10 + 1 + mc16) (1 + ms5 + 1 + ms11 + 1 + ms17) s20 r0 p1 1 r0) ∧ (¬ p1 < 5 → J_X2_init_73 g post cM sM (1 + mc4 + 1 + mc10 + 1 + mc16) (1 + ms5 + 1 + ms11 + 1 + ms17) s20 r0 p1 2 r0)) ∧ (¬ p1 < 25 → J_X2_init_73 g post cM sM (1 + mc4 + 1 + mc10 + 1 + mc16) (1 + ms5 + 1 + ms11 + 1 + ms17) s20 r0 p1 3 r0)))))))))))))))) : Do g M_X2_init cM sM [.ref r0, .ref p0, .int p1] σ post := by
  refine Do.of (by decide +kernel) (Nat.le_of_ble_eq_true rfl) ?_
  show Fr g M_X2_init (cM, sM, 0, 0) [(0, .ref r0), (1, .ref p0), (2, .int p1)] [] 0 σ post
  refine fr_aload_n (pc := 0) 0 rfl rfl dX2_init_0 ?_
  refine fr_obj (pc := 1) ⟨w_1114, w_915, w_916⟩ (by decide) (Nat.le_of_ble_eq_true rfl) dX2_init_1 ?_
  refine fr_aload_n (pc := 4) 0 rfl rfl dX2_init_4 ?_
  obtain ⟨hz, hW⟩ := hW
  refine fr_new (pc := 5) [.null] kc_X1 df_X1 ⟨w_1112, w_918, w_1⟩ dX2_init_5 hz (Z' := (cM, sM, 1, 1)) rfl hW (fun r1 s2 hW => ?_)
  refine fr_dup (pc := 8) rfl dX2_init_8 ?_
  refine fr_iconst (pc := 9) 3 (by decide) dX2_init_9 ?_
  obtain ⟨mc4, ms5, hz, hW⟩ := hW
  refine fr_callI_Va (pc := 10) (As := [.int 3]) (st := [.ref r1, .ref r0]) wd_X1_init w_1115 ok_X1_init (by decide) rfl (Nat.le_of_ble_eq_true rfl) dX2_init_10 hz (Z' := (cM, sM, 1 + mc4, 1 + ms5)) rfl rfl rfl hW (fun s3 hW => ?_)
  refine fr_putF (pc := 13) (T := TX2) (k := 5) kc_X2 (by decide) w_1037 rfl rfl rfl rfl rfl dX2_init_13 hW (fun s6 hW => ?_)
  refine fr_aload_n (pc := 16) 0 rfl rfl dX2_init_16 ?_
  obtain ⟨hz, hW⟩ := hW
  refine fr_new (pc := 17) [.null] kc_X1 df_X1 ⟨w_1112, w_918, w_1⟩ dX2_init_17 hz (Z' := (cM, sM, 1 + mc4 + 1, 1 + ms5 + 1)) rfl hW (fun r7 s8 hW => ?_)
  refine fr_dup (pc := 20) rfl dX2_init_20 ?_
  refine fr_bipush (pc := 21) 64 (by decide) dX2_init_21 ?_
  obtain ⟨mc10, ms11, hz, hW⟩ := hW
  refine fr_callI_Va (pc := 23) (As := [.int 64]) (st := [.ref r7, .ref r0]) wd_X1_init w_1115 ok_X1_init (by decide) rfl (Nat.le_of_ble_eq_true rfl) dX2_init_23 hz (Z' := (cM, sM, 1 + mc4 + 1 + mc10, 1 + ms5 + 1 + ms11)) rfl rfl rfl hW (fun s9 hW => ?_)
  refine fr_putF (pc := 26) (T := TX2) (k := 6) kc_X2 (by decide) w_1042 rfl rfl rfl rfl rfl dX2_init_26 hW (fun s12 hW => ?_)
  refine fr_aload_n (pc := 29) 0 rfl rfl dX2_init_29 ?_
  obtain ⟨hz, hW⟩ := hW
  refine fr_new (pc := 30) [.null] kc_X1 df_X1 ⟨w_1112, w_918, w_1⟩ dX2_init_30 hz (Z' := (cM, sM, 1 + mc4 + 1 + mc10 + 1, 1 + ms5 + 1 + ms11 + 1)) rfl hW (fun r13 s14 hW => ?_)
  refine fr_dup (pc := 33) rfl dX2_init_33 ?_
  refine fr_bipush (pc := 34) 64 (by decide) dX2_init_34 ?_
  obtain ⟨mc16, ms17, hz, hW⟩ := hW
  refine fr_callI_Va (pc := 36) (As := [.int 64]) (st := [.ref r13, .ref r0]) wd_X1_init w_1115 ok_X1_init (by decide) rfl (Nat.le_of_ble_eq_true rfl) dX2_init_36 hz (Z' := (cM, sM, 1 + mc4 + 1 + mc10 + 1 + mc16, 1 + ms5 + 1 + ms11 + 1 + ms17)) rfl rfl rfl hW (fun s15 hW => ?_)
  refine fr_putF (pc := 39) (T := TX2) (k := 7) kc_X2 (by decide) w_1045 rfl rfl rfl rfl rfl dX2_init_39 hW (fun s18 hW => ?_)
  refine fr_aload_n (pc := 42) 0 rfl rfl dX2_init_42 ?_
  refine fr_aload_n (pc := 43) 1 rfl rfl dX2_init_43 ?_
  refine fr_putF (pc := 44) (T := TX2) (k := 0) kc_X2 (by decide) w_1038 rfl rfl rfl rfl rfl dX2_init_44 hW (fun s19 hW => ?_)
  refine fr_aload_n (pc := 47) 0 rfl rfl dX2_init_47 ?_
  refine fr_iload_n (pc := 48) 2 rfl rfl dX2_init_48 ?_
  refine fr_putF (pc := 49) (T := TX2) (k := 1) kc_X2 (by decide) w_1110 rfl rfl rfl rfl rfl dX2_init_49 hW (fun s20 hW => ?_)
  refine fr_aload_n (pc := 52) 0 rfl rfl dX2_init_52 ?_
  refine fr_iload_n (pc := 53) 2 rfl rfl dX2_init_53 ?_
  refine fr_bipush (pc := 54) 25 (by decide) dX2_init_54 ?_
  refine fr_icmp_lt (pc := 56) (tgt := 63) (by decide) dX2_init_56 hW (fun hW => ?_) (fun hW => ?_)
  · refine fr_iload_n (pc := 63) 2 rfl rfl dX2_init_63 ?_
    refine fr_iconst (pc := 64) 5 (by decide) dX2_init_64 ?_
    refine fr_icmp_lt (pc := 65) (tgt := 72) (by decide) dX2_init_65 hW (fun hW => ?_) (fun hW => ?_)
    · refine fr_iconst (pc := 72) 1 (by decide) dX2_init_72 ?_
      exact fr_sub [0, 2] rfl hW
    · refine fr_iconst (pc := 68) 2 (by decide) dX2_init_68 ?_
      refine fr_goto (pc := 69) (tgt := 73) (by decide) dX2_init_69 ?_
      exact fr_sub [0, 2] rfl hW
  · refine fr_iconst (pc := 59) 3 (by decide) dX2_init_59 ?_
    refine fr_goto (pc := 60) (tgt := 73) (by decide) dX2_init_60 ?_
    exact fr_sub [0, 2] rfl hW
set_option maxHeartbeats 4000000 in
set_option maxRecDepth 100000 in
theorem q_X2_init_73 {g : GG} {σ : Hs} {post : Option Value → Hs → Prop} (cM sM kM nM : Nat) (a0 : Nat) (v2 : Int32) (t0 : Int32) (t1 : Nat) (hW : PF σ t1 2 2 (.int t0) (fun s21 => FI s21 a0 2 2 (fun i22 => (¬ i22 = 1 → FI s21 a0 2 2 (fun i23 => (¬ i23 = 2 → PF s21 a0 2 3 (.int 3) (fun s24 => FI s24 a0 2 2 (fun i25 => J_X2_init_119 g post cM sM kM nM s24 a0 v2 0 ((i25 - 1)) ))) ∧ (i23 = 2 → PF s21 a0 2 3 (.int 4) (fun s26 => FI s26 a0 2 2 (fun i27 => J_X2_init_119 g post cM sM kM nM s26 a0 v2 0 ((i27 - 1)) ))))) ∧ (i22 = 1 → PF s21 a0 2 3 (.int 6) (fun s28 => FI s28 a0 2 2 (fun i29 => J_X2_init_119 g post cM sM kM nM s28 a0 v2 0 ((i29 - 1)) )))))) : J_X2_init_73 g post cM sM kM nM σ a0 v2 t0 t1 := by
  show Fr g M_X2_init (cM, sM, kM, nM) [(0, .ref a0), (2, .int v2)] [.int t0, .ref t1] 73 σ post
  refine fr_putF (pc := 73) (T := TX2) (k := 2) kc_X2 (by decide) w_1036 rfl rfl rfl rfl rfl dX2_init_73 hW (fun s21 hW => ?_)
  refine fr_aload_n (pc := 76) 0 rfl rfl dX2_init_76 ?_
  refine fr_aload_n (pc := 77) 0 rfl rfl dX2_init_77 ?_
  refine fr_getI (pc := 78) (T := TX2) (k := 2) kc_X2 (by decide) w_1036 dX2_init_78 hW (fun i22 hW => ?_)
  refine fr_iconst (pc := 81) 1 (by decide) dX2_init_81 ?_
  refine fr_icmp_ne (pc := 82) (tgt := 90) (by decide) dX2_init_82 hW (fun hW => ?_) (fun hW => ?_)
  · refine fr_aload_n (pc := 90) 0 rfl rfl dX2_init_90 ?_
    refine fr_getI (pc := 91) (T := TX2) (k := 2) kc_X2 (by decide) w_1036 dX2_init_91 hW (fun i23 hW => ?_)
    refine fr_iconst (pc := 94) 2 (by decide) dX2_init_94 ?_
    refine fr_icmp_ne (pc := 95) (tgt := 102) (by decide) dX2_init_95 hW (fun hW => ?_) (fun hW => ?_)
    · refine fr_iconst (pc := 102) 3 (by decide) dX2_init_102 ?_
      refine fr_putF (pc := 103) (T := TX2) (k := 3) kc_X2 (by decide) w_1053 rfl rfl rfl rfl rfl dX2_init_103 hW (fun s24 hW => ?_)
      refine fr_iload_n (pc := 106) 1 rfl rfl dX2_init_106 ?_
      refine fr_istore_n (pc := 107) (lv' := [(3, .int v2), (0, .ref a0), (2, .int v2)]) rfl (by decide) rfl dX2_init_107 ?_
      refine fr_iconst (pc := 108) 0 (by decide) dX2_init_108 ?_
      refine fr_istore (pc := 109) (lv' := [(4, .int 0), (3, .int v2), (0, .ref a0), (2, .int v2)]) (by decide) rfl dX2_init_109 ?_
      refine fr_aload_n (pc := 111) 2 rfl rfl dX2_init_111 ?_
      refine fr_getI (pc := 112) (T := TX2) (k := 2) kc_X2 (by decide) w_1036 dX2_init_112 hW (fun i25 hW => ?_)
      refine fr_iconst (pc := 115) 1 (by decide) dX2_init_115 ?_
      refine fr_isub (pc := 116) dX2_init_116 ?_
      refine fr_istore (pc := 117) (lv' := [(5, .int (i25 - 1)), (4, .int 0), (3, .int v2), (0, .ref a0), (2, .int v2)]) (by decide) rfl dX2_init_117 ?_
      exact fr_sub [3, 2, 1, 0] rfl hW
    · refine fr_iconst (pc := 98) 4 (by decide) dX2_init_98 ?_
      refine fr_goto (pc := 99) (tgt := 103) (by decide) dX2_init_99 ?_
      refine fr_putF (pc := 103) (T := TX2) (k := 3) kc_X2 (by decide) w_1053 rfl rfl rfl rfl rfl dX2_init_103 hW (fun s26 hW => ?_)
      refine fr_iload_n (pc := 106) 1 rfl rfl dX2_init_106 ?_
      refine fr_istore_n (pc := 107) (lv' := [(3, .int v2), (0, .ref a0), (2, .int v2)]) rfl (by decide) rfl dX2_init_107 ?_
      refine fr_iconst (pc := 108) 0 (by decide) dX2_init_108 ?_
      refine fr_istore (pc := 109) (lv' := [(4, .int 0), (3, .int v2), (0, .ref a0), (2, .int v2)]) (by decide) rfl dX2_init_109 ?_
      refine fr_aload_n (pc := 111) 2 rfl rfl dX2_init_111 ?_
      refine fr_getI (pc := 112) (T := TX2) (k := 2) kc_X2 (by decide) w_1036 dX2_init_112 hW (fun i27 hW => ?_)
      refine fr_iconst (pc := 115) 1 (by decide) dX2_init_115 ?_
      refine fr_isub (pc := 116) dX2_init_116 ?_
      refine fr_istore (pc := 117) (lv' := [(5, .int (i27 - 1)), (4, .int 0), (3, .int v2), (0, .ref a0), (2, .int v2)]) (by decide) rfl dX2_init_117 ?_
      exact fr_sub [3, 2, 1, 0] rfl hW
  · refine fr_bipush (pc := 85) 6 (by decide) dX2_init_85 ?_
    refine fr_goto (pc := 87) (tgt := 103) (by decide) dX2_init_87 ?_
    refine fr_putF (pc := 103) (T := TX2) (k := 3) kc_X2 (by decide) w_1053 rfl rfl rfl rfl rfl dX2_init_103 hW (fun s28 hW => ?_)
    refine fr_iload_n (pc := 106) 1 rfl rfl dX2_init_106 ?_
    refine fr_istore_n (pc := 107) (lv' := [(3, .int v2), (0, .ref a0), (2, .int v2)]) rfl (by decide) rfl dX2_init_107 ?_
    refine fr_iconst (pc := 108) 0 (by decide) dX2_init_108 ?_
    refine fr_istore (pc := 109) (lv' := [(4, .int 0), (3, .int v2), (0, .ref a0), (2, .int v2)]) (by decide) rfl dX2_init_109 ?_
    refine fr_aload_n (pc := 111) 2 rfl rfl dX2_init_111 ?_
    refine fr_getI (pc := 112) (T := TX2) (k := 2) kc_X2 (by decide) w_1036 dX2_init_112 hW (fun i29 hW => ?_)
    refine fr_iconst (pc := 115) 1 (by decide) dX2_init_115 ?_
    refine fr_isub (pc := 116) dX2_init_116 ?_
    refine fr_istore (pc := 117) (lv' := [(5, .int (i29 - 1)), (4, .int 0), (3, .int v2), (0, .ref a0), (2, .int v2)]) (by decide) rfl dX2_init_117 ?_
    exact fr_sub [3, 2, 1, 0] rfl hW
set_option maxHeartbeats 4000000 in
set_option maxRecDepth 100000 in
theorem q_X2_init_119 {g : GG} {σ : Hs} {post : Option Value → Hs → Prop} (cM sM kM nM : Nat) (a0 : Nat) (v3 : Int32) (v4 : Int32) (v5 : Int32) (hW : (v5 < 0 → PF σ a0 2 4 (.int v4) (fun s30 => ((kM) ≤ cM ∧ (nM) ≤ sM) ∧ post none s30)) ∧ (¬ v5 < 0 → FR σ a0 2 5 (fun r31 => ((kM) ≤ cM ∧ (nM) ≤ sM) ∧ Rc σ r31 1 ∧ Do g M_X1_put 0 0 [.ref r31, .int v5, .int ((v3 - v3 / 5 * 5) - 1)] σ (kV (fun s32 => ((kM) ≤ cM ∧ (nM) ≤ sM) ∧ Do g M_X11_with 0 0 [.int v4, .int ((v3 - v3 / 5 * 5) - 1)] s32 (kI (fun i34 s33 => J_X2_init_119 g post cM sM kM nM s33 a0 ((v3 / 5)) i34 ((v5 + (-1))) ))))))) : J_X2_init_119 g post cM sM kM nM σ a0 v3 v4 v5 := by
  show Fr g M_X2_init (cM, sM, kM, nM) [(0, .ref a0), (3, .int v3), (4, .int v4), (5, .int v5)] [] 119 σ post
  refine fr_iload (pc := 119) 3 rfl dX2_init_119 ?_
  refine fr_if_lt (pc := 121) (tgt := 161) (by decide) dX2_init_121 hW (fun hW => ?_) (fun hW => ?_)
  · refine fr_aload_n (pc := 161) 0 rfl rfl dX2_init_161 ?_
    refine fr_iload (pc := 162) 2 rfl dX2_init_162 ?_
    refine fr_putF (pc := 164) (T := TX2) (k := 4) kc_X2 (by decide) w_1113 rfl rfl rfl rfl rfl dX2_init_164 hW (fun s30 hW => ?_)
    obtain ⟨hz, hW⟩ := hW
    exact fr_ret (pc := 167) dX2_init_167 rfl hz hW
  · refine fr_iload_n (pc := 124) 1 rfl rfl dX2_init_124 ?_
    refine fr_iconst (pc := 125) 5 (by decide) dX2_init_125 ?_
    refine fr_irem (pc := 126) (by decide) dX2_init_126 ?_
    refine fr_iconst (pc := 127) 1 (by decide) dX2_init_127 ?_
    refine fr_isub (pc := 128) dX2_init_128 ?_
    refine fr_istore (pc := 129) (lv' := [(6, .int ((v3 - v3 / 5 * 5) - 1)), (0, .ref a0), (3, .int v3), (4, .int v4), (5, .int v5)]) (by decide) rfl dX2_init_129 ?_
    refine fr_aload_n (pc := 131) 1 rfl rfl dX2_init_131 ?_
    refine fr_getR (pc := 132) (T := TX2) (k := 5) kc_X2 (by decide) w_1037 dX2_init_132 hW (fun r31 hW => ?_)
    refine fr_iload (pc := 135) 4 rfl dX2_init_135 ?_
    refine fr_iload (pc := 137) 0 rfl dX2_init_137 ?_
    obtain ⟨hz, hrc, hW⟩ := hW
    refine fr_callV_V (pc := 139) (As := [.int v5, .int ((v3 - v3 / 5 * 5) - 1)]) (st := []) wd_X1_put w_1051 ok_X1_put (by decide) rfl (Nat.le_of_ble_eq_true rfl) dX2_init_139 hz kc_X1 hrc hW (fun s32 hW => ?_)
    refine fr_iload (pc := 142) 3 rfl dX2_init_142 ?_
    refine fr_iload (pc := 144) 0 rfl dX2_init_144 ?_
    obtain ⟨hz, hW⟩ := hW
    refine fr_callSN_I (pc := 146) (As := [.int v4, .int ((v3 - v3 / 5 * 5) - 1)]) (st := []) wd_X11_with ⟨RX11, by decide +kernel⟩ ok_X11_with (by decide) rfl (Nat.le_of_ble_eq_true rfl) dX2_init_146 hz hW (fun i34 s33 hW => ?_)
    refine fr_istore (pc := 149) (lv' := [(4, .int i34), (6, .int ((v3 - v3 / 5 * 5) - 1)), (0, .ref a0), (3, .int v3), (5, .int v5)]) (by decide) rfl dX2_init_149 ?_
    refine fr_iload_n (pc := 151) 3 rfl rfl dX2_init_151 ?_
    refine fr_iconst (pc := 152) 5 (by decide) dX2_init_152 ?_
    refine fr_idiv (pc := 153) (by decide) dX2_init_153 ?_
    refine fr_istore_n (pc := 154) (lv' := [(3, .int (v3 / 5)), (4, .int i34), (6, .int ((v3 - v3 / 5 * 5) - 1)), (0, .ref a0), (5, .int v5)]) rfl (by decide) rfl dX2_init_154 ?_
    refine fr_iinc (pc := 155) (lv' := [(5, .int (v5 + (-1))), (3, .int (v3 / 5)), (4, .int i34), (6, .int ((v3 - v3 / 5 * 5) - 1)), (0, .ref a0)]) (v5 + (-1)) 4 rfl (congrArg (fun z => v5 + z) (by decide)) (by decide) rfl dX2_init_155 ?_
    refine fr_goto (pc := 158) (tgt := 119) (by decide) dX2_init_158 ?_
    exact fr_sub [4, 1, 2, 0] rfl hW
def J_X2_fillLeaves_7 (g : GG) (post : Option Value → Hs → Prop) (σ : Hs) (a0 : Nat) (v1 : Int32) : Prop := Fr g M_X2_fillLeaves (0, 0, 0, 0) [(0, .ref a0), (1, .int v1)] [] 7 σ post
set_option maxHeartbeats 4000000 in
set_option maxRecDepth 100000 in
theorem q_X2_fillLeaves {g : GG} {σ : Hs} {post : Option Value → Hs → Prop} (r0 : Nat) (hW : PF σ r0 2 9 (.int 0) (fun s1 => J_X2_fillLeaves_7 g post s1 r0 0 )) : Do g M_X2_fillLeaves 0 0 [.ref r0] σ post := by
  refine Do.of (by decide +kernel) (Nat.le_of_ble_eq_true rfl) ?_
  show Fr g M_X2_fillLeaves (0, 0, 0, 0) [(0, .ref r0)] [] 0 σ post
  refine fr_aload_n (pc := 0) 0 rfl rfl dX2_fillLeaves_0 ?_
  refine fr_iconst (pc := 1) 0 (by decide) dX2_fillLeaves_1 ?_
  refine fr_put (pc := 2) (T := TX2) (k := 9) kc_X2 (by decide) w_1044 rfl rfl rfl dX2_fillLeaves_2 hW (fun s1 hW => ?_)
  refine fr_iconst (pc := 5) 0 (by decide) dX2_fillLeaves_5 ?_
  refine fr_istore_n (pc := 6) (lv' := [(1, .int 0), (0, .ref r0)]) rfl (by decide) rfl dX2_fillLeaves_6 ?_
  exact fr_sub [1, 0] rfl hW
set_option maxHeartbeats 4000000 in
set_option maxRecDepth 100000 in
theorem q_X2_fillLeaves_7 {g : GG} {σ : Hs} {post : Option Value → Hs → Prop} (a0 : Nat) (v1 : Int32) (hW : FI σ a0 2 8 (fun i2 => (i2 ≤ v1 → post none σ) ∧ (¬ i2 ≤ v1 → FI σ a0 2 3 (fun i3 => (i3 ≤ 0 → post none σ) ∧ (¬ i3 ≤ 0 → FR σ a0 2 7 (fun r4 => FI σ a0 2 9 (fun i5 => FI σ a0 2 3 (fun i6 => FI σ a0 2 8 (fun i7 => Rc σ r4 1 ∧ Do g M_X1_put 0 0 [.ref r4, .int i5, .int (if (i7 - v1) < i6 then (i7 - v1) else i6)] σ (kV (fun s8 => FI s8 a0 2 9 (fun i9 => PF s8 a0 2 9 (.int (i9 + 1)) (fun s10 => FI s10 a0 2 3 (fun i11 => J_X2_fillLeaves_7 g post s10 a0 ((v1 + i11)) )))))))))))))) : J_X2_fillLeaves_7 g post σ a0 v1 := by
  show Fr g M_X2_fillLeaves (0, 0, 0, 0) [(0, .ref a0), (1, .int v1)] [] 7 σ post
  refine fr_iload_n (pc := 7) 1 rfl rfl dX2_fillLeaves_7 ?_
  refine fr_aload_n (pc := 8) 0 rfl rfl dX2_fillLeaves_8 ?_
  refine fr_getI (pc := 9) (T := TX2) (k := 8) kc_X2 (by decide) w_1041 dX2_fillLeaves_9 hW (fun i2 hW => ?_)
  refine fr_icmp_ge (pc := 12) (tgt := 66) (by decide) dX2_fillLeaves_12 hW (fun hW => ?_) (fun hW => ?_)
  · exact fr_ret (pc := 66) dX2_fillLeaves_66 rfl ⟨Nat.le_refl 0, Nat.le_refl 0⟩ hW
  · refine fr_aload_n (pc := 15) 0 rfl rfl dX2_fillLeaves_15 ?_
    refine fr_getI (pc := 16) (T := TX2) (k := 3) kc_X2 (by decide) w_1053 dX2_fillLeaves_16 hW (fun i3 hW => ?_)
    refine fr_if_le (pc := 19) (tgt := 66) (by decide) dX2_fillLeaves_19 hW (fun hW => ?_) (fun hW => ?_)
    · exact fr_ret (pc := 66) dX2_fillLeaves_66 rfl ⟨Nat.le_refl 0, Nat.le_refl 0⟩ hW
    · refine fr_aload_n (pc := 22) 0 rfl rfl dX2_fillLeaves_22 ?_
      refine fr_getR (pc := 23) (T := TX2) (k := 7) kc_X2 (by decide) w_1045 dX2_fillLeaves_23 hW (fun r4 hW => ?_)
      refine fr_aload_n (pc := 26) 0 rfl rfl dX2_fillLeaves_26 ?_
      refine fr_getI (pc := 27) (T := TX2) (k := 9) kc_X2 (by decide) w_1044 dX2_fillLeaves_27 hW (fun i5 hW => ?_)
      refine fr_aload_n (pc := 30) 0 rfl rfl dX2_fillLeaves_30 ?_
      refine fr_getI (pc := 31) (T := TX2) (k := 3) kc_X2 (by decide) w_1053 dX2_fillLeaves_31 hW (fun i6 hW => ?_)
      refine fr_aload_n (pc := 34) 0 rfl rfl dX2_fillLeaves_34 ?_
      refine fr_getI (pc := 35) (T := TX2) (k := 8) kc_X2 (by decide) w_1041 dX2_fillLeaves_35 hW (fun i7 hW => ?_)
      refine fr_iload_n (pc := 38) 1 rfl rfl dX2_fillLeaves_38 ?_
      refine fr_isub (pc := 39) dX2_fillLeaves_39 ?_
      refine fr_mmin (pc := 40) ⟨w_1116, w_1117, w_1118, w_1119⟩ (by decide) (Nat.le_of_ble_eq_true rfl) dX2_fillLeaves_40 ⟨Nat.le_refl 0, Nat.le_refl 0⟩ ?_
      obtain ⟨hrc, hW⟩ := hW
      refine fr_callV_V (pc := 43) (As := [.int i5, .int (if (i7 - v1) < i6 then (i7 - v1) else i6)]) (st := []) wd_X1_put w_1051 ok_X1_put (by decide) rfl (Nat.le_of_ble_eq_true rfl) dX2_fillLeaves_43 ⟨Nat.le_refl 0, Nat.le_refl 0⟩ kc_X1 hrc hW (fun s8 hW => ?_)
      refine fr_aload_n (pc := 46) 0 rfl rfl dX2_fillLeaves_46 ?_
      refine fr_dup (pc := 47) rfl dX2_fillLeaves_47 ?_
      refine fr_getI (pc := 48) (T := TX2) (k := 9) kc_X2 (by decide) w_1044 dX2_fillLeaves_48 hW (fun i9 hW => ?_)
      refine fr_iconst (pc := 51) 1 (by decide) dX2_fillLeaves_51 ?_
      refine fr_iadd (pc := 52) dX2_fillLeaves_52 ?_
      refine fr_put (pc := 53) (T := TX2) (k := 9) kc_X2 (by decide) w_1044 rfl rfl rfl dX2_fillLeaves_53 hW (fun s10 hW => ?_)
      refine fr_iload_n (pc := 56) 1 rfl rfl dX2_fillLeaves_56 ?_
      refine fr_aload_n (pc := 57) 0 rfl rfl dX2_fillLeaves_57 ?_
      refine fr_getI (pc := 58) (T := TX2) (k := 3) kc_X2 (by decide) w_1053 dX2_fillLeaves_58 hW (fun i11 hW => ?_)
      refine fr_iadd (pc := 61) dX2_fillLeaves_61 ?_
      refine fr_istore_n (pc := 62) (lv' := [(1, .int (v1 + i11)), (0, .ref a0)]) rfl (by decide) rfl dX2_fillLeaves_62 ?_
      refine fr_goto (pc := 63) (tgt := 7) (by decide) dX2_fillLeaves_63 ?_
      exact fr_sub [1, 0] rfl hW
def J_X2_rebuild_7 (g : GG) (post : Option Value → Hs → Prop) (σ : Hs) (a0 : Nat) (v1 : Int32) : Prop := Fr g M_X2_rebuild (0, 0, 0, 0) [(0, .ref a0), (1, .int v1)] [] 7 σ post
set_option maxHeartbeats 4000000 in
set_option maxRecDepth 100000 in
theorem q_X2_rebuild {g : GG} {σ : Hs} {post : Option Value → Hs → Prop} (r0 : Nat) (hW : PF σ r0 2 8 (.int 0) (fun s1 => J_X2_rebuild_7 g post s1 r0 0 )) : Do g M_X2_rebuild 0 0 [.ref r0] σ post := by
  refine Do.of (by decide +kernel) (Nat.le_of_ble_eq_true rfl) ?_
  show Fr g M_X2_rebuild (0, 0, 0, 0) [(0, .ref r0)] [] 0 σ post
  refine fr_aload_n (pc := 0) 0 rfl rfl dX2_rebuild_0 ?_
  refine fr_iconst (pc := 1) 0 (by decide) dX2_rebuild_1 ?_
  refine fr_put (pc := 2) (T := TX2) (k := 8) kc_X2 (by decide) w_1041 rfl rfl rfl dX2_rebuild_2 hW (fun s1 hW => ?_)
  refine fr_iconst (pc := 5) 0 (by decide) dX2_rebuild_5 ?_
  refine fr_istore_n (pc := 6) (lv' := [(1, .int 0), (0, .ref r0)]) rfl (by decide) rfl dX2_rebuild_6 ?_
  exact fr_sub [1, 0] rfl hW
set_option maxHeartbeats 4000000 in
set_option maxRecDepth 100000 in
theorem q_X2_rebuild_7 {g : GG} {σ : Hs} {post : Option Value → Hs → Prop} (a0 : Nat) (v1 : Int32) (hW : (64 ≤ v1 → Rc σ a0 2 ∧ Do g M_X2_fillLeaves 0 0 [.ref a0] σ (kV (fun s2 => post none s2))) ∧ (¬ 64 ≤ v1 → FR σ a0 2 0 (fun r3 => Rc σ r3 8 ∧ Do g M_X8_holds 0 0 [.ref r3, .int v1] σ (kI (fun i5 s4 => (i5 = 0 → J_X2_rebuild_7 g post s4 a0 ((v1 + 1)) ) ∧ (¬ i5 = 0 → FR s4 a0 2 6 (fun r8 => Rc s4 a0 2 ∧ Do g M_X2_placeFor 0 0 [.ref a0, .int v1] s4 (kI (fun i10 s9 => FI s9 a0 2 8 (fun i13 => Rc s9 r8 1 ∧ Do g M_X1_insert 0 0 [.ref r8, .int i10, .int i13, .int v1] s9 (kV (fun s14 => FI s14 a0 2 8 (fun i15 => PF s14 a0 2 8 (.int (i15 + 1)) (fun s16 => J_X2_rebuild_7 g post s16 a0 ((v1 + 1)) )))))))))))))) : J_X2_rebuild_7 g post σ a0 v1 := by
  show Fr g M_X2_rebuild (0, 0, 0, 0) [(0, .ref a0), (1, .int v1)] [] 7 σ post
  refine fr_iload_n (pc := 7) 1 rfl rfl dX2_rebuild_7 ?_
  refine fr_bipush (pc := 8) 64 (by decide) dX2_rebuild_8 ?_
  refine fr_icmp_ge (pc := 10) (tgt := 57) (by decide) dX2_rebuild_10 hW (fun hW => ?_) (fun hW => ?_)
  · refine fr_aload_n (pc := 57) 0 rfl rfl dX2_rebuild_57 ?_
    obtain ⟨hrc, hW⟩ := hW
    refine fr_callV_V (pc := 58) (As := []) (st := []) wd_X2_fillLeaves w_1121 ok_X2_fillLeaves (by decide) rfl (Nat.le_of_ble_eq_true rfl) dX2_rebuild_58 ⟨Nat.le_refl 0, Nat.le_refl 0⟩ kc_X2 hrc hW (fun s2 hW => ?_)
    exact fr_ret (pc := 61) dX2_rebuild_61 rfl ⟨Nat.le_refl 0, Nat.le_refl 0⟩ hW
  · refine fr_aload_n (pc := 13) 0 rfl rfl dX2_rebuild_13 ?_
    refine fr_getR (pc := 14) (T := TX2) (k := 0) kc_X2 (by decide) w_1038 dX2_rebuild_14 hW (fun r3 hW => ?_)
    refine fr_iload_n (pc := 17) 1 rfl rfl dX2_rebuild_17 ?_
    obtain ⟨hrc, hW⟩ := hW
    refine fr_callV_I (pc := 18) (As := [.int v1]) (st := []) wd_X8_holds w_1120 ok_X8_holds (by decide) rfl (Nat.le_of_ble_eq_true rfl) dX2_rebuild_18 ⟨Nat.le_refl 0, Nat.le_refl 0⟩ kc_X8 hrc hW (fun i5 s4 hW => ?_)
    refine fr_if_eq (pc := 21) (tgt := 51) (by decide) dX2_rebuild_21 hW (fun hW => ?_) (fun hW => ?_)
    · refine fr_iinc (pc := 51) (lv' := [(1, .int (v1 + 1)), (0, .ref a0)]) (v1 + 1) 1 rfl (congrArg (fun z => v1 + z) (by decide)) (by decide) rfl dX2_rebuild_51 ?_
      refine fr_goto (pc := 54) (tgt := 7) (by decide) dX2_rebuild_54 ?_
      exact fr_sub [1, 0] rfl hW
    · refine fr_aload_n (pc := 24) 0 rfl rfl dX2_rebuild_24 ?_
      refine fr_getR (pc := 25) (T := TX2) (k := 6) kc_X2 (by decide) w_1042 dX2_rebuild_25 hW (fun r8 hW => ?_)
      refine fr_aload_n (pc := 28) 0 rfl rfl dX2_rebuild_28 ?_
      refine fr_iload_n (pc := 29) 1 rfl rfl dX2_rebuild_29 ?_
      obtain ⟨hrc, hW⟩ := hW
      refine fr_callV_I (pc := 30) (As := [.int v1]) (st := [.ref r8]) wd_X2_placeFor w_1054 ok_X2_placeFor (by decide) rfl (Nat.le_of_ble_eq_true rfl) dX2_rebuild_30 ⟨Nat.le_refl 0, Nat.le_refl 0⟩ kc_X2 hrc hW (fun i10 s9 hW => ?_)
      refine fr_aload_n (pc := 33) 0 rfl rfl dX2_rebuild_33 ?_
      refine fr_getI (pc := 34) (T := TX2) (k := 8) kc_X2 (by decide) w_1041 dX2_rebuild_34 hW (fun i13 hW => ?_)
      refine fr_iload_n (pc := 37) 1 rfl rfl dX2_rebuild_37 ?_
      obtain ⟨hrc, hW⟩ := hW
      refine fr_callV_V (pc := 38) (As := [.int i10, .int i13, .int v1]) (st := []) wd_X1_insert w_1052 ok_X1_insert (by decide) rfl (Nat.le_of_ble_eq_true rfl) dX2_rebuild_38 ⟨Nat.le_refl 0, Nat.le_refl 0⟩ kc_X1 hrc hW (fun s14 hW => ?_)
      refine fr_aload_n (pc := 41) 0 rfl rfl dX2_rebuild_41 ?_
      refine fr_dup (pc := 42) rfl dX2_rebuild_42 ?_
      refine fr_getI (pc := 43) (T := TX2) (k := 8) kc_X2 (by decide) w_1041 dX2_rebuild_43 hW (fun i15 hW => ?_)
      refine fr_iconst (pc := 46) 1 (by decide) dX2_rebuild_46 ?_
      refine fr_iadd (pc := 47) dX2_rebuild_47 ?_
      refine fr_put (pc := 48) (T := TX2) (k := 8) kc_X2 (by decide) w_1041 rfl rfl rfl dX2_rebuild_48 hW (fun s16 hW => ?_)
      refine fr_iinc (pc := 51) (lv' := [(1, .int (v1 + 1)), (0, .ref a0)]) (v1 + 1) 1 rfl (congrArg (fun z => v1 + z) (by decide)) (by decide) rfl dX2_rebuild_51 ?_
      refine fr_goto (pc := 54) (tgt := 7) (by decide) dX2_rebuild_54 ?_
      exact fr_sub [1, 0] rfl hW
set_option maxHeartbeats 4000000 in
set_option maxRecDepth 100000 in
theorem q_X3_tell {g : GG} {σ : Hs} {post : Option Value → Hs → Prop} (cM sM : Nat) (r0 : Nat) (p0 : Int32) (hW : FI σ r0 3 2 (fun i1 => (i1 < 0 → ((0) ≤ cM ∧ (0) ≤ sM) ∧ post (some (.int (-104))) σ) ∧ (¬ i1 < 0 → FR σ r0 3 1 (fun r2 => AN g σ r2 4 (fun i3 => (i1 < i3 → ((0) + 1 ≤ cM ∧ (0) + 12 ≤ sM) ∧ NW σ 2 [.null, .int 0, .int 0, .int 0, .int 0, .null, .null, .null, .int 0, .int 0, .int 0, .int 0] (fun r4 s5 => FR s5 r0 3 0 (fun r6 => ∃ mc8 ms9 : Nat, ((1) + mc8 ≤ cM ∧ (12) + ms9 ≤ sM) ∧ Do g M_X2_init mc8 ms9 [.ref r4, .ref r6, .int p0] s5 (kV (fun s7 => ((1 + mc8) ≤ cM ∧ (12 + ms9) ≤ sM) ∧ Rc s7 r4 2 ∧ Do g M_X2_rebuild 0 0 [.ref r4] s7 (kV (fun s10 => FR s10 r0 3 1 (fun r11 => SR g s10 r11 4 2 i1 r4 (fun s12 => FI s12 r0 3 2 (fun i13 => PF s12 r0 3 2 (.int (i13 + 1)) (fun s14 => ((1 + mc8) ≤ cM ∧ (12 + ms9) ≤ sM) ∧ post (some (.int i1)) s14))))))))))) ∧ (¬ i1 < i3 → ((0) ≤ cM ∧ (0) ≤ sM) ∧ post (some (.int (-104))) σ)))))) : Do g M_X3_tell cM sM [.ref r0, .int p0] σ post := by
  refine Do.of (by decide +kernel) (Nat.le_of_ble_eq_true rfl) ?_
  show Fr g M_X3_tell (cM, sM, 0, 0) [(0, .ref r0), (1, .int p0)] [] 0 σ post
  refine fr_aload_n (pc := 0) 0 rfl rfl dX3_tell_0 ?_
  refine fr_getI (pc := 1) (T := TX3) (k := 2) kc_X3 (by decide) w_1058 dX3_tell_1 hW (fun i1 hW => ?_)
  refine fr_istore_n (pc := 4) (lv' := [(2, .int i1), (0, .ref r0), (1, .int p0)]) rfl (by decide) rfl dX3_tell_4 ?_
  refine fr_iload_n (pc := 5) 0 rfl rfl dX3_tell_5 ?_
  refine fr_if_lt (pc := 6) (tgt := 18) (by decide) dX3_tell_6 hW (fun hW => ?_) (fun hW => ?_)
  · refine fr_bipush (pc := 18) (-104) (by decide) dX3_tell_18 ?_
    obtain ⟨hz, hW⟩ := hW
    exact fr_iret (pc := 20) dX3_tell_20 rfl hz hW
  · refine fr_iload_n (pc := 9) 0 rfl rfl dX3_tell_9 ?_
    refine fr_aload_n (pc := 10) 1 rfl rfl dX3_tell_10 ?_
    refine fr_getR (pc := 11) (T := TX3) (k := 1) kc_X3 (by decide) w_940 dX3_tell_11 hW (fun r2 hW => ?_)
    refine fr_alen (pc := 14) 4 (fun _ => rfl) dX3_tell_14 hW (fun i3 hW => ?_)
    refine fr_icmp_lt (pc := 15) (tgt := 21) (by decide) dX3_tell_15 hW (fun hW => ?_) (fun hW => ?_)
    · obtain ⟨hz, hW⟩ := hW
      refine fr_new (pc := 21) [.null, .int 0, .int 0, .int 0, .int 0, .null, .null, .null, .int 0, .int 0, .int 0, .int 0] kc_X2 df_X2 ⟨w_939, w_1122, w_53⟩ dX3_tell_21 hz (Z' := (cM, sM, 1, 12)) rfl hW (fun r4 s5 hW => ?_)
      refine fr_dup (pc := 24) rfl dX3_tell_24 ?_
      refine fr_aload_n (pc := 25) 1 rfl rfl dX3_tell_25 ?_
      refine fr_getR (pc := 26) (T := TX3) (k := 0) kc_X3 (by decide) w_941 dX3_tell_26 hW (fun r6 hW => ?_)
      refine fr_iload_n (pc := 29) 2 rfl rfl dX3_tell_29 ?_
      obtain ⟨mc8, ms9, hz, hW⟩ := hW
      refine fr_callI_Va (pc := 30) (As := [.ref r6, .int p0]) (st := [.ref r4]) wd_X2_init w_1123 ok_X2_init (by decide) rfl (Nat.le_of_ble_eq_true rfl) dX3_tell_30 hz (Z' := (cM, sM, 1 + mc8, 12 + ms9)) rfl rfl rfl hW (fun s7 hW => ?_)
      refine fr_astore_n (pc := 33) (lv' := [(3, .ref r4), (2, .int i1), (0, .ref r0), (1, .int p0)]) rfl (by decide) rfl dX3_tell_33 ?_
      refine fr_aload_n (pc := 34) 0 rfl rfl dX3_tell_34 ?_
      obtain ⟨hz, hrc, hW⟩ := hW
      refine fr_callV_V (pc := 35) (As := []) (st := []) wd_X2_rebuild w_1124 ok_X2_rebuild (by decide) rfl (Nat.le_of_ble_eq_true rfl) dX3_tell_35 hz kc_X2 hrc hW (fun s10 hW => ?_)
      refine fr_aload_n (pc := 38) 2 rfl rfl dX3_tell_38 ?_
      refine fr_getR (pc := 39) (T := TX3) (k := 1) kc_X3 (by decide) w_940 dX3_tell_39 hW (fun r11 hW => ?_)
      refine fr_iload_n (pc := 42) 1 rfl rfl dX3_tell_42 ?_
      refine fr_aload_n (pc := 43) 0 rfl rfl dX3_tell_43 ?_
      refine fr_aast (pc := 44) 4 kc_X2 (fun _ => rfl) dX3_tell_44 hW (fun s12 hW => ?_)
      refine fr_aload_n (pc := 45) 2 rfl rfl dX3_tell_45 ?_
      refine fr_dup (pc := 46) rfl dX3_tell_46 ?_
      refine fr_getI (pc := 47) (T := TX3) (k := 2) kc_X3 (by decide) w_1058 dX3_tell_47 hW (fun i13 hW => ?_)
      refine fr_iconst (pc := 50) 1 (by decide) dX3_tell_50 ?_
      refine fr_iadd (pc := 51) dX3_tell_51 ?_
      refine fr_put (pc := 52) (T := TX3) (k := 2) kc_X3 (by decide) w_1058 rfl rfl rfl dX3_tell_52 hW (fun s14 hW => ?_)
      refine fr_iload_n (pc := 55) 1 rfl rfl dX3_tell_55 ?_
      obtain ⟨hz, hW⟩ := hW
      exact fr_iret (pc := 56) dX3_tell_56 rfl hz hW
    · refine fr_bipush (pc := 18) (-104) (by decide) dX3_tell_18 ?_
      obtain ⟨hz, hW⟩ := hW
      exact fr_iret (pc := 20) dX3_tell_20 rfl hz hW
set_option maxHeartbeats 4000000 in
set_option maxRecDepth 100000 in
theorem q_X11_order {g : GG} {σ : Hs} {post : Option Value → Hs → Prop} (cM sM : Nat) (r0 : Nat) (p0 : Int32) (hW : ((0) ≤ cM ∧ (0) ≤ sM) ∧ Do g M_X2_isKey 0 0 [.int p0] σ (kI (fun i2 s1 => (¬ i2 = 0 → FR s1 r0 11 1 (fun r5 => ((0) ≤ cM ∧ (0) ≤ sM) ∧ Rc s1 r5 3 ∧ Do g M_X3_haveKey 0 0 [.ref r5, .int p0] s1 (kI (fun i7 s6 => (i7 = 0 → FR s6 r0 11 1 (fun r10 => ((0) ≤ cM ∧ (0) ≤ sM) ∧ Rc s6 r10 3 ∧ Do g M_X3_told 0 0 [.ref r10] s6 (kI (fun i12 s11 => (i12 < 8 → FR s11 r0 11 1 (fun r15 => ∃ mc20 ms21 : Nat, ((0) + mc20 ≤ cM ∧ (0) + ms21 ≤ sM) ∧ Rc s11 r15 3 ∧ Do g M_X3_tell mc20 ms21 [.ref r15, .int p0] s11 (kI (fun i17 s16 => ((0 + mc20) ≤ cM ∧ (0 + ms21) ≤ sM) ∧ post (some (.int i17)) s16)))) ∧ (¬ i12 < 8 → ((0) ≤ cM ∧ (0) ≤ sM) ∧ post (some (.int (-104))) s11))))) ∧ (¬ i7 = 0 → ((0) ≤ cM ∧ (0) ≤ sM) ∧ post (some (.int (-103))) s6))))) ∧ (i2 = 0 → ((0) ≤ cM ∧ (0) ≤ sM) ∧ post (some (.int (-102))) s1)))) : Do g M_X11_order cM sM [.ref r0, .int p0] σ post := by
  refine Do.of (by decide +kernel) (Nat.le_of_ble_eq_true rfl) ?_
  show Fr g M_X11_order (cM, sM, 0, 0) [(0, .ref r0), (1, .int p0)] [] 0 σ post
  refine fr_iload_n (pc := 0) 1 rfl rfl dX11_order_0 ?_
  obtain ⟨hz, hW⟩ := hW
  refine fr_callS_I (pc := 1) (As := [.int p0]) (st := []) wd_X2_isKey w_1125 ok_X2_isKey (by decide) rfl (Nat.le_of_ble_eq_true rfl) dX11_order_1 hz hW (fun i2 s1 hW => ?_)
  refine fr_if_ne (pc := 4) (tgt := 10) (by decide) dX11_order_4 hW (fun hW => ?_) (fun hW => ?_)
  · refine fr_aload_n (pc := 10) 0 rfl rfl dX11_order_10 ?_
    refine fr_getR (pc := 11) (T := TX11) (k := 1) kc_X11 (by decide) w_991 dX11_order_11 hW (fun r5 hW => ?_)
    refine fr_iload_n (pc := 14) 1 rfl rfl dX11_order_14 ?_
    obtain ⟨hz, hrc, hW⟩ := hW
    refine fr_callV_I (pc := 15) (As := [.int p0]) (st := []) wd_X3_haveKey w_1126 ok_X3_haveKey (by decide) rfl (Nat.le_of_ble_eq_true rfl) dX11_order_15 hz kc_X3 hrc hW (fun i7 s6 hW => ?_)
    refine fr_if_eq (pc := 18) (tgt := 24) (by decide) dX11_order_18 hW (fun hW => ?_) (fun hW => ?_)
    · refine fr_aload_n (pc := 24) 0 rfl rfl dX11_order_24 ?_
      refine fr_getR (pc := 25) (T := TX11) (k := 1) kc_X11 (by decide) w_991 dX11_order_25 hW (fun r10 hW => ?_)
      obtain ⟨hz, hrc, hW⟩ := hW
      refine fr_callV_I (pc := 28) (As := []) (st := []) wd_X3_told w_1127 ok_X3_told (by decide) rfl (Nat.le_of_ble_eq_true rfl) dX11_order_28 hz kc_X3 hrc hW (fun i12 s11 hW => ?_)
      refine fr_bipush (pc := 31) 8 (by decide) dX11_order_31 ?_
      refine fr_icmp_lt (pc := 33) (tgt := 39) (by decide) dX11_order_33 hW (fun hW => ?_) (fun hW => ?_)
      · refine fr_aload_n (pc := 39) 0 rfl rfl dX11_order_39 ?_
        refine fr_getR (pc := 40) (T := TX11) (k := 1) kc_X11 (by decide) w_991 dX11_order_40 hW (fun r15 hW => ?_)
        refine fr_iload_n (pc := 43) 1 rfl rfl dX11_order_43 ?_
        obtain ⟨mc20, ms21, hz, hrc, hW⟩ := hW
        refine fr_callV_Ia (pc := 44) (As := [.int p0]) (st := []) wd_X3_tell w_1128 ok_X3_tell (by decide) rfl (Nat.le_of_ble_eq_true rfl) dX11_order_44 hz (Z' := (cM, sM, 0 + mc20, 0 + ms21)) rfl kc_X3 hrc hW (fun i17 s16 hW => ?_)
        obtain ⟨hz, hW⟩ := hW
        exact fr_iret (pc := 47) dX11_order_47 rfl hz hW
      · refine fr_bipush (pc := 36) (-104) (by decide) dX11_order_36 ?_
        obtain ⟨hz, hW⟩ := hW
        exact fr_iret (pc := 38) dX11_order_38 rfl hz hW
    · refine fr_bipush (pc := 21) (-103) (by decide) dX11_order_21 ?_
      obtain ⟨hz, hW⟩ := hW
      exact fr_iret (pc := 23) dX11_order_23 rfl hz hW
  · refine fr_bipush (pc := 7) (-102) (by decide) dX11_order_7 ?_
    obtain ⟨hz, hW⟩ := hW
    exact fr_iret (pc := 9) dX11_order_9 rfl hz hW
def J_X12_isKey_18 (g : GG) (post : Option Value → Hs → Prop) (σ : Hs) (v0 : Int32) (v1 : Int32) (v2 : Int32) (v3 : Int32) : Prop := Fr g M_X12_isKey (0, 0, 0, 0) [(0, .int v0), (1, .int v1), (2, .int v2), (3, .int v3)] [] 18 σ post
def J_X12_isKey_56 (g : GG) (post : Option Value → Hs → Prop) (σ : Hs) (v0 : Int32) (v2 : Int32) (v3 : Int32) (v4 : Int32) (t0 : Int32) : Prop := Fr g M_X12_isKey (0, 0, 0, 0) [(0, .int v0), (2, .int v2), (3, .int v3), (4, .int v4)] [.int t0] 56 σ post
set_option maxHeartbeats 4000000 in
set_option maxRecDepth 100000 in
theorem q_X12_isKey {g : GG} {σ : Hs} {post : Option Value → Hs → Prop} (p0 : Int32) (hW : Do g M_X12_in 0 0 [.int p0, .int 1, .int 124] σ (kI (fun i2 s1 => (¬ i2 = 0 → J_X12_isKey_18 g post s1 p0 1 0 0 ) ∧ (i2 = 0 → post (some (.int 0)) s1)))) : Do g M_X12_isKey 0 0 [.int p0] σ post := by
  refine Do.of (by decide +kernel) (Nat.le_of_ble_eq_true rfl) ?_
  show Fr g M_X12_isKey (0, 0, 0, 0) [(0, .int p0)] [] 0 σ post
  refine fr_iload_n (pc := 0) 0 rfl rfl dX12_isKey_0 ?_
  refine fr_iconst (pc := 1) 1 (by decide) dX12_isKey_1 ?_
  refine fr_bipush (pc := 2) 124 (by decide) dX12_isKey_2 ?_
  refine fr_callS_I (pc := 4) (As := [.int p0, .int 1, .int 124]) (st := []) wd_X12_in w_1067 ok_X12_in (by decide) rfl (Nat.le_of_ble_eq_true rfl) dX12_isKey_4 ⟨Nat.le_refl 0, Nat.le_refl 0⟩ hW (fun i2 s1 hW => ?_)
  refine fr_if_ne (pc := 7) (tgt := 12) (by decide) dX12_isKey_7 hW (fun hW => ?_) (fun hW => ?_)
  · refine fr_iconst (pc := 12) 1 (by decide) dX12_isKey_12 ?_
    refine fr_istore_n (pc := 13) (lv' := [(1, .int 1), (0, .int p0)]) rfl (by decide) rfl dX12_isKey_13 ?_
    refine fr_iconst (pc := 14) 0 (by decide) dX12_isKey_14 ?_
    refine fr_istore_n (pc := 15) (lv' := [(2, .int 0), (1, .int 1), (0, .int p0)]) rfl (by decide) rfl dX12_isKey_15 ?_
    refine fr_iconst (pc := 16) 0 (by decide) dX12_isKey_16 ?_
    refine fr_istore_n (pc := 17) (lv' := [(3, .int 0), (2, .int 0), (1, .int 1), (0, .int p0)]) rfl (by decide) rfl dX12_isKey_17 ?_
    exact fr_sub [3, 2, 1, 0] rfl hW
  · refine fr_iconst (pc := 10) 0 (by decide) dX12_isKey_10 ?_
    exact fr_zret (pc := 11) dX12_isKey_11 rfl ⟨Nat.le_refl 0, Nat.le_refl 0⟩ ⟨rfl, hW⟩
set_option maxHeartbeats 4000000 in
set_option maxRecDepth 100000 in
theorem q_X12_isKey_18 {g : GG} {σ : Hs} {post : Option Value → Hs → Prop} (v0 : Int32) (v1 : Int32) (v2 : Int32) (v3 : Int32) (hW : Do g M_X12_keySize 0 0 [.int v0] σ (kI (fun i6 s5 => (i6 ≤ v3 → (narrow .boolean (.int v1) = .int v1 ∧ post (some (.int v1)) s5)) ∧ (¬ i6 ≤ v3 → Do g M_X12_keyAt 0 0 [.int v0, .int v3] s5 (kI (fun i10 s9 => (v1 = 0 → J_X12_isKey_56 g post s9 v0 v2 v3 i10 0) ∧ (¬ v1 = 0 → (i10 < 0 → J_X12_isKey_56 g post s9 v0 v2 v3 i10 0) ∧ (¬ i10 < 0 → (¬ ((v2 >>> (i10 &&& 31)) &&& 1) = 0 → J_X12_isKey_56 g post s9 v0 v2 v3 i10 0) ∧ (((v2 >>> (i10 &&& 31)) &&& 1) = 0 → J_X12_isKey_56 g post s9 v0 v2 v3 i10 1))))))))) : J_X12_isKey_18 g post σ v0 v1 v2 v3 := by
  show Fr g M_X12_isKey (0, 0, 0, 0) [(0, .int v0), (1, .int v1), (2, .int v2), (3, .int v3)] [] 18 σ post
  refine fr_iload_n (pc := 18) 3 rfl rfl dX12_isKey_18 ?_
  refine fr_iload_n (pc := 19) 0 rfl rfl dX12_isKey_19 ?_
  refine fr_callS_I (pc := 20) (As := [.int v0]) (st := [.int v3]) wd_X12_keySize w_1068 ok_X12_keySize (by decide) rfl (Nat.le_of_ble_eq_true rfl) dX12_isKey_20 ⟨Nat.le_refl 0, Nat.le_refl 0⟩ hW (fun i6 s5 hW => ?_)
  refine fr_icmp_ge (pc := 23) (tgt := 79) (by decide) dX12_isKey_23 hW (fun hW => ?_) (fun hW => ?_)
  · refine fr_iload_n (pc := 79) 1 rfl rfl dX12_isKey_79 ?_
    exact fr_zret (pc := 80) dX12_isKey_80 rfl ⟨Nat.le_refl 0, Nat.le_refl 0⟩ hW
  · refine fr_iload_n (pc := 26) 0 rfl rfl dX12_isKey_26 ?_
    refine fr_iload_n (pc := 27) 3 rfl rfl dX12_isKey_27 ?_
    refine fr_callS_I (pc := 28) (As := [.int v0, .int v3]) (st := []) wd_X12_keyAt w_1069 ok_X12_keyAt (by decide) rfl (Nat.le_of_ble_eq_true rfl) dX12_isKey_28 ⟨Nat.le_refl 0, Nat.le_refl 0⟩ hW (fun i10 s9 hW => ?_)
    refine fr_istore (pc := 31) (lv' := [(4, .int i10), (0, .int v0), (1, .int v1), (2, .int v2), (3, .int v3)]) (by decide) rfl dX12_isKey_31 ?_
    refine fr_iload_n (pc := 33) 2 rfl rfl dX12_isKey_33 ?_
    refine fr_if_eq (pc := 34) (tgt := 55) (by decide) dX12_isKey_34 hW (fun hW => ?_) (fun hW => ?_)
    · refine fr_iconst (pc := 55) 0 (by decide) dX12_isKey_55 ?_
      exact fr_sub [1, 3, 4, 0] rfl hW
    · refine fr_iload (pc := 37) 0 rfl dX12_isKey_37 ?_
      refine fr_if_lt (pc := 39) (tgt := 55) (by decide) dX12_isKey_39 hW (fun hW => ?_) (fun hW => ?_)
      · refine fr_iconst (pc := 55) 0 (by decide) dX12_isKey_55 ?_
        exact fr_sub [1, 3, 4, 0] rfl hW
      · refine fr_iload_n (pc := 42) 3 rfl rfl dX12_isKey_42 ?_
        refine fr_iload (pc := 43) 0 rfl dX12_isKey_43 ?_
        refine fr_ishr (pc := 45) dX12_isKey_45 ?_
        refine fr_iconst (pc := 46) 1 (by decide) dX12_isKey_46 ?_
        refine fr_iand (pc := 47) dX12_isKey_47 ?_
        refine fr_if_ne (pc := 48) (tgt := 55) (by decide) dX12_isKey_48 hW (fun hW => ?_) (fun hW => ?_)
        · refine fr_iconst (pc := 55) 0 (by decide) dX12_isKey_55 ?_
          exact fr_sub [1, 3, 4, 0] rfl hW
        · refine fr_iconst (pc := 51) 1 (by decide) dX12_isKey_51 ?_
          refine fr_goto (pc := 52) (tgt := 56) (by decide) dX12_isKey_52 ?_
          exact fr_sub [1, 3, 4, 0] rfl hW
set_option maxHeartbeats 4000000 in
set_option maxRecDepth 100000 in
theorem q_X12_isKey_56 {g : GG} {σ : Hs} {post : Option Value → Hs → Prop} (v0 : Int32) (v2 : Int32) (v3 : Int32) (v4 : Int32) (t0 : Int32) (hW : (0 ≤ v4 → J_X12_isKey_18 g post σ v0 t0 ((v2 ||| ((1 : Int32) <<< (v4 &&& 31)))) ((v3 + 1)) ) ∧ (¬ 0 ≤ v4 → J_X12_isKey_18 g post σ v0 t0 ((v2 ||| 0)) ((v3 + 1)) )) : J_X12_isKey_56 g post σ v0 v2 v3 v4 t0 := by
  show Fr g M_X12_isKey (0, 0, 0, 0) [(0, .int v0), (2, .int v2), (3, .int v3), (4, .int v4)] [.int t0] 56 σ post
  refine fr_istore_n (pc := 56) (lv' := [(1, .int t0), (0, .int v0), (2, .int v2), (3, .int v3), (4, .int v4)]) rfl (by decide) rfl dX12_isKey_56 ?_
  refine fr_iload_n (pc := 57) 2 rfl rfl dX12_isKey_57 ?_
  refine fr_iload (pc := 58) 4 rfl dX12_isKey_58 ?_
  refine fr_if_ge (pc := 60) (tgt := 67) (by decide) dX12_isKey_60 hW (fun hW => ?_) (fun hW => ?_)
  · refine fr_iconst (pc := 67) 1 (by decide) dX12_isKey_67 ?_
    refine fr_iload (pc := 68) 4 rfl dX12_isKey_68 ?_
    refine fr_ishl (pc := 70) dX12_isKey_70 ?_
    refine fr_ior (pc := 71) dX12_isKey_71 ?_
    refine fr_istore_n (pc := 72) (lv' := [(2, .int (v2 ||| ((1 : Int32) <<< (v4 &&& 31)))), (1, .int t0), (0, .int v0), (3, .int v3), (4, .int v4)]) rfl (by decide) rfl dX12_isKey_72 ?_
    refine fr_iinc (pc := 73) (lv' := [(3, .int (v3 + 1)), (2, .int (v2 ||| ((1 : Int32) <<< (v4 &&& 31)))), (1, .int t0), (0, .int v0), (4, .int v4)]) (v3 + 1) 3 rfl (congrArg (fun z => v3 + z) (by decide)) (by decide) rfl dX12_isKey_73 ?_
    refine fr_goto (pc := 76) (tgt := 18) (by decide) dX12_isKey_76 ?_
    exact fr_sub [3, 2, 1, 0] rfl hW
  · refine fr_iconst (pc := 63) 0 (by decide) dX12_isKey_63 ?_
    refine fr_goto (pc := 64) (tgt := 71) (by decide) dX12_isKey_64 ?_
    refine fr_ior (pc := 71) dX12_isKey_71 ?_
    refine fr_istore_n (pc := 72) (lv' := [(2, .int (v2 ||| 0)), (1, .int t0), (0, .int v0), (3, .int v3), (4, .int v4)]) rfl (by decide) rfl dX12_isKey_72 ?_
    refine fr_iinc (pc := 73) (lv' := [(3, .int (v3 + 1)), (2, .int (v2 ||| 0)), (1, .int t0), (0, .int v0), (4, .int v4)]) (v3 + 1) 3 rfl (congrArg (fun z => v3 + z) (by decide)) (by decide) rfl dX12_isKey_73 ?_
    refine fr_goto (pc := 76) (tgt := 18) (by decide) dX12_isKey_76 ?_
    exact fr_sub [3, 2, 1, 0] rfl hW
def J_X12_packOne_4 (g : GG) (post : Option Value → Hs → Prop) (σ : Hs) (a0 : Nat) (v1 : Int32) (v2 : Int32) (v3 : Int32) : Prop := Fr g M_X12_packOne (0, 0, 0, 0) [(0, .ref a0), (1, .int v1), (2, .int v2), (3, .int v3)] [] 4 σ post
def J_X12_packOne_136 (g : GG) (post : Option Value → Hs → Prop) (σ : Hs) (a0 : Nat) (v1 : Int32) (v3 : Int32) (v4 : Int32) : Prop := Fr g M_X12_packOne (0, 0, 0, 0) [(0, .ref a0), (1, .int v1), (3, .int v3), (4, .int v4)] [] 136 σ post
def J_X12_packOne_22 (g : GG) (post : Option Value → Hs → Prop) (σ : Hs) (a0 : Nat) (v1 : Int32) (v2 : Int32) (v3 : Int32) (v4 : Int32) : Prop := Fr g M_X12_packOne (0, 0, 0, 0) [(0, .ref a0), (1, .int v1), (2, .int v2), (3, .int v3), (4, .int v4)] [] 22 σ post
def J_X12_packOne_168 (g : GG) (post : Option Value → Hs → Prop) (σ : Hs) (a0 : Nat) (v1 : Int32) (v3 : Int32) (v4 : Int32) (t0 : Int32) (t1 : Int32) (t2 : Nat) : Prop := Fr g M_X12_packOne (0, 0, 0, 0) [(0, .ref a0), (1, .int v1), (3, .int v3), (4, .int v4)] [.int t0, .int t1, .ref t2] 168 σ post
set_option maxHeartbeats 4000000 in
set_option maxRecDepth 100000 in
theorem q_X12_packOne {g : GG} {σ : Hs} {post : Option Value → Hs → Prop} (r0 : Nat) (p0 : Int32) (hW : J_X12_packOne_4 g post σ r0 p0 0 0 ) : Do g M_X12_packOne 0 0 [.ref r0, .int p0] σ post := by
  refine Do.of (by decide +kernel) (Nat.le_of_ble_eq_true rfl) ?_
  show Fr g M_X12_packOne (0, 0, 0, 0) [(0, .ref r0), (1, .int p0)] [] 0 σ post
  refine fr_iconst (pc := 0) 0 (by decide) dX12_packOne_0 ?_
  refine fr_istore_n (pc := 1) (lv' := [(2, .int 0), (0, .ref r0), (1, .int p0)]) rfl (by decide) rfl dX12_packOne_1 ?_
  refine fr_iconst (pc := 2) 0 (by decide) dX12_packOne_2 ?_
  refine fr_istore_n (pc := 3) (lv' := [(3, .int 0), (2, .int 0), (0, .ref r0), (1, .int p0)]) rfl (by decide) rfl dX12_packOne_3 ?_
  exact fr_sub [2, 3, 1, 0] rfl hW
set_option maxHeartbeats 4000000 in
set_option maxRecDepth 100000 in
theorem q_X12_packOne_4 {g : GG} {σ : Hs} {post : Option Value → Hs → Prop} (a0 : Nat) (v1 : Int32) (v2 : Int32) (v3 : Int32) (hW : (64 ≤ v3 → FR σ a0 12 9 (fun r1 => SI g σ r1 0 v1 v2 (fun s2 => FR s2 a0 12 5 (fun r3 => AI g s2 r3 0 v1 (fun i4 => Do g M_X12_roomOf 0 0 [.int i4] s2 (kI (fun i6 s5 => FR s5 a0 12 11 (fun r9 => SI g s5 r9 0 v1 0 (fun s10 => J_X12_packOne_136 g post s10 a0 v1 i6 v2 ))))))))) ∧ (¬ 64 ≤ v3 → FR σ a0 12 0 (fun r11 => AI g σ r11 1 v3 (fun i12 => (i12 = 0 → J_X12_packOne_4 g post σ a0 v1 v2 ((v3 + 1)) ) ∧ (¬ i12 = 0 → J_X12_packOne_22 g post σ a0 v1 v2 v3 v2 ))))) : J_X12_packOne_4 g post σ a0 v1 v2 v3 := by
  show Fr g M_X12_packOne (0, 0, 0, 0) [(0, .ref a0), (1, .int v1), (2, .int v2), (3, .int v3)] [] 4 σ post
  refine fr_iload_n (pc := 4) 3 rfl rfl dX12_packOne_4 ?_
  refine fr_bipush (pc := 5) 64 (by decide) dX12_packOne_5 ?_
  refine fr_icmp_ge (pc := 7) (tgt := 109) (by decide) dX12_packOne_7 hW (fun hW => ?_) (fun hW => ?_)
  · refine fr_aload_n (pc := 109) 0 rfl rfl dX12_packOne_109 ?_
    refine fr_getR (pc := 110) (T := TX12) (k := 9) kc_X12 (by decide) w_1013 dX12_packOne_110 hW (fun r1 hW => ?_)
    refine fr_iload_n (pc := 113) 1 rfl rfl dX12_packOne_113 ?_
    refine fr_iload_n (pc := 114) 2 rfl rfl dX12_packOne_114 ?_
    refine fr_iast (pc := 115) dX12_packOne_115 hW (fun s2 hW => ?_)
    refine fr_aload_n (pc := 116) 0 rfl rfl dX12_packOne_116 ?_
    refine fr_getR (pc := 117) (T := TX12) (k := 5) kc_X12 (by decide) w_1009 dX12_packOne_117 hW (fun r3 hW => ?_)
    refine fr_iload_n (pc := 120) 1 rfl rfl dX12_packOne_120 ?_
    refine fr_iald (pc := 121) dX12_packOne_121 hW (fun i4 hW => ?_)
    refine fr_callS_I (pc := 122) (As := [.int i4]) (st := []) wd_X12_roomOf w_1071 ok_X12_roomOf (by decide) rfl (Nat.le_of_ble_eq_true rfl) dX12_packOne_122 ⟨Nat.le_refl 0, Nat.le_refl 0⟩ hW (fun i6 s5 hW => ?_)
    refine fr_istore_n (pc := 125) (lv' := [(3, .int i6), (0, .ref a0), (1, .int v1), (2, .int v2)]) rfl (by decide) rfl dX12_packOne_125 ?_
    refine fr_aload_n (pc := 126) 1 rfl rfl dX12_packOne_126 ?_
    refine fr_getR (pc := 127) (T := TX12) (k := 11) kc_X12 (by decide) w_1015 dX12_packOne_127 hW (fun r9 hW => ?_)
    refine fr_iload_n (pc := 130) 2 rfl rfl dX12_packOne_130 ?_
    refine fr_iconst (pc := 131) 0 (by decide) dX12_packOne_131 ?_
    refine fr_iast (pc := 132) dX12_packOne_132 hW (fun s10 hW => ?_)
    refine fr_iload_n (pc := 133) 3 rfl rfl dX12_packOne_133 ?_
    refine fr_istore (pc := 134) (lv' := [(4, .int v2), (3, .int i6), (0, .ref a0), (1, .int v1), (2, .int v2)]) (by decide) rfl dX12_packOne_134 ?_
    exact fr_sub [2, 3, 1, 0] rfl hW
  · refine fr_aload_n (pc := 10) 0 rfl rfl dX12_packOne_10 ?_
    refine fr_getR (pc := 11) (T := TX12) (k := 0) kc_X12 (by decide) w_1006 dX12_packOne_11 hW (fun r11 hW => ?_)
    refine fr_iload_n (pc := 14) 3 rfl rfl dX12_packOne_14 ?_
    refine fr_zald (pc := 15) dX12_packOne_15 hW (fun i12 hW => ?_)
    refine fr_if_eq (pc := 16) (tgt := 103) (by decide) dX12_packOne_16 hW (fun hW => ?_) (fun hW => ?_)
    · refine fr_iinc (pc := 103) (lv' := [(3, .int (v3 + 1)), (0, .ref a0), (1, .int v1), (2, .int v2)]) (v3 + 1) 3 rfl (congrArg (fun z => v3 + z) (by decide)) (by decide) rfl dX12_packOne_103 ?_
      refine fr_goto (pc := 106) (tgt := 4) (by decide) dX12_packOne_106 ?_
      exact fr_sub [1, 2, 3, 0] rfl hW
    · refine fr_iload_n (pc := 19) 2 rfl rfl dX12_packOne_19 ?_
      refine fr_istore (pc := 20) (lv' := [(4, .int v2), (0, .ref a0), (1, .int v1), (2, .int v2), (3, .int v3)]) (by decide) rfl dX12_packOne_20 ?_
      exact fr_sub [1, 2, 3, 4, 0] rfl hW
set_option maxHeartbeats 4000000 in
set_option maxRecDepth 100000 in
theorem q_X12_packOne_136 {g : GG} {σ : Hs} {post : Option Value → Hs → Prop} (a0 : Nat) (v1 : Int32) (v3 : Int32) (v4 : Int32) (hW : (v4 ≤ 0 → post none σ) ∧ (¬ v4 ≤ 0 → FR σ a0 12 10 (fun r13 => FR σ a0 12 11 (fun r14 => AI g σ r14 0 v1 (fun i15 => (v3 ≤ v4 → J_X12_packOne_168 g post σ a0 v1 v3 v4 v3 (((64 * v1) + i15)) r13) ∧ (¬ v3 ≤ v4 → J_X12_packOne_168 g post σ a0 v1 v3 v4 v4 (((64 * v1) + i15)) r13)))))) : J_X12_packOne_136 g post σ a0 v1 v3 v4 := by
  show Fr g M_X12_packOne (0, 0, 0, 0) [(0, .ref a0), (1, .int v1), (3, .int v3), (4, .int v4)] [] 136 σ post
  refine fr_iload (pc := 136) 3 rfl dX12_packOne_136 ?_
  refine fr_if_le (pc := 138) (tgt := 188) (by decide) dX12_packOne_138 hW (fun hW => ?_) (fun hW => ?_)
  · exact fr_ret (pc := 188) dX12_packOne_188 rfl ⟨Nat.le_refl 0, Nat.le_refl 0⟩ hW
  · refine fr_aload_n (pc := 141) 0 rfl rfl dX12_packOne_141 ?_
    refine fr_getR (pc := 142) (T := TX12) (k := 10) kc_X12 (by decide) w_1014 dX12_packOne_142 hW (fun r13 hW => ?_)
    refine fr_bipush (pc := 145) 64 (by decide) dX12_packOne_145 ?_
    refine fr_iload_n (pc := 147) 1 rfl rfl dX12_packOne_147 ?_
    refine fr_imul (pc := 148) dX12_packOne_148 ?_
    refine fr_aload_n (pc := 149) 0 rfl rfl dX12_packOne_149 ?_
    refine fr_getR (pc := 150) (T := TX12) (k := 11) kc_X12 (by decide) w_1015 dX12_packOne_150 hW (fun r14 hW => ?_)
    refine fr_iload_n (pc := 153) 1 rfl rfl dX12_packOne_153 ?_
    refine fr_iald (pc := 154) dX12_packOne_154 hW (fun i15 hW => ?_)
    refine fr_iadd (pc := 155) dX12_packOne_155 ?_
    refine fr_iload (pc := 156) 3 rfl dX12_packOne_156 ?_
    refine fr_iload_n (pc := 158) 2 rfl rfl dX12_packOne_158 ?_
    refine fr_icmp_ge (pc := 159) (tgt := 167) (by decide) dX12_packOne_159 hW (fun hW => ?_) (fun hW => ?_)
    · refine fr_iload_n (pc := 167) 2 rfl rfl dX12_packOne_167 ?_
      exact fr_sub [0, 1, 2, 3] rfl hW
    · refine fr_iload (pc := 162) 3 rfl dX12_packOne_162 ?_
      refine fr_goto (pc := 164) (tgt := 168) (by decide) dX12_packOne_164 ?_
      exact fr_sub [0, 1, 2, 3] rfl hW
set_option maxHeartbeats 4000000 in
set_option maxRecDepth 100000 in
theorem q_X12_packOne_22 {g : GG} {σ : Hs} {post : Option Value → Hs → Prop} (a0 : Nat) (v1 : Int32) (v2 : Int32) (v3 : Int32) (v4 : Int32) (hW : (v4 ≤ 0 → FR σ a0 12 8 (fun r16 => SI g σ r16 0 ((64 * v1) + v4) v3 (fun s17 => J_X12_packOne_4 g post s17 a0 v1 ((v2 + 1)) ((v3 + 1)) ))) ∧ (¬ v4 ≤ 0 → FR σ a0 12 5 (fun r18 => AI g σ r18 0 v1 (fun i19 => FR σ a0 12 8 (fun r20 => AI g σ r20 0 (((64 * v1) + v4) - 1) (fun i21 => Rc σ a0 12 ∧ Do g M_X12_isAhead 0 0 [.ref a0, .int i19, .int v3, .int i21] σ (kI (fun i23 s22 => (i23 = 0 → FR s22 a0 12 8 (fun r26 => SI g s22 r26 0 ((64 * v1) + v4) v3 (fun s27 => J_X12_packOne_4 g post s27 a0 v1 ((v2 + 1)) ((v3 + 1)) ))) ∧ (¬ i23 = 0 → FR s22 a0 12 8 (fun r28 => FR s22 a0 12 8 (fun r29 => AI g s22 r29 0 (((64 * v1) + v4) - 1) (fun i30 => SI g s22 r28 0 ((64 * v1) + v4) i30 (fun s31 => J_X12_packOne_22 g post s31 a0 v1 v2 v3 ((v4 + (-1))) ))))))))))))) : J_X12_packOne_22 g post σ a0 v1 v2 v3 v4 := by
  show Fr g M_X12_packOne (0, 0, 0, 0) [(0, .ref a0), (1, .int v1), (2, .int v2), (3, .int v3), (4, .int v4)] [] 22 σ post
  refine fr_iload (pc := 22) 4 rfl dX12_packOne_22 ?_
  refine fr_if_le (pc := 24) (tgt := 87) (by decide) dX12_packOne_24 hW (fun hW => ?_) (fun hW => ?_)
  · refine fr_aload_n (pc := 87) 0 rfl rfl dX12_packOne_87 ?_
    refine fr_getR (pc := 88) (T := TX12) (k := 8) kc_X12 (by decide) w_1012 dX12_packOne_88 hW (fun r16 hW => ?_)
    refine fr_bipush (pc := 91) 64 (by decide) dX12_packOne_91 ?_
    refine fr_iload_n (pc := 93) 1 rfl rfl dX12_packOne_93 ?_
    refine fr_imul (pc := 94) dX12_packOne_94 ?_
    refine fr_iload (pc := 95) 4 rfl dX12_packOne_95 ?_
    refine fr_iadd (pc := 97) dX12_packOne_97 ?_
    refine fr_iload_n (pc := 98) 3 rfl rfl dX12_packOne_98 ?_
    refine fr_iast (pc := 99) dX12_packOne_99 hW (fun s17 hW => ?_)
    refine fr_iinc (pc := 100) (lv' := [(2, .int (v2 + 1)), (0, .ref a0), (1, .int v1), (3, .int v3), (4, .int v4)]) (v2 + 1) 2 rfl (congrArg (fun z => v2 + z) (by decide)) (by decide) rfl dX12_packOne_100 ?_
    refine fr_iinc (pc := 103) (lv' := [(3, .int (v3 + 1)), (2, .int (v2 + 1)), (0, .ref a0), (1, .int v1), (4, .int v4)]) (v3 + 1) 3 rfl (congrArg (fun z => v3 + z) (by decide)) (by decide) rfl dX12_packOne_103 ?_
    refine fr_goto (pc := 106) (tgt := 4) (by decide) dX12_packOne_106 ?_
    exact fr_sub [2, 3, 1, 0] rfl hW
  · refine fr_aload_n (pc := 27) 0 rfl rfl dX12_packOne_27 ?_
    refine fr_aload_n (pc := 28) 0 rfl rfl dX12_packOne_28 ?_
    refine fr_getR (pc := 29) (T := TX12) (k := 5) kc_X12 (by decide) w_1009 dX12_packOne_29 hW (fun r18 hW => ?_)
    refine fr_iload_n (pc := 32) 1 rfl rfl dX12_packOne_32 ?_
    refine fr_iald (pc := 33) dX12_packOne_33 hW (fun i19 hW => ?_)
    refine fr_iload_n (pc := 34) 3 rfl rfl dX12_packOne_34 ?_
    refine fr_aload_n (pc := 35) 0 rfl rfl dX12_packOne_35 ?_
    refine fr_getR (pc := 36) (T := TX12) (k := 8) kc_X12 (by decide) w_1012 dX12_packOne_36 hW (fun r20 hW => ?_)
    refine fr_bipush (pc := 39) 64 (by decide) dX12_packOne_39 ?_
    refine fr_iload_n (pc := 41) 1 rfl rfl dX12_packOne_41 ?_
    refine fr_imul (pc := 42) dX12_packOne_42 ?_
    refine fr_iload (pc := 43) 4 rfl dX12_packOne_43 ?_
    refine fr_iadd (pc := 45) dX12_packOne_45 ?_
    refine fr_iconst (pc := 46) 1 (by decide) dX12_packOne_46 ?_
    refine fr_isub (pc := 47) dX12_packOne_47 ?_
    refine fr_iald (pc := 48) dX12_packOne_48 hW (fun i21 hW => ?_)
    obtain ⟨hrc, hW⟩ := hW
    refine fr_callV_I (pc := 49) (As := [.int i19, .int v3, .int i21]) (st := []) wd_X12_isAhead w_1070 ok_X12_isAhead (by decide) rfl (Nat.le_of_ble_eq_true rfl) dX12_packOne_49 ⟨Nat.le_refl 0, Nat.le_refl 0⟩ kc_X12 hrc hW (fun i23 s22 hW => ?_)
    refine fr_if_eq (pc := 52) (tgt := 87) (by decide) dX12_packOne_52 hW (fun hW => ?_) (fun hW => ?_)
    · refine fr_aload_n (pc := 87) 0 rfl rfl dX12_packOne_87 ?_
      refine fr_getR (pc := 88) (T := TX12) (k := 8) kc_X12 (by decide) w_1012 dX12_packOne_88 hW (fun r26 hW => ?_)
      refine fr_bipush (pc := 91) 64 (by decide) dX12_packOne_91 ?_
      refine fr_iload_n (pc := 93) 1 rfl rfl dX12_packOne_93 ?_
      refine fr_imul (pc := 94) dX12_packOne_94 ?_
      refine fr_iload (pc := 95) 4 rfl dX12_packOne_95 ?_
      refine fr_iadd (pc := 97) dX12_packOne_97 ?_
      refine fr_iload_n (pc := 98) 3 rfl rfl dX12_packOne_98 ?_
      refine fr_iast (pc := 99) dX12_packOne_99 hW (fun s27 hW => ?_)
      refine fr_iinc (pc := 100) (lv' := [(2, .int (v2 + 1)), (0, .ref a0), (1, .int v1), (3, .int v3), (4, .int v4)]) (v2 + 1) 2 rfl (congrArg (fun z => v2 + z) (by decide)) (by decide) rfl dX12_packOne_100 ?_
      refine fr_iinc (pc := 103) (lv' := [(3, .int (v3 + 1)), (2, .int (v2 + 1)), (0, .ref a0), (1, .int v1), (4, .int v4)]) (v3 + 1) 3 rfl (congrArg (fun z => v3 + z) (by decide)) (by decide) rfl dX12_packOne_103 ?_
      refine fr_goto (pc := 106) (tgt := 4) (by decide) dX12_packOne_106 ?_
      exact fr_sub [2, 3, 1, 0] rfl hW
    · refine fr_aload_n (pc := 55) 0 rfl rfl dX12_packOne_55 ?_
      refine fr_getR (pc := 56) (T := TX12) (k := 8) kc_X12 (by decide) w_1012 dX12_packOne_56 hW (fun r28 hW => ?_)
      refine fr_bipush (pc := 59) 64 (by decide) dX12_packOne_59 ?_
      refine fr_iload_n (pc := 61) 1 rfl rfl dX12_packOne_61 ?_
      refine fr_imul (pc := 62) dX12_packOne_62 ?_
      refine fr_iload (pc := 63) 4 rfl dX12_packOne_63 ?_
      refine fr_iadd (pc := 65) dX12_packOne_65 ?_
      refine fr_aload_n (pc := 66) 0 rfl rfl dX12_packOne_66 ?_
      refine fr_getR (pc := 67) (T := TX12) (k := 8) kc_X12 (by decide) w_1012 dX12_packOne_67 hW (fun r29 hW => ?_)
      refine fr_bipush (pc := 70) 64 (by decide) dX12_packOne_70 ?_
      refine fr_iload_n (pc := 72) 1 rfl rfl dX12_packOne_72 ?_
      refine fr_imul (pc := 73) dX12_packOne_73 ?_
      refine fr_iload (pc := 74) 4 rfl dX12_packOne_74 ?_
      refine fr_iadd (pc := 76) dX12_packOne_76 ?_
      refine fr_iconst (pc := 77) 1 (by decide) dX12_packOne_77 ?_
      refine fr_isub (pc := 78) dX12_packOne_78 ?_
      refine fr_iald (pc := 79) dX12_packOne_79 hW (fun i30 hW => ?_)
      refine fr_iast (pc := 80) dX12_packOne_80 hW (fun s31 hW => ?_)
      refine fr_iinc (pc := 81) (lv' := [(4, .int (v4 + (-1))), (0, .ref a0), (1, .int v1), (2, .int v2), (3, .int v3)]) (v4 + (-1)) 4 rfl (congrArg (fun z => v4 + z) (by decide)) (by decide) rfl dX12_packOne_81 ?_
      refine fr_goto (pc := 84) (tgt := 22) (by decide) dX12_packOne_84 ?_
      exact fr_sub [1, 2, 3, 4, 0] rfl hW
set_option maxHeartbeats 4000000 in
set_option maxRecDepth 100000 in
theorem q_X12_packOne_168 {g : GG} {σ : Hs} {post : Option Value → Hs → Prop} (a0 : Nat) (v1 : Int32) (v3 : Int32) (v4 : Int32) (t0 : Int32) (t1 : Int32) (t2 : Nat) (hW : SI g σ t2 0 t1 t0 (fun s32 => FR s32 a0 12 11 (fun r33 => AI g s32 r33 0 v1 (fun i34 => SI g s32 r33 0 v1 (i34 + 1) (fun s35 => J_X12_packOne_136 g post s35 a0 v1 v3 ((v4 - v3)) ))))) : J_X12_packOne_168 g post σ a0 v1 v3 v4 t0 t1 t2 := by
  show Fr g M_X12_packOne (0, 0, 0, 0) [(0, .ref a0), (1, .int v1), (3, .int v3), (4, .int v4)] [.int t0, .int t1, .ref t2] 168 σ post
  refine fr_iast (pc := 168) dX12_packOne_168 hW (fun s32 hW => ?_)
  refine fr_aload_n (pc := 169) 0 rfl rfl dX12_packOne_169 ?_
  refine fr_getR (pc := 170) (T := TX12) (k := 11) kc_X12 (by decide) w_1015 dX12_packOne_170 hW (fun r33 hW => ?_)
  refine fr_iload_n (pc := 173) 1 rfl rfl dX12_packOne_173 ?_
  refine fr_dup2 (pc := 174) rfl rfl dX12_packOne_174 ?_
  refine fr_iald (pc := 175) dX12_packOne_175 hW (fun i34 hW => ?_)
  refine fr_iconst (pc := 176) 1 (by decide) dX12_packOne_176 ?_
  refine fr_iadd (pc := 177) dX12_packOne_177 ?_
  refine fr_iast (pc := 178) dX12_packOne_178 hW (fun s35 hW => ?_)
  refine fr_iload (pc := 179) 3 rfl dX12_packOne_179 ?_
  refine fr_iload_n (pc := 181) 2 rfl rfl dX12_packOne_181 ?_
  refine fr_isub (pc := 182) dX12_packOne_182 ?_
  refine fr_istore (pc := 183) (lv' := [(4, .int (v4 - v3)), (0, .ref a0), (1, .int v1), (3, .int v3)]) (by decide) rfl dX12_packOne_183 ?_
  refine fr_goto (pc := 185) (tgt := 136) (by decide) dX12_packOne_185 ?_
  exact fr_sub [1, 2, 3, 0] rfl hW
def J_X12_order_12 (g : GG) (post : Option Value → Hs → Prop) (σ : Hs) (a0 : Nat) (v1 : Int32) (v2 : Int32) : Prop := Fr g M_X12_order (0, 0, 0, 0) [(0, .ref a0), (1, .int v1), (2, .int v2)] [] 12 σ post
set_option maxHeartbeats 4000000 in
set_option maxRecDepth 100000 in
theorem q_X12_order {g : GG} {σ : Hs} {post : Option Value → Hs → Prop} (r0 : Nat) (p0 : Int32) (hW : Do g M_X12_isKey 0 0 [.int p0] σ (kI (fun i2 s1 => (¬ i2 = 0 → J_X12_order_12 g post s1 r0 p0 0 ) ∧ (i2 = 0 → post (some (.int (-102))) s1)))) : Do g M_X12_order 0 0 [.ref r0, .int p0] σ post := by
  refine Do.of (by decide +kernel) (Nat.le_of_ble_eq_true rfl) ?_
  show Fr g M_X12_order (0, 0, 0, 0) [(0, .ref r0), (1, .int p0)] [] 0 σ post
  refine fr_iload_n (pc := 0) 1 rfl rfl dX12_order_0 ?_
  refine fr_callS_I (pc := 1) (As := [.int p0]) (st := []) wd_X12_isKey w_1129 ok_X12_isKey (by decide) rfl (Nat.le_of_ble_eq_true rfl) dX12_order_1 ⟨Nat.le_refl 0, Nat.le_refl 0⟩ hW (fun i2 s1 hW => ?_)
  refine fr_if_ne (pc := 4) (tgt := 10) (by decide) dX12_order_4 hW (fun hW => ?_) (fun hW => ?_)
  · refine fr_iconst (pc := 10) 0 (by decide) dX12_order_10 ?_
    refine fr_istore_n (pc := 11) (lv' := [(2, .int 0), (0, .ref r0), (1, .int p0)]) rfl (by decide) rfl dX12_order_11 ?_
    exact fr_sub [1, 2, 0] rfl hW
  · refine fr_bipush (pc := 7) (-102) (by decide) dX12_order_7 ?_
    exact fr_iret (pc := 9) dX12_order_9 rfl ⟨Nat.le_refl 0, Nat.le_refl 0⟩ hW
set_option maxHeartbeats 4000000 in
set_option maxRecDepth 100000 in
theorem q_X12_order_12 {g : GG} {σ : Hs} {post : Option Value → Hs → Prop} (a0 : Nat) (v1 : Int32) (v2 : Int32) (hW : FI σ a0 12 4 (fun i5 => (i5 ≤ v2 → FI σ a0 12 4 (fun i6 => (¬ i6 = 8 → FR σ a0 12 5 (fun r7 => FI σ a0 12 4 (fun i8 => SI g σ r7 0 i8 v1 (fun s9 => FR s9 a0 12 6 (fun r10 => FI s9 a0 12 4 (fun i11 => SI g s9 r10 1 i11 (vp_nar .boolean 0) (fun s12 => FR s12 a0 12 7 (fun r13 => FI s12 a0 12 4 (fun i14 => SI g s12 r13 0 i14 0 (fun s15 => FI s15 a0 12 4 (fun i16 => Rc s15 a0 12 ∧ Do g M_X12_packOne 0 0 [.ref a0, .int i16] s15 (kV (fun s17 => FI s17 a0 12 4 (fun i18 => PF s17 a0 12 4 (.int (i18 + 1)) (fun s19 => FI s19 a0 12 4 (fun i20 => post (some (.int (i20 - 1))) s19)))))))))))))))) ∧ (i6 = 8 → post (some (.int (-104))) σ))) ∧ (¬ i5 ≤ v2 → FR σ a0 12 6 (fun r21 => AI g σ r21 1 v2 (fun i22 => (¬ i22 = 0 → J_X12_order_12 g post σ a0 v1 ((v2 + 1)) ) ∧ (i22 = 0 → FR σ a0 12 5 (fun r23 => AI g σ r23 0 v2 (fun i24 => (¬ i24 = v1 → J_X12_order_12 g post σ a0 v1 ((v2 + 1)) ) ∧ (i24 = v1 → post (some (.int (-103))) σ))))))))) : J_X12_order_12 g post σ a0 v1 v2 := by
  show Fr g M_X12_order (0, 0, 0, 0) [(0, .ref a0), (1, .int v1), (2, .int v2)] [] 12 σ post
  refine fr_iload_n (pc := 12) 2 rfl rfl dX12_order_12 ?_
  refine fr_aload_n (pc := 13) 0 rfl rfl dX12_order_13 ?_
  refine fr_getI (pc := 14) (T := TX12) (k := 4) kc_X12 (by decide) w_1073 dX12_order_14 hW (fun i5 hW => ?_)
  refine fr_icmp_ge (pc := 17) (tgt := 48) (by decide) dX12_order_17 hW (fun hW => ?_) (fun hW => ?_)
  · refine fr_aload_n (pc := 48) 0 rfl rfl dX12_order_48 ?_
    refine fr_getI (pc := 49) (T := TX12) (k := 4) kc_X12 (by decide) w_1073 dX12_order_49 hW (fun i6 hW => ?_)
    refine fr_bipush (pc := 52) 8 (by decide) dX12_order_52 ?_
    refine fr_icmp_ne (pc := 54) (tgt := 60) (by decide) dX12_order_54 hW (fun hW => ?_) (fun hW => ?_)
    · refine fr_aload_n (pc := 60) 0 rfl rfl dX12_order_60 ?_
      refine fr_getR (pc := 61) (T := TX12) (k := 5) kc_X12 (by decide) w_1009 dX12_order_61 hW (fun r7 hW => ?_)
      refine fr_aload_n (pc := 64) 0 rfl rfl dX12_order_64 ?_
      refine fr_getI (pc := 65) (T := TX12) (k := 4) kc_X12 (by decide) w_1073 dX12_order_65 hW (fun i8 hW => ?_)
      refine fr_iload_n (pc := 68) 1 rfl rfl dX12_order_68 ?_
      refine fr_iast (pc := 69) dX12_order_69 hW (fun s9 hW => ?_)
      refine fr_aload_n (pc := 70) 0 rfl rfl dX12_order_70 ?_
      refine fr_getR (pc := 71) (T := TX12) (k := 6) kc_X12 (by decide) w_1010 dX12_order_71 hW (fun r10 hW => ?_)
      refine fr_aload_n (pc := 74) 0 rfl rfl dX12_order_74 ?_
      refine fr_getI (pc := 75) (T := TX12) (k := 4) kc_X12 (by decide) w_1073 dX12_order_75 hW (fun i11 hW => ?_)
      refine fr_iconst (pc := 78) 0 (by decide) dX12_order_78 ?_
      refine fr_zast (pc := 79) dX12_order_79 hW (fun s12 hW => ?_)
      refine fr_aload_n (pc := 80) 0 rfl rfl dX12_order_80 ?_
      refine fr_getR (pc := 81) (T := TX12) (k := 7) kc_X12 (by decide) w_1011 dX12_order_81 hW (fun r13 hW => ?_)
      refine fr_aload_n (pc := 84) 0 rfl rfl dX12_order_84 ?_
      refine fr_getI (pc := 85) (T := TX12) (k := 4) kc_X12 (by decide) w_1073 dX12_order_85 hW (fun i14 hW => ?_)
      refine fr_iconst (pc := 88) 0 (by decide) dX12_order_88 ?_
      refine fr_iast (pc := 89) dX12_order_89 hW (fun s15 hW => ?_)
      refine fr_aload_n (pc := 90) 0 rfl rfl dX12_order_90 ?_
      refine fr_aload_n (pc := 91) 0 rfl rfl dX12_order_91 ?_
      refine fr_getI (pc := 92) (T := TX12) (k := 4) kc_X12 (by decide) w_1073 dX12_order_92 hW (fun i16 hW => ?_)
      obtain ⟨hrc, hW⟩ := hW
      refine fr_callV_V (pc := 95) (As := [.int i16]) (st := []) wd_X12_packOne w_1130 ok_X12_packOne (by decide) rfl (Nat.le_of_ble_eq_true rfl) dX12_order_95 ⟨Nat.le_refl 0, Nat.le_refl 0⟩ kc_X12 hrc hW (fun s17 hW => ?_)
      refine fr_aload_n (pc := 98) 0 rfl rfl dX12_order_98 ?_
      refine fr_dup (pc := 99) rfl dX12_order_99 ?_
      refine fr_getI (pc := 100) (T := TX12) (k := 4) kc_X12 (by decide) w_1073 dX12_order_100 hW (fun i18 hW => ?_)
      refine fr_iconst (pc := 103) 1 (by decide) dX12_order_103 ?_
      refine fr_iadd (pc := 104) dX12_order_104 ?_
      refine fr_put (pc := 105) (T := TX12) (k := 4) kc_X12 (by decide) w_1073 rfl rfl rfl dX12_order_105 hW (fun s19 hW => ?_)
      refine fr_aload_n (pc := 108) 0 rfl rfl dX12_order_108 ?_
      refine fr_getI (pc := 109) (T := TX12) (k := 4) kc_X12 (by decide) w_1073 dX12_order_109 hW (fun i20 hW => ?_)
      refine fr_iconst (pc := 112) 1 (by decide) dX12_order_112 ?_
      refine fr_isub (pc := 113) dX12_order_113 ?_
      exact fr_iret (pc := 114) dX12_order_114 rfl ⟨Nat.le_refl 0, Nat.le_refl 0⟩ hW
    · refine fr_bipush (pc := 57) (-104) (by decide) dX12_order_57 ?_
      exact fr_iret (pc := 59) dX12_order_59 rfl ⟨Nat.le_refl 0, Nat.le_refl 0⟩ hW
  · refine fr_aload_n (pc := 20) 0 rfl rfl dX12_order_20 ?_
    refine fr_getR (pc := 21) (T := TX12) (k := 6) kc_X12 (by decide) w_1010 dX12_order_21 hW (fun r21 hW => ?_)
    refine fr_iload_n (pc := 24) 2 rfl rfl dX12_order_24 ?_
    refine fr_zald (pc := 25) dX12_order_25 hW (fun i22 hW => ?_)
    refine fr_if_ne (pc := 26) (tgt := 42) (by decide) dX12_order_26 hW (fun hW => ?_) (fun hW => ?_)
    · refine fr_iinc (pc := 42) (lv' := [(2, .int (v2 + 1)), (0, .ref a0), (1, .int v1)]) (v2 + 1) 2 rfl (congrArg (fun z => v2 + z) (by decide)) (by decide) rfl dX12_order_42 ?_
      refine fr_goto (pc := 45) (tgt := 12) (by decide) dX12_order_45 ?_
      exact fr_sub [1, 2, 0] rfl hW
    · refine fr_aload_n (pc := 29) 0 rfl rfl dX12_order_29 ?_
      refine fr_getR (pc := 30) (T := TX12) (k := 5) kc_X12 (by decide) w_1009 dX12_order_30 hW (fun r23 hW => ?_)
      refine fr_iload_n (pc := 33) 2 rfl rfl dX12_order_33 ?_
      refine fr_iald (pc := 34) dX12_order_34 hW (fun i24 hW => ?_)
      refine fr_iload_n (pc := 35) 1 rfl rfl dX12_order_35 ?_
      refine fr_icmp_ne (pc := 36) (tgt := 42) (by decide) dX12_order_36 hW (fun hW => ?_) (fun hW => ?_)
      · refine fr_iinc (pc := 42) (lv' := [(2, .int (v2 + 1)), (0, .ref a0), (1, .int v1)]) (v2 + 1) 2 rfl (congrArg (fun z => v2 + z) (by decide)) (by decide) rfl dX12_order_42 ?_
        refine fr_goto (pc := 45) (tgt := 12) (by decide) dX12_order_45 ?_
        exact fr_sub [1, 2, 0] rfl hW
      · refine fr_bipush (pc := 39) (-103) (by decide) dX12_order_39 ?_
        exact fr_iret (pc := 41) dX12_order_41 rfl ⟨Nat.le_refl 0, Nat.le_refl 0⟩ hW
set_option maxHeartbeats 4000000 in
set_option maxRecDepth 100000 in
theorem q_X2_dismiss {g : GG} {σ : Hs} {post : Option Value → Hs → Prop} (r0 : Nat) (hW : PF σ r0 2 11 (.int 1) (fun s1 => post none s1)) : Do g M_X2_dismiss 0 0 [.ref r0] σ post := by
  refine Do.of (by decide +kernel) (Nat.le_of_ble_eq_true rfl) ?_
  show Fr g M_X2_dismiss (0, 0, 0, 0) [(0, .ref r0)] [] 0 σ post
  refine fr_aload_n (pc := 0) 0 rfl rfl dX2_dismiss_0 ?_
  refine fr_iconst (pc := 1) 1 (by decide) dX2_dismiss_1 ?_
  refine fr_put (pc := 2) (T := TX2) (k := 11) kc_X2 (by decide) w_1033 rfl rfl rfl dX2_dismiss_2 hW (fun s1 hW => ?_)
  exact fr_ret (pc := 5) dX2_dismiss_5 rfl ⟨Nat.le_refl 0, Nat.le_refl 0⟩ hW
def J_X2_height_7 (g : GG) (post : Option Value → Hs → Prop) (σ : Hs) (v1 : Int32) (v2 : Int32) : Prop := Fr g M_X2_height (0, 0, 0, 0) [(1, .int v1), (2, .int v2)] [] 7 σ post
set_option maxHeartbeats 4000000 in
set_option maxRecDepth 100000 in
theorem q_X2_height {g : GG} {σ : Hs} {post : Option Value → Hs → Prop} (r0 : Nat) (hW : FI σ r0 2 9 (fun i1 => J_X2_height_7 g post σ 0 i1 )) : Do g M_X2_height 0 0 [.ref r0] σ post := by
  refine Do.of (by decide +kernel) (Nat.le_of_ble_eq_true rfl) ?_
  show Fr g M_X2_height (0, 0, 0, 0) [(0, .ref r0)] [] 0 σ post
  refine fr_iconst (pc := 0) 0 (by decide) dX2_height_0 ?_
  refine fr_istore_n (pc := 1) (lv' := [(1, .int 0), (0, .ref r0)]) rfl (by decide) rfl dX2_height_1 ?_
  refine fr_aload_n (pc := 2) 1 rfl rfl dX2_height_2 ?_
  refine fr_getI (pc := 3) (T := TX2) (k := 9) kc_X2 (by decide) w_1044 dX2_height_3 hW (fun i1 hW => ?_)
  refine fr_istore_n (pc := 6) (lv' := [(2, .int i1), (1, .int 0), (0, .ref r0)]) rfl (by decide) rfl dX2_height_6 ?_
  exact fr_sub [1, 0] rfl hW
set_option maxHeartbeats 4000000 in
set_option maxRecDepth 100000 in
theorem q_X2_height_7 {g : GG} {σ : Hs} {post : Option Value → Hs → Prop} (v1 : Int32) (v2 : Int32) (hW : (v2 ≤ 1 → post (some (.int v1)) σ) ∧ (¬ v2 ≤ 1 → (64 ≤ v1 → post (some (.int v1)) σ) ∧ (¬ 64 ≤ v1 → Do g M_X11_roundedUp 0 0 [.int v2, .int 4] σ (kI (fun i3 s2 => J_X2_height_7 g post s2 ((v1 + 1)) i3 ))))) : J_X2_height_7 g post σ v1 v2 := by
  show Fr g M_X2_height (0, 0, 0, 0) [(1, .int v1), (2, .int v2)] [] 7 σ post
  refine fr_iload_n (pc := 7) 1 rfl rfl dX2_height_7 ?_
  refine fr_iconst (pc := 8) 1 (by decide) dX2_height_8 ?_
  refine fr_icmp_le (pc := 9) (tgt := 30) (by decide) dX2_height_9 hW (fun hW => ?_) (fun hW => ?_)
  · refine fr_iload_n (pc := 30) 0 rfl rfl dX2_height_30 ?_
    exact fr_iret (pc := 31) dX2_height_31 rfl ⟨Nat.le_refl 0, Nat.le_refl 0⟩ hW
  · refine fr_iload_n (pc := 12) 0 rfl rfl dX2_height_12 ?_
    refine fr_bipush (pc := 13) 64 (by decide) dX2_height_13 ?_
    refine fr_icmp_ge (pc := 15) (tgt := 30) (by decide) dX2_height_15 hW (fun hW => ?_) (fun hW => ?_)
    · refine fr_iload_n (pc := 30) 0 rfl rfl dX2_height_30 ?_
      exact fr_iret (pc := 31) dX2_height_31 rfl ⟨Nat.le_refl 0, Nat.le_refl 0⟩ hW
    · refine fr_iinc (pc := 18) (lv' := [(1, .int (v1 + 1)), (2, .int v2)]) (v1 + 1) 0 rfl (congrArg (fun z => v1 + z) (by decide)) (by decide) rfl dX2_height_18 ?_
      refine fr_iload_n (pc := 21) 1 rfl rfl dX2_height_21 ?_
      refine fr_iconst (pc := 22) 4 (by decide) dX2_height_22 ?_
      refine fr_callSN_I (pc := 23) (As := [.int v2, .int 4]) (st := []) wd_X11_roundedUp ⟨RX11, by decide +kernel⟩ ok_X11_roundedUp (by decide) rfl (Nat.le_of_ble_eq_true rfl) dX2_height_23 ⟨Nat.le_refl 0, Nat.le_refl 0⟩ hW (fun i3 s2 hW => ?_)
      refine fr_istore_n (pc := 26) (lv' := [(2, .int i3), (1, .int (v1 + 1))]) rfl (by decide) rfl dX2_height_26 ?_
      refine fr_goto (pc := 27) (tgt := 7) (by decide) dX2_height_27 ?_
      exact fr_sub [1, 0] rfl hW
def J_X2_size_15 (g : GG) (post : Option Value → Hs → Prop) (σ : Hs) (v1 : Int32) (v2 : Int32) (v3 : Int32) : Prop := Fr g M_X2_size (0, 0, 0, 0) [(1, .int v1), (2, .int v2), (3, .int v3)] [] 15 σ post
set_option maxHeartbeats 4000000 in
set_option maxRecDepth 100000 in
theorem q_X2_size {g : GG} {σ : Hs} {post : Option Value → Hs → Prop} (r0 : Nat) (hW : FI σ r0 2 9 (fun i1 => FI σ r0 2 9 (fun i2 => Rc σ r0 2 ∧ Do g M_X2_height 0 0 [.ref r0] σ (kI (fun i4 s3 => J_X2_size_15 g post s3 i1 i2 i4 ))))) : Do g M_X2_size 0 0 [.ref r0] σ post := by
  refine Do.of (by decide +kernel) (Nat.le_of_ble_eq_true rfl) ?_
  show Fr g M_X2_size (0, 0, 0, 0) [(0, .ref r0)] [] 0 σ post
  refine fr_aload_n (pc := 0) 0 rfl rfl dX2_size_0 ?_
  refine fr_getI (pc := 1) (T := TX2) (k := 9) kc_X2 (by decide) w_1044 dX2_size_1 hW (fun i1 hW => ?_)
  refine fr_istore_n (pc := 4) (lv' := [(1, .int i1), (0, .ref r0)]) rfl (by decide) rfl dX2_size_4 ?_
  refine fr_aload_n (pc := 5) 1 rfl rfl dX2_size_5 ?_
  refine fr_getI (pc := 6) (T := TX2) (k := 9) kc_X2 (by decide) w_1044 dX2_size_6 hW (fun i2 hW => ?_)
  refine fr_istore_n (pc := 9) (lv' := [(2, .int i2), (1, .int i1), (0, .ref r0)]) rfl (by decide) rfl dX2_size_9 ?_
  refine fr_aload_n (pc := 10) 2 rfl rfl dX2_size_10 ?_
  obtain ⟨hrc, hW⟩ := hW
  refine fr_callV_I (pc := 11) (As := []) (st := []) wd_X2_height w_1131 ok_X2_height (by decide) rfl (Nat.le_of_ble_eq_true rfl) dX2_size_11 ⟨Nat.le_refl 0, Nat.le_refl 0⟩ kc_X2 hrc hW (fun i4 s3 hW => ?_)
  refine fr_istore_n (pc := 14) (lv' := [(3, .int i4), (2, .int i2), (1, .int i1), (0, .ref r0)]) rfl (by decide) rfl dX2_size_14 ?_
  exact fr_sub [2, 1, 0] rfl hW
set_option maxHeartbeats 4000000 in
set_option maxRecDepth 100000 in
theorem q_X2_size_15 {g : GG} {σ : Hs} {post : Option Value → Hs → Prop} (v1 : Int32) (v2 : Int32) (v3 : Int32) (hW : (v3 ≤ 0 → post (some (.int v1)) σ) ∧ (¬ v3 ≤ 0 → Do g M_X11_roundedUp 0 0 [.int v2, .int 4] σ (kI (fun i8 s7 => J_X2_size_15 g post s7 ((v1 + i8)) i8 ((v3 + (-1))) )))) : J_X2_size_15 g post σ v1 v2 v3 := by
  show Fr g M_X2_size (0, 0, 0, 0) [(1, .int v1), (2, .int v2), (3, .int v3)] [] 15 σ post
  refine fr_iload_n (pc := 15) 2 rfl rfl dX2_size_15 ?_
  refine fr_if_le (pc := 16) (tgt := 35) (by decide) dX2_size_16 hW (fun hW => ?_) (fun hW => ?_)
  · refine fr_iload_n (pc := 35) 0 rfl rfl dX2_size_35 ?_
    exact fr_iret (pc := 36) dX2_size_36 rfl ⟨Nat.le_refl 0, Nat.le_refl 0⟩ hW
  · refine fr_iload_n (pc := 19) 1 rfl rfl dX2_size_19 ?_
    refine fr_iconst (pc := 20) 4 (by decide) dX2_size_20 ?_
    refine fr_callSN_I (pc := 21) (As := [.int v2, .int 4]) (st := []) wd_X11_roundedUp ⟨RX11, by decide +kernel⟩ ok_X11_roundedUp (by decide) rfl (Nat.le_of_ble_eq_true rfl) dX2_size_21 ⟨Nat.le_refl 0, Nat.le_refl 0⟩ hW (fun i8 s7 hW => ?_)
    refine fr_istore_n (pc := 24) (lv' := [(2, .int i8), (1, .int v1), (3, .int v3)]) rfl (by decide) rfl dX2_size_24 ?_
    refine fr_iload_n (pc := 25) 1 rfl rfl dX2_size_25 ?_
    refine fr_iload_n (pc := 26) 0 rfl rfl dX2_size_26 ?_
    refine fr_iadd (pc := 27) dX2_size_27 ?_
    refine fr_istore_n (pc := 28) (lv' := [(1, .int (v1 + i8)), (2, .int i8), (3, .int v3)]) rfl (by decide) rfl dX2_size_28 ?_
    refine fr_iinc (pc := 29) (lv' := [(3, .int (v3 + (-1))), (1, .int (v1 + i8)), (2, .int i8)]) (v3 + (-1)) 2 rfl (congrArg (fun z => v3 + z) (by decide)) (by decide) rfl dX2_size_29 ?_
    refine fr_goto (pc := 32) (tgt := 15) (by decide) dX2_size_32 ?_
    exact fr_sub [1, 2, 0] rfl hW
set_option maxHeartbeats 4000000 in
set_option maxRecDepth 100000 in
theorem q_X11_lose {g : GG} {σ : Hs} {post : Option Value → Hs → Prop} (r0 : Nat) (p0 : Int32) (hW : FR σ r0 11 1 (fun r1 => Rc σ r1 3 ∧ Do g M_X3_kept 0 0 [.ref r1, .int p0] σ (kA (fun s2 => post (some (.int (-101))) s2) (fun r5 s2 => Rc s2 r5 2 ∧ Do g M_X2_dismiss 0 0 [.ref r5] s2 (kV (fun s6 => Rc s6 r5 2 ∧ Do g M_X2_size 0 0 [.ref r5] s6 (kI (fun i8 s7 => post (some (.int i8)) s7)))))))) : Do g M_X11_lose 0 0 [.ref r0, .int p0] σ post := by
  refine Do.of (by decide +kernel) (Nat.le_of_ble_eq_true rfl) ?_
  show Fr g M_X11_lose (0, 0, 0, 0) [(0, .ref r0), (1, .int p0)] [] 0 σ post
  refine fr_aload_n (pc := 0) 0 rfl rfl dX11_lose_0 ?_
  refine fr_getR (pc := 1) (T := TX11) (k := 1) kc_X11 (by decide) w_991 dX11_lose_1 hW (fun r1 hW => ?_)
  refine fr_iload_n (pc := 4) 1 rfl rfl dX11_lose_4 ?_
  obtain ⟨hrc, hW⟩ := hW
  refine fr_callV_A (pc := 5) (As := [.int p0]) (st := []) wd_X3_kept w_1132 ok_X3_kept (by decide) rfl (Nat.le_of_ble_eq_true rfl) dX11_lose_5 ⟨Nat.le_refl 0, Nat.le_refl 0⟩ kc_X3 hrc hW (fun s2 hW => ?_) (fun r5 s2 hW => ?_)
  · refine fr_astore_nN (pc := 8) (lv' := [(2, .null), (0, .ref r0), (1, .int p0)]) rfl (by decide) rfl dX11_lose_8 ?_
    refine fr_aload_nN (pc := 9) 0 rfl rfl dX11_lose_9 ?_
    refine fr_ifnonnullN (pc := 10) dX11_lose_10 ?_
    refine fr_bipush (pc := 13) (-101) (by decide) dX11_lose_13 ?_
    exact fr_iret (pc := 15) dX11_lose_15 rfl ⟨Nat.le_refl 0, Nat.le_refl 0⟩ hW
  · refine fr_astore_n (pc := 8) (lv' := [(2, .ref r5), (0, .ref r0), (1, .int p0)]) rfl (by decide) rfl dX11_lose_8 ?_
    refine fr_aload_n (pc := 9) 0 rfl rfl dX11_lose_9 ?_
    refine fr_ifnonnull (pc := 10) (tgt := 16) (by decide) dX11_lose_10 ?_
    refine fr_aload_n (pc := 16) 0 rfl rfl dX11_lose_16 ?_
    obtain ⟨hrc, hW⟩ := hW
    refine fr_callV_V (pc := 17) (As := []) (st := []) wd_X2_dismiss w_1133 ok_X2_dismiss (by decide) rfl (Nat.le_of_ble_eq_true rfl) dX11_lose_17 ⟨Nat.le_refl 0, Nat.le_refl 0⟩ kc_X2 hrc hW (fun s6 hW => ?_)
    refine fr_aload_n (pc := 20) 0 rfl rfl dX11_lose_20 ?_
    obtain ⟨hrc, hW⟩ := hW
    refine fr_callV_I (pc := 21) (As := []) (st := []) wd_X2_size w_1134 ok_X2_size (by decide) rfl (Nat.le_of_ble_eq_true rfl) dX11_lose_21 ⟨Nat.le_refl 0, Nat.le_refl 0⟩ kc_X2 hrc hW (fun i8 s7 hW => ?_)
    exact fr_iret (pc := 24) dX11_lose_24 rfl ⟨Nat.le_refl 0, Nat.le_refl 0⟩ hW
set_option maxHeartbeats 4000000 in
set_option maxRecDepth 100000 in
theorem q_X12_isOrder {g : GG} {σ : Hs} {post : Option Value → Hs → Prop} (r0 : Nat) (p0 : Int32) (hW : FI σ r0 12 4 (fun i1 => Do g M_X12_in 0 0 [.int p0, .int 0, .int (i1 - 1)] σ (kI (fun i3 s2 => (i3 = 0 → post (some (.int 0)) s2) ∧ (¬ i3 = 0 → FR s2 r0 12 6 (fun r6 => AI g s2 r6 1 p0 (fun i7 => (¬ i7 = 0 → post (some (.int 0)) s2) ∧ (i7 = 0 → post (some (.int 1)) s2)))))))) : Do g M_X12_isOrder 0 0 [.ref r0, .int p0] σ post := by
  refine Do.of (by decide +kernel) (Nat.le_of_ble_eq_true rfl) ?_
  show Fr g M_X12_isOrder (0, 0, 0, 0) [(0, .ref r0), (1, .int p0)] [] 0 σ post
  refine fr_iload_n (pc := 0) 1 rfl rfl dX12_isOrder_0 ?_
  refine fr_iconst (pc := 1) 0 (by decide) dX12_isOrder_1 ?_
  refine fr_aload_n (pc := 2) 0 rfl rfl dX12_isOrder_2 ?_
  refine fr_getI (pc := 3) (T := TX12) (k := 4) kc_X12 (by decide) w_1073 dX12_isOrder_3 hW (fun i1 hW => ?_)
  refine fr_iconst (pc := 6) 1 (by decide) dX12_isOrder_6 ?_
  refine fr_isub (pc := 7) dX12_isOrder_7 ?_
  refine fr_callS_I (pc := 8) (As := [.int p0, .int 0, .int (i1 - 1)]) (st := []) wd_X12_in w_1067 ok_X12_in (by decide) rfl (Nat.le_of_ble_eq_true rfl) dX12_isOrder_8 ⟨Nat.le_refl 0, Nat.le_refl 0⟩ hW (fun i3 s2 hW => ?_)
  refine fr_if_eq (pc := 11) (tgt := 27) (by decide) dX12_isOrder_11 hW (fun hW => ?_) (fun hW => ?_)
  · refine fr_iconst (pc := 27) 0 (by decide) dX12_isOrder_27 ?_
    exact fr_zret (pc := 28) dX12_isOrder_28 rfl ⟨Nat.le_refl 0, Nat.le_refl 0⟩ ⟨rfl, hW⟩
  · refine fr_aload_n (pc := 14) 0 rfl rfl dX12_isOrder_14 ?_
    refine fr_getR (pc := 15) (T := TX12) (k := 6) kc_X12 (by decide) w_1010 dX12_isOrder_15 hW (fun r6 hW => ?_)
    refine fr_iload_n (pc := 18) 1 rfl rfl dX12_isOrder_18 ?_
    refine fr_zald (pc := 19) dX12_isOrder_19 hW (fun i7 hW => ?_)
    refine fr_if_ne (pc := 20) (tgt := 27) (by decide) dX12_isOrder_20 hW (fun hW => ?_) (fun hW => ?_)
    · refine fr_iconst (pc := 27) 0 (by decide) dX12_isOrder_27 ?_
      exact fr_zret (pc := 28) dX12_isOrder_28 rfl ⟨Nat.le_refl 0, Nat.le_refl 0⟩ ⟨rfl, hW⟩
    · refine fr_iconst (pc := 23) 1 (by decide) dX12_isOrder_23 ?_
      refine fr_goto (pc := 24) (tgt := 28) (by decide) dX12_isOrder_24 ?_
      exact fr_zret (pc := 28) dX12_isOrder_28 rfl ⟨Nat.le_refl 0, Nat.le_refl 0⟩ ⟨rfl, hW⟩
def J_X12_sizeOf_14 (g : GG) (post : Option Value → Hs → Prop) (σ : Hs) (v2 : Int32) (v3 : Int32) : Prop := Fr g M_X12_sizeOf (0, 0, 0, 0) [(2, .int v2), (3, .int v3)] [] 14 σ post
set_option maxHeartbeats 4000000 in
set_option maxRecDepth 100000 in
theorem q_X12_sizeOf {g : GG} {σ : Hs} {post : Option Value → Hs → Prop} (r0 : Nat) (p0 : Int32) (hW : FR σ r0 12 11 (fun r1 => AI g σ r1 0 p0 (fun i2 => FR σ r0 12 11 (fun r3 => AI g σ r3 0 p0 (fun i4 => J_X12_sizeOf_14 g post σ i2 i4 ))))) : Do g M_X12_sizeOf 0 0 [.ref r0, .int p0] σ post := by
  refine Do.of (by decide +kernel) (Nat.le_of_ble_eq_true rfl) ?_
  show Fr g M_X12_sizeOf (0, 0, 0, 0) [(0, .ref r0), (1, .int p0)] [] 0 σ post
  refine fr_aload_n (pc := 0) 0 rfl rfl dX12_sizeOf_0 ?_
  refine fr_getR (pc := 1) (T := TX12) (k := 11) kc_X12 (by decide) w_1015 dX12_sizeOf_1 hW (fun r1 hW => ?_)
  refine fr_iload_n (pc := 4) 1 rfl rfl dX12_sizeOf_4 ?_
  refine fr_iald (pc := 5) dX12_sizeOf_5 hW (fun i2 hW => ?_)
  refine fr_istore_n (pc := 6) (lv' := [(2, .int i2), (0, .ref r0), (1, .int p0)]) rfl (by decide) rfl dX12_sizeOf_6 ?_
  refine fr_aload_n (pc := 7) 1 rfl rfl dX12_sizeOf_7 ?_
  refine fr_getR (pc := 8) (T := TX12) (k := 11) kc_X12 (by decide) w_1015 dX12_sizeOf_8 hW (fun r3 hW => ?_)
  refine fr_iload_n (pc := 11) 2 rfl rfl dX12_sizeOf_11 ?_
  refine fr_iald (pc := 12) dX12_sizeOf_12 hW (fun i4 hW => ?_)
  refine fr_istore_n (pc := 13) (lv' := [(3, .int i4), (2, .int i2), (0, .ref r0), (1, .int p0)]) rfl (by decide) rfl dX12_sizeOf_13 ?_
  exact fr_sub [1, 0] rfl hW
set_option maxHeartbeats 4000000 in
set_option maxRecDepth 100000 in
theorem q_X12_sizeOf_14 {g : GG} {σ : Hs} {post : Option Value → Hs → Prop} (v2 : Int32) (v3 : Int32) (hW : (v3 ≤ 1 → post (some (.int v2)) σ) ∧ (¬ v3 ≤ 1 → J_X12_sizeOf_14 g post σ ((v2 + ((v3 + 3) / 4))) (((v3 + 3) / 4)) )) : J_X12_sizeOf_14 g post σ v2 v3 := by
  show Fr g M_X12_sizeOf (0, 0, 0, 0) [(2, .int v2), (3, .int v3)] [] 14 σ post
  refine fr_iload_n (pc := 14) 1 rfl rfl dX12_sizeOf_14 ?_
  refine fr_iconst (pc := 15) 1 (by decide) dX12_sizeOf_15 ?_
  refine fr_icmp_le (pc := 16) (tgt := 32) (by decide) dX12_sizeOf_16 hW (fun hW => ?_) (fun hW => ?_)
  · refine fr_iload_n (pc := 32) 0 rfl rfl dX12_sizeOf_32 ?_
    exact fr_iret (pc := 33) dX12_sizeOf_33 rfl ⟨Nat.le_refl 0, Nat.le_refl 0⟩ hW
  · refine fr_iload_n (pc := 19) 1 rfl rfl dX12_sizeOf_19 ?_
    refine fr_iconst (pc := 20) 3 (by decide) dX12_sizeOf_20 ?_
    refine fr_iadd (pc := 21) dX12_sizeOf_21 ?_
    refine fr_iconst (pc := 22) 4 (by decide) dX12_sizeOf_22 ?_
    refine fr_idiv (pc := 23) (by decide) dX12_sizeOf_23 ?_
    refine fr_istore_n (pc := 24) (lv' := [(3, .int ((v3 + 3) / 4)), (2, .int v2)]) rfl (by decide) rfl dX12_sizeOf_24 ?_
    refine fr_iload_n (pc := 25) 1 rfl rfl dX12_sizeOf_25 ?_
    refine fr_iload_n (pc := 26) 0 rfl rfl dX12_sizeOf_26 ?_
    refine fr_iadd (pc := 27) dX12_sizeOf_27 ?_
    refine fr_istore_n (pc := 28) (lv' := [(2, .int (v2 + ((v3 + 3) / 4))), (3, .int ((v3 + 3) / 4))]) rfl (by decide) rfl dX12_sizeOf_28 ?_
    refine fr_goto (pc := 29) (tgt := 14) (by decide) dX12_sizeOf_29 ?_
    exact fr_sub [0, 1] rfl hW
set_option maxHeartbeats 4000000 in
set_option maxRecDepth 100000 in
theorem q_X12_lose {g : GG} {σ : Hs} {post : Option Value → Hs → Prop} (r0 : Nat) (p0 : Int32) (hW : Rc σ r0 12 ∧ Do g M_X12_isOrder 0 0 [.ref r0, .int p0] σ (kI (fun i2 s1 => (¬ i2 = 0 → FR s1 r0 12 6 (fun r5 => SI g s1 r5 1 p0 (vp_nar .boolean 1) (fun s6 => Rc s6 r0 12 ∧ Do g M_X12_sizeOf 0 0 [.ref r0, .int p0] s6 (kI (fun i8 s7 => post (some (.int i8)) s7))))) ∧ (i2 = 0 → post (some (.int (-101))) s1)))) : Do g M_X12_lose 0 0 [.ref r0, .int p0] σ post := by
  refine Do.of (by decide +kernel) (Nat.le_of_ble_eq_true rfl) ?_
  show Fr g M_X12_lose (0, 0, 0, 0) [(0, .ref r0), (1, .int p0)] [] 0 σ post
  refine fr_aload_n (pc := 0) 0 rfl rfl dX12_lose_0 ?_
  refine fr_iload_n (pc := 1) 1 rfl rfl dX12_lose_1 ?_
  obtain ⟨hrc, hW⟩ := hW
  refine fr_callV_I (pc := 2) (As := [.int p0]) (st := []) wd_X12_isOrder w_1135 ok_X12_isOrder (by decide) rfl (Nat.le_of_ble_eq_true rfl) dX12_lose_2 ⟨Nat.le_refl 0, Nat.le_refl 0⟩ kc_X12 hrc hW (fun i2 s1 hW => ?_)
  refine fr_if_ne (pc := 5) (tgt := 11) (by decide) dX12_lose_5 hW (fun hW => ?_) (fun hW => ?_)
  · refine fr_aload_n (pc := 11) 0 rfl rfl dX12_lose_11 ?_
    refine fr_getR (pc := 12) (T := TX12) (k := 6) kc_X12 (by decide) w_1010 dX12_lose_12 hW (fun r5 hW => ?_)
    refine fr_iload_n (pc := 15) 1 rfl rfl dX12_lose_15 ?_
    refine fr_iconst (pc := 16) 1 (by decide) dX12_lose_16 ?_
    refine fr_zast (pc := 17) dX12_lose_17 hW (fun s6 hW => ?_)
    refine fr_aload_n (pc := 18) 0 rfl rfl dX12_lose_18 ?_
    refine fr_iload_n (pc := 19) 1 rfl rfl dX12_lose_19 ?_
    obtain ⟨hrc, hW⟩ := hW
    refine fr_callV_I (pc := 20) (As := [.int p0]) (st := []) wd_X12_sizeOf w_1136 ok_X12_sizeOf (by decide) rfl (Nat.le_of_ble_eq_true rfl) dX12_lose_20 ⟨Nat.le_refl 0, Nat.le_refl 0⟩ kc_X12 hrc hW (fun i8 s7 hW => ?_)
    exact fr_iret (pc := 23) dX12_lose_23 rfl ⟨Nat.le_refl 0, Nat.le_refl 0⟩ hW
  · refine fr_bipush (pc := 8) (-101) (by decide) dX12_lose_8 ?_
    exact fr_iret (pc := 10) dX12_lose_10 rfl ⟨Nat.le_refl 0, Nat.le_refl 0⟩ hW
set_option maxHeartbeats 4000000 in
set_option maxRecDepth 100000 in
theorem q_X11_pack {g : GG} {σ : Hs} {post : Option Value → Hs → Prop} (r0 : Nat) (p0 : Int32) (hW : FR σ r0 11 1 (fun r1 => Rc σ r1 3 ∧ Do g M_X3_kept 0 0 [.ref r1, .int p0] σ (kA (fun s2 => post (some (.int (-101))) s2) (fun r5 s2 => Rc s2 r5 2 ∧ Do g M_X2_size 0 0 [.ref r5] s2 (kI (fun i7 s6 => Rc s6 r5 2 ∧ Do g M_X2_fillLeaves 0 0 [.ref r5] s6 (kV (fun s10 => Rc s10 r5 2 ∧ Do g M_X2_size 0 0 [.ref r5] s10 (kI (fun i12 s11 => post (some (.int (i7 - i12))) s11)))))))))) : Do g M_X11_pack 0 0 [.ref r0, .int p0] σ post := by
  refine Do.of (by decide +kernel) (Nat.le_of_ble_eq_true rfl) ?_
  show Fr g M_X11_pack (0, 0, 0, 0) [(0, .ref r0), (1, .int p0)] [] 0 σ post
  refine fr_aload_n (pc := 0) 0 rfl rfl dX11_pack_0 ?_
  refine fr_getR (pc := 1) (T := TX11) (k := 1) kc_X11 (by decide) w_991 dX11_pack_1 hW (fun r1 hW => ?_)
  refine fr_iload_n (pc := 4) 1 rfl rfl dX11_pack_4 ?_
  obtain ⟨hrc, hW⟩ := hW
  refine fr_callV_A (pc := 5) (As := [.int p0]) (st := []) wd_X3_kept w_1132 ok_X3_kept (by decide) rfl (Nat.le_of_ble_eq_true rfl) dX11_pack_5 ⟨Nat.le_refl 0, Nat.le_refl 0⟩ kc_X3 hrc hW (fun s2 hW => ?_) (fun r5 s2 hW => ?_)
  · refine fr_astore_nN (pc := 8) (lv' := [(2, .null), (0, .ref r0), (1, .int p0)]) rfl (by decide) rfl dX11_pack_8 ?_
    refine fr_aload_nN (pc := 9) 0 rfl rfl dX11_pack_9 ?_
    refine fr_ifnonnullN (pc := 10) dX11_pack_10 ?_
    refine fr_bipush (pc := 13) (-101) (by decide) dX11_pack_13 ?_
    exact fr_iret (pc := 15) dX11_pack_15 rfl ⟨Nat.le_refl 0, Nat.le_refl 0⟩ hW
  · refine fr_astore_n (pc := 8) (lv' := [(2, .ref r5), (0, .ref r0), (1, .int p0)]) rfl (by decide) rfl dX11_pack_8 ?_
    refine fr_aload_n (pc := 9) 0 rfl rfl dX11_pack_9 ?_
    refine fr_ifnonnull (pc := 10) (tgt := 16) (by decide) dX11_pack_10 ?_
    refine fr_aload_n (pc := 16) 0 rfl rfl dX11_pack_16 ?_
    obtain ⟨hrc, hW⟩ := hW
    refine fr_callV_I (pc := 17) (As := []) (st := []) wd_X2_size w_1134 ok_X2_size (by decide) rfl (Nat.le_of_ble_eq_true rfl) dX11_pack_17 ⟨Nat.le_refl 0, Nat.le_refl 0⟩ kc_X2 hrc hW (fun i7 s6 hW => ?_)
    refine fr_istore_n (pc := 20) (lv' := [(3, .int i7), (2, .ref r5), (0, .ref r0), (1, .int p0)]) rfl (by decide) rfl dX11_pack_20 ?_
    refine fr_aload_n (pc := 21) 1 rfl rfl dX11_pack_21 ?_
    obtain ⟨hrc, hW⟩ := hW
    refine fr_callV_V (pc := 22) (As := []) (st := []) wd_X2_fillLeaves w_1137 ok_X2_fillLeaves (by decide) rfl (Nat.le_of_ble_eq_true rfl) dX11_pack_22 ⟨Nat.le_refl 0, Nat.le_refl 0⟩ kc_X2 hrc hW (fun s10 hW => ?_)
    refine fr_iload_n (pc := 25) 0 rfl rfl dX11_pack_25 ?_
    refine fr_aload_n (pc := 26) 1 rfl rfl dX11_pack_26 ?_
    obtain ⟨hrc, hW⟩ := hW
    refine fr_callV_I (pc := 27) (As := []) (st := [.int i7]) wd_X2_size w_1134 ok_X2_size (by decide) rfl (Nat.le_of_ble_eq_true rfl) dX11_pack_27 ⟨Nat.le_refl 0, Nat.le_refl 0⟩ kc_X2 hrc hW (fun i12 s11 hW => ?_)
    refine fr_isub (pc := 30) dX11_pack_30 ?_
    exact fr_iret (pc := 31) dX11_pack_31 rfl ⟨Nat.le_refl 0, Nat.le_refl 0⟩ hW
set_option maxHeartbeats 4000000 in
set_option maxRecDepth 100000 in
theorem q_X12_pack {g : GG} {σ : Hs} {post : Option Value → Hs → Prop} (r0 : Nat) (p0 : Int32) (hW : Rc σ r0 12 ∧ Do g M_X12_isOrder 0 0 [.ref r0, .int p0] σ (kI (fun i2 s1 => (¬ i2 = 0 → Rc s1 r0 12 ∧ Do g M_X12_sizeOf 0 0 [.ref r0, .int p0] s1 (kI (fun i6 s5 => Rc s5 r0 12 ∧ Do g M_X12_packOne 0 0 [.ref r0, .int p0] s5 (kV (fun s9 => Rc s9 r0 12 ∧ Do g M_X12_sizeOf 0 0 [.ref r0, .int p0] s9 (kI (fun i11 s10 => post (some (.int (i6 - i11))) s10))))))) ∧ (i2 = 0 → post (some (.int (-101))) s1)))) : Do g M_X12_pack 0 0 [.ref r0, .int p0] σ post := by
  refine Do.of (by decide +kernel) (Nat.le_of_ble_eq_true rfl) ?_
  show Fr g M_X12_pack (0, 0, 0, 0) [(0, .ref r0), (1, .int p0)] [] 0 σ post
  refine fr_aload_n (pc := 0) 0 rfl rfl dX12_pack_0 ?_
  refine fr_iload_n (pc := 1) 1 rfl rfl dX12_pack_1 ?_
  obtain ⟨hrc, hW⟩ := hW
  refine fr_callV_I (pc := 2) (As := [.int p0]) (st := []) wd_X12_isOrder w_1135 ok_X12_isOrder (by decide) rfl (Nat.le_of_ble_eq_true rfl) dX12_pack_2 ⟨Nat.le_refl 0, Nat.le_refl 0⟩ kc_X12 hrc hW (fun i2 s1 hW => ?_)
  refine fr_if_ne (pc := 5) (tgt := 11) (by decide) dX12_pack_5 hW (fun hW => ?_) (fun hW => ?_)
  · refine fr_aload_n (pc := 11) 0 rfl rfl dX12_pack_11 ?_
    refine fr_iload_n (pc := 12) 1 rfl rfl dX12_pack_12 ?_
    obtain ⟨hrc, hW⟩ := hW
    refine fr_callV_I (pc := 13) (As := [.int p0]) (st := []) wd_X12_sizeOf w_1136 ok_X12_sizeOf (by decide) rfl (Nat.le_of_ble_eq_true rfl) dX12_pack_13 ⟨Nat.le_refl 0, Nat.le_refl 0⟩ kc_X12 hrc hW (fun i6 s5 hW => ?_)
    refine fr_istore_n (pc := 16) (lv' := [(2, .int i6), (0, .ref r0), (1, .int p0)]) rfl (by decide) rfl dX12_pack_16 ?_
    refine fr_aload_n (pc := 17) 1 rfl rfl dX12_pack_17 ?_
    refine fr_iload_n (pc := 18) 2 rfl rfl dX12_pack_18 ?_
    obtain ⟨hrc, hW⟩ := hW
    refine fr_callV_V (pc := 19) (As := [.int p0]) (st := []) wd_X12_packOne w_1130 ok_X12_packOne (by decide) rfl (Nat.le_of_ble_eq_true rfl) dX12_pack_19 ⟨Nat.le_refl 0, Nat.le_refl 0⟩ kc_X12 hrc hW (fun s9 hW => ?_)
    refine fr_iload_n (pc := 22) 0 rfl rfl dX12_pack_22 ?_
    refine fr_aload_n (pc := 23) 1 rfl rfl dX12_pack_23 ?_
    refine fr_iload_n (pc := 24) 2 rfl rfl dX12_pack_24 ?_
    obtain ⟨hrc, hW⟩ := hW
    refine fr_callV_I (pc := 25) (As := [.int p0]) (st := [.int i6]) wd_X12_sizeOf w_1136 ok_X12_sizeOf (by decide) rfl (Nat.le_of_ble_eq_true rfl) dX12_pack_25 ⟨Nat.le_refl 0, Nat.le_refl 0⟩ kc_X12 hrc hW (fun i11 s10 hW => ?_)
    refine fr_isub (pc := 28) dX12_pack_28 ?_
    exact fr_iret (pc := 29) dX12_pack_29 rfl ⟨Nat.le_refl 0, Nat.le_refl 0⟩ hW
  · refine fr_bipush (pc := 8) (-101) (by decide) dX12_pack_8 ?_
    exact fr_iret (pc := 10) dX12_pack_10 rfl ⟨Nat.le_refl 0, Nat.le_refl 0⟩ hW
set_option maxHeartbeats 4000000 in
set_option maxRecDepth 100000 in
theorem q_X2_leaves {g : GG} {σ : Hs} {post : Option Value → Hs → Prop} (r0 : Nat) (hW : FI σ r0 2 9 (fun i1 => post (some (.int i1)) σ)) : Do g M_X2_leaves 0 0 [.ref r0] σ post := by
  refine Do.of (by decide +kernel) (Nat.le_of_ble_eq_true rfl) ?_
  show Fr g M_X2_leaves (0, 0, 0, 0) [(0, .ref r0)] [] 0 σ post
  refine fr_aload_n (pc := 0) 0 rfl rfl dX2_leaves_0 ?_
  refine fr_getI (pc := 1) (T := TX2) (k := 9) kc_X2 (by decide) w_1044 dX2_leaves_1 hW (fun i1 hW => ?_)
  exact fr_iret (pc := 4) dX2_leaves_4 rfl ⟨Nat.le_refl 0, Nat.le_refl 0⟩ hW
set_option maxHeartbeats 4000000 in
set_option maxRecDepth 100000 in
theorem q_X2_cuts {g : GG} {σ : Hs} {post : Option Value → Hs → Prop} (r0 : Nat) (hW : FI σ r0 2 10 (fun i1 => post (some (.int i1)) σ)) : Do g M_X2_cuts 0 0 [.ref r0] σ post := by
  refine Do.of (by decide +kernel) (Nat.le_of_ble_eq_true rfl) ?_
  show Fr g M_X2_cuts (0, 0, 0, 0) [(0, .ref r0)] [] 0 σ post
  refine fr_aload_n (pc := 0) 0 rfl rfl dX2_cuts_0 ?_
  refine fr_getI (pc := 1) (T := TX2) (k := 10) kc_X2 (by decide) w_1050 dX2_cuts_1 hW (fun i1 hW => ?_)
  exact fr_iret (pc := 4) dX2_cuts_4 rfl ⟨Nat.le_refl 0, Nat.le_refl 0⟩ hW
set_option maxHeartbeats 4000000 in
set_option maxRecDepth 100000 in
theorem q_X11_about {g : GG} {σ : Hs} {post : Option Value → Hs → Prop} (r0 : Nat) (p0 : Int32) (p1 : Int32) (hW : FR σ r0 11 1 (fun r1 => Rc σ r1 3 ∧ Do g M_X3_kept 0 0 [.ref r1, .int p0] σ (kA (fun s2 => post (some (.int (-101))) s2) (fun r5 s2 => (p1 = 0 → Rc s2 r5 2 ∧ Do g M_X2_key 0 0 [.ref r5] s2 (kI (fun i7 s6 => post (some (.int i7)) s6))) ∧ (p1 = 1 → Rc s2 r5 2 ∧ Do g M_X2_leaves 0 0 [.ref r5] s2 (kI (fun i11 s10 => post (some (.int i11)) s10))) ∧ (p1 = 2 → Rc s2 r5 2 ∧ Do g M_X2_height 0 0 [.ref r5] s2 (kI (fun i15 s14 => post (some (.int i15)) s14))) ∧ (p1 = 3 → Rc s2 r5 2 ∧ Do g M_X2_size 0 0 [.ref r5] s2 (kI (fun i19 s18 => post (some (.int i19)) s18))) ∧ (p1 = 4 → Rc s2 r5 2 ∧ Do g M_X2_cuts 0 0 [.ref r5] s2 (kI (fun i23 s22 => post (some (.int i23)) s22))) ∧ (¬ p1 = 0 → ¬ p1 = 1 → ¬ p1 = 2 → ¬ p1 = 3 → ¬ p1 = 4 → post (some (.int (-102))) s2))))) : Do g M_X11_about 0 0 [.ref r0, .int p0, .int p1] σ post := by
  refine Do.of (by decide +kernel) (Nat.le_of_ble_eq_true rfl) ?_
  show Fr g M_X11_about (0, 0, 0, 0) [(0, .ref r0), (1, .int p0), (2, .int p1)] [] 0 σ post
  refine fr_aload_n (pc := 0) 0 rfl rfl dX11_about_0 ?_
  refine fr_getR (pc := 1) (T := TX11) (k := 1) kc_X11 (by decide) w_991 dX11_about_1 hW (fun r1 hW => ?_)
  refine fr_iload_n (pc := 4) 1 rfl rfl dX11_about_4 ?_
  obtain ⟨hrc, hW⟩ := hW
  refine fr_callV_A (pc := 5) (As := [.int p0]) (st := []) wd_X3_kept w_1132 ok_X3_kept (by decide) rfl (Nat.le_of_ble_eq_true rfl) dX11_about_5 ⟨Nat.le_refl 0, Nat.le_refl 0⟩ kc_X3 hrc hW (fun s2 hW => ?_) (fun r5 s2 hW => ?_)
  · refine fr_astore_nN (pc := 8) (lv' := [(3, .null), (0, .ref r0), (1, .int p0), (2, .int p1)]) rfl (by decide) rfl dX11_about_8 ?_
    refine fr_aload_nN (pc := 9) 0 rfl rfl dX11_about_9 ?_
    refine fr_ifnonnullN (pc := 10) dX11_about_10 ?_
    refine fr_bipush (pc := 13) (-101) (by decide) dX11_about_13 ?_
    exact fr_iret (pc := 15) dX11_about_15 rfl ⟨Nat.le_refl 0, Nat.le_refl 0⟩ hW
  · refine fr_astore_n (pc := 8) (lv' := [(3, .ref r5), (0, .ref r0), (1, .int p0), (2, .int p1)]) rfl (by decide) rfl dX11_about_8 ?_
    refine fr_aload_n (pc := 9) 0 rfl rfl dX11_about_9 ?_
    refine fr_ifnonnull (pc := 10) (tgt := 16) (by decide) dX11_about_10 ?_
    refine fr_iload_n (pc := 16) 3 rfl rfl dX11_about_16 ?_
    by_cases c0 : p1 = 0
    · have hW := hW.1 c0
      refine fr_switchIn (pc := 17) (off := 35) (tgt := 52) dX11_about_17 (by rw [c0]; decide) (by rw [c0]; decide) (by rw [c0]; rfl) (by decide) ?_
      refine fr_aload_n (pc := 52) 0 rfl rfl dX11_about_52 ?_
      obtain ⟨hrc, hW⟩ := hW
      refine fr_callV_I (pc := 53) (As := []) (st := []) wd_X2_key w_1138 ok_X2_key (by decide) rfl (Nat.le_of_ble_eq_true rfl) dX11_about_53 ⟨Nat.le_refl 0, Nat.le_refl 0⟩ kc_X2 hrc hW (fun i7 s6 hW => ?_)
      exact fr_iret (pc := 56) dX11_about_56 rfl ⟨Nat.le_refl 0, Nat.le_refl 0⟩ hW
    have hW := hW.2
    by_cases c1 : p1 = 1
    · have hW := hW.1 c1
      refine fr_switchIn (pc := 17) (off := 40) (tgt := 57) dX11_about_17 (by rw [c1]; decide) (by rw [c1]; decide) (by rw [c1]; rfl) (by decide) ?_
      refine fr_aload_n (pc := 57) 0 rfl rfl dX11_about_57 ?_
      obtain ⟨hrc, hW⟩ := hW
      refine fr_callV_I (pc := 58) (As := []) (st := []) wd_X2_leaves w_1139 ok_X2_leaves (by decide) rfl (Nat.le_of_ble_eq_true rfl) dX11_about_58 ⟨Nat.le_refl 0, Nat.le_refl 0⟩ kc_X2 hrc hW (fun i11 s10 hW => ?_)
      exact fr_iret (pc := 61) dX11_about_61 rfl ⟨Nat.le_refl 0, Nat.le_refl 0⟩ hW
    have hW := hW.2
    by_cases c2 : p1 = 2
    · have hW := hW.1 c2
      refine fr_switchIn (pc := 17) (off := 45) (tgt := 62) dX11_about_17 (by rw [c2]; decide) (by rw [c2]; decide) (by rw [c2]; rfl) (by decide) ?_
      refine fr_aload_n (pc := 62) 0 rfl rfl dX11_about_62 ?_
      obtain ⟨hrc, hW⟩ := hW
      refine fr_callV_I (pc := 63) (As := []) (st := []) wd_X2_height w_1140 ok_X2_height (by decide) rfl (Nat.le_of_ble_eq_true rfl) dX11_about_63 ⟨Nat.le_refl 0, Nat.le_refl 0⟩ kc_X2 hrc hW (fun i15 s14 hW => ?_)
      exact fr_iret (pc := 66) dX11_about_66 rfl ⟨Nat.le_refl 0, Nat.le_refl 0⟩ hW
    have hW := hW.2
    by_cases c3 : p1 = 3
    · have hW := hW.1 c3
      refine fr_switchIn (pc := 17) (off := 50) (tgt := 67) dX11_about_17 (by rw [c3]; decide) (by rw [c3]; decide) (by rw [c3]; rfl) (by decide) ?_
      refine fr_aload_n (pc := 67) 0 rfl rfl dX11_about_67 ?_
      obtain ⟨hrc, hW⟩ := hW
      refine fr_callV_I (pc := 68) (As := []) (st := []) wd_X2_size w_1134 ok_X2_size (by decide) rfl (Nat.le_of_ble_eq_true rfl) dX11_about_68 ⟨Nat.le_refl 0, Nat.le_refl 0⟩ kc_X2 hrc hW (fun i19 s18 hW => ?_)
      exact fr_iret (pc := 71) dX11_about_71 rfl ⟨Nat.le_refl 0, Nat.le_refl 0⟩ hW
    have hW := hW.2
    by_cases c4 : p1 = 4
    · have hW := hW.1 c4
      refine fr_switchIn (pc := 17) (off := 55) (tgt := 72) dX11_about_17 (by rw [c4]; decide) (by rw [c4]; decide) (by rw [c4]; rfl) (by decide) ?_
      refine fr_aload_n (pc := 72) 0 rfl rfl dX11_about_72 ?_
      obtain ⟨hrc, hW⟩ := hW
      refine fr_callV_I (pc := 73) (As := []) (st := []) wd_X2_cuts w_1141 ok_X2_cuts (by decide) rfl (Nat.le_of_ble_eq_true rfl) dX11_about_73 ⟨Nat.le_refl 0, Nat.le_refl 0⟩ kc_X2 hrc hW (fun i23 s22 hW => ?_)
      exact fr_iret (pc := 76) dX11_about_76 rfl ⟨Nat.le_refl 0, Nat.le_refl 0⟩ hW
    have hW := hW.2
    have hW := hW c0 c1 c2 c3 c4
    refine fr_switchOut (pc := 17) (tgt := 77) dX11_about_17 (sw_out 4 (by decide) ((lt_s (lt_s (lt_s (lt_s (lt_s lt_0 c0) c1) c2) c3) c4))) (by decide) ?_
    refine fr_bipush (pc := 77) (-102) (by decide) dX11_about_77 ?_
    exact fr_iret (pc := 79) dX11_about_79 rfl ⟨Nat.le_refl 0, Nat.le_refl 0⟩ hW
def J_X12_heightOf_9 (g : GG) (post : Option Value → Hs → Prop) (σ : Hs) (v2 : Int32) (v3 : Int32) : Prop := Fr g M_X12_heightOf (0, 0, 0, 0) [(2, .int v2), (3, .int v3)] [] 9 σ post
set_option maxHeartbeats 4000000 in
set_option maxRecDepth 100000 in
theorem q_X12_heightOf {g : GG} {σ : Hs} {post : Option Value → Hs → Prop} (r0 : Nat) (p0 : Int32) (hW : FR σ r0 12 11 (fun r1 => AI g σ r1 0 p0 (fun i2 => J_X12_heightOf_9 g post σ 0 i2 ))) : Do g M_X12_heightOf 0 0 [.ref r0, .int p0] σ post := by
  refine Do.of (by decide +kernel) (Nat.le_of_ble_eq_true rfl) ?_
  show Fr g M_X12_heightOf (0, 0, 0, 0) [(0, .ref r0), (1, .int p0)] [] 0 σ post
  refine fr_iconst (pc := 0) 0 (by decide) dX12_heightOf_0 ?_
  refine fr_istore_n (pc := 1) (lv' := [(2, .int 0), (0, .ref r0), (1, .int p0)]) rfl (by decide) rfl dX12_heightOf_1 ?_
  refine fr_aload_n (pc := 2) 1 rfl rfl dX12_heightOf_2 ?_
  refine fr_getR (pc := 3) (T := TX12) (k := 11) kc_X12 (by decide) w_1015 dX12_heightOf_3 hW (fun r1 hW => ?_)
  refine fr_iload_n (pc := 6) 2 rfl rfl dX12_heightOf_6 ?_
  refine fr_iald (pc := 7) dX12_heightOf_7 hW (fun i2 hW => ?_)
  refine fr_istore_n (pc := 8) (lv' := [(3, .int i2), (2, .int 0), (0, .ref r0), (1, .int p0)]) rfl (by decide) rfl dX12_heightOf_8 ?_
  exact fr_sub [1, 0] rfl hW
set_option maxHeartbeats 4000000 in
set_option maxRecDepth 100000 in
theorem q_X12_heightOf_9 {g : GG} {σ : Hs} {post : Option Value → Hs → Prop} (v2 : Int32) (v3 : Int32) (hW : (v3 ≤ 1 → post (some (.int v2)) σ) ∧ (¬ v3 ≤ 1 → J_X12_heightOf_9 g post σ ((v2 + 1)) (((v3 + 3) / 4)) )) : J_X12_heightOf_9 g post σ v2 v3 := by
  show Fr g M_X12_heightOf (0, 0, 0, 0) [(2, .int v2), (3, .int v3)] [] 9 σ post
  refine fr_iload_n (pc := 9) 1 rfl rfl dX12_heightOf_9 ?_
  refine fr_iconst (pc := 10) 1 (by decide) dX12_heightOf_10 ?_
  refine fr_icmp_le (pc := 11) (tgt := 26) (by decide) dX12_heightOf_11 hW (fun hW => ?_) (fun hW => ?_)
  · refine fr_iload_n (pc := 26) 0 rfl rfl dX12_heightOf_26 ?_
    exact fr_iret (pc := 27) dX12_heightOf_27 rfl ⟨Nat.le_refl 0, Nat.le_refl 0⟩ hW
  · refine fr_iinc (pc := 14) (lv' := [(2, .int (v2 + 1)), (3, .int v3)]) (v2 + 1) 0 rfl (congrArg (fun z => v2 + z) (by decide)) (by decide) rfl dX12_heightOf_14 ?_
    refine fr_iload_n (pc := 17) 1 rfl rfl dX12_heightOf_17 ?_
    refine fr_iconst (pc := 18) 3 (by decide) dX12_heightOf_18 ?_
    refine fr_iadd (pc := 19) dX12_heightOf_19 ?_
    refine fr_iconst (pc := 20) 4 (by decide) dX12_heightOf_20 ?_
    refine fr_idiv (pc := 21) (by decide) dX12_heightOf_21 ?_
    refine fr_istore_n (pc := 22) (lv' := [(3, .int ((v3 + 3) / 4)), (2, .int (v2 + 1))]) rfl (by decide) rfl dX12_heightOf_22 ?_
    refine fr_goto (pc := 23) (tgt := 9) (by decide) dX12_heightOf_23 ?_
    exact fr_sub [1, 0] rfl hW
set_option maxHeartbeats 4000000 in
set_option maxRecDepth 100000 in
theorem q_X12_aboutOf {g : GG} {σ : Hs} {post : Option Value → Hs → Prop} (r0 : Nat) (p0 : Int32) (p1 : Int32) (hW : (¬ p1 = 0 → (¬ p1 = 1 → (¬ p1 = 2 → (¬ p1 = 3 → FR σ r0 12 7 (fun r1 => AI g σ r1 0 p0 (fun i2 => post (some (.int i2)) σ))) ∧ (p1 = 3 → Rc σ r0 12 ∧ Do g M_X12_sizeOf 0 0 [.ref r0, .int p0] σ (kI (fun i4 s3 => post (some (.int i4)) s3)))) ∧ (p1 = 2 → Rc σ r0 12 ∧ Do g M_X12_heightOf 0 0 [.ref r0, .int p0] σ (kI (fun i8 s7 => post (some (.int i8)) s7)))) ∧ (p1 = 1 → FR σ r0 12 11 (fun r11 => AI g σ r11 0 p0 (fun i12 => post (some (.int i12)) σ)))) ∧ (p1 = 0 → FR σ r0 12 5 (fun r13 => AI g σ r13 0 p0 (fun i14 => post (some (.int i14)) σ)))) : Do g M_X12_aboutOf 0 0 [.ref r0, .int p0, .int p1] σ post := by
  refine Do.of (by decide +kernel) (Nat.le_of_ble_eq_true rfl) ?_
  show Fr g M_X12_aboutOf (0, 0, 0, 0) [(0, .ref r0), (1, .int p0), (2, .int p1)] [] 0 σ post
  refine fr_iload_n (pc := 0) 2 rfl rfl dX12_aboutOf_0 ?_
  refine fr_if_ne (pc := 1) (tgt := 13) (by decide) dX12_aboutOf_1 hW (fun hW => ?_) (fun hW => ?_)
  · refine fr_iload_n (pc := 13) 2 rfl rfl dX12_aboutOf_13 ?_
    refine fr_iconst (pc := 14) 1 (by decide) dX12_aboutOf_14 ?_
    refine fr_icmp_ne (pc := 15) (tgt := 27) (by decide) dX12_aboutOf_15 hW (fun hW => ?_) (fun hW => ?_)
    · refine fr_iload_n (pc := 27) 2 rfl rfl dX12_aboutOf_27 ?_
      refine fr_iconst (pc := 28) 2 (by decide) dX12_aboutOf_28 ?_
      refine fr_icmp_ne (pc := 29) (tgt := 40) (by decide) dX12_aboutOf_29 hW (fun hW => ?_) (fun hW => ?_)
      · refine fr_iload_n (pc := 40) 2 rfl rfl dX12_aboutOf_40 ?_
        refine fr_iconst (pc := 41) 3 (by decide) dX12_aboutOf_41 ?_
        refine fr_icmp_ne (pc := 42) (tgt := 53) (by decide) dX12_aboutOf_42 hW (fun hW => ?_) (fun hW => ?_)
        · refine fr_aload_n (pc := 53) 0 rfl rfl dX12_aboutOf_53 ?_
          refine fr_getR (pc := 54) (T := TX12) (k := 7) kc_X12 (by decide) w_1011 dX12_aboutOf_54 hW (fun r1 hW => ?_)
          refine fr_iload_n (pc := 57) 1 rfl rfl dX12_aboutOf_57 ?_
          refine fr_iald (pc := 58) dX12_aboutOf_58 hW (fun i2 hW => ?_)
          exact fr_iret (pc := 59) dX12_aboutOf_59 rfl ⟨Nat.le_refl 0, Nat.le_refl 0⟩ hW
        · refine fr_aload_n (pc := 45) 0 rfl rfl dX12_aboutOf_45 ?_
          refine fr_iload_n (pc := 46) 1 rfl rfl dX12_aboutOf_46 ?_
          obtain ⟨hrc, hW⟩ := hW
          refine fr_callV_I (pc := 47) (As := [.int p0]) (st := []) wd_X12_sizeOf w_1136 ok_X12_sizeOf (by decide) rfl (Nat.le_of_ble_eq_true rfl) dX12_aboutOf_47 ⟨Nat.le_refl 0, Nat.le_refl 0⟩ kc_X12 hrc hW (fun i4 s3 hW => ?_)
          refine fr_goto (pc := 50) (tgt := 59) (by decide) dX12_aboutOf_50 ?_
          exact fr_iret (pc := 59) dX12_aboutOf_59 rfl ⟨Nat.le_refl 0, Nat.le_refl 0⟩ hW
      · refine fr_aload_n (pc := 32) 0 rfl rfl dX12_aboutOf_32 ?_
        refine fr_iload_n (pc := 33) 1 rfl rfl dX12_aboutOf_33 ?_
        obtain ⟨hrc, hW⟩ := hW
        refine fr_callV_I (pc := 34) (As := [.int p0]) (st := []) wd_X12_heightOf w_1142 ok_X12_heightOf (by decide) rfl (Nat.le_of_ble_eq_true rfl) dX12_aboutOf_34 ⟨Nat.le_refl 0, Nat.le_refl 0⟩ kc_X12 hrc hW (fun i8 s7 hW => ?_)
        refine fr_goto (pc := 37) (tgt := 59) (by decide) dX12_aboutOf_37 ?_
        exact fr_iret (pc := 59) dX12_aboutOf_59 rfl ⟨Nat.le_refl 0, Nat.le_refl 0⟩ hW
    · refine fr_aload_n (pc := 18) 0 rfl rfl dX12_aboutOf_18 ?_
      refine fr_getR (pc := 19) (T := TX12) (k := 11) kc_X12 (by decide) w_1015 dX12_aboutOf_19 hW (fun r11 hW => ?_)
      refine fr_iload_n (pc := 22) 1 rfl rfl dX12_aboutOf_22 ?_
      refine fr_iald (pc := 23) dX12_aboutOf_23 hW (fun i12 hW => ?_)
      refine fr_goto (pc := 24) (tgt := 59) (by decide) dX12_aboutOf_24 ?_
      exact fr_iret (pc := 59) dX12_aboutOf_59 rfl ⟨Nat.le_refl 0, Nat.le_refl 0⟩ hW
  · refine fr_aload_n (pc := 4) 0 rfl rfl dX12_aboutOf_4 ?_
    refine fr_getR (pc := 5) (T := TX12) (k := 5) kc_X12 (by decide) w_1009 dX12_aboutOf_5 hW (fun r13 hW => ?_)
    refine fr_iload_n (pc := 8) 1 rfl rfl dX12_aboutOf_8 ?_
    refine fr_iald (pc := 9) dX12_aboutOf_9 hW (fun i14 hW => ?_)
    refine fr_goto (pc := 10) (tgt := 59) (by decide) dX12_aboutOf_10 ?_
    exact fr_iret (pc := 59) dX12_aboutOf_59 rfl ⟨Nat.le_refl 0, Nat.le_refl 0⟩ hW
set_option maxHeartbeats 4000000 in
set_option maxRecDepth 100000 in
theorem q_X12_about {g : GG} {σ : Hs} {post : Option Value → Hs → Prop} (r0 : Nat) (p0 : Int32) (p1 : Int32) (hW : Rc σ r0 12 ∧ Do g M_X12_isOrder 0 0 [.ref r0, .int p0] σ (kI (fun i2 s1 => (¬ i2 = 0 → Do g M_X12_in 0 0 [.int p1, .int 0, .int 4] s1 (kI (fun i6 s5 => (i6 = 0 → post (some (.int (-102))) s5) ∧ (¬ i6 = 0 → Rc s5 r0 12 ∧ Do g M_X12_aboutOf 0 0 [.ref r0, .int p0, .int p1] s5 (kI (fun i10 s9 => post (some (.int i10)) s9)))))) ∧ (i2 = 0 → post (some (.int (-101))) s1)))) : Do g M_X12_about 0 0 [.ref r0, .int p0, .int p1] σ post := by
  refine Do.of (by decide +kernel) (Nat.le_of_ble_eq_true rfl) ?_
  show Fr g M_X12_about (0, 0, 0, 0) [(0, .ref r0), (1, .int p0), (2, .int p1)] [] 0 σ post
  refine fr_aload_n (pc := 0) 0 rfl rfl dX12_about_0 ?_
  refine fr_iload_n (pc := 1) 1 rfl rfl dX12_about_1 ?_
  obtain ⟨hrc, hW⟩ := hW
  refine fr_callV_I (pc := 2) (As := [.int p0]) (st := []) wd_X12_isOrder w_1135 ok_X12_isOrder (by decide) rfl (Nat.le_of_ble_eq_true rfl) dX12_about_2 ⟨Nat.le_refl 0, Nat.le_refl 0⟩ kc_X12 hrc hW (fun i2 s1 hW => ?_)
  refine fr_if_ne (pc := 5) (tgt := 13) (by decide) dX12_about_5 hW (fun hW => ?_) (fun hW => ?_)
  · refine fr_iload_n (pc := 13) 2 rfl rfl dX12_about_13 ?_
    refine fr_iconst (pc := 14) 0 (by decide) dX12_about_14 ?_
    refine fr_iconst (pc := 15) 4 (by decide) dX12_about_15 ?_
    refine fr_callS_I (pc := 16) (As := [.int p1, .int 0, .int 4]) (st := []) wd_X12_in w_1067 ok_X12_in (by decide) rfl (Nat.le_of_ble_eq_true rfl) dX12_about_16 ⟨Nat.le_refl 0, Nat.le_refl 0⟩ hW (fun i6 s5 hW => ?_)
    refine fr_if_eq (pc := 19) (tgt := 31) (by decide) dX12_about_19 hW (fun hW => ?_) (fun hW => ?_)
    · refine fr_bipush (pc := 31) (-102) (by decide) dX12_about_31 ?_
      exact fr_iret (pc := 33) dX12_about_33 rfl ⟨Nat.le_refl 0, Nat.le_refl 0⟩ hW
    · refine fr_aload_n (pc := 22) 0 rfl rfl dX12_about_22 ?_
      refine fr_iload_n (pc := 23) 1 rfl rfl dX12_about_23 ?_
      refine fr_iload_n (pc := 24) 2 rfl rfl dX12_about_24 ?_
      obtain ⟨hrc, hW⟩ := hW
      refine fr_callV_I (pc := 25) (As := [.int p0, .int p1]) (st := []) wd_X12_aboutOf w_1143 ok_X12_aboutOf (by decide) rfl (Nat.le_of_ble_eq_true rfl) dX12_about_25 ⟨Nat.le_refl 0, Nat.le_refl 0⟩ kc_X12 hrc hW (fun i10 s9 hW => ?_)
      refine fr_goto (pc := 28) (tgt := 33) (by decide) dX12_about_28 ?_
      exact fr_iret (pc := 33) dX12_about_33 rfl ⟨Nat.le_refl 0, Nat.le_refl 0⟩ hW
  · refine fr_bipush (pc := 8) (-101) (by decide) dX12_about_8 ?_
    refine fr_goto (pc := 10) (tgt := 33) (by decide) dX12_about_10 ?_
    exact fr_iret (pc := 33) dX12_about_33 rfl ⟨Nat.le_refl 0, Nat.le_refl 0⟩ hW
set_option maxHeartbeats 4000000 in
set_option maxRecDepth 100000 in
theorem q_X2_slotAt {g : GG} {σ : Hs} {post : Option Value → Hs → Prop} (r0 : Nat) (p0 : Int32) (hW : (p0 < 0 → post (some (.int (-1))) σ) ∧ (¬ p0 < 0 → FI σ r0 2 8 (fun i1 => (i1 ≤ p0 → post (some (.int (-1))) σ) ∧ (¬ i1 ≤ p0 → FR σ r0 2 6 (fun r2 => Rc σ r2 1 ∧ Do g M_X1_at 0 0 [.ref r2, .int p0] σ (kI (fun i4 s3 => post (some (.int i4)) s3))))))) : Do g M_X2_slotAt 0 0 [.ref r0, .int p0] σ post := by
  refine Do.of (by decide +kernel) (Nat.le_of_ble_eq_true rfl) ?_
  show Fr g M_X2_slotAt (0, 0, 0, 0) [(0, .ref r0), (1, .int p0)] [] 0 σ post
  refine fr_iload_n (pc := 0) 1 rfl rfl dX2_slotAt_0 ?_
  refine fr_if_lt (pc := 1) (tgt := 23) (by decide) dX2_slotAt_1 hW (fun hW => ?_) (fun hW => ?_)
  · refine fr_iconst (pc := 23) (-1) (by decide) dX2_slotAt_23 ?_
    exact fr_iret (pc := 24) dX2_slotAt_24 rfl ⟨Nat.le_refl 0, Nat.le_refl 0⟩ hW
  · refine fr_iload_n (pc := 4) 1 rfl rfl dX2_slotAt_4 ?_
    refine fr_aload_n (pc := 5) 0 rfl rfl dX2_slotAt_5 ?_
    refine fr_getI (pc := 6) (T := TX2) (k := 8) kc_X2 (by decide) w_1041 dX2_slotAt_6 hW (fun i1 hW => ?_)
    refine fr_icmp_ge (pc := 9) (tgt := 23) (by decide) dX2_slotAt_9 hW (fun hW => ?_) (fun hW => ?_)
    · refine fr_iconst (pc := 23) (-1) (by decide) dX2_slotAt_23 ?_
      exact fr_iret (pc := 24) dX2_slotAt_24 rfl ⟨Nat.le_refl 0, Nat.le_refl 0⟩ hW
    · refine fr_aload_n (pc := 12) 0 rfl rfl dX2_slotAt_12 ?_
      refine fr_getR (pc := 13) (T := TX2) (k := 6) kc_X2 (by decide) w_1042 dX2_slotAt_13 hW (fun r2 hW => ?_)
      refine fr_iload_n (pc := 16) 1 rfl rfl dX2_slotAt_16 ?_
      obtain ⟨hrc, hW⟩ := hW
      refine fr_callV_I (pc := 17) (As := [.int p0]) (st := []) wd_X1_at w_1039 ok_X1_at (by decide) rfl (Nat.le_of_ble_eq_true rfl) dX2_slotAt_17 ⟨Nat.le_refl 0, Nat.le_refl 0⟩ kc_X1 hrc hW (fun i4 s3 hW => ?_)
      refine fr_goto (pc := 20) (tgt := 24) (by decide) dX2_slotAt_20 ?_
      exact fr_iret (pc := 24) dX2_slotAt_24 rfl ⟨Nat.le_refl 0, Nat.le_refl 0⟩ hW
set_option maxHeartbeats 4000000 in
set_option maxRecDepth 100000 in
theorem q_X11_entry {g : GG} {σ : Hs} {post : Option Value → Hs → Prop} (r0 : Nat) (p0 : Int32) (p1 : Int32) (hW : FR σ r0 11 1 (fun r1 => Rc σ r1 3 ∧ Do g M_X3_kept 0 0 [.ref r1, .int p0] σ (kA (fun s2 => post (some (.int (-101))) s2) (fun r5 s2 => Rc s2 r5 2 ∧ Do g M_X2_slotAt 0 0 [.ref r5, .int p1] s2 (kI (fun i7 s6 => post (some (.int i7)) s6)))))) : Do g M_X11_entry 0 0 [.ref r0, .int p0, .int p1] σ post := by
  refine Do.of (by decide +kernel) (Nat.le_of_ble_eq_true rfl) ?_
  show Fr g M_X11_entry (0, 0, 0, 0) [(0, .ref r0), (1, .int p0), (2, .int p1)] [] 0 σ post
  refine fr_aload_n (pc := 0) 0 rfl rfl dX11_entry_0 ?_
  refine fr_getR (pc := 1) (T := TX11) (k := 1) kc_X11 (by decide) w_991 dX11_entry_1 hW (fun r1 hW => ?_)
  refine fr_iload_n (pc := 4) 1 rfl rfl dX11_entry_4 ?_
  obtain ⟨hrc, hW⟩ := hW
  refine fr_callV_A (pc := 5) (As := [.int p0]) (st := []) wd_X3_kept w_1132 ok_X3_kept (by decide) rfl (Nat.le_of_ble_eq_true rfl) dX11_entry_5 ⟨Nat.le_refl 0, Nat.le_refl 0⟩ kc_X3 hrc hW (fun s2 hW => ?_) (fun r5 s2 hW => ?_)
  · refine fr_astore_nN (pc := 8) (lv' := [(3, .null), (0, .ref r0), (1, .int p0), (2, .int p1)]) rfl (by decide) rfl dX11_entry_8 ?_
    refine fr_aload_nN (pc := 9) 0 rfl rfl dX11_entry_9 ?_
    refine fr_ifnonnullN (pc := 10) dX11_entry_10 ?_
    refine fr_bipush (pc := 13) (-101) (by decide) dX11_entry_13 ?_
    refine fr_goto (pc := 15) (tgt := 23) (by decide) dX11_entry_15 ?_
    exact fr_iret (pc := 23) dX11_entry_23 rfl ⟨Nat.le_refl 0, Nat.le_refl 0⟩ hW
  · refine fr_astore_n (pc := 8) (lv' := [(3, .ref r5), (0, .ref r0), (1, .int p0), (2, .int p1)]) rfl (by decide) rfl dX11_entry_8 ?_
    refine fr_aload_n (pc := 9) 0 rfl rfl dX11_entry_9 ?_
    refine fr_ifnonnull (pc := 10) (tgt := 18) (by decide) dX11_entry_10 ?_
    refine fr_aload_n (pc := 18) 0 rfl rfl dX11_entry_18 ?_
    refine fr_iload_n (pc := 19) 3 rfl rfl dX11_entry_19 ?_
    obtain ⟨hrc, hW⟩ := hW
    refine fr_callV_I (pc := 20) (As := [.int p1]) (st := []) wd_X2_slotAt w_1144 ok_X2_slotAt (by decide) rfl (Nat.le_of_ble_eq_true rfl) dX11_entry_20 ⟨Nat.le_refl 0, Nat.le_refl 0⟩ kc_X2 hrc hW (fun i7 s6 hW => ?_)
    exact fr_iret (pc := 23) dX11_entry_23 rfl ⟨Nat.le_refl 0, Nat.le_refl 0⟩ hW
