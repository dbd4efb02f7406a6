def J_X12_goFrom_2 (g : GG) (post : Option Value → Hs → Prop) (σ : Hs) (a0 : Nat) (v1 : Int32) (v2 : Int32) (v3 : Int32) : Prop := Fr g M_X12_goFrom (0, 0, 0, 0) [(0, .ref a0), (1, .int v1), (2, .int v2), (3, .int v3)] [] 2 σ post
def J_X12_goFrom_29 (g : GG) (post : Option Value → Hs → Prop) (σ : Hs) (a0 : Nat) (v1 : Int32) (v3 : Int32) (v4 : Int32) (v5 : Int32) : Prop := Fr g M_X12_goFrom (0, 0, 0, 0) [(0, .ref a0), (1, .int v1), (3, .int v3), (4, .int v4), (5, .int v5)] [] 29 σ post
def J_X12_goFrom_76 (g : GG) (post : Option Value → Hs → Prop) (σ : Hs) (a0 : Nat) (v1 : Int32) (v4 : Int32) (v6 : Int32) : Prop := Fr g M_X12_goFrom (0, 0, 0, 0) [(0, .ref a0), (1, .int v1), (4, .int v4), (6, .int v6)] [] 76 σ post
def J_X12_goFrom_166 (g : GG) (post : Option Value → Hs → Prop) (σ : Hs) (a0 : Nat) (v1 : Int32) (v6 : Int32) : Prop := Fr g M_X12_goFrom (0, 0, 0, 0) [(0, .ref a0), (1, .int v1), (6, .int v6)] [] 166 σ post
set_option maxHeartbeats 4000000 in
set_option maxRecDepth 100000 in
theorem q_X12_goFrom {g : GG} {σ : Hs} {post : Option Value → Hs → Prop} (r0 : Nat) (p0 : Int32) (p1 : Int32) (hW : J_X12_goFrom_2 g post σ r0 p0 p1 0 ) : Do g M_X12_goFrom 0 0 [.ref r0, .int p0, .int p1] σ post := by
  refine Do.of (by decide +kernel) (Nat.le_of_ble_eq_true rfl) ?_
  show Fr g M_X12_goFrom (0, 0, 0, 0) [(0, .ref r0), (1, .int p0), (2, .int p1)] [] 0 σ post
  refine fr_iconst (pc := 0) 0 (by decide) dX12_goFrom_0 ?_
  refine fr_istore_n (pc := 1) (lv' := [(3, .int 0), (0, .ref r0), (1, .int p0), (2, .int p1)]) rfl (by decide) rfl dX12_goFrom_1 ?_
  exact fr_sub [1, 2, 3, 0] rfl hW
set_option maxHeartbeats 4000000 in
set_option maxRecDepth 100000 in
theorem q_X12_goFrom_2 {g : GG} {σ : Hs} {post : Option Value → Hs → Prop} (a0 : Nat) (v1 : Int32) (v2 : Int32) (v3 : Int32) (hW : FR σ a0 12 8 (fun r1 => AI g σ r1 0 ((64 * v1) + v3) (fun i2 => (i2 = v2 → J_X12_goFrom_29 g post σ a0 v1 v3 0 0 ) ∧ (¬ i2 = v2 → J_X12_goFrom_2 g post σ a0 v1 v2 ((v3 + 1)) )))) : J_X12_goFrom_2 g post σ a0 v1 v2 v3 := by
  show Fr g M_X12_goFrom (0, 0, 0, 0) [(0, .ref a0), (1, .int v1), (2, .int v2), (3, .int v3)] [] 2 σ post
  refine fr_aload_n (pc := 2) 0 rfl rfl dX12_goFrom_2 ?_
  refine fr_getR (pc := 3) (T := TX12) (k := 8) kc_X12 (by decide) w_1012 dX12_goFrom_3 hW (fun r1 hW => ?_)
  refine fr_bipush (pc := 6) 64 (by decide) dX12_goFrom_6 ?_
  refine fr_iload_n (pc := 8) 1 rfl rfl dX12_goFrom_8 ?_
  refine fr_imul (pc := 9) dX12_goFrom_9 ?_
  refine fr_iload_n (pc := 10) 3 rfl rfl dX12_goFrom_10 ?_
  refine fr_iadd (pc := 11) dX12_goFrom_11 ?_
  refine fr_iald (pc := 12) dX12_goFrom_12 hW (fun i2 hW => ?_)
  refine fr_iload_n (pc := 13) 2 rfl rfl dX12_goFrom_13 ?_
  refine fr_icmp_eq (pc := 14) (tgt := 23) (by decide) dX12_goFrom_14 hW (fun hW => ?_) (fun hW => ?_)
  · refine fr_iconst (pc := 23) 0 (by decide) dX12_goFrom_23 ?_
    refine fr_istore (pc := 24) (lv' := [(4, .int 0), (0, .ref a0), (1, .int v1), (2, .int v2), (3, .int v3)]) (by decide) rfl dX12_goFrom_24 ?_
    refine fr_iconst (pc := 26) 0 (by decide) dX12_goFrom_26 ?_
    refine fr_istore (pc := 27) (lv' := [(5, .int 0), (4, .int 0), (0, .ref a0), (1, .int v1), (2, .int v2), (3, .int v3)]) (by decide) rfl dX12_goFrom_27 ?_
    exact fr_sub [2, 3, 5, 1, 0] rfl hW
  · refine fr_iinc (pc := 17) (lv' := [(3, .int (v3 + 1)), (0, .ref a0), (1, .int v1), (2, .int v2)]) (v3 + 1) 3 rfl (congrArg (fun z => v3 + z) (by decide)) (by decide) rfl dX12_goFrom_17 ?_
    refine fr_goto (pc := 20) (tgt := 2) (by decide) dX12_goFrom_20 ?_
    exact fr_sub [1, 2, 3, 0] rfl hW
set_option maxHeartbeats 4000000 in
set_option maxRecDepth 100000 in
theorem q_X12_goFrom_29 {g : GG} {σ : Hs} {post : Option Value → Hs → Prop} (a0 : Nat) (v1 : Int32) (v3 : Int32) (v4 : Int32) (v5 : Int32) (hW : FR σ a0 12 10 (fun r3 => AI g σ r3 0 ((64 * v1) + v4) (fun i4 => (v3 < (v5 + i4) → J_X12_goFrom_76 g post σ a0 v1 v4 ((v3 + 1)) ) ∧ (¬ v3 < (v5 + i4) → FR σ a0 12 10 (fun r5 => AI g σ r5 0 ((64 * v1) + v4) (fun i6 => J_X12_goFrom_29 g post σ a0 v1 v3 ((v4 + 1)) ((v5 + i6)) )))))) : J_X12_goFrom_29 g post σ a0 v1 v3 v4 v5 := by
  show Fr g M_X12_goFrom (0, 0, 0, 0) [(0, .ref a0), (1, .int v1), (3, .int v3), (4, .int v4), (5, .int v5)] [] 29 σ post
  refine fr_iload_n (pc := 29) 2 rfl rfl dX12_goFrom_29 ?_
  refine fr_iload (pc := 30) 4 rfl dX12_goFrom_30 ?_
  refine fr_aload_n (pc := 32) 0 rfl rfl dX12_goFrom_32 ?_
  refine fr_getR (pc := 33) (T := TX12) (k := 10) kc_X12 (by decide) w_1014 dX12_goFrom_33 hW (fun r3 hW => ?_)
  refine fr_bipush (pc := 36) 64 (by decide) dX12_goFrom_36 ?_
  refine fr_iload_n (pc := 38) 1 rfl rfl dX12_goFrom_38 ?_
  refine fr_imul (pc := 39) dX12_goFrom_39 ?_
  refine fr_iload (pc := 40) 3 rfl dX12_goFrom_40 ?_
  refine fr_iadd (pc := 42) dX12_goFrom_42 ?_
  refine fr_iald (pc := 43) dX12_goFrom_43 hW (fun i4 hW => ?_)
  refine fr_iadd (pc := 44) dX12_goFrom_44 ?_
  refine fr_icmp_lt (pc := 45) (tgt := 71) (by decide) dX12_goFrom_45 hW (fun hW => ?_) (fun hW => ?_)
  · refine fr_iload_n (pc := 71) 2 rfl rfl dX12_goFrom_71 ?_
    refine fr_iconst (pc := 72) 1 (by decide) dX12_goFrom_72 ?_
    refine fr_iadd (pc := 73) dX12_goFrom_73 ?_
    refine fr_istore (pc := 74) (lv' := [(6, .int (v3 + 1)), (0, .ref a0), (1, .int v1), (3, .int v3), (4, .int v4), (5, .int v5)]) (by decide) rfl dX12_goFrom_74 ?_
    exact fr_sub [1, 2, 4, 0] rfl hW
  · refine fr_iload (pc := 48) 4 rfl dX12_goFrom_48 ?_
    refine fr_aload_n (pc := 50) 0 rfl rfl dX12_goFrom_50 ?_
    refine fr_getR (pc := 51) (T := TX12) (k := 10) kc_X12 (by decide) w_1014 dX12_goFrom_51 hW (fun r5 hW => ?_)
    refine fr_bipush (pc := 54) 64 (by decide) dX12_goFrom_54 ?_
    refine fr_iload_n (pc := 56) 1 rfl rfl dX12_goFrom_56 ?_
    refine fr_imul (pc := 57) dX12_goFrom_57 ?_
    refine fr_iload (pc := 58) 3 rfl dX12_goFrom_58 ?_
    refine fr_iadd (pc := 60) dX12_goFrom_60 ?_
    refine fr_iald (pc := 61) dX12_goFrom_61 hW (fun i6 hW => ?_)
    refine fr_iadd (pc := 62) dX12_goFrom_62 ?_
    refine fr_istore (pc := 63) (lv' := [(5, .int (v5 + i6)), (0, .ref a0), (1, .int v1), (3, .int v3), (4, .int v4)]) (by decide) rfl dX12_goFrom_63 ?_
    refine fr_iinc (pc := 65) (lv' := [(4, .int (v4 + 1)), (5, .int (v5 + i6)), (0, .ref a0), (1, .int v1), (3, .int v3)]) (v4 + 1) 4 rfl (congrArg (fun z => v4 + z) (by decide)) (by decide) rfl dX12_goFrom_65 ?_
    refine fr_goto (pc := 68) (tgt := 29) (by decide) dX12_goFrom_68 ?_
    exact fr_sub [2, 3, 4, 0, 1] rfl hW
set_option maxHeartbeats 4000000 in
set_option maxRecDepth 100000 in
theorem q_X12_goFrom_76 {g : GG} {σ : Hs} {post : Option Value → Hs → Prop} (a0 : Nat) (v1 : Int32) (v4 : Int32) (v6 : Int32) (hW : FR σ a0 12 9 (fun r7 => AI g σ r7 0 v1 (fun i8 => (i8 ≤ v6 → FR σ a0 12 9 (fun r9 => AI g σ r9 0 v1 (fun i10 => SI g σ r9 0 v1 (i10 - 1) (fun s11 => FR s11 a0 12 10 (fun r12 => AI g s11 r12 0 ((64 * v1) + v4) (fun i13 => SI g s11 r12 0 ((64 * v1) + v4) (i13 - 1) (fun s14 => FR s14 a0 12 10 (fun r15 => AI g s14 r15 0 ((64 * v1) + v4) (fun i16 => (¬ i16 = 0 → post none s14) ∧ (i16 = 0 → J_X12_goFrom_166 g post s14 a0 v1 ((v4 + 1)) )))))))))) ∧ (¬ i8 ≤ v6 → FR σ a0 12 8 (fun r17 => FR σ a0 12 8 (fun r18 => AI g σ r18 0 ((64 * v1) + v6) (fun i19 => SI g σ r17 0 (((64 * v1) + v6) - 1) i19 (fun s20 => J_X12_goFrom_76 g post s20 a0 v1 v4 ((v6 + 1)) )))))))) : J_X12_goFrom_76 g post σ a0 v1 v4 v6 := by
  show Fr g M_X12_goFrom (0, 0, 0, 0) [(0, .ref a0), (1, .int v1), (4, .int v4), (6, .int v6)] [] 76 σ post
  refine fr_iload (pc := 76) 3 rfl dX12_goFrom_76 ?_
  refine fr_aload_n (pc := 78) 0 rfl rfl dX12_goFrom_78 ?_
  refine fr_getR (pc := 79) (T := TX12) (k := 9) kc_X12 (by decide) w_1013 dX12_goFrom_79 hW (fun r7 hW => ?_)
  refine fr_iload_n (pc := 82) 1 rfl rfl dX12_goFrom_82 ?_
  refine fr_iald (pc := 83) dX12_goFrom_83 hW (fun i8 hW => ?_)
  refine fr_icmp_ge (pc := 84) (tgt := 119) (by decide) dX12_goFrom_84 hW (fun hW => ?_) (fun hW => ?_)
  · refine fr_aload_n (pc := 119) 0 rfl rfl dX12_goFrom_119 ?_
    refine fr_getR (pc := 120) (T := TX12) (k := 9) kc_X12 (by decide) w_1013 dX12_goFrom_120 hW (fun r9 hW => ?_)
    refine fr_iload_n (pc := 123) 1 rfl rfl dX12_goFrom_123 ?_
    refine fr_dup2 (pc := 124) rfl rfl dX12_goFrom_124 ?_
    refine fr_iald (pc := 125) dX12_goFrom_125 hW (fun i10 hW => ?_)
    refine fr_iconst (pc := 126) 1 (by decide) dX12_goFrom_126 ?_
    refine fr_isub (pc := 127) dX12_goFrom_127 ?_
    refine fr_iast (pc := 128) dX12_goFrom_128 hW (fun s11 hW => ?_)
    refine fr_aload_n (pc := 129) 0 rfl rfl dX12_goFrom_129 ?_
    refine fr_getR (pc := 130) (T := TX12) (k := 10) kc_X12 (by decide) w_1014 dX12_goFrom_130 hW (fun r12 hW => ?_)
    refine fr_bipush (pc := 133) 64 (by decide) dX12_goFrom_133 ?_
    refine fr_iload_n (pc := 135) 1 rfl rfl dX12_goFrom_135 ?_
    refine fr_imul (pc := 136) dX12_goFrom_136 ?_
    refine fr_iload (pc := 137) 2 rfl dX12_goFrom_137 ?_
    refine fr_iadd (pc := 139) dX12_goFrom_139 ?_
    refine fr_dup2 (pc := 140) rfl rfl dX12_goFrom_140 ?_
    refine fr_iald (pc := 141) dX12_goFrom_141 hW (fun i13 hW => ?_)
    refine fr_iconst (pc := 142) 1 (by decide) dX12_goFrom_142 ?_
    refine fr_isub (pc := 143) dX12_goFrom_143 ?_
    refine fr_iast (pc := 144) dX12_goFrom_144 hW (fun s14 hW => ?_)
    refine fr_aload_n (pc := 145) 0 rfl rfl dX12_goFrom_145 ?_
    refine fr_getR (pc := 146) (T := TX12) (k := 10) kc_X12 (by decide) w_1014 dX12_goFrom_146 hW (fun r15 hW => ?_)
    refine fr_bipush (pc := 149) 64 (by decide) dX12_goFrom_149 ?_
    refine fr_iload_n (pc := 151) 1 rfl rfl dX12_goFrom_151 ?_
    refine fr_imul (pc := 152) dX12_goFrom_152 ?_
    refine fr_iload (pc := 153) 2 rfl dX12_goFrom_153 ?_
    refine fr_iadd (pc := 155) dX12_goFrom_155 ?_
    refine fr_iald (pc := 156) dX12_goFrom_156 hW (fun i16 hW => ?_)
    refine fr_if_ne (pc := 157) (tgt := 219) (by decide) dX12_goFrom_157 hW (fun hW => ?_) (fun hW => ?_)
    · exact fr_ret (pc := 219) dX12_goFrom_219 rfl ⟨Nat.le_refl 0, Nat.le_refl 0⟩ hW
    · refine fr_iload (pc := 160) 2 rfl dX12_goFrom_160 ?_
      refine fr_iconst (pc := 162) 1 (by decide) dX12_goFrom_162 ?_
      refine fr_iadd (pc := 163) dX12_goFrom_163 ?_
      refine fr_istore (pc := 164) (lv' := [(6, .int (v4 + 1)), (0, .ref a0), (1, .int v1), (4, .int v4)]) (by decide) rfl dX12_goFrom_164 ?_
      exact fr_sub [1, 2, 0] rfl hW
  · refine fr_aload_n (pc := 87) 0 rfl rfl dX12_goFrom_87 ?_
    refine fr_getR (pc := 88) (T := TX12) (k := 8) kc_X12 (by decide) w_1012 dX12_goFrom_88 hW (fun r17 hW => ?_)
    refine fr_bipush (pc := 91) 64 (by decide) dX12_goFrom_91 ?_
    refine fr_iload_n (pc := 93) 1 rfl rfl dX12_goFrom_93 ?_
    refine fr_imul (pc := 94) dX12_goFrom_94 ?_
    refine fr_iload (pc := 95) 3 rfl dX12_goFrom_95 ?_
    refine fr_iadd (pc := 97) dX12_goFrom_97 ?_
    refine fr_iconst (pc := 98) 1 (by decide) dX12_goFrom_98 ?_
    refine fr_isub (pc := 99) dX12_goFrom_99 ?_
    refine fr_aload_n (pc := 100) 0 rfl rfl dX12_goFrom_100 ?_
    refine fr_getR (pc := 101) (T := TX12) (k := 8) kc_X12 (by decide) w_1012 dX12_goFrom_101 hW (fun r18 hW => ?_)
    refine fr_bipush (pc := 104) 64 (by decide) dX12_goFrom_104 ?_
    refine fr_iload_n (pc := 106) 1 rfl rfl dX12_goFrom_106 ?_
    refine fr_imul (pc := 107) dX12_goFrom_107 ?_
    refine fr_iload (pc := 108) 3 rfl dX12_goFrom_108 ?_
    refine fr_iadd (pc := 110) dX12_goFrom_110 ?_
    refine fr_iald (pc := 111) dX12_goFrom_111 hW (fun i19 hW => ?_)
    refine fr_iast (pc := 112) dX12_goFrom_112 hW (fun s20 hW => ?_)
    refine fr_iinc (pc := 113) (lv' := [(6, .int (v6 + 1)), (0, .ref a0), (1, .int v1), (4, .int v4)]) (v6 + 1) 3 rfl (congrArg (fun z => v6 + z) (by decide)) (by decide) rfl dX12_goFrom_113 ?_
    refine fr_goto (pc := 116) (tgt := 76) (by decide) dX12_goFrom_116 ?_
    exact fr_sub [1, 2, 3, 0] rfl hW
set_option maxHeartbeats 4000000 in
set_option maxRecDepth 100000 in
theorem q_X12_goFrom_166 {g : GG} {σ : Hs} {post : Option Value → Hs → Prop} (a0 : Nat) (v1 : Int32) (v6 : Int32) (hW : FR σ a0 12 11 (fun r21 => AI g σ r21 0 v1 (fun i22 => (i22 ≤ v6 → FR σ a0 12 11 (fun r23 => AI g σ r23 0 v1 (fun i24 => SI g σ r23 0 v1 (i24 - 1) (fun s25 => post none s25)))) ∧ (¬ i22 ≤ v6 → FR σ a0 12 10 (fun r26 => FR σ a0 12 10 (fun r27 => AI g σ r27 0 ((64 * v1) + v6) (fun i28 => SI g σ r26 0 (((64 * v1) + v6) - 1) i28 (fun s29 => J_X12_goFrom_166 g post s29 a0 v1 ((v6 + 1)) )))))))) : J_X12_goFrom_166 g post σ a0 v1 v6 := by
  show Fr g M_X12_goFrom (0, 0, 0, 0) [(0, .ref a0), (1, .int v1), (6, .int v6)] [] 166 σ post
  refine fr_iload (pc := 166) 2 rfl dX12_goFrom_166 ?_
  refine fr_aload_n (pc := 168) 0 rfl rfl dX12_goFrom_168 ?_
  refine fr_getR (pc := 169) (T := TX12) (k := 11) kc_X12 (by decide) w_1015 dX12_goFrom_169 hW (fun r21 hW => ?_)
  refine fr_iload_n (pc := 172) 1 rfl rfl dX12_goFrom_172 ?_
  refine fr_iald (pc := 173) dX12_goFrom_173 hW (fun i22 hW => ?_)
  refine fr_icmp_ge (pc := 174) (tgt := 209) (by decide) dX12_goFrom_174 hW (fun hW => ?_) (fun hW => ?_)
  · refine fr_aload_n (pc := 209) 0 rfl rfl dX12_goFrom_209 ?_
    refine fr_getR (pc := 210) (T := TX12) (k := 11) kc_X12 (by decide) w_1015 dX12_goFrom_210 hW (fun r23 hW => ?_)
    refine fr_iload_n (pc := 213) 1 rfl rfl dX12_goFrom_213 ?_
    refine fr_dup2 (pc := 214) rfl rfl dX12_goFrom_214 ?_
    refine fr_iald (pc := 215) dX12_goFrom_215 hW (fun i24 hW => ?_)
    refine fr_iconst (pc := 216) 1 (by decide) dX12_goFrom_216 ?_
    refine fr_isub (pc := 217) dX12_goFrom_217 ?_
    refine fr_iast (pc := 218) dX12_goFrom_218 hW (fun s25 hW => ?_)
    exact fr_ret (pc := 219) dX12_goFrom_219 rfl ⟨Nat.le_refl 0, Nat.le_refl 0⟩ hW
  · refine fr_aload_n (pc := 177) 0 rfl rfl dX12_goFrom_177 ?_
    refine fr_getR (pc := 178) (T := TX12) (k := 10) kc_X12 (by decide) w_1014 dX12_goFrom_178 hW (fun r26 hW => ?_)
    refine fr_bipush (pc := 181) 64 (by decide) dX12_goFrom_181 ?_
    refine fr_iload_n (pc := 183) 1 rfl rfl dX12_goFrom_183 ?_
    refine fr_imul (pc := 184) dX12_goFrom_184 ?_
    refine fr_iload (pc := 185) 2 rfl dX12_goFrom_185 ?_
    refine fr_iadd (pc := 187) dX12_goFrom_187 ?_
    refine fr_iconst (pc := 188) 1 (by decide) dX12_goFrom_188 ?_
    refine fr_isub (pc := 189) dX12_goFrom_189 ?_
    refine fr_aload_n (pc := 190) 0 rfl rfl dX12_goFrom_190 ?_
    refine fr_getR (pc := 191) (T := TX12) (k := 10) kc_X12 (by decide) w_1014 dX12_goFrom_191 hW (fun r27 hW => ?_)
    refine fr_bipush (pc := 194) 64 (by decide) dX12_goFrom_194 ?_
    refine fr_iload_n (pc := 196) 1 rfl rfl dX12_goFrom_196 ?_
    refine fr_imul (pc := 197) dX12_goFrom_197 ?_
    refine fr_iload (pc := 198) 2 rfl dX12_goFrom_198 ?_
    refine fr_iadd (pc := 200) dX12_goFrom_200 ?_
    refine fr_iald (pc := 201) dX12_goFrom_201 hW (fun i28 hW => ?_)
    refine fr_iast (pc := 202) dX12_goFrom_202 hW (fun s29 hW => ?_)
    refine fr_iinc (pc := 203) (lv' := [(6, .int (v6 + 1)), (0, .ref a0), (1, .int v1)]) (v6 + 1) 2 rfl (congrArg (fun z => v6 + z) (by decide)) (by decide) rfl dX12_goFrom_203 ?_
    refine fr_goto (pc := 206) (tgt := 166) (by decide) dX12_goFrom_206 ?_
    exact fr_sub [1, 2, 0] rfl hW
def J_X12_set_45 (g : GG) (post : Option Value → Hs → Prop) (σ : Hs) (a0 : Nat) (v1 : Int32) (v2 : Int32) (v3 : Int32) (v4 : Int32) (v5 : Int32) : Prop := Fr g M_X12_set (0, 0, 0, 0) [(0, .ref a0), (1, .int v1), (2, .int v2), (3, .int v3), (4, .int v4), (5, .int v5)] [] 45 σ post
set_option maxHeartbeats 4000000 in
set_option maxRecDepth 100000 in
theorem q_X12_set {g : GG} {σ : Hs} {post : Option Value → Hs → Prop} (r0 : Nat) (p0 : Int32) (p1 : Int32) (p2 : Int32) (hW : Rc σ r0 12 ∧ Do g M_X12_isSlot 0 0 [.ref r0, .int p0] σ (kI (fun i2 s1 => (i2 = 0 → post (some (.int (-101))) s1) ∧ (¬ i2 = 0 → Do g M_X12_in 0 0 [.int p1, .int 0, .int 3] s1 (kI (fun i6 s5 => (¬ i6 = 0 → Do g M_X12_isNumber 0 0 [.int p2] s5 (kI (fun i10 s9 => (¬ i10 = 0 → FR s9 r0 12 1 (fun r13 => AI g s9 r13 0 ((4 * p0) + p1) (fun i14 => J_X12_set_45 g post s9 r0 p0 p1 p2 i14 0 ))) ∧ (i10 = 0 → post (some (.int (-102))) s9)))) ∧ (i6 = 0 → post (some (.int (-101))) s5))))))) : Do g M_X12_set 0 0 [.ref r0, .int p0, .int p1, .int p2] σ post := by
  refine Do.of (by decide +kernel) (Nat.le_of_ble_eq_true rfl) ?_
  show Fr g M_X12_set (0, 0, 0, 0) [(0, .ref r0), (1, .int p0), (2, .int p1), (3, .int p2)] [] 0 σ post
  refine fr_aload_n (pc := 0) 0 rfl rfl dX12_set_0 ?_
  refine fr_iload_n (pc := 1) 1 rfl rfl dX12_set_1 ?_
  obtain ⟨hrc, hW⟩ := hW
  refine fr_callV_I (pc := 2) (As := [.int p0]) (st := []) wd_X12_isSlot w_1087 ok_X12_isSlot (by decide) rfl (Nat.le_of_ble_eq_true rfl) dX12_set_2 ⟨Nat.le_refl 0, Nat.le_refl 0⟩ kc_X12 hrc hW (fun i2 s1 hW => ?_)
  refine fr_if_eq (pc := 5) (tgt := 17) (by decide) dX12_set_5 hW (fun hW => ?_) (fun hW => ?_)
  · refine fr_bipush (pc := 17) (-101) (by decide) dX12_set_17 ?_
    exact fr_iret (pc := 19) dX12_set_19 rfl ⟨Nat.le_refl 0, Nat.le_refl 0⟩ hW
  · refine fr_iload_n (pc := 8) 2 rfl rfl dX12_set_8 ?_
    refine fr_iconst (pc := 9) 0 (by decide) dX12_set_9 ?_
    refine fr_iconst (pc := 10) 3 (by decide) dX12_set_10 ?_
    refine fr_callS_I (pc := 11) (As := [.int p1, .int 0, .int 3]) (st := []) wd_X12_in w_1067 ok_X12_in (by decide) rfl (Nat.le_of_ble_eq_true rfl) dX12_set_11 ⟨Nat.le_refl 0, Nat.le_refl 0⟩ hW (fun i6 s5 hW => ?_)
    refine fr_if_ne (pc := 14) (tgt := 20) (by decide) dX12_set_14 hW (fun hW => ?_) (fun hW => ?_)
    · refine fr_iload_n (pc := 20) 3 rfl rfl dX12_set_20 ?_
      refine fr_callS_I (pc := 21) (As := [.int p2]) (st := []) wd_X12_isNumber w_1077 ok_X12_isNumber (by decide) rfl (Nat.le_of_ble_eq_true rfl) dX12_set_21 ⟨Nat.le_refl 0, Nat.le_refl 0⟩ hW (fun i10 s9 hW => ?_)
      refine fr_if_ne (pc := 24) (tgt := 30) (by decide) dX12_set_24 hW (fun hW => ?_) (fun hW => ?_)
      · refine fr_aload_n (pc := 30) 0 rfl rfl dX12_set_30 ?_
        refine fr_getR (pc := 31) (T := TX12) (k := 1) kc_X12 (by decide) w_1007 dX12_set_31 hW (fun r13 hW => ?_)
        refine fr_iconst (pc := 34) 4 (by decide) dX12_set_34 ?_
        refine fr_iload_n (pc := 35) 1 rfl rfl dX12_set_35 ?_
        refine fr_imul (pc := 36) dX12_set_36 ?_
        refine fr_iload_n (pc := 37) 2 rfl rfl dX12_set_37 ?_
        refine fr_iadd (pc := 38) dX12_set_38 ?_
        refine fr_iald (pc := 39) dX12_set_39 hW (fun i14 hW => ?_)
        refine fr_istore (pc := 40) (lv' := [(4, .int i14), (0, .ref r0), (1, .int p0), (2, .int p1), (3, .int p2)]) (by decide) rfl dX12_set_40 ?_
        refine fr_iconst (pc := 42) 0 (by decide) dX12_set_42 ?_
        refine fr_istore (pc := 43) (lv' := [(5, .int 0), (4, .int i14), (0, .ref r0), (1, .int p0), (2, .int p1), (3, .int p2)]) (by decide) rfl dX12_set_43 ?_
        exact fr_sub [2, 3, 4, 5, 1, 0] rfl hW
      · refine fr_bipush (pc := 27) (-102) (by decide) dX12_set_27 ?_
        exact fr_iret (pc := 29) dX12_set_29 rfl ⟨Nat.le_refl 0, Nat.le_refl 0⟩ hW
    · refine fr_bipush (pc := 17) (-101) (by decide) dX12_set_17 ?_
      exact fr_iret (pc := 19) dX12_set_19 rfl ⟨Nat.le_refl 0, Nat.le_refl 0⟩ hW
set_option maxHeartbeats 4000000 in
set_option maxRecDepth 100000 in
theorem q_X12_set_45 {g : GG} {σ : Hs} {post : Option Value → Hs → Prop} (a0 : Nat) (v1 : Int32) (v2 : Int32) (v3 : Int32) (v4 : Int32) (v5 : Int32) (hW : FI σ a0 12 4 (fun i15 => (i15 ≤ v5 → FR σ a0 12 1 (fun r16 => SI g σ r16 0 ((4 * v1) + v2) v3 (fun s17 => Rc s17 a0 12 ∧ Do g M_X12_comeIntoAll 0 0 [.ref a0, .int v1] s17 (kV (fun s18 => post (some (.int v4)) s18))))) ∧ (¬ i15 ≤ v5 → FR σ a0 12 6 (fun r19 => AI g σ r19 1 v5 (fun i20 => (¬ i20 = 0 → J_X12_set_45 g post σ a0 v1 v2 v3 v4 ((v5 + 1)) ) ∧ (i20 = 0 → Rc σ a0 12 ∧ Do g M_X12_goFrom 0 0 [.ref a0, .int v5, .int v1] σ (kV (fun s21 => J_X12_set_45 g post s21 a0 v1 v2 v3 v4 ((v5 + 1)) )))))))) : J_X12_set_45 g post σ a0 v1 v2 v3 v4 v5 := by
  show Fr g M_X12_set (0, 0, 0, 0) [(0, .ref a0), (1, .int v1), (2, .int v2), (3, .int v3), (4, .int v4), (5, .int v5)] [] 45 σ post
  refine fr_iload (pc := 45) 5 rfl dX12_set_45 ?_
  refine fr_aload_n (pc := 47) 0 rfl rfl dX12_set_47 ?_
  refine fr_getI (pc := 48) (T := TX12) (k := 4) kc_X12 (by decide) w_1073 dX12_set_48 hW (fun i15 hW => ?_)
  refine fr_icmp_ge (pc := 51) (tgt := 77) (by decide) dX12_set_51 hW (fun hW => ?_) (fun hW => ?_)
  · refine fr_aload_n (pc := 77) 0 rfl rfl dX12_set_77 ?_
    refine fr_getR (pc := 78) (T := TX12) (k := 1) kc_X12 (by decide) w_1007 dX12_set_78 hW (fun r16 hW => ?_)
    refine fr_iconst (pc := 81) 4 (by decide) dX12_set_81 ?_
    refine fr_iload_n (pc := 82) 1 rfl rfl dX12_set_82 ?_
    refine fr_imul (pc := 83) dX12_set_83 ?_
    refine fr_iload_n (pc := 84) 2 rfl rfl dX12_set_84 ?_
    refine fr_iadd (pc := 85) dX12_set_85 ?_
    refine fr_iload_n (pc := 86) 3 rfl rfl dX12_set_86 ?_
    refine fr_iast (pc := 87) dX12_set_87 hW (fun s17 hW => ?_)
    refine fr_aload_n (pc := 88) 0 rfl rfl dX12_set_88 ?_
    refine fr_iload_n (pc := 89) 1 rfl rfl dX12_set_89 ?_
    obtain ⟨hrc, hW⟩ := hW
    refine fr_callV_V (pc := 90) (As := [.int v1]) (st := []) wd_X12_comeIntoAll w_1076 ok_X12_comeIntoAll (by decide) rfl (Nat.le_of_ble_eq_true rfl) dX12_set_90 ⟨Nat.le_refl 0, Nat.le_refl 0⟩ kc_X12 hrc hW (fun s18 hW => ?_)
    refine fr_iload (pc := 93) 4 rfl dX12_set_93 ?_
    exact fr_iret (pc := 95) dX12_set_95 rfl ⟨Nat.le_refl 0, Nat.le_refl 0⟩ hW
  · refine fr_aload_n (pc := 54) 0 rfl rfl dX12_set_54 ?_
    refine fr_getR (pc := 55) (T := TX12) (k := 6) kc_X12 (by decide) w_1010 dX12_set_55 hW (fun r19 hW => ?_)
    refine fr_iload (pc := 58) 5 rfl dX12_set_58 ?_
    refine fr_zald (pc := 60) dX12_set_60 hW (fun i20 hW => ?_)
    refine fr_if_ne (pc := 61) (tgt := 71) (by decide) dX12_set_61 hW (fun hW => ?_) (fun hW => ?_)
    · refine fr_iinc (pc := 71) (lv' := [(5, .int (v5 + 1)), (0, .ref a0), (1, .int v1), (2, .int v2), (3, .int v3), (4, .int v4)]) (v5 + 1) 5 rfl (congrArg (fun z => v5 + z) (by decide)) (by decide) rfl dX12_set_71 ?_
      refine fr_goto (pc := 74) (tgt := 45) (by decide) dX12_set_74 ?_
      exact fr_sub [1, 2, 3, 4, 5, 0] rfl hW
    · refine fr_aload_n (pc := 64) 0 rfl rfl dX12_set_64 ?_
      refine fr_iload (pc := 65) 5 rfl dX12_set_65 ?_
      refine fr_iload_n (pc := 67) 1 rfl rfl dX12_set_67 ?_
      obtain ⟨hrc, hW⟩ := hW
      refine fr_callV_V (pc := 68) (As := [.int v5, .int v1]) (st := []) wd_X12_goFrom w_1088 ok_X12_goFrom (by decide) rfl (Nat.le_of_ble_eq_true rfl) dX12_set_68 ⟨Nat.le_refl 0, Nat.le_refl 0⟩ kc_X12 hrc hW (fun s21 hW => ?_)
      refine fr_iinc (pc := 71) (lv' := [(5, .int (v5 + 1)), (0, .ref a0), (1, .int v1), (2, .int v2), (3, .int v3), (4, .int v4)]) (v5 + 1) 5 rfl (congrArg (fun z => v5 + z) (by decide)) (by decide) rfl dX12_set_71 ?_
      refine fr_goto (pc := 74) (tgt := 45) (by decide) dX12_set_74 ?_
      exact fr_sub [1, 2, 3, 4, 5, 0] rfl hW
set_option maxHeartbeats 4000000 in
set_option maxRecDepth 100000 in
theorem q_X8_release {g : GG} {σ : Hs} {post : Option Value → Hs → Prop} (r0 : Nat) (p0 : Int32) (hW : FL σ r0 8 1 (fun l1 => PF σ r0 8 1 (.long (l1 &&& (((1 : Int64) <<< (p0.toInt64 &&& 63)) ^^^ (-1)))) (fun s2 => post none s2))) : Do g M_X8_release 0 0 [.ref r0, .int p0] σ post := by
  refine Do.of (by decide +kernel) (Nat.le_of_ble_eq_true rfl) ?_
  show Fr g M_X8_release (0, 0, 0, 0) [(0, .ref r0), (1, .int p0)] [] 0 σ post
  refine fr_aload_n (pc := 0) 0 rfl rfl dX8_release_0 ?_
  refine fr_dup (pc := 1) rfl dX8_release_1 ?_
  refine fr_getL (pc := 2) (T := TX8) (k := 1) kc_X8 (by decide) w_1031 dX8_release_2 hW (fun l1 hW => ?_)
  refine fr_lconst (pc := 5) 1 (by decide) dX8_release_5 ?_
  refine fr_iload_n (pc := 6) 1 rfl rfl dX8_release_6 ?_
  refine fr_lshl (pc := 7) dX8_release_7 ?_
  refine fr_ldc2 (pc := 8) w_1089 dX8_release_8 ?_
  refine fr_lxor (pc := 11) dX8_release_11 ?_
  refine fr_land (pc := 12) dX8_release_12 ?_
  refine fr_put (pc := 13) (T := TX8) (k := 1) kc_X8 (by decide) w_1031 rfl rfl rfl dX8_release_13 hW (fun s2 hW => ?_)
  exact fr_ret (pc := 16) dX8_release_16 rfl ⟨Nat.le_refl 0, Nat.le_refl 0⟩ hW
set_option maxHeartbeats 4000000 in
set_option maxRecDepth 100000 in
theorem q_J13_bitCount_95d88 {g : GG} {σ : Hs} {post : Option Value → Hs → Prop} (p0 : Int64) (hW : post (some (.int (((((((((p0 - (((p0.toUInt64 >>> ((1 : Int32).toInt64.toUInt64 &&& Int64.toUInt64 63)).toInt64) &&& 6148914691236517205)) &&& 3689348814741910323) + ((((p0 - (((p0.toUInt64 >>> ((1 : Int32).toInt64.toUInt64 &&& Int64.toUInt64 63)).toInt64) &&& 6148914691236517205)).toUInt64 >>> ((2 : Int32).toInt64.toUInt64 &&& Int64.toUInt64 63)).toInt64) &&& 3689348814741910323)) + (((((p0 - (((p0.toUInt64 >>> ((1 : Int32).toInt64.toUInt64 &&& Int64.toUInt64 63)).toInt64) &&& 6148914691236517205)) &&& 3689348814741910323) + ((((p0 - (((p0.toUInt64 >>> ((1 : Int32).toInt64.toUInt64 &&& Int64.toUInt64 63)).toInt64) &&& 6148914691236517205)).toUInt64 >>> ((2 : Int32).toInt64.toUInt64 &&& Int64.toUInt64 63)).toInt64) &&& 3689348814741910323)).toUInt64 >>> ((4 : Int32).toInt64.toUInt64 &&& Int64.toUInt64 63)).toInt64)) &&& 1085102592571150095) + (((((((p0 - (((p0.toUInt64 >>> ((1 : Int32).toInt64.toUInt64 &&& Int64.toUInt64 63)).toInt64) &&& 6148914691236517205)) &&& 3689348814741910323) + ((((p0 - (((p0.toUInt64 >>> ((1 : Int32).toInt64.toUInt64 &&& Int64.toUInt64 63)).toInt64) &&& 6148914691236517205)).toUInt64 >>> ((2 : Int32).toInt64.toUInt64 &&& Int64.toUInt64 63)).toInt64) &&& 3689348814741910323)) + (((((p0 - (((p0.toUInt64 >>> ((1 : Int32).toInt64.toUInt64 &&& Int64.toUInt64 63)).toInt64) &&& 6148914691236517205)) &&& 3689348814741910323) + ((((p0 - (((p0.toUInt64 >>> ((1 : Int32).toInt64.toUInt64 &&& Int64.toUInt64 63)).toInt64) &&& 6148914691236517205)).toUInt64 >>> ((2 : Int32).toInt64.toUInt64 &&& Int64.toUInt64 63)).toInt64) &&& 3689348814741910323)).toUInt64 >>> ((4 : Int32).toInt64.toUInt64 &&& Int64.toUInt64 63)).toInt64)) &&& 1085102592571150095).toUInt64 >>> ((8 : Int32).toInt64.toUInt64 &&& Int64.toUInt64 63)).toInt64)) + ((((((((p0 - (((p0.toUInt64 >>> ((1 : Int32).toInt64.toUInt64 &&& Int64.toUInt64 63)).toInt64) &&& 6148914691236517205)) &&& 3689348814741910323) + ((((p0 - (((p0.toUInt64 >>> ((1 : Int32).toInt64.toUInt64 &&& Int64.toUInt64 63)).toInt64) &&& 6148914691236517205)).toUInt64 >>> ((2 : Int32).toInt64.toUInt64 &&& Int64.toUInt64 63)).toInt64) &&& 3689348814741910323)) + (((((p0 - (((p0.toUInt64 >>> ((1 : Int32).toInt64.toUInt64 &&& Int64.toUInt64 63)).toInt64) &&& 6148914691236517205)) &&& 3689348814741910323) + ((((p0 - (((p0.toUInt64 >>> ((1 : Int32).toInt64.toUInt64 &&& Int64.toUInt64 63)).toInt64) &&& 6148914691236517205)).toUInt64 >>> ((2 : Int32).toInt64.toUInt64 &&& Int64.toUInt64 63)).toInt64) &&& 3689348814741910323)).toUInt64 >>> ((4 : Int32).toInt64.toUInt64 &&& Int64.toUInt64 63)).toInt64)) &&& 1085102592571150095) + (((((((p0 - (((p0.toUInt64 >>> ((1 : Int32).toInt64.toUInt64 &&& Int64.toUInt64 63)).toInt64) &&& 6148914691236517205)) &&& 3689348814741910323) + ((((p0 - (((p0.toUInt64 >>> ((1 : Int32).toInt64.toUInt64 &&& Int64.toUInt64 63)).toInt64) &&& 6148914691236517205)).toUInt64 >>> ((2 : Int32).toInt64.toUInt64 &&& Int64.toUInt64 63)).toInt64) &&& 3689348814741910323)) + (((((p0 - (((p0.toUInt64 >>> ((1 : Int32).toInt64.toUInt64 &&& Int64.toUInt64 63)).toInt64) &&& 6148914691236517205)) &&& 3689348814741910323) + ((((p0 - (((p0.toUInt64 >>> ((1 : Int32).toInt64.toUInt64 &&& Int64.toUInt64 63)).toInt64) &&& 6148914691236517205)).toUInt64 >>> ((2 : Int32).toInt64.toUInt64 &&& Int64.toUInt64 63)).toInt64) &&& 3689348814741910323)).toUInt64 >>> ((4 : Int32).toInt64.toUInt64 &&& Int64.toUInt64 63)).toInt64)) &&& 1085102592571150095).toUInt64 >>> ((8 : Int32).toInt64.toUInt64 &&& Int64.toUInt64 63)).toInt64)).toUInt64 >>> ((16 : Int32).toInt64.toUInt64 &&& Int64.toUInt64 63)).toInt64)) + (((((((((p0 - (((p0.toUInt64 >>> ((1 : Int32).toInt64.toUInt64 &&& Int64.toUInt64 63)).toInt64) &&& 6148914691236517205)) &&& 3689348814741910323) + ((((p0 - (((p0.toUInt64 >>> ((1 : Int32).toInt64.toUInt64 &&& Int64.toUInt64 63)).toInt64) &&& 6148914691236517205)).toUInt64 >>> ((2 : Int32).toInt64.toUInt64 &&& Int64.toUInt64 63)).toInt64) &&& 3689348814741910323)) + (((((p0 - (((p0.toUInt64 >>> ((1 : Int32).toInt64.toUInt64 &&& Int64.toUInt64 63)).toInt64) &&& 6148914691236517205)) &&& 3689348814741910323) + ((((p0 - (((p0.toUInt64 >>> ((1 : Int32).toInt64.toUInt64 &&& Int64.toUInt64 63)).toInt64) &&& 6148914691236517205)).toUInt64 >>> ((2 : Int32).toInt64.toUInt64 &&& Int64.toUInt64 63)).toInt64) &&& 3689348814741910323)).toUInt64 >>> ((4 : Int32).toInt64.toUInt64 &&& Int64.toUInt64 63)).toInt64)) &&& 1085102592571150095) + (((((((p0 - (((p0.toUInt64 >>> ((1 : Int32).toInt64.toUInt64 &&& Int64.toUInt64 63)).toInt64) &&& 6148914691236517205)) &&& 3689348814741910323) + ((((p0 - (((p0.toUInt64 >>> ((1 : Int32).toInt64.toUInt64 &&& Int64.toUInt64 63)).toInt64) &&& 6148914691236517205)).toUInt64 >>> ((2 : Int32).toInt64.toUInt64 &&& Int64.toUInt64 63)).toInt64) &&& 3689348814741910323)) + (((((p0 - (((p0.toUInt64 >>> ((1 : Int32).toInt64.toUInt64 &&& Int64.toUInt64 63)).toInt64) &&& 6148914691236517205)) &&& 3689348814741910323) + ((((p0 - (((p0.toUInt64 >>> ((1 : Int32).toInt64.toUInt64 &&& Int64.toUInt64 63)).toInt64) &&& 6148914691236517205)).toUInt64 >>> ((2 : Int32).toInt64.toUInt64 &&& Int64.toUInt64 63)).toInt64) &&& 3689348814741910323)).toUInt64 >>> ((4 : Int32).toInt64.toUInt64 &&& Int64.toUInt64 63)).toInt64)) &&& 1085102592571150095).toUInt64 >>> ((8 : Int32).toInt64.toUInt64 &&& Int64.toUInt64 63)).toInt64)) + ((((((((p0 - (((p0.toUInt64 >>> ((1 : Int32).toInt64.toUInt64 &&& Int64.toUInt64 63)).toInt64) &&& 6148914691236517205)) &&& 3689348814741910323) + ((((p0 - (((p0.toUInt64 >>> ((1 : Int32).toInt64.toUInt64 &&& Int64.toUInt64 63)).toInt64) &&& 6148914691236517205)).toUInt64 >>> ((2 : Int32).toInt64.toUInt64 &&& Int64.toUInt64 63)).toInt64) &&& 3689348814741910323)) + (((((p0 - (((p0.toUInt64 >>> ((1 : Int32).toInt64.toUInt64 &&& Int64.toUInt64 63)).toInt64) &&& 6148914691236517205)) &&& 3689348814741910323) + ((((p0 - (((p0.toUInt64 >>> ((1 : Int32).toInt64.toUInt64 &&& Int64.toUInt64 63)).toInt64) &&& 6148914691236517205)).toUInt64 >>> ((2 : Int32).toInt64.toUInt64 &&& Int64.toUInt64 63)).toInt64) &&& 3689348814741910323)).toUInt64 >>> ((4 : Int32).toInt64.toUInt64 &&& Int64.toUInt64 63)).toInt64)) &&& 1085102592571150095) + (((((((p0 - (((p0.toUInt64 >>> ((1 : Int32).toInt64.toUInt64 &&& Int64.toUInt64 63)).toInt64) &&& 6148914691236517205)) &&& 3689348814741910323) + ((((p0 - (((p0.toUInt64 >>> ((1 : Int32).toInt64.toUInt64 &&& Int64.toUInt64 63)).toInt64) &&& 6148914691236517205)).toUInt64 >>> ((2 : Int32).toInt64.toUInt64 &&& Int64.toUInt64 63)).toInt64) &&& 3689348814741910323)) + (((((p0 - (((p0.toUInt64 >>> ((1 : Int32).toInt64.toUInt64 &&& Int64.toUInt64 63)).toInt64) &&& 6148914691236517205)) &&& 3689348814741910323) + ((((p0 - (((p0.toUInt64 >>> ((1 : Int32).toInt64.toUInt64 &&& Int64.toUInt64 63)).toInt64) &&& 6148914691236517205)).toUInt64 >>> ((2 : Int32).toInt64.toUInt64 &&& Int64.toUInt64 63)).toInt64) &&& 3689348814741910323)).toUInt64 >>> ((4 : Int32).toInt64.toUInt64 &&& Int64.toUInt64 63)).toInt64)) &&& 1085102592571150095).toUInt64 >>> ((8 : Int32).toInt64.toUInt64 &&& Int64.toUInt64 63)).toInt64)).toUInt64 >>> ((16 : Int32).toInt64.toUInt64 &&& Int64.toUInt64 63)).toInt64)).toUInt64 >>> ((32 : Int32).toInt64.toUInt64 &&& Int64.toUInt64 63)).toInt64)).toInt32 &&& 127))) σ) : Do g M_J13_bitCount_95d88 0 0 [.long p0] σ post := by
  refine Do.of (by decide +kernel) (Nat.le_of_ble_eq_true rfl) ?_
  show Fr g M_J13_bitCount_95d88 (0, 0, 0, 0) [(0, .long p0)] [] 0 σ post
  refine fr_lload_n (pc := 0) 0 rfl rfl dJ13_bitCount_95d88_0 ?_
  refine fr_lload_n (pc := 1) 0 rfl rfl dJ13_bitCount_95d88_1 ?_
  refine fr_iconst (pc := 2) 1 (by decide) dJ13_bitCount_95d88_2 ?_
  refine fr_lushr (pc := 3) dJ13_bitCount_95d88_3 ?_
  refine fr_ldc2 (pc := 4) w_1090 dJ13_bitCount_95d88_4 ?_
  refine fr_land (pc := 7) dJ13_bitCount_95d88_7 ?_
  refine fr_lsub (pc := 8) dJ13_bitCount_95d88_8 ?_
  refine fr_lstore_n (pc := 9) (lv' := [(0, .long (p0 - (((p0.toUInt64 >>> ((1 : Int32).toInt64.toUInt64 &&& Int64.toUInt64 63)).toInt64) &&& 6148914691236517205)))]) rfl (by decide) rfl dJ13_bitCount_95d88_9 ?_
  refine fr_lload_n (pc := 10) 0 rfl rfl dJ13_bitCount_95d88_10 ?_
  refine fr_ldc2 (pc := 11) w_1091 dJ13_bitCount_95d88_11 ?_
  refine fr_land (pc := 14) dJ13_bitCount_95d88_14 ?_
  refine fr_lload_n (pc := 15) 0 rfl rfl dJ13_bitCount_95d88_15 ?_
  refine fr_iconst (pc := 16) 2 (by decide) dJ13_bitCount_95d88_16 ?_
  refine fr_lushr (pc := 17) dJ13_bitCount_95d88_17 ?_
  refine fr_ldc2 (pc := 18) w_1091 dJ13_bitCount_95d88_18 ?_
  refine fr_land (pc := 21) dJ13_bitCount_95d88_21 ?_
  refine fr_ladd (pc := 22) dJ13_bitCount_95d88_22 ?_
  refine fr_lstore_n (pc := 23) (lv' := [(0, .long (((p0 - (((p0.toUInt64 >>> ((1 : Int32).toInt64.toUInt64 &&& Int64.toUInt64 63)).toInt64) &&& 6148914691236517205)) &&& 3689348814741910323) + ((((p0 - (((p0.toUInt64 >>> ((1 : Int32).toInt64.toUInt64 &&& Int64.toUInt64 63)).toInt64) &&& 6148914691236517205)).toUInt64 >>> ((2 : Int32).toInt64.toUInt64 &&& Int64.toUInt64 63)).toInt64) &&& 3689348814741910323)))]) rfl (by decide) rfl dJ13_bitCount_95d88_23 ?_
  refine fr_lload_n (pc := 24) 0 rfl rfl dJ13_bitCount_95d88_24 ?_
  refine fr_lload_n (pc := 25) 0 rfl rfl dJ13_bitCount_95d88_25 ?_
  refine fr_iconst (pc := 26) 4 (by decide) dJ13_bitCount_95d88_26 ?_
  refine fr_lushr (pc := 27) dJ13_bitCount_95d88_27 ?_
  refine fr_ladd (pc := 28) dJ13_bitCount_95d88_28 ?_
  refine fr_ldc2 (pc := 29) w_1092 dJ13_bitCount_95d88_29 ?_
  refine fr_land (pc := 32) dJ13_bitCount_95d88_32 ?_
  refine fr_lstore_n (pc := 33) (lv' := [(0, .long (((((p0 - (((p0.toUInt64 >>> ((1 : Int32).toInt64.toUInt64 &&& Int64.toUInt64 63)).toInt64) &&& 6148914691236517205)) &&& 3689348814741910323) + ((((p0 - (((p0.toUInt64 >>> ((1 : Int32).toInt64.toUInt64 &&& Int64.toUInt64 63)).toInt64) &&& 6148914691236517205)).toUInt64 >>> ((2 : Int32).toInt64.toUInt64 &&& Int64.toUInt64 63)).toInt64) &&& 3689348814741910323)) + (((((p0 - (((p0.toUInt64 >>> ((1 : Int32).toInt64.toUInt64 &&& Int64.toUInt64 63)).toInt64) &&& 6148914691236517205)) &&& 3689348814741910323) + ((((p0 - (((p0.toUInt64 >>> ((1 : Int32).toInt64.toUInt64 &&& Int64.toUInt64 63)).toInt64) &&& 6148914691236517205)).toUInt64 >>> ((2 : Int32).toInt64.toUInt64 &&& Int64.toUInt64 63)).toInt64) &&& 3689348814741910323)).toUInt64 >>> ((4 : Int32).toInt64.toUInt64 &&& Int64.toUInt64 63)).toInt64)) &&& 1085102592571150095))]) rfl (by decide) rfl dJ13_bitCount_95d88_33 ?_
  refine fr_lload_n (pc := 34) 0 rfl rfl dJ13_bitCount_95d88_34 ?_
  refine fr_lload_n (pc := 35) 0 rfl rfl dJ13_bitCount_95d88_35 ?_
  refine fr_bipush (pc := 36) 8 (by decide) dJ13_bitCount_95d88_36 ?_
  refine fr_lushr (pc := 38) dJ13_bitCount_95d88_38 ?_
  refine fr_ladd (pc := 39) dJ13_bitCount_95d88_39 ?_
  refine fr_lstore_n (pc := 40) (lv' := [(0, .long ((((((p0 - (((p0.toUInt64 >>> ((1 : Int32).toInt64.toUInt64 &&& Int64.toUInt64 63)).toInt64) &&& 6148914691236517205)) &&& 3689348814741910323) + ((((p0 - (((p0.toUInt64 >>> ((1 : Int32).toInt64.toUInt64 &&& Int64.toUInt64 63)).toInt64) &&& 6148914691236517205)).toUInt64 >>> ((2 : Int32).toInt64.toUInt64 &&& Int64.toUInt64 63)).toInt64) &&& 3689348814741910323)) + (((((p0 - (((p0.toUInt64 >>> ((1 : Int32).toInt64.toUInt64 &&& Int64.toUInt64 63)).toInt64) &&& 6148914691236517205)) &&& 3689348814741910323) + ((((p0 - (((p0.toUInt64 >>> ((1 : Int32).toInt64.toUInt64 &&& Int64.toUInt64 63)).toInt64) &&& 6148914691236517205)).toUInt64 >>> ((2 : Int32).toInt64.toUInt64 &&& Int64.toUInt64 63)).toInt64) &&& 3689348814741910323)).toUInt64 >>> ((4 : Int32).toInt64.toUInt64 &&& Int64.toUInt64 63)).toInt64)) &&& 1085102592571150095) + (((((((p0 - (((p0.toUInt64 >>> ((1 : Int32).toInt64.toUInt64 &&& Int64.toUInt64 63)).toInt64) &&& 6148914691236517205)) &&& 3689348814741910323) + ((((p0 - (((p0.toUInt64 >>> ((1 : Int32).toInt64.toUInt64 &&& Int64.toUInt64 63)).toInt64) &&& 6148914691236517205)).toUInt64 >>> ((2 : Int32).toInt64.toUInt64 &&& Int64.toUInt64 63)).toInt64) &&& 3689348814741910323)) + (((((p0 - (((p0.toUInt64 >>> ((1 : Int32).toInt64.toUInt64 &&& Int64.toUInt64 63)).toInt64) &&& 6148914691236517205)) &&& 3689348814741910323) + ((((p0 - (((p0.toUInt64 >>> ((1 : Int32).toInt64.toUInt64 &&& Int64.toUInt64 63)).toInt64) &&& 6148914691236517205)).toUInt64 >>> ((2 : Int32).toInt64.toUInt64 &&& Int64.toUInt64 63)).toInt64) &&& 3689348814741910323)).toUInt64 >>> ((4 : Int32).toInt64.toUInt64 &&& Int64.toUInt64 63)).toInt64)) &&& 1085102592571150095).toUInt64 >>> ((8 : Int32).toInt64.toUInt64 &&& Int64.toUInt64 63)).toInt64)))]) rfl (by decide) rfl dJ13_bitCount_95d88_40 ?_
  refine fr_lload_n (pc := 41) 0 rfl rfl dJ13_bitCount_95d88_41 ?_
  refine fr_lload_n (pc := 42) 0 rfl rfl dJ13_bitCount_95d88_42 ?_
  refine fr_bipush (pc := 43) 16 (by decide) dJ13_bitCount_95d88_43 ?_
  refine fr_lushr (pc := 45) dJ13_bitCount_95d88_45 ?_
  refine fr_ladd (pc := 46) dJ13_bitCount_95d88_46 ?_
  refine fr_lstore_n (pc := 47) (lv' := [(0, .long (((((((p0 - (((p0.toUInt64 >>> ((1 : Int32).toInt64.toUInt64 &&& Int64.toUInt64 63)).toInt64) &&& 6148914691236517205)) &&& 3689348814741910323) + ((((p0 - (((p0.toUInt64 >>> ((1 : Int32).toInt64.toUInt64 &&& Int64.toUInt64 63)).toInt64) &&& 6148914691236517205)).toUInt64 >>> ((2 : Int32).toInt64.toUInt64 &&& Int64.toUInt64 63)).toInt64) &&& 3689348814741910323)) + (((((p0 - (((p0.toUInt64 >>> ((1 : Int32).toInt64.toUInt64 &&& Int64.toUInt64 63)).toInt64) &&& 6148914691236517205)) &&& 3689348814741910323) + ((((p0 - (((p0.toUInt64 >>> ((1 : Int32).toInt64.toUInt64 &&& Int64.toUInt64 63)).toInt64) &&& 6148914691236517205)).toUInt64 >>> ((2 : Int32).toInt64.toUInt64 &&& Int64.toUInt64 63)).toInt64) &&& 3689348814741910323)).toUInt64 >>> ((4 : Int32).toInt64.toUInt64 &&& Int64.toUInt64 63)).toInt64)) &&& 1085102592571150095) + (((((((p0 - (((p0.toUInt64 >>> ((1 : Int32).toInt64.toUInt64 &&& Int64.toUInt64 63)).toInt64) &&& 6148914691236517205)) &&& 3689348814741910323) + ((((p0 - (((p0.toUInt64 >>> ((1 : Int32).toInt64.toUInt64 &&& Int64.toUInt64 63)).toInt64) &&& 6148914691236517205)).toUInt64 >>> ((2 : Int32).toInt64.toUInt64 &&& Int64.toUInt64 63)).toInt64) &&& 3689348814741910323)) + (((((p0 - (((p0.toUInt64 >>> ((1 : Int32).toInt64.toUInt64 &&& Int64.toUInt64 63)).toInt64) &&& 6148914691236517205)) &&& 3689348814741910323) + ((((p0 - (((p0.toUInt64 >>> ((1 : Int32).toInt64.toUInt64 &&& Int64.toUInt64 63)).toInt64) &&& 6148914691236517205)).toUInt64 >>> ((2 : Int32).toInt64.toUInt64 &&& Int64.toUInt64 63)).toInt64) &&& 3689348814741910323)).toUInt64 >>> ((4 : Int32).toInt64.toUInt64 &&& Int64.toUInt64 63)).toInt64)) &&& 1085102592571150095).toUInt64 >>> ((8 : Int32).toInt64.toUInt64 &&& Int64.toUInt64 63)).toInt64)) + ((((((((p0 - (((p0.toUInt64 >>> ((1 : Int32).toInt64.toUInt64 &&& Int64.toUInt64 63)).toInt64) &&& 6148914691236517205)) &&& 3689348814741910323) + ((((p0 - (((p0.toUInt64 >>> ((1 : Int32).toInt64.toUInt64 &&& Int64.toUInt64 63)).toInt64) &&& 6148914691236517205)).toUInt64 >>> ((2 : Int32).toInt64.toUInt64 &&& Int64.toUInt64 63)).toInt64) &&& 3689348814741910323)) + (((((p0 - (((p0.toUInt64 >>> ((1 : Int32).toInt64.toUInt64 &&& Int64.toUInt64 63)).toInt64) &&& 6148914691236517205)) &&& 3689348814741910323) + ((((p0 - (((p0.toUInt64 >>> ((1 : Int32).toInt64.toUInt64 &&& Int64.toUInt64 63)).toInt64) &&& 6148914691236517205)).toUInt64 >>> ((2 : Int32).toInt64.toUInt64 &&& Int64.toUInt64 63)).toInt64) &&& 3689348814741910323)).toUInt64 >>> ((4 : Int32).toInt64.toUInt64 &&& Int64.toUInt64 63)).toInt64)) &&& 1085102592571150095) + (((((((p0 - (((p0.toUInt64 >>> ((1 : Int32).toInt64.toUInt64 &&& Int64.toUInt64 63)).toInt64) &&& 6148914691236517205)) &&& 3689348814741910323) + ((((p0 - (((p0.toUInt64 >>> ((1 : Int32).toInt64.toUInt64 &&& Int64.toUInt64 63)).toInt64) &&& 6148914691236517205)).toUInt64 >>> ((2 : Int32).toInt64.toUInt64 &&& Int64.toUInt64 63)).toInt64) &&& 3689348814741910323)) + (((((p0 - (((p0.toUInt64 >>> ((1 : Int32).toInt64.toUInt64 &&& Int64.toUInt64 63)).toInt64) &&& 6148914691236517205)) &&& 3689348814741910323) + ((((p0 - (((p0.toUInt64 >>> ((1 : Int32).toInt64.toUInt64 &&& Int64.toUInt64 63)).toInt64) &&& 6148914691236517205)).toUInt64 >>> ((2 : Int32).toInt64.toUInt64 &&& Int64.toUInt64 63)).toInt64) &&& 3689348814741910323)).toUInt64 >>> ((4 : Int32).toInt64.toUInt64 &&& Int64.toUInt64 63)).toInt64)) &&& 1085102592571150095).toUInt64 >>> ((8 : Int32).toInt64.toUInt64 &&& Int64.toUInt64 63)).toInt64)).toUInt64 >>> ((16 : Int32).toInt64.toUInt64 &&& Int64.toUInt64 63)).toInt64)))]) rfl (by decide) rfl dJ13_bitCount_95d88_47 ?_
  refine fr_lload_n (pc := 48) 0 rfl rfl dJ13_bitCount_95d88_48 ?_
  refine fr_lload_n (pc := 49) 0 rfl rfl dJ13_bitCount_95d88_49 ?_
  refine fr_bipush (pc := 50) 32 (by decide) dJ13_bitCount_95d88_50 ?_
  refine fr_lushr (pc := 52) dJ13_bitCount_95d88_52 ?_
  refine fr_ladd (pc := 53) dJ13_bitCount_95d88_53 ?_
  refine fr_lstore_n (pc := 54) (lv' := [(0, .long ((((((((p0 - (((p0.toUInt64 >>> ((1 : Int32).toInt64.toUInt64 &&& Int64.toUInt64 63)).toInt64) &&& 6148914691236517205)) &&& 3689348814741910323) + ((((p0 - (((p0.toUInt64 >>> ((1 : Int32).toInt64.toUInt64 &&& Int64.toUInt64 63)).toInt64) &&& 6148914691236517205)).toUInt64 >>> ((2 : Int32).toInt64.toUInt64 &&& Int64.toUInt64 63)).toInt64) &&& 3689348814741910323)) + (((((p0 - (((p0.toUInt64 >>> ((1 : Int32).toInt64.toUInt64 &&& Int64.toUInt64 63)).toInt64) &&& 6148914691236517205)) &&& 3689348814741910323) + ((((p0 - (((p0.toUInt64 >>> ((1 : Int32).toInt64.toUInt64 &&& Int64.toUInt64 63)).toInt64) &&& 6148914691236517205)).toUInt64 >>> ((2 : Int32).toInt64.toUInt64 &&& Int64.toUInt64 63)).toInt64) &&& 3689348814741910323)).toUInt64 >>> ((4 : Int32).toInt64.toUInt64 &&& Int64.toUInt64 63)).toInt64)) &&& 1085102592571150095) + (((((((p0 - (((p0.toUInt64 >>> ((1 : Int32).toInt64.toUInt64 &&& Int64.toUInt64 63)).toInt64) &&& 6148914691236517205)) &&& 3689348814741910323) + ((((p0 - (((p0.toUInt64 >>> ((1 : Int32).toInt64.toUInt64 &&& Int64.toUInt64 63)).toInt64) &&& 6148914691236517205)).toUInt64 >>> ((2 : Int32).toInt64.toUInt64 &&& Int64.toUInt64 63)).toInt64) &&& 3689348814741910323)) + (((((p0 - (((p0.toUInt64 >>> ((1 : Int32).toInt64.toUInt64 &&& Int64.toUInt64 63)).toInt64) &&& 6148914691236517205)) &&& 3689348814741910323) + ((((p0 - (((p0.toUInt64 >>> ((1 : Int32).toInt64.toUInt64 &&& Int64.toUInt64 63)).toInt64) &&& 6148914691236517205)).toUInt64 >>> ((2 : Int32).toInt64.toUInt64 &&& Int64.toUInt64 63)).toInt64) &&& 3689348814741910323)).toUInt64 >>> ((4 : Int32).toInt64.toUInt64 &&& Int64.toUInt64 63)).toInt64)) &&& 1085102592571150095).toUInt64 >>> ((8 : Int32).toInt64.toUInt64 &&& Int64.toUInt64 63)).toInt64)) + ((((((((p0 - (((p0.toUInt64 >>> ((1 : Int32).toInt64.toUInt64 &&& Int64.toUInt64 63)).toInt64) &&& 6148914691236517205)) &&& 3689348814741910323) + ((((p0 - (((p0.toUInt64 >>> ((1 : Int32).toInt64.toUInt64 &&& Int64.toUInt64 63)).toInt64) &&& 6148914691236517205)).toUInt64 >>> ((2 : Int32).toInt64.toUInt64 &&& Int64.toUInt64 63)).toInt64) &&& 3689348814741910323)) + (((((p0 - (((p0.toUInt64 >>> ((1 : Int32).toInt64.toUInt64 &&& Int64.toUInt64 63)).toInt64) &&& 6148914691236517205)) &&& 3689348814741910323) + ((((p0 - (((p0.toUInt64 >>> ((1 : Int32).toInt64.toUInt64 &&& Int64.toUInt64 63)).toInt64) &&& 6148914691236517205)).toUInt64 >>> ((2 : Int32).toInt64.toUInt64 &&& Int64.toUInt64 63)).toInt64) &&& 3689348814741910323)).toUInt64 >>> ((4 : Int32).toInt64.toUInt64 &&& Int64.toUInt64 63)).toInt64)) &&& 1085102592571150095) + (((((((p0 - (((p0.toUInt64 >>> ((1 : Int32).toInt64.toUInt64 &&& Int64.toUInt64 63)).toInt64) &&& 6148914691236517205)) &&& 3689348814741910323) + ((((p0 - (((p0.toUInt64 >>> ((1 : Int32).toInt64.toUInt64 &&& Int64.toUInt64 63)).toInt64) &&& 6148914691236517205)).toUInt64 >>> ((2 : Int32).toInt64.toUInt64 &&& Int64.toUInt64 63)).toInt64) &&& 3689348814741910323)) + (((((p0 - (((p0.toUInt64 >>> ((1 : Int32).toInt64.toUInt64 &&& Int64.toUInt64 63)).toInt64) &&& 6148914691236517205)) &&& 3689348814741910323) + ((((p0 - (((p0.toUInt64 >>> ((1 : Int32).toInt64.toUInt64 &&& Int64.toUInt64 63)).toInt64) &&& 6148914691236517205)).toUInt64 >>> ((2 : Int32).toInt64.toUInt64 &&& Int64.toUInt64 63)).toInt64) &&& 3689348814741910323)).toUInt64 >>> ((4 : Int32).toInt64.toUInt64 &&& Int64.toUInt64 63)).toInt64)) &&& 1085102592571150095).toUInt64 >>> ((8 : Int32).toInt64.toUInt64 &&& Int64.toUInt64 63)).toInt64)).toUInt64 >>> ((16 : Int32).toInt64.toUInt64 &&& Int64.toUInt64 63)).toInt64)) + (((((((((p0 - (((p0.toUInt64 >>> ((1 : Int32).toInt64.toUInt64 &&& Int64.toUInt64 63)).toInt64) &&& 6148914691236517205)) &&& 3689348814741910323) + ((((p0 - (((p0.toUInt64 >>> ((1 : Int32).toInt64.toUInt64 &&& Int64.toUInt64 63)).toInt64) &&& 6148914691236517205)).toUInt64 >>> ((2 : Int32).toInt64.toUInt64 &&& Int64.toUInt64 63)).toInt64) &&& 3689348814741910323)) + (((((p0 - (((p0.toUInt64 >>> ((1 : Int32).toInt64.toUInt64 &&& Int64.toUInt64 63)).toInt64) &&& 6148914691236517205)) &&& 3689348814741910323) + ((((p0 - (((p0.toUInt64 >>> ((1 : Int32).toInt64.toUInt64 &&& Int64.toUInt64 63)).toInt64) &&& 6148914691236517205)).toUInt64 >>> ((2 : Int32).toInt64.toUInt64 &&& Int64.toUInt64 63)).toInt64) &&& 3689348814741910323)).toUInt64 >>> ((4 : Int32).toInt64.toUInt64 &&& Int64.toUInt64 63)).toInt64)) &&& 1085102592571150095) + (((((((p0 - (((p0.toUInt64 >>> ((1 : Int32).toInt64.toUInt64 &&& Int64.toUInt64 63)).toInt64) &&& 6148914691236517205)) &&& 3689348814741910323) + ((((p0 - (((p0.toUInt64 >>> ((1 : Int32).toInt64.toUInt64 &&& Int64.toUInt64 63)).toInt64) &&& 6148914691236517205)).toUInt64 >>> ((2 : Int32).toInt64.toUInt64 &&& Int64.toUInt64 63)).toInt64) &&& 3689348814741910323)) + (((((p0 - (((p0.toUInt64 >>> ((1 : Int32).toInt64.toUInt64 &&& Int64.toUInt64 63)).toInt64) &&& 6148914691236517205)) &&& 3689348814741910323) + ((((p0 - (((p0.toUInt64 >>> ((1 : Int32).toInt64.toUInt64 &&& Int64.toUInt64 63)).toInt64) &&& 6148914691236517205)).toUInt64 >>> ((2 : Int32).toInt64.toUInt64 &&& Int64.toUInt64 63)).toInt64) &&& 3689348814741910323)).toUInt64 >>> ((4 : Int32).toInt64.toUInt64 &&& Int64.toUInt64 63)).toInt64)) &&& 1085102592571150095).toUInt64 >>> ((8 : Int32).toInt64.toUInt64 &&& Int64.toUInt64 63)).toInt64)) + ((((((((p0 - (((p0.toUInt64 >>> ((1 : Int32).toInt64.toUInt64 &&& Int64.toUInt64 63)).toInt64) &&& 6148914691236517205)) &&& 3689348814741910323) + ((((p0 - (((p0.toUInt64 >>> ((1 : Int32).toInt64.toUInt64 &&& Int64.toUInt64 63)).toInt64) &&& 6148914691236517205)).toUInt64 >>> ((2 : Int32).toInt64.toUInt64 &&& Int64.toUInt64 63)).toInt64) &&& 3689348814741910323)) + (((((p0 - (((p0.toUInt64 >>> ((1 : Int32).toInt64.toUInt64 &&& Int64.toUInt64 63)).toInt64) &&& 6148914691236517205)) &&& 3689348814741910323) + ((((p0 - (((p0.toUInt64 >>> ((1 : Int32).toInt64.toUInt64 &&& Int64.toUInt64 63)).toInt64) &&& 6148914691236517205)).toUInt64 >>> ((2 : Int32).toInt64.toUInt64 &&& Int64.toUInt64 63)).toInt64) &&& 3689348814741910323)).toUInt64 >>> ((4 : Int32).toInt64.toUInt64 &&& Int64.toUInt64 63)).toInt64)) &&& 1085102592571150095) + (((((((p0 - (((p0.toUInt64 >>> ((1 : Int32).toInt64.toUInt64 &&& Int64.toUInt64 63)).toInt64) &&& 6148914691236517205)) &&& 3689348814741910323) + ((((p0 - (((p0.toUInt64 >>> ((1 : Int32).toInt64.toUInt64 &&& Int64.toUInt64 63)).toInt64) &&& 6148914691236517205)).toUInt64 >>> ((2 : Int32).toInt64.toUInt64 &&& Int64.toUInt64 63)).toInt64) &&& 3689348814741910323)) + (((((p0 - (((p0.toUInt64 >>> ((1 : Int32).toInt64.toUInt64 &&& Int64.toUInt64 63)).toInt64) &&& 6148914691236517205)) &&& 3689348814741910323) + ((((p0 - (((p0.toUInt64 >>> ((1 : Int32).toInt64.toUInt64 &&& Int64.toUInt64 63)).toInt64) &&& 6148914691236517205)).toUInt64 >>> ((2 : Int32).toInt64.toUInt64 &&& Int64.toUInt64 63)).toInt64) &&& 3689348814741910323)).toUInt64 >>> ((4 : Int32).toInt64.toUInt64 &&& Int64.toUInt64 63)).toInt64)) &&& 1085102592571150095).toUInt64 >>> ((8 : Int32).toInt64.toUInt64 &&& Int64.toUInt64 63)).toInt64)).toUInt64 >>> ((16 : Int32).toInt64.toUInt64 &&& Int64.toUInt64 63)).toInt64)).toUInt64 >>> ((32 : Int32).toInt64.toUInt64 &&& Int64.toUInt64 63)).toInt64)))]) rfl (by decide) rfl dJ13_bitCount_95d88_54 ?_
  refine fr_lload_n (pc := 55) 0 rfl rfl dJ13_bitCount_95d88_55 ?_
  refine fr_l2i (pc := 56) dJ13_bitCount_95d88_56 ?_
  refine fr_bipush (pc := 57) 127 (by decide) dJ13_bitCount_95d88_57 ?_
  refine fr_iand (pc := 59) dJ13_bitCount_95d88_59 ?_
  exact fr_iret (pc := 60) dJ13_bitCount_95d88_60 rfl ⟨Nat.le_refl 0, Nat.le_refl 0⟩ hW
set_option maxHeartbeats 4000000 in
set_option maxRecDepth 100000 in
theorem q_X8_rows {g : GG} {σ : Hs} {post : Option Value → Hs → Prop} (r0 : Nat) (hW : FL σ r0 8 1 (fun l1 => Do g M_J13_bitCount_95d88 0 0 [.long l1] σ (kI (fun i3 s2 => post (some (.int i3)) s2)))) : Do g M_X8_rows 0 0 [.ref r0] σ post := by
  refine Do.of (by decide +kernel) (Nat.le_of_ble_eq_true rfl) ?_
  show Fr g M_X8_rows (0, 0, 0, 0) [(0, .ref r0)] [] 0 σ post
  refine fr_aload_n (pc := 0) 0 rfl rfl dX8_rows_0 ?_
  refine fr_getL (pc := 1) (T := TX8) (k := 1) kc_X8 (by decide) w_1031 dX8_rows_1 hW (fun l1 hW => ?_)
  refine fr_callS_I (pc := 4) (As := [.long l1]) (st := []) wd_J13_bitCount_95d88 w_1093 ok_J13_bitCount_95d88 (by decide) rfl (Nat.le_of_ble_eq_true rfl) dX8_rows_4 ⟨Nat.le_refl 0, Nat.le_refl 0⟩ hW (fun i3 s2 hW => ?_)
  exact fr_iret (pc := 7) dX8_rows_7 rfl ⟨Nat.le_refl 0, Nat.le_refl 0⟩ hW
set_option maxHeartbeats 4000000 in
set_option maxRecDepth 100000 in
theorem q_X11_drop {g : GG} {σ : Hs} {post : Option Value → Hs → Prop} (r0 : Nat) (p0 : Int32) (hW : FR σ r0 11 0 (fun r1 => Rc σ r1 8 ∧ Do g M_X8_holds 0 0 [.ref r1, .int p0] σ (kI (fun i3 s2 => (¬ i3 = 0 → FR s2 r0 11 1 (fun r6 => Rc s2 r6 3 ∧ Do g M_X3_entriesGo 0 0 [.ref r6, .int p0] s2 (kV (fun s7 => FR s7 r0 11 0 (fun r8 => Rc s7 r8 8 ∧ Do g M_X8_release 0 0 [.ref r8, .int p0] s7 (kV (fun s9 => FR s9 r0 11 0 (fun r10 => Rc s9 r10 8 ∧ Do g M_X8_rows 0 0 [.ref r10] s9 (kI (fun i12 s11 => post (some (.int i12)) s11)))))))))) ∧ (i3 = 0 → post (some (.int (-101))) s2))))) : Do g M_X11_drop 0 0 [.ref r0, .int p0] σ post := by
  refine Do.of (by decide +kernel) (Nat.le_of_ble_eq_true rfl) ?_
  show Fr g M_X11_drop (0, 0, 0, 0) [(0, .ref r0), (1, .int p0)] [] 0 σ post
  refine fr_aload_n (pc := 0) 0 rfl rfl dX11_drop_0 ?_
  refine fr_getR (pc := 1) (T := TX11) (k := 0) kc_X11 (by decide) w_990 dX11_drop_1 hW (fun r1 hW => ?_)
  refine fr_iload_n (pc := 4) 1 rfl rfl dX11_drop_4 ?_
  obtain ⟨hrc, hW⟩ := hW
  refine fr_callV_I (pc := 5) (As := [.int p0]) (st := []) wd_X8_holds w_1083 ok_X8_holds (by decide) rfl (Nat.le_of_ble_eq_true rfl) dX11_drop_5 ⟨Nat.le_refl 0, Nat.le_refl 0⟩ kc_X8 hrc hW (fun i3 s2 hW => ?_)
  refine fr_if_ne (pc := 8) (tgt := 14) (by decide) dX11_drop_8 hW (fun hW => ?_) (fun hW => ?_)
  · refine fr_aload_n (pc := 14) 0 rfl rfl dX11_drop_14 ?_
    refine fr_getR (pc := 15) (T := TX11) (k := 1) kc_X11 (by decide) w_991 dX11_drop_15 hW (fun r6 hW => ?_)
    refine fr_iload_n (pc := 18) 1 rfl rfl dX11_drop_18 ?_
    obtain ⟨hrc, hW⟩ := hW
    refine fr_callV_V (pc := 19) (As := [.int p0]) (st := []) wd_X3_entriesGo w_1086 ok_X3_entriesGo (by decide) rfl (Nat.le_of_ble_eq_true rfl) dX11_drop_19 ⟨Nat.le_refl 0, Nat.le_refl 0⟩ kc_X3 hrc hW (fun s7 hW => ?_)
    refine fr_aload_n (pc := 22) 0 rfl rfl dX11_drop_22 ?_
    refine fr_getR (pc := 23) (T := TX11) (k := 0) kc_X11 (by decide) w_990 dX11_drop_23 hW (fun r8 hW => ?_)
    refine fr_iload_n (pc := 26) 1 rfl rfl dX11_drop_26 ?_
    obtain ⟨hrc, hW⟩ := hW
    refine fr_callV_V (pc := 27) (As := [.int p0]) (st := []) wd_X8_release w_1094 ok_X8_release (by decide) rfl (Nat.le_of_ble_eq_true rfl) dX11_drop_27 ⟨Nat.le_refl 0, Nat.le_refl 0⟩ kc_X8 hrc hW (fun s9 hW => ?_)
    refine fr_aload_n (pc := 30) 0 rfl rfl dX11_drop_30 ?_
    refine fr_getR (pc := 31) (T := TX11) (k := 0) kc_X11 (by decide) w_990 dX11_drop_31 hW (fun r10 hW => ?_)
    obtain ⟨hrc, hW⟩ := hW
    refine fr_callV_I (pc := 34) (As := []) (st := []) wd_X8_rows w_1095 ok_X8_rows (by decide) rfl (Nat.le_of_ble_eq_true rfl) dX11_drop_34 ⟨Nat.le_refl 0, Nat.le_refl 0⟩ kc_X8 hrc hW (fun i12 s11 hW => ?_)
    exact fr_iret (pc := 37) dX11_drop_37 rfl ⟨Nat.le_refl 0, Nat.le_refl 0⟩ hW
  · refine fr_bipush (pc := 11) (-101) (by decide) dX11_drop_11 ?_
    exact fr_iret (pc := 13) dX11_drop_13 rfl ⟨Nat.le_refl 0, Nat.le_refl 0⟩ hW
def J_X12_drop_13 (g : GG) (post : Option Value → Hs → Prop) (σ : Hs) (a0 : Nat) (v1 : Int32) (v2 : Int32) : Prop := Fr g M_X12_drop (0, 0, 0, 0) [(0, .ref a0), (1, .int v1), (2, .int v2)] [] 13 σ post
set_option maxHeartbeats 4000000 in
set_option maxRecDepth 100000 in
theorem q_X12_drop {g : GG} {σ : Hs} {post : Option Value → Hs → Prop} (r0 : Nat) (p0 : Int32) (hW : Rc σ r0 12 ∧ Do g M_X12_isSlot 0 0 [.ref r0, .int p0] σ (kI (fun i2 s1 => (¬ i2 = 0 → J_X12_drop_13 g post s1 r0 p0 0 ) ∧ (i2 = 0 → post (some (.int (-101))) s1)))) : Do g M_X12_drop 0 0 [.ref r0, .int p0] σ post := by
  refine Do.of (by decide +kernel) (Nat.le_of_ble_eq_true rfl) ?_
  show Fr g M_X12_drop (0, 0, 0, 0) [(0, .ref r0), (1, .int p0)] [] 0 σ post
  refine fr_aload_n (pc := 0) 0 rfl rfl dX12_drop_0 ?_
  refine fr_iload_n (pc := 1) 1 rfl rfl dX12_drop_1 ?_
  obtain ⟨hrc, hW⟩ := hW
  refine fr_callV_I (pc := 2) (As := [.int p0]) (st := []) wd_X12_isSlot w_1087 ok_X12_isSlot (by decide) rfl (Nat.le_of_ble_eq_true rfl) dX12_drop_2 ⟨Nat.le_refl 0, Nat.le_refl 0⟩ kc_X12 hrc hW (fun i2 s1 hW => ?_)
  refine fr_if_ne (pc := 5) (tgt := 11) (by decide) dX12_drop_5 hW (fun hW => ?_) (fun hW => ?_)
  · refine fr_iconst (pc := 11) 0 (by decide) dX12_drop_11 ?_
    refine fr_istore_n (pc := 12) (lv' := [(2, .int 0), (0, .ref r0), (1, .int p0)]) rfl (by decide) rfl dX12_drop_12 ?_
    exact fr_sub [1, 2, 0] rfl hW
  · refine fr_bipush (pc := 8) (-101) (by decide) dX12_drop_8 ?_
    exact fr_iret (pc := 10) dX12_drop_10 rfl ⟨Nat.le_refl 0, Nat.le_refl 0⟩ hW
set_option maxHeartbeats 4000000 in
set_option maxRecDepth 100000 in
theorem q_X12_drop_13 {g : GG} {σ : Hs} {post : Option Value → Hs → Prop} (a0 : Nat) (v1 : Int32) (v2 : Int32) (hW : FI σ a0 12 4 (fun i5 => (i5 ≤ v2 → FR σ a0 12 0 (fun r6 => SI g σ r6 1 v1 (vp_nar .boolean 0) (fun s7 => FI s7 a0 12 2 (fun i8 => PF s7 a0 12 2 (.int (i8 - 1)) (fun s9 => FI s9 a0 12 2 (fun i10 => post (some (.int i10)) s9)))))) ∧ (¬ i5 ≤ v2 → FR σ a0 12 6 (fun r11 => AI g σ r11 1 v2 (fun i12 => (¬ i12 = 0 → J_X12_drop_13 g post σ a0 v1 ((v2 + 1)) ) ∧ (i12 = 0 → Rc σ a0 12 ∧ Do g M_X12_goFrom 0 0 [.ref a0, .int v2, .int v1] σ (kV (fun s13 => J_X12_drop_13 g post s13 a0 v1 ((v2 + 1)) )))))))) : J_X12_drop_13 g post σ a0 v1 v2 := by
  show Fr g M_X12_drop (0, 0, 0, 0) [(0, .ref a0), (1, .int v1), (2, .int v2)] [] 13 σ post
  refine fr_iload_n (pc := 13) 2 rfl rfl dX12_drop_13 ?_
  refine fr_aload_n (pc := 14) 0 rfl rfl dX12_drop_14 ?_
  refine fr_getI (pc := 15) (T := TX12) (k := 4) kc_X12 (by decide) w_1073 dX12_drop_15 hW (fun i5 hW => ?_)
  refine fr_icmp_ge (pc := 18) (tgt := 42) (by decide) dX12_drop_18 hW (fun hW => ?_) (fun hW => ?_)
  · refine fr_aload_n (pc := 42) 0 rfl rfl dX12_drop_42 ?_
    refine fr_getR (pc := 43) (T := TX12) (k := 0) kc_X12 (by decide) w_1006 dX12_drop_43 hW (fun r6 hW => ?_)
    refine fr_iload_n (pc := 46) 1 rfl rfl dX12_drop_46 ?_
    refine fr_iconst (pc := 47) 0 (by decide) dX12_drop_47 ?_
    refine fr_zast (pc := 48) dX12_drop_48 hW (fun s7 hW => ?_)
    refine fr_aload_n (pc := 49) 0 rfl rfl dX12_drop_49 ?_
    refine fr_dup (pc := 50) rfl dX12_drop_50 ?_
    refine fr_getI (pc := 51) (T := TX12) (k := 2) kc_X12 (by decide) w_1075 dX12_drop_51 hW (fun i8 hW => ?_)
    refine fr_iconst (pc := 54) 1 (by decide) dX12_drop_54 ?_
    refine fr_isub (pc := 55) dX12_drop_55 ?_
    refine fr_put (pc := 56) (T := TX12) (k := 2) kc_X12 (by decide) w_1075 rfl rfl rfl dX12_drop_56 hW (fun s9 hW => ?_)
    refine fr_aload_n (pc := 59) 0 rfl rfl dX12_drop_59 ?_
    refine fr_getI (pc := 60) (T := TX12) (k := 2) kc_X12 (by decide) w_1075 dX12_drop_60 hW (fun i10 hW => ?_)
    exact fr_iret (pc := 63) dX12_drop_63 rfl ⟨Nat.le_refl 0, Nat.le_refl 0⟩ hW
  · refine fr_aload_n (pc := 21) 0 rfl rfl dX12_drop_21 ?_
    refine fr_getR (pc := 22) (T := TX12) (k := 6) kc_X12 (by decide) w_1010 dX12_drop_22 hW (fun r11 hW => ?_)
    refine fr_iload_n (pc := 25) 2 rfl rfl dX12_drop_25 ?_
    refine fr_zald (pc := 26) dX12_drop_26 hW (fun i12 hW => ?_)
    refine fr_if_ne (pc := 27) (tgt := 36) (by decide) dX12_drop_27 hW (fun hW => ?_) (fun hW => ?_)
    · refine fr_iinc (pc := 36) (lv' := [(2, .int (v2 + 1)), (0, .ref a0), (1, .int v1)]) (v2 + 1) 2 rfl (congrArg (fun z => v2 + z) (by decide)) (by decide) rfl dX12_drop_36 ?_
      refine fr_goto (pc := 39) (tgt := 13) (by decide) dX12_drop_39 ?_
      exact fr_sub [1, 2, 0] rfl hW
    · refine fr_aload_n (pc := 30) 0 rfl rfl dX12_drop_30 ?_
      refine fr_iload_n (pc := 31) 2 rfl rfl dX12_drop_31 ?_
      refine fr_iload_n (pc := 32) 1 rfl rfl dX12_drop_32 ?_
      obtain ⟨hrc, hW⟩ := hW
      refine fr_callV_V (pc := 33) (As := [.int v2, .int v1]) (st := []) wd_X12_goFrom w_1088 ok_X12_goFrom (by decide) rfl (Nat.le_of_ble_eq_true rfl) dX12_drop_33 ⟨Nat.le_refl 0, Nat.le_refl 0⟩ kc_X12 hrc hW (fun s13 hW => ?_)
      refine fr_iinc (pc := 36) (lv' := [(2, .int (v2 + 1)), (0, .ref a0), (1, .int v1)]) (v2 + 1) 2 rfl (congrArg (fun z => v2 + z) (by decide)) (by decide) rfl dX12_drop_36 ?_
      refine fr_goto (pc := 39) (tgt := 13) (by decide) dX12_drop_39 ?_
      exact fr_sub [1, 2, 0] rfl hW
set_option maxHeartbeats 4000000 in
set_option maxRecDepth 100000 in
theorem q_X11_rest {g : GG} {σ : Hs} {post : Option Value → Hs → Prop} (p0 : Int32) (p1 : Int32) (hW : (p1 ≤ 0 → post (some (.int 0)) σ) ∧ (¬ p1 ≤ 0 → ¬ p1 = 0 ∧ post (some (.int (p0 - p0 / p1 * p1))) σ)) : Do g M_X11_rest 0 0 [.int p0, .int p1] σ post := by
  refine Do.of (by decide +kernel) (Nat.le_of_ble_eq_true rfl) ?_
  show Fr g M_X11_rest (0, 0, 0, 0) [(0, .int p0), (1, .int p1)] [] 0 σ post
  refine fr_iload_n (pc := 0) 1 rfl rfl dX11_rest_0 ?_
  refine fr_if_le (pc := 1) (tgt := 10) (by decide) dX11_rest_1 hW (fun hW => ?_) (fun hW => ?_)
  · refine fr_iconst (pc := 10) 0 (by decide) dX11_rest_10 ?_
    exact fr_iret (pc := 11) dX11_rest_11 rfl ⟨Nat.le_refl 0, Nat.le_refl 0⟩ hW
  · refine fr_iload_n (pc := 4) 0 rfl rfl dX11_rest_4 ?_
    refine fr_iload_n (pc := 5) 1 rfl rfl dX11_rest_5 ?_
    obtain ⟨hne, hW⟩ := hW
    refine fr_irem (pc := 6) hne dX11_rest_6 ?_
    refine fr_goto (pc := 7) (tgt := 11) (by decide) dX11_rest_7 ?_
    exact fr_iret (pc := 11) dX11_rest_11 rfl ⟨Nat.le_refl 0, Nat.le_refl 0⟩ hW
def J_X11_fill_39 (g : GG) (post : Option Value → Hs → Prop) (σ : Hs) (a0 : Nat) (v2 : Int32) (v3 : Int32) (w4 : Int64) (v6 : Int32) (v7 : Int32) : Prop := Fr g M_X11_fill (0, 0, 0, 0) [(0, .ref a0), (2, .int v2), (3, .int v3), (4, .long w4), (6, .int v6), (7, .int v7)] [] 39 σ post
def J_X11_fill_66 (g : GG) (post : Option Value → Hs → Prop) (σ : Hs) (a0 : Nat) (v2 : Int32) (v3 : Int32) (w4 : Int64) (v6 : Int32) (v7 : Int32) (v8 : Int32) (v9 : Int32) : Prop := Fr g M_X11_fill (0, 0, 0, 0) [(0, .ref a0), (2, .int v2), (3, .int v3), (4, .long w4), (6, .int v6), (7, .int v7), (8, .int v8), (9, .int v9)] [] 66 σ post
set_option maxHeartbeats 4000000 in
set_option maxRecDepth 100000 in
theorem q_X11_fill {g : GG} {σ : Hs} {post : Option Value → Hs → Prop} (r0 : Nat) (p0 : Int32) (p1 : Int32) (p2 : Int32) (hW : (p0 < 0 → post (some (.int (-102))) σ) ∧ (¬ p0 < 0 → (p1 < 1 → post (some (.int (-102))) σ) ∧ (¬ p1 < 1 → (64 < p1 → post (some (.int (-102))) σ) ∧ (¬ 64 < p1 → (p2 < 1 → post (some (.int (-102))) σ) ∧ (¬ p2 < 1 → (p2 ≤ 100 → J_X11_fill_39 g post σ r0 p1 p2 p0.toInt64 0 0 ) ∧ (¬ p2 ≤ 100 → post (some (.int (-102))) σ)))))) : Do g M_X11_fill 0 0 [.ref r0, .int p0, .int p1, .int p2] σ post := by
  refine Do.of (by decide +kernel) (Nat.le_of_ble_eq_true rfl) ?_
  show Fr g M_X11_fill (0, 0, 0, 0) [(0, .ref r0), (1, .int p0), (2, .int p1), (3, .int p2)] [] 0 σ post
  refine fr_iload_n (pc := 0) 1 rfl rfl dX11_fill_0 ?_
  refine fr_if_lt (pc := 1) (tgt := 26) (by decide) dX11_fill_1 hW (fun hW => ?_) (fun hW => ?_)
  · refine fr_bipush (pc := 26) (-102) (by decide) dX11_fill_26 ?_
    exact fr_iret (pc := 28) dX11_fill_28 rfl ⟨Nat.le_refl 0, Nat.le_refl 0⟩ hW
  · refine fr_iload_n (pc := 4) 2 rfl rfl dX11_fill_4 ?_
    refine fr_iconst (pc := 5) 1 (by decide) dX11_fill_5 ?_
    refine fr_icmp_lt (pc := 6) (tgt := 26) (by decide) dX11_fill_6 hW (fun hW => ?_) (fun hW => ?_)
    · refine fr_bipush (pc := 26) (-102) (by decide) dX11_fill_26 ?_
      exact fr_iret (pc := 28) dX11_fill_28 rfl ⟨Nat.le_refl 0, Nat.le_refl 0⟩ hW
    · refine fr_iload_n (pc := 9) 2 rfl rfl dX11_fill_9 ?_
      refine fr_bipush (pc := 10) 64 (by decide) dX11_fill_10 ?_
      refine fr_icmp_gt (pc := 12) (tgt := 26) (by decide) dX11_fill_12 hW (fun hW => ?_) (fun hW => ?_)
      · refine fr_bipush (pc := 26) (-102) (by decide) dX11_fill_26 ?_
        exact fr_iret (pc := 28) dX11_fill_28 rfl ⟨Nat.le_refl 0, Nat.le_refl 0⟩ hW
      · refine fr_iload_n (pc := 15) 3 rfl rfl dX11_fill_15 ?_
        refine fr_iconst (pc := 16) 1 (by decide) dX11_fill_16 ?_
        refine fr_icmp_lt (pc := 17) (tgt := 26) (by decide) dX11_fill_17 hW (fun hW => ?_) (fun hW => ?_)
        · refine fr_bipush (pc := 26) (-102) (by decide) dX11_fill_26 ?_
          exact fr_iret (pc := 28) dX11_fill_28 rfl ⟨Nat.le_refl 0, Nat.le_refl 0⟩ hW
        · refine fr_iload_n (pc := 20) 3 rfl rfl dX11_fill_20 ?_
          refine fr_bipush (pc := 21) 100 (by decide) dX11_fill_21 ?_
          refine fr_icmp_le (pc := 23) (tgt := 29) (by decide) dX11_fill_23 hW (fun hW => ?_) (fun hW => ?_)
          · refine fr_iload_n (pc := 29) 1 rfl rfl dX11_fill_29 ?_
            refine fr_i2l (pc := 30) dX11_fill_30 ?_
            refine fr_lstore (pc := 31) (lv' := [(4, .long p0.toInt64), (0, .ref r0), (1, .int p0), (2, .int p1), (3, .int p2)]) (by decide) rfl dX11_fill_31 ?_
            refine fr_iconst (pc := 33) 0 (by decide) dX11_fill_33 ?_
            refine fr_istore (pc := 34) (lv' := [(6, .int 0), (4, .long p0.toInt64), (0, .ref r0), (1, .int p0), (2, .int p1), (3, .int p2)]) (by decide) rfl dX11_fill_34 ?_
            refine fr_iconst (pc := 36) 0 (by decide) dX11_fill_36 ?_
            refine fr_istore (pc := 37) (lv' := [(7, .int 0), (6, .int 0), (4, .long p0.toInt64), (0, .ref r0), (1, .int p0), (2, .int p1), (3, .int p2)]) (by decide) rfl dX11_fill_37 ?_
            exact fr_sub [3, 5, 6, 2, 1, 0] rfl hW
          · refine fr_bipush (pc := 26) (-102) (by decide) dX11_fill_26 ?_
            exact fr_iret (pc := 28) dX11_fill_28 rfl ⟨Nat.le_refl 0, Nat.le_refl 0⟩ hW
set_option maxHeartbeats 4000000 in
set_option maxRecDepth 100000 in
theorem q_X11_fill_39 {g : GG} {σ : Hs} {post : Option Value → Hs → Prop} (a0 : Nat) (v2 : Int32) (v3 : Int32) (w4 : Int64) (v6 : Int32) (v7 : Int32) (hW : (v2 ≤ v7 → post (some (.int v6)) σ) ∧ (¬ v2 ≤ v7 → FR σ a0 11 0 (fun r1 => Rc σ r1 8 ∧ Do g M_X8_emptySlot 0 0 [.ref r1] σ (kI (fun i3 s2 => (¬ i3 = (-1) → J_X11_fill_66 g post s2 a0 v2 v3 w4 v6 v7 i3 0 ) ∧ (i3 = (-1) → post (some (.int v6)) s2)))))) : J_X11_fill_39 g post σ a0 v2 v3 w4 v6 v7 := by
  show Fr g M_X11_fill (0, 0, 0, 0) [(0, .ref a0), (2, .int v2), (3, .int v3), (4, .long w4), (6, .int v6), (7, .int v7)] [] 39 σ post
  refine fr_iload (pc := 39) 5 rfl dX11_fill_39 ?_
  refine fr_iload_n (pc := 41) 1 rfl rfl dX11_fill_41 ?_
  refine fr_icmp_ge (pc := 42) (tgt := 131) (by decide) dX11_fill_42 hW (fun hW => ?_) (fun hW => ?_)
  · refine fr_iload (pc := 131) 4 rfl dX11_fill_131 ?_
    exact fr_iret (pc := 133) dX11_fill_133 rfl ⟨Nat.le_refl 0, Nat.le_refl 0⟩ hW
  · refine fr_aload_n (pc := 45) 0 rfl rfl dX11_fill_45 ?_
    refine fr_getR (pc := 46) (T := TX11) (k := 0) kc_X11 (by decide) w_990 dX11_fill_46 hW (fun r1 hW => ?_)
    obtain ⟨hrc, hW⟩ := hW
    refine fr_callV_I (pc := 49) (As := []) (st := []) wd_X8_emptySlot w_1064 ok_X8_emptySlot (by decide) rfl (Nat.le_of_ble_eq_true rfl) dX11_fill_49 ⟨Nat.le_refl 0, Nat.le_refl 0⟩ kc_X8 hrc hW (fun i3 s2 hW => ?_)
    refine fr_istore (pc := 52) (lv' := [(8, .int i3), (0, .ref a0), (2, .int v2), (3, .int v3), (4, .long w4), (6, .int v6), (7, .int v7)]) (by decide) rfl dX11_fill_52 ?_
    refine fr_iload (pc := 54) 0 rfl dX11_fill_54 ?_
    refine fr_iconst (pc := 56) (-1) (by decide) dX11_fill_56 ?_
    refine fr_icmp_ne (pc := 57) (tgt := 63) (by decide) dX11_fill_57 hW (fun hW => ?_) (fun hW => ?_)
    · refine fr_iconst (pc := 63) 0 (by decide) dX11_fill_63 ?_
      refine fr_istore (pc := 64) (lv' := [(9, .int 0), (8, .int i3), (0, .ref a0), (2, .int v2), (3, .int v3), (4, .long w4), (6, .int v6), (7, .int v7)]) (by decide) rfl dX11_fill_64 ?_
      exact fr_sub [2, 3, 4, 5, 6, 7, 1, 0] rfl hW
    · refine fr_goto (pc := 60) (tgt := 131) (by decide) dX11_fill_60 ?_
      refine fr_iload (pc := 131) 5 rfl dX11_fill_131 ?_
      exact fr_iret (pc := 133) dX11_fill_133 rfl ⟨Nat.le_refl 0, Nat.le_refl 0⟩ hW
set_option maxHeartbeats 4000000 in
set_option maxRecDepth 100000 in
theorem q_X11_fill_66 {g : GG} {σ : Hs} {post : Option Value → Hs → Prop} (a0 : Nat) (v2 : Int32) (v3 : Int32) (w4 : Int64) (v6 : Int32) (v7 : Int32) (v8 : Int32) (v9 : Int32) (hW : (4 ≤ v9 → Rc σ a0 11 ∧ Do g M_X11_rowComes 0 0 [.ref a0, .int v8] σ (kV (fun s6 => J_X11_fill_39 g post s6 a0 v2 v3 w4 ((v6 + 1)) ((v7 + 1)) ))) ∧ (¬ 4 ≤ v9 → FR σ a0 11 0 (fun r7 => Do g M_X11_rest 0 0 [.int (((((1103515245 : Int64) * w4) + 12345) &&& 2147483647) / 65536).toInt32, .int v3] σ (kI (fun i9 s8 => Rc s8 r7 8 ∧ Do g M_X8_put 0 0 [.ref r7, .int v8, .int v9, .int i9] s8 (kV (fun s12 => J_X11_fill_66 g post s12 a0 v2 v3 (((((1103515245 : Int64) * w4) + 12345) &&& 2147483647)) v6 v7 v8 ((v9 + 1)) ))))))) : J_X11_fill_66 g post σ a0 v2 v3 w4 v6 v7 v8 v9 := by
  show Fr g M_X11_fill (0, 0, 0, 0) [(0, .ref a0), (2, .int v2), (3, .int v3), (4, .long w4), (6, .int v6), (7, .int v7), (8, .int v8), (9, .int v9)] [] 66 σ post
  refine fr_iload (pc := 66) 7 rfl dX11_fill_66 ?_
  refine fr_iconst (pc := 68) 4 (by decide) dX11_fill_68 ?_
  refine fr_icmp_ge (pc := 69) (tgt := 116) (by decide) dX11_fill_69 hW (fun hW => ?_) (fun hW => ?_)
  · refine fr_aload_n (pc := 116) 0 rfl rfl dX11_fill_116 ?_
    refine fr_iload (pc := 117) 6 rfl dX11_fill_117 ?_
    obtain ⟨hrc, hW⟩ := hW
    refine fr_callV_V (pc := 119) (As := [.int v8]) (st := []) wd_X11_rowComes w_1066 ok_X11_rowComes (by decide) rfl (Nat.le_of_ble_eq_true rfl) dX11_fill_119 ⟨Nat.le_refl 0, Nat.le_refl 0⟩ kc_X11 hrc hW (fun s6 hW => ?_)
    refine fr_iinc (pc := 122) (lv' := [(6, .int (v6 + 1)), (0, .ref a0), (2, .int v2), (3, .int v3), (4, .long w4), (7, .int v7), (8, .int v8), (9, .int v9)]) (v6 + 1) 4 rfl (congrArg (fun z => v6 + z) (by decide)) (by decide) rfl dX11_fill_122 ?_
    refine fr_iinc (pc := 125) (lv' := [(7, .int (v7 + 1)), (6, .int (v6 + 1)), (0, .ref a0), (2, .int v2), (3, .int v3), (4, .long w4), (8, .int v8), (9, .int v9)]) (v7 + 1) 5 rfl (congrArg (fun z => v7 + z) (by decide)) (by decide) rfl dX11_fill_125 ?_
    refine fr_goto (pc := 128) (tgt := 39) (by decide) dX11_fill_128 ?_
    exact fr_sub [2, 3, 4, 5, 1, 0] rfl hW
  · refine fr_ldc2 (pc := 72) w_1096 dX11_fill_72 ?_
    refine fr_lload (pc := 75) 3 rfl dX11_fill_75 ?_
    refine fr_lmul (pc := 77) dX11_fill_77 ?_
    refine fr_ldc2 (pc := 78) w_1097 dX11_fill_78 ?_
    refine fr_ladd (pc := 81) dX11_fill_81 ?_
    refine fr_ldc2 (pc := 82) w_1098 dX11_fill_82 ?_
    refine fr_land (pc := 85) dX11_fill_85 ?_
    refine fr_lstore (pc := 86) (lv' := [(4, .long ((((1103515245 : Int64) * w4) + 12345) &&& 2147483647)), (0, .ref a0), (2, .int v2), (3, .int v3), (6, .int v6), (7, .int v7), (8, .int v8), (9, .int v9)]) (by decide) rfl dX11_fill_86 ?_
    refine fr_aload_n (pc := 88) 1 rfl rfl dX11_fill_88 ?_
    refine fr_getR (pc := 89) (T := TX11) (k := 0) kc_X11 (by decide) w_990 dX11_fill_89 hW (fun r7 hW => ?_)
    refine fr_iload (pc := 92) 6 rfl dX11_fill_92 ?_
    refine fr_iload (pc := 94) 7 rfl dX11_fill_94 ?_
    refine fr_lload (pc := 96) 0 rfl dX11_fill_96 ?_
    refine fr_ldc2 (pc := 98) w_1099 dX11_fill_98 ?_
    refine fr_ldiv (pc := 101) (by decide) dX11_fill_101 ?_
    refine fr_l2i (pc := 102) dX11_fill_102 ?_
    refine fr_iload_n (pc := 103) 3 rfl rfl dX11_fill_103 ?_
    refine fr_callS_I (pc := 104) (As := [.int (((((1103515245 : Int64) * w4) + 12345) &&& 2147483647) / 65536).toInt32, .int v3]) (st := [.int v9, .int v8, .ref r7]) wd_X11_rest w_1100 ok_X11_rest (by decide) rfl (Nat.le_of_ble_eq_true rfl) dX11_fill_104 ⟨Nat.le_refl 0, Nat.le_refl 0⟩ hW (fun i9 s8 hW => ?_)
    obtain ⟨hrc, hW⟩ := hW
    refine fr_callV_V (pc := 107) (As := [.int v8, .int v9, .int i9]) (st := []) wd_X8_put w_1065 ok_X8_put (by decide) rfl (Nat.le_of_ble_eq_true rfl) dX11_fill_107 ⟨Nat.le_refl 0, Nat.le_refl 0⟩ kc_X8 hrc hW (fun s12 hW => ?_)
    refine fr_iinc (pc := 110) (lv' := [(9, .int (v9 + 1)), (4, .long ((((1103515245 : Int64) * w4) + 12345) &&& 2147483647)), (0, .ref a0), (2, .int v2), (3, .int v3), (6, .int v6), (7, .int v7), (8, .int v8)]) (v9 + 1) 7 rfl (congrArg (fun z => v9 + z) (by decide)) (by decide) rfl dX11_fill_110 ?_
    refine fr_goto (pc := 113) (tgt := 66) (by decide) dX11_fill_113 ?_
    exact fr_sub [2, 3, 4, 1, 5, 6, 7, 0] rfl hW
set_option maxHeartbeats 4000000 in
set_option maxRecDepth 100000 in
theorem q_X12_nextNumber {g : GG} {σ : Hs} {post : Option Value → Hs → Prop} (r0 : Nat) (p0 : Int32) (hW : FI σ r0 12 28 (fun i1 => PF σ r0 12 28 (.int ((((1103515245 : Int64) * i1.toInt64) + 12345) &&& 2147483647).toInt32) (fun s2 => FI s2 r0 12 28 (fun i3 => ¬ p0 = 0 ∧ post (some (.int ((i3 / 65536) - (i3 / 65536) / p0 * p0))) s2)))) : Do g M_X12_nextNumber 0 0 [.ref r0, .int p0] σ post := by
  refine Do.of (by decide +kernel) (Nat.le_of_ble_eq_true rfl) ?_
  show Fr g M_X12_nextNumber (0, 0, 0, 0) [(0, .ref r0), (1, .int p0)] [] 0 σ post
  refine fr_aload_n (pc := 0) 0 rfl rfl dX12_nextNumber_0 ?_
  refine fr_ldc2 (pc := 1) w_1101 dX12_nextNumber_1 ?_
  refine fr_aload_n (pc := 4) 0 rfl rfl dX12_nextNumber_4 ?_
  refine fr_getI (pc := 5) (T := TX12) (k := 28) kc_X12 (by decide) w_1102 dX12_nextNumber_5 hW (fun i1 hW => ?_)
  refine fr_i2l (pc := 8) dX12_nextNumber_8 ?_
  refine fr_lmul (pc := 9) dX12_nextNumber_9 ?_
  refine fr_ldc2 (pc := 10) w_1103 dX12_nextNumber_10 ?_
  refine fr_ladd (pc := 13) dX12_nextNumber_13 ?_
  refine fr_ldc2 (pc := 14) w_1104 dX12_nextNumber_14 ?_
  refine fr_land (pc := 17) dX12_nextNumber_17 ?_
  refine fr_l2i (pc := 18) dX12_nextNumber_18 ?_
  refine fr_put (pc := 19) (T := TX12) (k := 28) kc_X12 (by decide) w_1102 rfl rfl rfl dX12_nextNumber_19 hW (fun s2 hW => ?_)
  refine fr_aload_n (pc := 22) 0 rfl rfl dX12_nextNumber_22 ?_
  refine fr_getI (pc := 23) (T := TX12) (k := 28) kc_X12 (by decide) w_1102 dX12_nextNumber_23 hW (fun i3 hW => ?_)
  refine fr_ldc (pc := 26) w_1105 dX12_nextNumber_26 ?_
  refine fr_idiv (pc := 28) (by decide) dX12_nextNumber_28 ?_
  refine fr_iload_n (pc := 29) 1 rfl rfl dX12_nextNumber_29 ?_
  obtain ⟨hne, hW⟩ := hW
  refine fr_irem (pc := 30) hne dX12_nextNumber_30 ?_
  exact fr_iret (pc := 31) dX12_nextNumber_31 rfl ⟨Nat.le_refl 0, Nat.le_refl 0⟩ hW
def J_X12_fill_35 (g : GG) (post : Option Value → Hs → Prop) (σ : Hs) (a0 : Nat) (v2 : Int32) (v3 : Int32) (v4 : Int32) : Prop := Fr g M_X12_fill (0, 0, 0, 0) [(0, .ref a0), (2, .int v2), (3, .int v3), (4, .int v4)] [] 35 σ post
set_option maxHeartbeats 4000000 in
set_option maxRecDepth 100000 in
theorem q_X12_fill {g : GG} {σ : Hs} {post : Option Value → Hs → Prop} (r0 : Nat) (p0 : Int32) (p1 : Int32) (p2 : Int32) (hW : (p0 < 0 → post (some (.int (-102))) σ) ∧ (¬ p0 < 0 → Do g M_X12_in 0 0 [.int p1, .int 1, .int 64] σ (kI (fun i2 s1 => (i2 = 0 → post (some (.int (-102))) s1) ∧ (¬ i2 = 0 → Do g M_X12_in 0 0 [.int p2, .int 1, .int 100] s1 (kI (fun i6 s5 => (¬ i6 = 0 → PF s5 r0 12 28 (.int p0) (fun s9 => J_X12_fill_35 g post s9 r0 p1 p2 0 )) ∧ (i6 = 0 → post (some (.int (-102))) s5)))))))) : Do g M_X12_fill 0 0 [.ref r0, .int p0, .int p1, .int p2] σ post := by
  refine Do.of (by decide +kernel) (Nat.le_of_ble_eq_true rfl) ?_
  show Fr g M_X12_fill (0, 0, 0, 0) [(0, .ref r0), (1, .int p0), (2, .int p1), (3, .int p2)] [] 0 σ post
  refine fr_iload_n (pc := 0) 1 rfl rfl dX12_fill_0 ?_
  refine fr_if_lt (pc := 1) (tgt := 24) (by decide) dX12_fill_1 hW (fun hW => ?_) (fun hW => ?_)
  · refine fr_bipush (pc := 24) (-102) (by decide) dX12_fill_24 ?_
    exact fr_iret (pc := 26) dX12_fill_26 rfl ⟨Nat.le_refl 0, Nat.le_refl 0⟩ hW
  · refine fr_iload_n (pc := 4) 2 rfl rfl dX12_fill_4 ?_
    refine fr_iconst (pc := 5) 1 (by decide) dX12_fill_5 ?_
    refine fr_bipush (pc := 6) 64 (by decide) dX12_fill_6 ?_
    refine fr_callS_I (pc := 8) (As := [.int p1, .int 1, .int 64]) (st := []) wd_X12_in w_1067 ok_X12_in (by decide) rfl (Nat.le_of_ble_eq_true rfl) dX12_fill_8 ⟨Nat.le_refl 0, Nat.le_refl 0⟩ hW (fun i2 s1 hW => ?_)
    refine fr_if_eq (pc := 11) (tgt := 24) (by decide) dX12_fill_11 hW (fun hW => ?_) (fun hW => ?_)
    · refine fr_bipush (pc := 24) (-102) (by decide) dX12_fill_24 ?_
      exact fr_iret (pc := 26) dX12_fill_26 rfl ⟨Nat.le_refl 0, Nat.le_refl 0⟩ hW
    · refine fr_iload_n (pc := 14) 3 rfl rfl dX12_fill_14 ?_
      refine fr_iconst (pc := 15) 1 (by decide) dX12_fill_15 ?_
      refine fr_bipush (pc := 16) 100 (by decide) dX12_fill_16 ?_
      refine fr_callS_I (pc := 18) (As := [.int p2, .int 1, .int 100]) (st := []) wd_X12_in w_1067 ok_X12_in (by decide) rfl (Nat.le_of_ble_eq_true rfl) dX12_fill_18 ⟨Nat.le_refl 0, Nat.le_refl 0⟩ hW (fun i6 s5 hW => ?_)
      refine fr_if_ne (pc := 21) (tgt := 27) (by decide) dX12_fill_21 hW (fun hW => ?_) (fun hW => ?_)
      · refine fr_aload_n (pc := 27) 0 rfl rfl dX12_fill_27 ?_
        refine fr_iload_n (pc := 28) 1 rfl rfl dX12_fill_28 ?_
        refine fr_put (pc := 29) (T := TX12) (k := 28) kc_X12 (by decide) w_1102 rfl rfl rfl dX12_fill_29 hW (fun s9 hW => ?_)
        refine fr_iconst (pc := 32) 0 (by decide) dX12_fill_32 ?_
        refine fr_istore (pc := 33) (lv' := [(4, .int 0), (0, .ref r0), (1, .int p0), (2, .int p1), (3, .int p2)]) (by decide) rfl dX12_fill_33 ?_
        exact fr_sub [1, 3, 4, 0] rfl hW
      · refine fr_bipush (pc := 24) (-102) (by decide) dX12_fill_24 ?_
        exact fr_iret (pc := 26) dX12_fill_26 rfl ⟨Nat.le_refl 0, Nat.le_refl 0⟩ hW
set_option maxHeartbeats 4000000 in
set_option maxRecDepth 100000 in
theorem q_X12_fill_35 {g : GG} {σ : Hs} {post : Option Value → Hs → Prop} (a0 : Nat) (v2 : Int32) (v3 : Int32) (v4 : Int32) (hW : (v2 ≤ v4 → post (some (.int v4)) σ) ∧ (¬ v2 ≤ v4 → FI σ a0 12 2 (fun i10 => (64 ≤ i10 → post (some (.int v4)) σ) ∧ (¬ 64 ≤ i10 → Rc σ a0 12 ∧ Do g M_X12_nextNumber 0 0 [.ref a0, .int v3] σ (kI (fun i12 s11 => Rc s11 a0 12 ∧ Do g M_X12_nextNumber 0 0 [.ref a0, .int v3] s11 (kI (fun i16 s15 => Rc s15 a0 12 ∧ Do g M_X12_nextNumber 0 0 [.ref a0, .int v3] s15 (kI (fun i20 s19 => Rc s19 a0 12 ∧ Do g M_X12_nextNumber 0 0 [.ref a0, .int v3] s19 (kI (fun i24 s23 => Rc s23 a0 12 ∧ Do g M_X12_emptySlot 0 0 [.ref a0] s23 (kI (fun i28 s27 => Rc s27 a0 12 ∧ Do g M_X12_lay 0 0 [.ref a0, .int i28, .int i12, .int i16, .int i20, .int i24] s27 (kV (fun s31 => J_X12_fill_35 g post s31 a0 v2 v3 ((v4 + 1)) )))))))))))))))) : J_X12_fill_35 g post σ a0 v2 v3 v4 := by
  show Fr g M_X12_fill (0, 0, 0, 0) [(0, .ref a0), (2, .int v2), (3, .int v3), (4, .int v4)] [] 35 σ post
  refine fr_iload (pc := 35) 3 rfl dX12_fill_35 ?_
  refine fr_iload_n (pc := 37) 1 rfl rfl dX12_fill_37 ?_
  refine fr_icmp_ge (pc := 38) (tgt := 100) (by decide) dX12_fill_38 hW (fun hW => ?_) (fun hW => ?_)
  · refine fr_iload (pc := 100) 3 rfl dX12_fill_100 ?_
    exact fr_iret (pc := 102) dX12_fill_102 rfl ⟨Nat.le_refl 0, Nat.le_refl 0⟩ hW
  · refine fr_aload_n (pc := 41) 0 rfl rfl dX12_fill_41 ?_
    refine fr_getI (pc := 42) (T := TX12) (k := 2) kc_X12 (by decide) w_1075 dX12_fill_42 hW (fun i10 hW => ?_)
    refine fr_bipush (pc := 45) 64 (by decide) dX12_fill_45 ?_
    refine fr_icmp_ge (pc := 47) (tgt := 100) (by decide) dX12_fill_47 hW (fun hW => ?_) (fun hW => ?_)
    · refine fr_iload (pc := 100) 3 rfl dX12_fill_100 ?_
      exact fr_iret (pc := 102) dX12_fill_102 rfl ⟨Nat.le_refl 0, Nat.le_refl 0⟩ hW
    · refine fr_aload_n (pc := 50) 0 rfl rfl dX12_fill_50 ?_
      refine fr_iload_n (pc := 51) 2 rfl rfl dX12_fill_51 ?_
      obtain ⟨hrc, hW⟩ := hW
      refine fr_callV_I (pc := 52) (As := [.int v3]) (st := []) wd_X12_nextNumber w_1106 ok_X12_nextNumber (by decide) rfl (Nat.le_of_ble_eq_true rfl) dX12_fill_52 ⟨Nat.le_refl 0, Nat.le_refl 0⟩ kc_X12 hrc hW (fun i12 s11 hW => ?_)
      refine fr_istore (pc := 55) (lv' := [(5, .int i12), (0, .ref a0), (2, .int v2), (3, .int v3), (4, .int v4)]) (by decide) rfl dX12_fill_55 ?_
      refine fr_aload_n (pc := 57) 1 rfl rfl dX12_fill_57 ?_
      refine fr_iload_n (pc := 58) 3 rfl rfl dX12_fill_58 ?_
      obtain ⟨hrc, hW⟩ := hW
      refine fr_callV_I (pc := 59) (As := [.int v3]) (st := []) wd_X12_nextNumber w_1106 ok_X12_nextNumber (by decide) rfl (Nat.le_of_ble_eq_true rfl) dX12_fill_59 ⟨Nat.le_refl 0, Nat.le_refl 0⟩ kc_X12 hrc hW (fun i16 s15 hW => ?_)
      refine fr_istore (pc := 62) (lv' := [(6, .int i16), (5, .int i12), (0, .ref a0), (2, .int v2), (3, .int v3), (4, .int v4)]) (by decide) rfl dX12_fill_62 ?_
      refine fr_aload_n (pc := 64) 2 rfl rfl dX12_fill_64 ?_
      refine fr_iload_n (pc := 65) 4 rfl rfl dX12_fill_65 ?_
      obtain ⟨hrc, hW⟩ := hW
      refine fr_callV_I (pc := 66) (As := [.int v3]) (st := []) wd_X12_nextNumber w_1106 ok_X12_nextNumber (by decide) rfl (Nat.le_of_ble_eq_true rfl) dX12_fill_66 ⟨Nat.le_refl 0, Nat.le_refl 0⟩ kc_X12 hrc hW (fun i20 s19 hW => ?_)
      refine fr_istore (pc := 69) (lv' := [(7, .int i20), (6, .int i16), (5, .int i12), (0, .ref a0), (2, .int v2), (3, .int v3), (4, .int v4)]) (by decide) rfl dX12_fill_69 ?_
      refine fr_aload_n (pc := 71) 3 rfl rfl dX12_fill_71 ?_
      refine fr_iload_n (pc := 72) 5 rfl rfl dX12_fill_72 ?_
      obtain ⟨hrc, hW⟩ := hW
      refine fr_callV_I (pc := 73) (As := [.int v3]) (st := []) wd_X12_nextNumber w_1106 ok_X12_nextNumber (by decide) rfl (Nat.le_of_ble_eq_true rfl) dX12_fill_73 ⟨Nat.le_refl 0, Nat.le_refl 0⟩ kc_X12 hrc hW (fun i24 s23 hW => ?_)
      refine fr_istore (pc := 76) (lv' := [(8, .int i24), (7, .int i20), (6, .int i16), (5, .int i12), (0, .ref a0), (2, .int v2), (3, .int v3), (4, .int v4)]) (by decide) rfl dX12_fill_76 ?_
      refine fr_aload_n (pc := 78) 4 rfl rfl dX12_fill_78 ?_
      refine fr_aload_n (pc := 79) 4 rfl rfl dX12_fill_79 ?_
      obtain ⟨hrc, hW⟩ := hW
      refine fr_callV_I (pc := 80) (As := []) (st := [.ref a0]) wd_X12_emptySlot w_1078 ok_X12_emptySlot (by decide) rfl (Nat.le_of_ble_eq_true rfl) dX12_fill_80 ⟨Nat.le_refl 0, Nat.le_refl 0⟩ kc_X12 hrc hW (fun i28 s27 hW => ?_)
      refine fr_iload (pc := 83) 3 rfl dX12_fill_83 ?_
      refine fr_iload (pc := 85) 2 rfl dX12_fill_85 ?_
      refine fr_iload (pc := 87) 1 rfl dX12_fill_87 ?_
      refine fr_iload (pc := 89) 0 rfl dX12_fill_89 ?_
      obtain ⟨hrc, hW⟩ := hW
      refine fr_callV_V (pc := 91) (As := [.int i28, .int i12, .int i16, .int i20, .int i24]) (st := []) wd_X12_lay w_1079 ok_X12_lay (by decide) rfl (Nat.le_of_ble_eq_true rfl) dX12_fill_91 ⟨Nat.le_refl 0, Nat.le_refl 0⟩ kc_X12 hrc hW (fun s31 hW => ?_)
      refine fr_iinc (pc := 94) (lv' := [(4, .int (v4 + 1)), (8, .int i24), (7, .int i20), (6, .int i16), (5, .int i12), (0, .ref a0), (2, .int v2), (3, .int v3)]) (v4 + 1) 7 rfl (congrArg (fun z => v4 + z) (by decide)) (by decide) rfl dX12_fill_94 ?_
      refine fr_goto (pc := 97) (tgt := 35) (by decide) dX12_fill_97 ?_
      exact fr_sub [5, 6, 7, 0] rfl hW
set_option maxHeartbeats 4000000 in
set_option maxRecDepth 100000 in
theorem q_X11_get {g : GG} {σ : Hs} {post : Option Value → Hs → Prop} (r0 : Nat) (p0 : Int32) (p1 : Int32) (hW : Do g M_X11_isSlot 0 0 [.int p0] σ (kI (fun i2 s1 => (i2 = 0 → post (some (.int (-101))) s1) ∧ (¬ i2 = 0 → Do g M_X11_isColumn 0 0 [.int p1] s1 (kI (fun i6 s5 => (¬ i6 = 0 → FR s5 r0 11 0 (fun r9 => Rc s5 r9 8 ∧ Do g M_X8_holds 0 0 [.ref r9, .int p0] s5 (kI (fun i11 s10 => (i11 = 0 → post (some (.int (-1))) s10) ∧ (¬ i11 = 0 → FR s10 r0 11 0 (fun r14 => Rc s10 r14 8 ∧ Do g M_X8_number 0 0 [.ref r14, .int p0, .int p1] s10 (kI (fun i16 s15 => post (some (.int i16)) s15)))))))) ∧ (i6 = 0 → post (some (.int (-101))) s5))))))) : Do g M_X11_get 0 0 [.ref r0, .int p0, .int p1] σ post := by
  refine Do.of (by decide +kernel) (Nat.le_of_ble_eq_true rfl) ?_
  show Fr g M_X11_get (0, 0, 0, 0) [(0, .ref r0), (1, .int p0), (2, .int p1)] [] 0 σ post
  refine fr_iload_n (pc := 0) 1 rfl rfl dX11_get_0 ?_
  refine fr_callS_I (pc := 1) (As := [.int p0]) (st := []) wd_X11_isSlot w_1107 ok_X11_isSlot (by decide) rfl (Nat.le_of_ble_eq_true rfl) dX11_get_1 ⟨Nat.le_refl 0, Nat.le_refl 0⟩ hW (fun i2 s1 hW => ?_)
  refine fr_if_eq (pc := 4) (tgt := 14) (by decide) dX11_get_4 hW (fun hW => ?_) (fun hW => ?_)
  · refine fr_bipush (pc := 14) (-101) (by decide) dX11_get_14 ?_
    exact fr_iret (pc := 16) dX11_get_16 rfl ⟨Nat.le_refl 0, Nat.le_refl 0⟩ hW
  · refine fr_iload_n (pc := 7) 2 rfl rfl dX11_get_7 ?_
    refine fr_callS_I (pc := 8) (As := [.int p1]) (st := []) wd_X11_isColumn w_1084 ok_X11_isColumn (by decide) rfl (Nat.le_of_ble_eq_true rfl) dX11_get_8 ⟨Nat.le_refl 0, Nat.le_refl 0⟩ hW (fun i6 s5 hW => ?_)
    refine fr_if_ne (pc := 11) (tgt := 17) (by decide) dX11_get_11 hW (fun hW => ?_) (fun hW => ?_)
    · refine fr_aload_n (pc := 17) 0 rfl rfl dX11_get_17 ?_
      refine fr_getR (pc := 18) (T := TX11) (k := 0) kc_X11 (by decide) w_990 dX11_get_18 hW (fun r9 hW => ?_)
      refine fr_iload_n (pc := 21) 1 rfl rfl dX11_get_21 ?_
      obtain ⟨hrc, hW⟩ := hW
      refine fr_callV_I (pc := 22) (As := [.int p0]) (st := []) wd_X8_holds w_1083 ok_X8_holds (by decide) rfl (Nat.le_of_ble_eq_true rfl) dX11_get_22 ⟨Nat.le_refl 0, Nat.le_refl 0⟩ kc_X8 hrc hW (fun i11 s10 hW => ?_)
      refine fr_if_eq (pc := 25) (tgt := 40) (by decide) dX11_get_25 hW (fun hW => ?_) (fun hW => ?_)
      · refine fr_iconst (pc := 40) (-1) (by decide) dX11_get_40 ?_
        exact fr_iret (pc := 41) dX11_get_41 rfl ⟨Nat.le_refl 0, Nat.le_refl 0⟩ hW
      · refine fr_aload_n (pc := 28) 0 rfl rfl dX11_get_28 ?_
        refine fr_getR (pc := 29) (T := TX11) (k := 0) kc_X11 (by decide) w_990 dX11_get_29 hW (fun r14 hW => ?_)
        refine fr_iload_n (pc := 32) 1 rfl rfl dX11_get_32 ?_
        refine fr_iload_n (pc := 33) 2 rfl rfl dX11_get_33 ?_
        obtain ⟨hrc, hW⟩ := hW
        refine fr_callV_I (pc := 34) (As := [.int p0, .int p1]) (st := []) wd_X8_number w_1085 ok_X8_number (by decide) rfl (Nat.le_of_ble_eq_true rfl) dX11_get_34 ⟨Nat.le_refl 0, Nat.le_refl 0⟩ kc_X8 hrc hW (fun i16 s15 hW => ?_)
        refine fr_goto (pc := 37) (tgt := 41) (by decide) dX11_get_37 ?_
        exact fr_iret (pc := 41) dX11_get_41 rfl ⟨Nat.le_refl 0, Nat.le_refl 0⟩ hW
    · refine fr_bipush (pc := 14) (-101) (by decide) dX11_get_14 ?_
      exact fr_iret (pc := 16) dX11_get_16 rfl ⟨Nat.le_refl 0, Nat.le_refl 0⟩ hW
set_option maxHeartbeats 4000000 in
set_option maxRecDepth 100000 in
theorem q_X12_get {g : GG} {σ : Hs} {post : Option Value → Hs → Prop} (r0 : Nat) (p0 : Int32) (p1 : Int32) (hW : Do g M_X12_in 0 0 [.int p0, .int 0, .int 63] σ (kI (fun i2 s1 => (i2 = 0 → post (some (.int (-101))) s1) ∧ (¬ i2 = 0 → Do g M_X12_in 0 0 [.int p1, .int 0, .int 3] s1 (kI (fun i6 s5 => (¬ i6 = 0 → FR s5 r0 12 0 (fun r9 => AI g s5 r9 1 p0 (fun i10 => (i10 = 0 → post (some (.int (-1))) s5) ∧ (¬ i10 = 0 → FR s5 r0 12 1 (fun r11 => AI g s5 r11 0 ((4 * p0) + p1) (fun i12 => post (some (.int i12)) s5)))))) ∧ (i6 = 0 → post (some (.int (-101))) s5))))))) : Do g M_X12_get 0 0 [.ref r0, .int p0, .int p1] σ post := by
  refine Do.of (by decide +kernel) (Nat.le_of_ble_eq_true rfl) ?_
  show Fr g M_X12_get (0, 0, 0, 0) [(0, .ref r0), (1, .int p0), (2, .int p1)] [] 0 σ post
  refine fr_iload_n (pc := 0) 1 rfl rfl dX12_get_0 ?_
  refine fr_iconst (pc := 1) 0 (by decide) dX12_get_1 ?_
  refine fr_bipush (pc := 2) 63 (by decide) dX12_get_2 ?_
  refine fr_callS_I (pc := 4) (As := [.int p0, .int 0, .int 63]) (st := []) wd_X12_in w_1067 ok_X12_in (by decide) rfl (Nat.le_of_ble_eq_true rfl) dX12_get_4 ⟨Nat.le_refl 0, Nat.le_refl 0⟩ hW (fun i2 s1 hW => ?_)
  refine fr_if_eq (pc := 7) (tgt := 19) (by decide) dX12_get_7 hW (fun hW => ?_) (fun hW => ?_)
  · refine fr_bipush (pc := 19) (-101) (by decide) dX12_get_19 ?_
    exact fr_iret (pc := 21) dX12_get_21 rfl ⟨Nat.le_refl 0, Nat.le_refl 0⟩ hW
  · refine fr_iload_n (pc := 10) 2 rfl rfl dX12_get_10 ?_
    refine fr_iconst (pc := 11) 0 (by decide) dX12_get_11 ?_
    refine fr_iconst (pc := 12) 3 (by decide) dX12_get_12 ?_
    refine fr_callS_I (pc := 13) (As := [.int p1, .int 0, .int 3]) (st := []) wd_X12_in w_1067 ok_X12_in (by decide) rfl (Nat.le_of_ble_eq_true rfl) dX12_get_13 ⟨Nat.le_refl 0, Nat.le_refl 0⟩ hW (fun i6 s5 hW => ?_)
    refine fr_if_ne (pc := 16) (tgt := 22) (by decide) dX12_get_16 hW (fun hW => ?_) (fun hW => ?_)
    · refine fr_aload_n (pc := 22) 0 rfl rfl dX12_get_22 ?_
      refine fr_getR (pc := 23) (T := TX12) (k := 0) kc_X12 (by decide) w_1006 dX12_get_23 hW (fun r9 hW => ?_)
      refine fr_iload_n (pc := 26) 1 rfl rfl dX12_get_26 ?_
      refine fr_zald (pc := 27) dX12_get_27 hW (fun i10 hW => ?_)
      refine fr_if_eq (pc := 28) (tgt := 44) (by decide) dX12_get_28 hW (fun hW => ?_) (fun hW => ?_)
      · refine fr_iconst (pc := 44) (-1) (by decide) dX12_get_44 ?_
        exact fr_iret (pc := 45) dX12_get_45 rfl ⟨Nat.le_refl 0, Nat.le_refl 0⟩ hW
      · refine fr_aload_n (pc := 31) 0 rfl rfl dX12_get_31 ?_
        refine fr_getR (pc := 32) (T := TX12) (k := 1) kc_X12 (by decide) w_1007 dX12_get_32 hW (fun r11 hW => ?_)
        refine fr_iconst (pc := 35) 4 (by decide) dX12_get_35 ?_
        refine fr_iload_n (pc := 36) 1 rfl rfl dX12_get_36 ?_
        refine fr_imul (pc := 37) dX12_get_37 ?_
        refine fr_iload_n (pc := 38) 2 rfl rfl dX12_get_38 ?_
        refine fr_iadd (pc := 39) dX12_get_39 ?_
        refine fr_iald (pc := 40) dX12_get_40 hW (fun i12 hW => ?_)
        refine fr_goto (pc := 41) (tgt := 45) (by decide) dX12_get_41 ?_
        exact fr_iret (pc := 45) dX12_get_45 rfl ⟨Nat.le_refl 0, Nat.le_refl 0⟩ hW
    · refine fr_bipush (pc := 19) (-101) (by decide) dX12_get_19 ?_
      exact fr_iret (pc := 21) dX12_get_21 rfl ⟨Nat.le_refl 0, Nat.le_refl 0⟩ hW
set_option maxHeartbeats 4000000 in
set_option maxRecDepth 100000 in
theorem q_X8_pageWidth {g : GG} {σ : Hs} {post : Option Value → Hs → Prop} (r0 : Nat) (hW : FI σ r0 8 2 (fun i1 => post (some (.int i1)) σ)) : Do g M_X8_pageWidth 0 0 [.ref r0] σ post := by
  refine Do.of (by decide +kernel) (Nat.le_of_ble_eq_true rfl) ?_
  show Fr g M_X8_pageWidth (0, 0, 0, 0) [(0, .ref r0)] [] 0 σ post
  refine fr_aload_n (pc := 0) 0 rfl rfl dX8_pageWidth_0 ?_
  refine fr_getI (pc := 1) (T := TX8) (k := 2) kc_X8 (by decide) w_932 dX8_pageWidth_1 hW (fun i1 hW => ?_)
  exact fr_iret (pc := 4) dX8_pageWidth_4 rfl ⟨Nat.le_refl 0, Nat.le_refl 0⟩ hW
set_option maxHeartbeats 4000000 in
set_option maxRecDepth 100000 in
theorem q_X8_widen {g : GG} {σ : Hs} {post : Option Value → Hs → Prop} (r0 : Nat) (p0 : Int32) (hW : PF σ r0 8 2 (.int p0) (fun s1 => post none s1)) : Do g M_X8_widen 0 0 [.ref r0, .int p0] σ post := by
  refine Do.of (by decide +kernel) (Nat.le_of_ble_eq_true rfl) ?_
  show Fr g M_X8_widen (0, 0, 0, 0) [(0, .ref r0), (1, .int p0)] [] 0 σ post
  refine fr_aload_n (pc := 0) 0 rfl rfl dX8_widen_0 ?_
  refine fr_iload_n (pc := 1) 1 rfl rfl dX8_widen_1 ?_
  refine fr_put (pc := 2) (T := TX8) (k := 2) kc_X8 (by decide) w_932 rfl rfl rfl dX8_widen_2 hW (fun s1 hW => ?_)
  exact fr_ret (pc := 5) dX8_widen_5 rfl ⟨Nat.le_refl 0, Nat.le_refl 0⟩ hW
set_option maxHeartbeats 4000000 in
set_option maxRecDepth 100000 in
theorem q_X11_wide {g : GG} {σ : Hs} {post : Option Value → Hs → Prop} (r0 : Nat) (p0 : Int32) (hW : (p0 < 2 → post (some (.int (-102))) σ) ∧ (¬ p0 < 2 → (p0 ≤ 8 → FR σ r0 11 0 (fun r1 => Rc σ r1 8 ∧ Do g M_X8_pageWidth 0 0 [.ref r1] σ (kI (fun i3 s2 => FR s2 r0 11 0 (fun r6 => Rc s2 r6 8 ∧ Do g M_X8_widen 0 0 [.ref r6, .int p0] s2 (kV (fun s7 => post (some (.int i3)) s7))))))) ∧ (¬ p0 ≤ 8 → post (some (.int (-102))) σ))) : Do g M_X11_wide 0 0 [.ref r0, .int p0] σ post := by
  refine Do.of (by decide +kernel) (Nat.le_of_ble_eq_true rfl) ?_
  show Fr g M_X11_wide (0, 0, 0, 0) [(0, .ref r0), (1, .int p0)] [] 0 σ post
  refine fr_iload_n (pc := 0) 1 rfl rfl dX11_wide_0 ?_
  refine fr_iconst (pc := 1) 2 (by decide) dX11_wide_1 ?_
  refine fr_icmp_lt (pc := 2) (tgt := 11) (by decide) dX11_wide_2 hW (fun hW => ?_) (fun hW => ?_)
  · refine fr_bipush (pc := 11) (-102) (by decide) dX11_wide_11 ?_
    exact fr_iret (pc := 13) dX11_wide_13 rfl ⟨Nat.le_refl 0, Nat.le_refl 0⟩ hW
  · refine fr_iload_n (pc := 5) 1 rfl rfl dX11_wide_5 ?_
    refine fr_bipush (pc := 6) 8 (by decide) dX11_wide_6 ?_
    refine fr_icmp_le (pc := 8) (tgt := 14) (by decide) dX11_wide_8 hW (fun hW => ?_) (fun hW => ?_)
    · refine fr_aload_n (pc := 14) 0 rfl rfl dX11_wide_14 ?_
      refine fr_getR (pc := 15) (T := TX11) (k := 0) kc_X11 (by decide) w_990 dX11_wide_15 hW (fun r1 hW => ?_)
      obtain ⟨hrc, hW⟩ := hW
      refine fr_callV_I (pc := 18) (As := []) (st := []) wd_X8_pageWidth w_1108 ok_X8_pageWidth (by decide) rfl (Nat.le_of_ble_eq_true rfl) dX11_wide_18 ⟨Nat.le_refl 0, Nat.le_refl 0⟩ kc_X8 hrc hW (fun i3 s2 hW => ?_)
      refine fr_istore_n (pc := 21) (lv' := [(2, .int i3), (0, .ref r0), (1, .int p0)]) rfl (by decide) rfl dX11_wide_21 ?_
      refine fr_aload_n (pc := 22) 1 rfl rfl dX11_wide_22 ?_
      refine fr_getR (pc := 23) (T := TX11) (k := 0) kc_X11 (by decide) w_990 dX11_wide_23 hW (fun r6 hW => ?_)
      refine fr_iload_n (pc := 26) 2 rfl rfl dX11_wide_26 ?_
      obtain ⟨hrc, hW⟩ := hW
      refine fr_callV_V (pc := 27) (As := [.int p0]) (st := []) wd_X8_widen w_1109 ok_X8_widen (by decide) rfl (Nat.le_of_ble_eq_true rfl) dX11_wide_27 ⟨Nat.le_refl 0, Nat.le_refl 0⟩ kc_X8 hrc hW (fun s7 hW => ?_)
      refine fr_iload_n (pc := 30) 0 rfl rfl dX11_wide_30 ?_
      exact fr_iret (pc := 31) dX11_wide_31 rfl ⟨Nat.le_refl 0, Nat.le_refl 0⟩ hW
    · refine fr_bipush (pc := 11) (-102) (by decide) dX11_wide_11 ?_
      exact fr_iret (pc := 13) dX11_wide_13 rfl ⟨Nat.le_refl 0, Nat.le_refl 0⟩ hW
set_option maxHeartbeats 4000000 in
set_option maxRecDepth 100000 in
theorem q_X12_wide {g : GG} {σ : Hs} {post : Option Value → Hs → Prop} (r0 : Nat) (p0 : Int32) (hW : Do g M_X12_in 0 0 [.int p0, .int 2, .int 8] σ (kI (fun i2 s1 => (¬ i2 = 0 → FI s1 r0 12 3 (fun i5 => PF s1 r0 12 3 (.int p0) (fun s6 => post (some (.int i5)) s6))) ∧ (i2 = 0 → post (some (.int (-102))) s1)))) : Do g M_X12_wide 0 0 [.ref r0, .int p0] σ post := by
  refine Do.of (by decide +kernel) (Nat.le_of_ble_eq_true rfl) ?_
  show Fr g M_X12_wide (0, 0, 0, 0) [(0, .ref r0), (1, .int p0)] [] 0 σ post
  refine fr_iload_n (pc := 0) 1 rfl rfl dX12_wide_0 ?_
  refine fr_iconst (pc := 1) 2 (by decide) dX12_wide_1 ?_
  refine fr_bipush (pc := 2) 8 (by decide) dX12_wide_2 ?_
  refine fr_callS_I (pc := 4) (As := [.int p0, .int 2, .int 8]) (st := []) wd_X12_in w_1067 ok_X12_in (by decide) rfl (Nat.le_of_ble_eq_true rfl) dX12_wide_4 ⟨Nat.le_refl 0, Nat.le_refl 0⟩ hW (fun i2 s1 hW => ?_)
  refine fr_if_ne (pc := 7) (tgt := 13) (by decide) dX12_wide_7 hW (fun hW => ?_) (fun hW => ?_)
  · refine fr_aload_n (pc := 13) 0 rfl rfl dX12_wide_13 ?_
    refine fr_getI (pc := 14) (T := TX12) (k := 3) kc_X12 (by decide) w_1008 dX12_wide_14 hW (fun i5 hW => ?_)
    refine fr_istore_n (pc := 17) (lv' := [(2, .int i5), (0, .ref r0), (1, .int p0)]) rfl (by decide) rfl dX12_wide_17 ?_
    refine fr_aload_n (pc := 18) 1 rfl rfl dX12_wide_18 ?_
    refine fr_iload_n (pc := 19) 2 rfl rfl dX12_wide_19 ?_
    refine fr_put (pc := 20) (T := TX12) (k := 3) kc_X12 (by decide) w_1008 rfl rfl rfl dX12_wide_20 hW (fun s6 hW => ?_)
    refine fr_iload_n (pc := 23) 0 rfl rfl dX12_wide_23 ?_
    exact fr_iret (pc := 24) dX12_wide_24 rfl ⟨Nat.le_refl 0, Nat.le_refl 0⟩ hW
  · refine fr_bipush (pc := 10) (-102) (by decide) dX12_wide_10 ?_
    exact fr_iret (pc := 12) dX12_wide_12 rfl ⟨Nat.le_refl 0, Nat.le_refl 0⟩ hW
set_option maxHeartbeats 4000000 in
set_option maxRecDepth 100000 in
theorem q_X11_has {g : GG} {σ : Hs} {post : Option Value → Hs → Prop} (p0 : Int32) (p1 : Int32) (hW : (((p0 >>> (p1 &&& 31)) &&& 1) = 0 → post (some (.int 0)) σ) ∧ (¬ ((p0 >>> (p1 &&& 31)) &&& 1) = 0 → post (some (.int 1)) σ)) : Do g M_X11_has 0 0 [.int p0, .int p1] σ post := by
  refine Do.of (by decide +kernel) (Nat.le_of_ble_eq_true rfl) ?_
  show Fr g M_X11_has (0, 0, 0, 0) [(0, .int p0), (1, .int p1)] [] 0 σ post
  refine fr_iload_n (pc := 0) 0 rfl rfl dX11_has_0 ?_
  refine fr_iload_n (pc := 1) 1 rfl rfl dX11_has_1 ?_
  refine fr_ishr (pc := 2) dX11_has_2 ?_
  refine fr_iconst (pc := 3) 1 (by decide) dX11_has_3 ?_
  refine fr_iand (pc := 4) dX11_has_4 ?_
  refine fr_if_eq (pc := 5) (tgt := 12) (by decide) dX11_has_5 hW (fun hW => ?_) (fun hW => ?_)
  · refine fr_iconst (pc := 12) 0 (by decide) dX11_has_12 ?_
    exact fr_zret (pc := 13) dX11_has_13 rfl ⟨Nat.le_refl 0, Nat.le_refl 0⟩ ⟨rfl, hW⟩
  · refine fr_iconst (pc := 8) 1 (by decide) dX11_has_8 ?_
    refine fr_goto (pc := 9) (tgt := 13) (by decide) dX11_has_9 ?_
    exact fr_zret (pc := 13) dX11_has_13 rfl ⟨Nat.le_refl 0, Nat.le_refl 0⟩ ⟨rfl, hW⟩
set_option maxHeartbeats 4000000 in
set_option maxRecDepth 100000 in
theorem q_X11_with {g : GG} {σ : Hs} {post : Option Value → Hs → Prop} (p0 : Int32) (p1 : Int32) (hW : post (some (.int (p0 ||| ((1 : Int32) <<< (p1 &&& 31))))) σ) : Do g M_X11_with 0 0 [.int p0, .int p1] σ post := by
  refine Do.of (by decide +kernel) (Nat.le_of_ble_eq_true rfl) ?_
  show Fr g M_X11_with (0, 0, 0, 0) [(0, .int p0), (1, .int p1)] [] 0 σ post
  refine fr_iload_n (pc := 0) 0 rfl rfl dX11_with_0 ?_
  refine fr_iconst (pc := 1) 1 (by decide) dX11_with_1 ?_
  refine fr_iload_n (pc := 2) 1 rfl rfl dX11_with_2 ?_
  refine fr_ishl (pc := 3) dX11_with_3 ?_
  refine fr_ior (pc := 4) dX11_with_4 ?_
  exact fr_iret (pc := 5) dX11_with_5 rfl ⟨Nat.le_refl 0, Nat.le_refl 0⟩ hW
def J_X2_isKey_19 (g : GG) (post : Option Value → Hs → Prop) (σ : Hs) (v1 : Int32) (v2 : Int32) (v3 : Int32) : Prop := Fr g M_X2_isKey (0, 0, 0, 0) [(1, .int v1), (2, .int v2), (3, .int v3)] [] 19 σ post
set_option maxHeartbeats 4000000 in
set_option maxRecDepth 100000 in
theorem q_X2_isKey {g : GG} {σ : Hs} {post : Option Value → Hs → Prop} (p0 : Int32) (hW : (p0 < 1 → post (some (.int 0)) σ) ∧ (¬ p0 < 1 → (p0 ≤ 124 → J_X2_isKey_19 g post σ 0 p0 0 ) ∧ (¬ p0 ≤ 124 → post (some (.int 0)) σ))) : Do g M_X2_isKey 0 0 [.int p0] σ post := by
  refine Do.of (by decide +kernel) (Nat.le_of_ble_eq_true rfl) ?_
  show Fr g M_X2_isKey (0, 0, 0, 0) [(0, .int p0)] [] 0 σ post
  refine fr_iload_n (pc := 0) 0 rfl rfl dX2_isKey_0 ?_
  refine fr_iconst (pc := 1) 1 (by decide) dX2_isKey_1 ?_
  refine fr_icmp_lt (pc := 2) (tgt := 11) (by decide) dX2_isKey_2 hW (fun hW => ?_) (fun hW => ?_)
  · refine fr_iconst (pc := 11) 0 (by decide) dX2_isKey_11 ?_
    exact fr_zret (pc := 12) dX2_isKey_12 rfl ⟨Nat.le_refl 0, Nat.le_refl 0⟩ ⟨rfl, hW⟩
  · refine fr_iload_n (pc := 5) 0 rfl rfl dX2_isKey_5 ?_
    refine fr_bipush (pc := 6) 124 (by decide) dX2_isKey_6 ?_
    refine fr_icmp_le (pc := 8) (tgt := 13) (by decide) dX2_isKey_8 hW (fun hW => ?_) (fun hW => ?_)
    · refine fr_iconst (pc := 13) 0 (by decide) dX2_isKey_13 ?_
      refine fr_istore_n (pc := 14) (lv' := [(1, .int 0), (0, .int p0)]) rfl (by decide) rfl dX2_isKey_14 ?_
      refine fr_iload_n (pc := 15) 1 rfl rfl dX2_isKey_15 ?_
      refine fr_istore_n (pc := 16) (lv' := [(2, .int p0), (1, .int 0), (0, .int p0)]) rfl (by decide) rfl dX2_isKey_16 ?_
      refine fr_iconst (pc := 17) 0 (by decide) dX2_isKey_17 ?_
      refine fr_istore_n (pc := 18) (lv' := [(3, .int 0), (2, .int p0), (1, .int 0), (0, .int p0)]) rfl (by decide) rfl dX2_isKey_18 ?_
      exact fr_sub [2, 1, 0] rfl hW
    · refine fr_iconst (pc := 11) 0 (by decide) dX2_isKey_11 ?_
      exact fr_zret (pc := 12) dX2_isKey_12 rfl ⟨Nat.le_refl 0, Nat.le_refl 0⟩ ⟨rfl, hW⟩
set_option maxHeartbeats 4000000 in
set_option maxRecDepth 100000 in
theorem q_X2_isKey_19 {g : GG} {σ : Hs} {post : Option Value → Hs → Prop} (v1 : Int32) (v2 : Int32) (v3 : Int32) (hW : (3 ≤ v3 → post (some (.int 1)) σ) ∧ (¬ 3 ≤ v3 → (v2 ≤ 0 → post (some (.int 1)) σ) ∧ (¬ v2 ≤ 0 → ((v2 - v2 / 5 * 5) = 0 → post (some (.int 0)) σ) ∧ (¬ (v2 - v2 / 5 * 5) = 0 → Do g M_X11_has 0 0 [.int v1, .int (v2 - v2 / 5 * 5)] σ (kI (fun i2 s1 => (i2 = 0 → Do g M_X11_with 0 0 [.int v1, .int (v2 - v2 / 5 * 5)] s1 (kI (fun i6 s5 => J_X2_isKey_19 g post s5 i6 ((v2 / 5)) ((v3 + 1)) ))) ∧ (¬ i2 = 0 → post (some (.int 0)) s1))))))) : J_X2_isKey_19 g post σ v1 v2 v3 := by
  show Fr g M_X2_isKey (0, 0, 0, 0) [(1, .int v1), (2, .int v2), (3, .int v3)] [] 19 σ post
  refine fr_iload_n (pc := 19) 2 rfl rfl dX2_isKey_19 ?_
  refine fr_iconst (pc := 20) 3 (by decide) dX2_isKey_20 ?_
  refine fr_icmp_ge (pc := 21) (tgt := 66) (by decide) dX2_isKey_21 hW (fun hW => ?_) (fun hW => ?_)
  · refine fr_iconst (pc := 66) 1 (by decide) dX2_isKey_66 ?_
    exact fr_zret (pc := 67) dX2_isKey_67 rfl ⟨Nat.le_refl 0, Nat.le_refl 0⟩ ⟨rfl, hW⟩
  · refine fr_iload_n (pc := 24) 1 rfl rfl dX2_isKey_24 ?_
    refine fr_if_le (pc := 25) (tgt := 66) (by decide) dX2_isKey_25 hW (fun hW => ?_) (fun hW => ?_)
    · refine fr_iconst (pc := 66) 1 (by decide) dX2_isKey_66 ?_
      exact fr_zret (pc := 67) dX2_isKey_67 rfl ⟨Nat.le_refl 0, Nat.le_refl 0⟩ ⟨rfl, hW⟩
    · refine fr_iload_n (pc := 28) 1 rfl rfl dX2_isKey_28 ?_
      refine fr_iconst (pc := 29) 5 (by decide) dX2_isKey_29 ?_
      refine fr_irem (pc := 30) (by decide) dX2_isKey_30 ?_
      refine fr_istore (pc := 31) (lv' := [(4, .int (v2 - v2 / 5 * 5)), (1, .int v1), (2, .int v2), (3, .int v3)]) (by decide) rfl dX2_isKey_31 ?_
      refine fr_iload (pc := 33) 0 rfl dX2_isKey_33 ?_
      refine fr_if_eq (pc := 35) (tgt := 47) (by decide) dX2_isKey_35 hW (fun hW => ?_) (fun hW => ?_)
      · refine fr_iconst (pc := 47) 0 (by decide) dX2_isKey_47 ?_
        exact fr_zret (pc := 48) dX2_isKey_48 rfl ⟨Nat.le_refl 0, Nat.le_refl 0⟩ ⟨rfl, hW⟩
      · refine fr_iload_n (pc := 38) 1 rfl rfl dX2_isKey_38 ?_
        refine fr_iload (pc := 39) 0 rfl dX2_isKey_39 ?_
        refine fr_callSN_I (pc := 41) (As := [.int v1, .int (v2 - v2 / 5 * 5)]) (st := []) wd_X11_has ⟨RX11, by decide +kernel⟩ ok_X11_has (by decide) rfl (Nat.le_of_ble_eq_true rfl) dX2_isKey_41 ⟨Nat.le_refl 0, Nat.le_refl 0⟩ hW (fun i2 s1 hW => ?_)
        refine fr_if_eq (pc := 44) (tgt := 49) (by decide) dX2_isKey_44 hW (fun hW => ?_) (fun hW => ?_)
        · refine fr_iload_n (pc := 49) 1 rfl rfl dX2_isKey_49 ?_
          refine fr_iload (pc := 50) 0 rfl dX2_isKey_50 ?_
          refine fr_callSN_I (pc := 52) (As := [.int v1, .int (v2 - v2 / 5 * 5)]) (st := []) wd_X11_with ⟨RX11, by decide +kernel⟩ ok_X11_with (by decide) rfl (Nat.le_of_ble_eq_true rfl) dX2_isKey_52 ⟨Nat.le_refl 0, Nat.le_refl 0⟩ hW (fun i6 s5 hW => ?_)
          refine fr_istore_n (pc := 55) (lv' := [(1, .int i6), (4, .int (v2 - v2 / 5 * 5)), (2, .int v2), (3, .int v3)]) rfl (by decide) rfl dX2_isKey_55 ?_
          refine fr_iload_n (pc := 56) 2 rfl rfl dX2_isKey_56 ?_
          refine fr_iconst (pc := 57) 5 (by decide) dX2_isKey_57 ?_
          refine fr_idiv (pc := 58) (by decide) dX2_isKey_58 ?_
          refine fr_istore_n (pc := 59) (lv' := [(2, .int (v2 / 5)), (1, .int i6), (4, .int (v2 - v2 / 5 * 5)), (3, .int v3)]) rfl (by decide) rfl dX2_isKey_59 ?_
          refine fr_iinc (pc := 60) (lv' := [(3, .int (v3 + 1)), (2, .int (v2 / 5)), (1, .int i6), (4, .int (v2 - v2 / 5 * 5))]) (v3 + 1) 3 rfl (congrArg (fun z => v3 + z) (by decide)) (by decide) rfl dX2_isKey_60 ?_
          refine fr_goto (pc := 63) (tgt := 19) (by decide) dX2_isKey_63 ?_
          exact fr_sub [2, 1, 0] rfl hW
        · refine fr_iconst (pc := 47) 0 (by decide) dX2_isKey_47 ?_
          exact fr_zret (pc := 48) dX2_isKey_48 rfl ⟨Nat.le_refl 0, Nat.le_refl 0⟩ ⟨rfl, hW⟩
set_option maxHeartbeats 4000000 in
set_option maxRecDepth 100000 in
theorem q_X2_key {g : GG} {σ : Hs} {post : Option Value → Hs → Prop} (r0 : Nat) (hW : FI σ r0 2 1 (fun i1 => post (some (.int i1)) σ)) : Do g M_X2_key 0 0 [.ref r0] σ post := by
  refine Do.of (by decide +kernel) (Nat.le_of_ble_eq_true rfl) ?_
  show Fr g M_X2_key (0, 0, 0, 0) [(0, .ref r0)] [] 0 σ post
  refine fr_aload_n (pc := 0) 0 rfl rfl dX2_key_0 ?_
  refine fr_getI (pc := 1) (T := TX2) (k := 1) kc_X2 (by decide) w_1110 dX2_key_1 hW (fun i1 hW => ?_)
  exact fr_iret (pc := 4) dX2_key_4 rfl ⟨Nat.le_refl 0, Nat.le_refl 0⟩ hW
def J_X3_haveKey_2 (g : GG) (post : Option Value → Hs → Prop) (σ : Hs) (a0 : Nat) (v1 : Int32) (v2 : Int32) : Prop := Fr g M_X3_haveKey (0, 0, 0, 0) [(0, .ref a0), (1, .int v1), (2, .int v2)] [] 2 σ post
set_option maxHeartbeats 4000000 in
set_option maxRecDepth 100000 in
theorem q_X3_haveKey {g : GG} {σ : Hs} {post : Option Value → Hs → Prop} (r0 : Nat) (p0 : Int32) (hW : J_X3_haveKey_2 g post σ r0 p0 0 ) : Do g M_X3_haveKey 0 0 [.ref r0, .int p0] σ post := by
  refine Do.of (by decide +kernel) (Nat.le_of_ble_eq_true rfl) ?_
  show Fr g M_X3_haveKey (0, 0, 0, 0) [(0, .ref r0), (1, .int p0)] [] 0 σ post
  refine fr_iconst (pc := 0) 0 (by decide) dX3_haveKey_0 ?_
  refine fr_istore_n (pc := 1) (lv' := [(2, .int 0), (0, .ref r0), (1, .int p0)]) rfl (by decide) rfl dX3_haveKey_1 ?_
  exact fr_sub [1, 2, 0] rfl hW
set_option maxHeartbeats 4000000 in
set_option maxRecDepth 100000 in
theorem q_X3_haveKey_2 {g : GG} {σ : Hs} {post : Option Value → Hs → Prop} (a0 : Nat) (v1 : Int32) (v2 : Int32) (hW : FI σ a0 3 2 (fun i1 => (i1 ≤ v2 → post (some (.int 0)) σ) ∧ (¬ i1 ≤ v2 → Rc σ a0 3 ∧ Do g M_X3_kept 0 0 [.ref a0, .int v2] σ (kA (fun s2 => J_X3_haveKey_2 g post s2 a0 v1 ((v2 + 1)) ) (fun r5 s2 => Rc s2 r5 2 ∧ Do g M_X2_key 0 0 [.ref r5] s2 (kI (fun i7 s6 => (¬ i7 = v1 → J_X3_haveKey_2 g post s6 a0 v1 ((v2 + 1)) ) ∧ (i7 = v1 → post (some (.int 1)) s6)))))))) : J_X3_haveKey_2 g post σ a0 v1 v2 := by
  show Fr g M_X3_haveKey (0, 0, 0, 0) [(0, .ref a0), (1, .int v1), (2, .int v2)] [] 2 σ post
  refine fr_iload_n (pc := 2) 2 rfl rfl dX3_haveKey_2 ?_
  refine fr_aload_n (pc := 3) 0 rfl rfl dX3_haveKey_3 ?_
  refine fr_getI (pc := 4) (T := TX3) (k := 2) kc_X3 (by decide) w_1058 dX3_haveKey_4 hW (fun i1 hW => ?_)
  refine fr_icmp_ge (pc := 7) (tgt := 36) (by decide) dX3_haveKey_7 hW (fun hW => ?_) (fun hW => ?_)
  · refine fr_iconst (pc := 36) 0 (by decide) dX3_haveKey_36 ?_
    exact fr_zret (pc := 37) dX3_haveKey_37 rfl ⟨Nat.le_refl 0, Nat.le_refl 0⟩ ⟨rfl, hW⟩
  · refine fr_aload_n (pc := 10) 0 rfl rfl dX3_haveKey_10 ?_
    refine fr_iload_n (pc := 11) 2 rfl rfl dX3_haveKey_11 ?_
    obtain ⟨hrc, hW⟩ := hW
    refine fr_callV_A (pc := 12) (As := [.int v2]) (st := []) wd_X3_kept w_1059 ok_X3_kept (by decide) rfl (Nat.le_of_ble_eq_true rfl) dX3_haveKey_12 ⟨Nat.le_refl 0, Nat.le_refl 0⟩ kc_X3 hrc hW (fun s2 hW => ?_) (fun r5 s2 hW => ?_)
    · refine fr_astore_nN (pc := 15) (lv' := [(3, .null), (0, .ref a0), (1, .int v1), (2, .int v2)]) rfl (by decide) rfl dX3_haveKey_15 ?_
      refine fr_aload_nN (pc := 16) 0 rfl rfl dX3_haveKey_16 ?_
      refine fr_ifnullN (pc := 17) (tgt := 30) (by decide) dX3_haveKey_17 ?_
      refine fr_iinc (pc := 30) (lv' := [(2, .int (v2 + 1)), (3, .null), (0, .ref a0), (1, .int v1)]) (v2 + 1) 3 rfl (congrArg (fun z => v2 + z) (by decide)) (by decide) rfl dX3_haveKey_30 ?_
      refine fr_goto (pc := 33) (tgt := 2) (by decide) dX3_haveKey_33 ?_
      exact fr_sub [2, 3, 0] rfl hW
    · refine fr_astore_n (pc := 15) (lv' := [(3, .ref r5), (0, .ref a0), (1, .int v1), (2, .int v2)]) rfl (by decide) rfl dX3_haveKey_15 ?_
      refine fr_aload_n (pc := 16) 0 rfl rfl dX3_haveKey_16 ?_
      refine fr_ifnull (pc := 17) dX3_haveKey_17 ?_
      refine fr_aload_n (pc := 20) 0 rfl rfl dX3_haveKey_20 ?_
      obtain ⟨hrc, hW⟩ := hW
      refine fr_callV_I (pc := 21) (As := []) (st := []) wd_X2_key w_1111 ok_X2_key (by decide) rfl (Nat.le_of_ble_eq_true rfl) dX3_haveKey_21 ⟨Nat.le_refl 0, Nat.le_refl 0⟩ kc_X2 hrc hW (fun i7 s6 hW => ?_)
      refine fr_iload_n (pc := 24) 2 rfl rfl dX3_haveKey_24 ?_
      refine fr_icmp_ne (pc := 25) (tgt := 30) (by decide) dX3_haveKey_25 hW (fun hW => ?_) (fun hW => ?_)
      · refine fr_iinc (pc := 30) (lv' := [(2, .int (v2 + 1)), (3, .ref r5), (0, .ref a0), (1, .int v1)]) (v2 + 1) 3 rfl (congrArg (fun z => v2 + z) (by decide)) (by decide) rfl dX3_haveKey_30 ?_
        refine fr_goto (pc := 33) (tgt := 2) (by decide) dX3_haveKey_33 ?_
        exact fr_sub [2, 3, 0] rfl hW
      · refine fr_iconst (pc := 28) 1 (by decide) dX3_haveKey_28 ?_
        exact fr_zret (pc := 29) dX3_haveKey_29 rfl ⟨Nat.le_refl 0, Nat.le_refl 0⟩ ⟨rfl, hW⟩
set_option maxHeartbeats 4000000 in
set_option maxRecDepth 100000 in
theorem q_X3_told {g : GG} {σ : Hs} {post : Option Value → Hs → Prop} (r0 : Nat) (hW : FI σ r0 3 2 (fun i1 => post (some (.int i1)) σ)) : Do g M_X3_told 0 0 [.ref r0] σ post := by
  refine Do.of (by decide +kernel) (Nat.le_of_ble_eq_true rfl) ?_
  show Fr g M_X3_told (0, 0, 0, 0) [(0, .ref r0)] [] 0 σ post
  refine fr_aload_n (pc := 0) 0 rfl rfl dX3_told_0 ?_
  refine fr_getI (pc := 1) (T := TX3) (k := 2) kc_X3 (by decide) w_1058 dX3_told_1 hW (fun i1 hW => ?_)
  exact fr_iret (pc := 4) dX3_told_4 rfl ⟨Nat.le_refl 0, Nat.le_refl 0⟩ hW
