/-! The law: its calls. -/
section LCS
variable {g : GG} {b L n kc ks : Nat} {xs : Nat → Int32} {σ : Hs} {R : Nat → Nat} {S : SS}
theorem lw_steps (h : LC g b L xs n kc ks σ R S) : Fs g (SL b L xs g) (600000, 7302249, kc, ks) [(3, .int (nI n)), (2, .ref (R 300)), (1, .ref (R 0)), (0, .ref b)] [] 992 σ := by
  obtain ⟨ko, rm, iv, hn, hL, hz1, hz2, next⟩ := h
  have v : Iv S := ⟨iv, ko.wide, ko.qok, ko.upk⟩
  refine fs_aload_n (pc := 992) 2 rfl rfl dl_992 ?_
  refine fs_aload_n (pc := 993) 3 rfl rfl dl_993 ?_
  refine fs_iload_n (pc := 994) 0 rfl rfl dl_994 ?_
  refine fs_iconst (pc := 995) 1 (by decide) dl_995 ?_
  refine fs_iadd (pc := 996) dl_996 ?_
  refine fs_sld (pc := 997) (vin (k := 1) hn hL (by decide)) dl_997 ?_
  refine fs_aload_n (pc := 998) 3 rfl rfl dl_998 ?_
  refine fs_iload_n (pc := 999) 0 rfl rfl dl_999 ?_
  refine fs_iconst (pc := 1000) 2 (by decide) dl_1000 ?_
  refine fs_iadd (pc := 1001) dl_1001 ?_
  refine fs_sld (pc := 1002) (vin (k := 2) hn hL (by decide)) dl_1002 ?_
  refine fs_callV (pc := 1003) (As := [.int (xs (nI n + 1).toNatClampNeg), .int (xs (nI n + 2).toNatClampNeg)]) (st := []) (mc := 0) (ms := 0) wd_X11_steps lk_125 ok_X11_steps (by decide) rfl (Nat.le_of_ble_eq_true rfl) dl_1003 ⟨show kc + 0 ≤ 600000 by omega, show ks + 0 ≤ 7302249 by omega⟩ kc_X11 (Rc.of ko.1) (do_steps ko iv (xs (nI n + 1).toNatClampNeg) (xs (nI n + 2).toNatClampNeg)) (fun v1 σ1 h1 => ?_)
  obtain ⟨R1, rfl, ko1, rm1, f0, f3⟩ := pair_ok ko rm h1
  obtain ⟨X1, A1, hh1, rq⟩ := rm1
  have d2 := rw_steps rq v (xs (nI n + 1).toNatClampNeg) (xs (nI n + 2).toNatClampNeg)
  rw [f3] at d2
  have rc2 := rq.1.rc
  rw [f3] at rc2
  refine fs_aload_n (pc := 1006) 1 rfl rfl dl_1006 ?_
  refine fs_aload_n (pc := 1007) 3 rfl rfl dl_1007 ?_
  refine fs_iload_n (pc := 1008) 0 rfl rfl dl_1008 ?_
  refine fs_iconst (pc := 1009) 1 (by decide) dl_1009 ?_
  refine fs_iadd (pc := 1010) dl_1010 ?_
  refine fs_sld (pc := 1011) (vin (k := 1) hn hL (by decide)) dl_1011 ?_
  refine fs_aload_n (pc := 1012) 3 rfl rfl dl_1012 ?_
  refine fs_iload_n (pc := 1013) 0 rfl rfl dl_1013 ?_
  refine fs_iconst (pc := 1014) 2 (by decide) dl_1014 ?_
  refine fs_iadd (pc := 1015) dl_1015 ?_
  refine fs_sld (pc := 1016) (vin (k := 2) hn hL (by decide)) dl_1016 ?_
  refine fs_callV (pc := 1017) (As := [.int (xs (nI n + 1).toNatClampNeg), .int (xs (nI n + 2).toNatClampNeg)]) (st := [_]) (mc := 0) (ms := 0) wd_X12_steps lk_128 ok_X12_steps (by decide) rfl (Nat.le_of_ble_eq_true rfl) dl_1017 ⟨show kc + 0 + 0 ≤ 600000 by omega, show ks + 0 + 0 ≤ 7302249 by omega⟩ kc_X12 rc2 d2 (fun v2 σ2 h2 => ?_)
  obtain ⟨rfl, ko2, rm2⟩ := pair_2 ko1 h2
  refine fs_icmp_eq (pc := 1020) (tgt := 1352) (φ := True) (ψ := False) (by decide) dl_1020 ⟨fun _ => trivial, fun z => z rfl⟩ (fun _ => ?_) (fun z => z.elim)
  exact next σ2 R1 _ (kc + 0 + 0) (ks + 0 + 0) ko2 rm2 (iv.steps (xs (nI n + 1).toNatClampNeg) (xs (nI n + 2).toNatClampNeg)) f0 f3 (by omega) (by omega)
theorem lw_worth (h : LC g b L xs n kc ks σ R S) : Fs g (SL b L xs g) (600000, 7302249, kc, ks) [(3, .int (nI n)), (2, .ref (R 300)), (1, .ref (R 0)), (0, .ref b)] [] 1025 σ := by
  obtain ⟨ko, rm, iv, hn, hL, hz1, hz2, next⟩ := h
  have v : Iv S := ⟨iv, ko.wide, ko.qok, ko.upk⟩
  refine fs_aload_n (pc := 1025) 2 rfl rfl dl_1025 ?_
  refine fs_aload_n (pc := 1026) 3 rfl rfl dl_1026 ?_
  refine fs_iload_n (pc := 1027) 0 rfl rfl dl_1027 ?_
  refine fs_iconst (pc := 1028) 1 (by decide) dl_1028 ?_
  refine fs_iadd (pc := 1029) dl_1029 ?_
  refine fs_sld (pc := 1030) (vin (k := 1) hn hL (by decide)) dl_1030 ?_
  refine fs_aload_n (pc := 1031) 3 rfl rfl dl_1031 ?_
  refine fs_iload_n (pc := 1032) 0 rfl rfl dl_1032 ?_
  refine fs_iconst (pc := 1033) 2 (by decide) dl_1033 ?_
  refine fs_iadd (pc := 1034) dl_1034 ?_
  refine fs_sld (pc := 1035) (vin (k := 2) hn hL (by decide)) dl_1035 ?_
  refine fs_callV (pc := 1036) (As := [.int (xs (nI n + 1).toNatClampNeg), .int (xs (nI n + 2).toNatClampNeg)]) (st := []) (mc := 0) (ms := 0) wd_X11_worth lk_129 ok_X11_worth (by decide) rfl (Nat.le_of_ble_eq_true rfl) dl_1036 ⟨show kc + 0 ≤ 600000 by omega, show ks + 0 ≤ 7302249 by omega⟩ kc_X11 (Rc.of ko.1) (do_worth ko (xs (nI n + 1).toNatClampNeg) (xs (nI n + 2).toNatClampNeg)) (fun v1 σ1 h1 => ?_)
  obtain ⟨R1, rfl, ko1, rm1, f0, f3⟩ := pair_ok ko rm h1
  obtain ⟨X1, A1, hh1, rq⟩ := rm1
  have d2 := rw_worth rq v (xs (nI n + 1).toNatClampNeg) (xs (nI n + 2).toNatClampNeg)
  rw [f3] at d2
  have rc2 := rq.1.rc
  rw [f3] at rc2
  refine fs_aload_n (pc := 1039) 1 rfl rfl dl_1039 ?_
  refine fs_aload_n (pc := 1040) 3 rfl rfl dl_1040 ?_
  refine fs_iload_n (pc := 1041) 0 rfl rfl dl_1041 ?_
  refine fs_iconst (pc := 1042) 1 (by decide) dl_1042 ?_
  refine fs_iadd (pc := 1043) dl_1043 ?_
  refine fs_sld (pc := 1044) (vin (k := 1) hn hL (by decide)) dl_1044 ?_
  refine fs_aload_n (pc := 1045) 3 rfl rfl dl_1045 ?_
  refine fs_iload_n (pc := 1046) 0 rfl rfl dl_1046 ?_
  refine fs_iconst (pc := 1047) 2 (by decide) dl_1047 ?_
  refine fs_iadd (pc := 1048) dl_1048 ?_
  refine fs_sld (pc := 1049) (vin (k := 2) hn hL (by decide)) dl_1049 ?_
  refine fs_callV (pc := 1050) (As := [.int (xs (nI n + 1).toNatClampNeg), .int (xs (nI n + 2).toNatClampNeg)]) (st := [_]) (mc := 0) (ms := 0) wd_X12_worth lk_132 ok_X12_worth (by decide) rfl (Nat.le_of_ble_eq_true rfl) dl_1050 ⟨show kc + 0 + 0 ≤ 600000 by omega, show ks + 0 + 0 ≤ 7302249 by omega⟩ kc_X12 rc2 d2 (fun v2 σ2 h2 => ?_)
  obtain ⟨rfl, ko2, rm2⟩ := pair_2 ko1 h2
  refine fs_icmp_eq (pc := 1053) (tgt := 1352) (φ := True) (ψ := False) (by decide) dl_1053 ⟨fun _ => trivial, fun z => z rfl⟩ (fun _ => ?_) (fun z => z.elim)
  exact next σ2 R1 _ (kc + 0 + 0) (ks + 0 + 0) ko2 rm2 (iv) f0 f3 (by omega) (by omega)
theorem lw_picture (h : LC g b L xs n kc ks σ R S) : Fs g (SL b L xs g) (600000, 7302249, kc, ks) [(3, .int (nI n)), (2, .ref (R 300)), (1, .ref (R 0)), (0, .ref b)] [] 1058 σ := by
  obtain ⟨ko, rm, iv, hn, hL, hz1, hz2, next⟩ := h
  have v : Iv S := ⟨iv, ko.wide, ko.qok, ko.upk⟩
  refine fs_aload_n (pc := 1058) 2 rfl rfl dl_1058 ?_
  refine fs_aload_n (pc := 1059) 3 rfl rfl dl_1059 ?_
  refine fs_iload_n (pc := 1060) 0 rfl rfl dl_1060 ?_
  refine fs_iconst (pc := 1061) 1 (by decide) dl_1061 ?_
  refine fs_iadd (pc := 1062) dl_1062 ?_
  refine fs_sld (pc := 1063) (vin (k := 1) hn hL (by decide)) dl_1063 ?_
  refine fs_callV (pc := 1064) (As := [.int (xs (nI n + 1).toNatClampNeg)]) (st := []) (mc := 0) (ms := 0) wd_X11_picture lk_133 ok_X11_picture (by decide) rfl (Nat.le_of_ble_eq_true rfl) dl_1064 ⟨show kc + 0 ≤ 600000 by omega, show ks + 0 ≤ 7302249 by omega⟩ kc_X11 (Rc.of ko.1) (do_picture ko (xs (nI n + 1).toNatClampNeg)) (fun v1 σ1 h1 => ?_)
  obtain ⟨R1, rfl, ko1, rm1, f0, f3⟩ := pair_ok ko rm h1
  obtain ⟨X1, A1, hh1, rq⟩ := rm1
  have d2 := rw_picture rq v (xs (nI n + 1).toNatClampNeg)
  rw [f3] at d2
  have rc2 := rq.1.rc
  rw [f3] at rc2
  refine fs_aload_n (pc := 1067) 1 rfl rfl dl_1067 ?_
  refine fs_aload_n (pc := 1068) 3 rfl rfl dl_1068 ?_
  refine fs_iload_n (pc := 1069) 0 rfl rfl dl_1069 ?_
  refine fs_iconst (pc := 1070) 1 (by decide) dl_1070 ?_
  refine fs_iadd (pc := 1071) dl_1071 ?_
  refine fs_sld (pc := 1072) (vin (k := 1) hn hL (by decide)) dl_1072 ?_
  refine fs_callV (pc := 1073) (As := [.int (xs (nI n + 1).toNatClampNeg)]) (st := [_]) (mc := 0) (ms := 0) wd_X12_picture lk_136 ok_X12_picture (by decide) rfl (Nat.le_of_ble_eq_true rfl) dl_1073 ⟨show kc + 0 + 0 ≤ 600000 by omega, show ks + 0 + 0 ≤ 7302249 by omega⟩ kc_X12 rc2 d2 (fun v2 σ2 h2 => ?_)
  obtain ⟨rfl, ko2, rm2⟩ := pair_2 ko1 h2
  refine fs_icmp_eq (pc := 1076) (tgt := 1352) (φ := True) (ψ := False) (by decide) dl_1076 ⟨fun _ => trivial, fun z => z rfl⟩ (fun _ => ?_) (fun z => z.elim)
  exact next σ2 R1 _ (kc + 0 + 0) (ks + 0 + 0) ko2 rm2 (iv.picture (xs (nI n + 1).toNatClampNeg)) f0 f3 (by omega) (by omega)
theorem lw_part (h : LC g b L xs n kc ks σ R S) : Fs g (SL b L xs g) (600000, 7302249, kc, ks) [(3, .int (nI n)), (2, .ref (R 300)), (1, .ref (R 0)), (0, .ref b)] [] 1081 σ := by
  obtain ⟨ko, rm, iv, hn, hL, hz1, hz2, next⟩ := h
  have v : Iv S := ⟨iv, ko.wide, ko.qok, ko.upk⟩
  refine fs_aload_n (pc := 1081) 2 rfl rfl dl_1081 ?_
  refine fs_aload_n (pc := 1082) 3 rfl rfl dl_1082 ?_
  refine fs_iload_n (pc := 1083) 0 rfl rfl dl_1083 ?_
  refine fs_iconst (pc := 1084) 1 (by decide) dl_1084 ?_
  refine fs_iadd (pc := 1085) dl_1085 ?_
  refine fs_sld (pc := 1086) (vin (k := 1) hn hL (by decide)) dl_1086 ?_
  refine fs_aload_n (pc := 1087) 3 rfl rfl dl_1087 ?_
  refine fs_iload_n (pc := 1088) 0 rfl rfl dl_1088 ?_
  refine fs_iconst (pc := 1089) 2 (by decide) dl_1089 ?_
  refine fs_iadd (pc := 1090) dl_1090 ?_
  refine fs_sld (pc := 1091) (vin (k := 2) hn hL (by decide)) dl_1091 ?_
  refine fs_aload_n (pc := 1092) 3 rfl rfl dl_1092 ?_
  refine fs_iload_n (pc := 1093) 0 rfl rfl dl_1093 ?_
  refine fs_iconst (pc := 1094) 3 (by decide) dl_1094 ?_
  refine fs_iadd (pc := 1095) dl_1095 ?_
  refine fs_sld (pc := 1096) (vin (k := 3) hn hL (by decide)) dl_1096 ?_
  refine fs_callV (pc := 1097) (As := [.int (xs (nI n + 1).toNatClampNeg), .int (xs (nI n + 2).toNatClampNeg), .int (xs (nI n + 3).toNatClampNeg)]) (st := []) (mc := 0) (ms := 0) wd_X11_part lk_137 ok_X11_part (by decide) rfl (Nat.le_of_ble_eq_true rfl) dl_1097 ⟨show kc + 0 ≤ 600000 by omega, show ks + 0 ≤ 7302249 by omega⟩ kc_X11 (Rc.of ko.1) (KP.rd ko (rd_part ko iv (xs (nI n + 1).toNatClampNeg) (xs (nI n + 2).toNatClampNeg) (xs (nI n + 3).toNatClampNeg))) (fun v1 σ1 h1 => ?_)
  obtain ⟨R1, rfl, ko1, rm1, f0, f3⟩ := pair_ok ko rm h1
  obtain ⟨X1, A1, hh1, rq⟩ := rm1
  have d2 := RP.rd rq (rr_part rq v (xs (nI n + 1).toNatClampNeg) (xs (nI n + 2).toNatClampNeg) (xs (nI n + 3).toNatClampNeg))
  rw [f3] at d2
  have rc2 := rq.1.rc
  rw [f3] at rc2
  refine fs_aload_n (pc := 1100) 1 rfl rfl dl_1100 ?_
  refine fs_aload_n (pc := 1101) 3 rfl rfl dl_1101 ?_
  refine fs_iload_n (pc := 1102) 0 rfl rfl dl_1102 ?_
  refine fs_iconst (pc := 1103) 1 (by decide) dl_1103 ?_
  refine fs_iadd (pc := 1104) dl_1104 ?_
  refine fs_sld (pc := 1105) (vin (k := 1) hn hL (by decide)) dl_1105 ?_
  refine fs_aload_n (pc := 1106) 3 rfl rfl dl_1106 ?_
  refine fs_iload_n (pc := 1107) 0 rfl rfl dl_1107 ?_
  refine fs_iconst (pc := 1108) 2 (by decide) dl_1108 ?_
  refine fs_iadd (pc := 1109) dl_1109 ?_
  refine fs_sld (pc := 1110) (vin (k := 2) hn hL (by decide)) dl_1110 ?_
  refine fs_aload_n (pc := 1111) 3 rfl rfl dl_1111 ?_
  refine fs_iload_n (pc := 1112) 0 rfl rfl dl_1112 ?_
  refine fs_iconst (pc := 1113) 3 (by decide) dl_1113 ?_
  refine fs_iadd (pc := 1114) dl_1114 ?_
  refine fs_sld (pc := 1115) (vin (k := 3) hn hL (by decide)) dl_1115 ?_
  refine fs_callV (pc := 1116) (As := [.int (xs (nI n + 1).toNatClampNeg), .int (xs (nI n + 2).toNatClampNeg), .int (xs (nI n + 3).toNatClampNeg)]) (st := [_]) (mc := 0) (ms := 0) wd_X12_part lk_140 ok_X12_part (by decide) rfl (Nat.le_of_ble_eq_true rfl) dl_1116 ⟨show kc + 0 + 0 ≤ 600000 by omega, show ks + 0 + 0 ≤ 7302249 by omega⟩ kc_X12 rc2 d2 (fun v2 σ2 h2 => ?_)
  obtain ⟨rfl, ko2, rm2⟩ := pair_2 ko1 h2
  refine fs_icmp_eq (pc := 1119) (tgt := 1352) (φ := True) (ψ := False) (by decide) dl_1119 ⟨fun _ => trivial, fun z => z rfl⟩ (fun _ => ?_) (fun z => z.elim)
  exact next σ2 R1 _ (kc + 0 + 0) (ks + 0 + 0) ko2 rm2 (iv) f0 f3 (by omega) (by omega)
theorem lw_foretold (h : LC g b L xs n kc ks σ R S) : Fs g (SL b L xs g) (600000, 7302249, kc, ks) [(3, .int (nI n)), (2, .ref (R 300)), (1, .ref (R 0)), (0, .ref b)] [] 1124 σ := by
  obtain ⟨ko, rm, iv, hn, hL, hz1, hz2, next⟩ := h
  have v : Iv S := ⟨iv, ko.wide, ko.qok, ko.upk⟩
  refine fs_aload_n (pc := 1124) 2 rfl rfl dl_1124 ?_
  refine fs_aload_n (pc := 1125) 3 rfl rfl dl_1125 ?_
  refine fs_iload_n (pc := 1126) 0 rfl rfl dl_1126 ?_
  refine fs_iconst (pc := 1127) 1 (by decide) dl_1127 ?_
  refine fs_iadd (pc := 1128) dl_1128 ?_
  refine fs_sld (pc := 1129) (vin (k := 1) hn hL (by decide)) dl_1129 ?_
  refine fs_aload_n (pc := 1130) 3 rfl rfl dl_1130 ?_
  refine fs_iload_n (pc := 1131) 0 rfl rfl dl_1131 ?_
  refine fs_iconst (pc := 1132) 2 (by decide) dl_1132 ?_
  refine fs_iadd (pc := 1133) dl_1133 ?_
  refine fs_sld (pc := 1134) (vin (k := 2) hn hL (by decide)) dl_1134 ?_
  refine fs_aload_n (pc := 1135) 3 rfl rfl dl_1135 ?_
  refine fs_iload_n (pc := 1136) 0 rfl rfl dl_1136 ?_
  refine fs_iconst (pc := 1137) 3 (by decide) dl_1137 ?_
  refine fs_iadd (pc := 1138) dl_1138 ?_
  refine fs_sld (pc := 1139) (vin (k := 3) hn hL (by decide)) dl_1139 ?_
  refine fs_aload_n (pc := 1140) 3 rfl rfl dl_1140 ?_
  refine fs_iload_n (pc := 1141) 0 rfl rfl dl_1141 ?_
  refine fs_iconst (pc := 1142) 4 (by decide) dl_1142 ?_
  refine fs_iadd (pc := 1143) dl_1143 ?_
  refine fs_sld (pc := 1144) (vin (k := 4) hn hL (by decide)) dl_1144 ?_
  refine fs_callV (pc := 1145) (As := [.int (xs (nI n + 1).toNatClampNeg), .int (xs (nI n + 2).toNatClampNeg), .int (xs (nI n + 3).toNatClampNeg), .int (xs (nI n + 4).toNatClampNeg)]) (st := []) (mc := 0) (ms := 0) wd_X11_foretold lk_141 ok_X11_foretold (by decide) rfl (Nat.le_of_ble_eq_true rfl) dl_1145 ⟨show kc + 0 ≤ 600000 by omega, show ks + 0 ≤ 7302249 by omega⟩ kc_X11 (Rc.of ko.1) (KP.rd ko (rd_foretold ko iv (xs (nI n + 1).toNatClampNeg) (xs (nI n + 2).toNatClampNeg) (xs (nI n + 3).toNatClampNeg) (xs (nI n + 4).toNatClampNeg))) (fun v1 σ1 h1 => ?_)
  obtain ⟨R1, rfl, ko1, rm1, f0, f3⟩ := pair_ok ko rm h1
  obtain ⟨X1, A1, hh1, rq⟩ := rm1
  have d2 := RP.rd rq (rr_foretold rq v (xs (nI n + 1).toNatClampNeg) (xs (nI n + 2).toNatClampNeg) (xs (nI n + 3).toNatClampNeg) (xs (nI n + 4).toNatClampNeg))
  rw [f3] at d2
  have rc2 := rq.1.rc
  rw [f3] at rc2
  refine fs_aload_n (pc := 1148) 1 rfl rfl dl_1148 ?_
  refine fs_aload_n (pc := 1149) 3 rfl rfl dl_1149 ?_
  refine fs_iload_n (pc := 1150) 0 rfl rfl dl_1150 ?_
  refine fs_iconst (pc := 1151) 1 (by decide) dl_1151 ?_
  refine fs_iadd (pc := 1152) dl_1152 ?_
  refine fs_sld (pc := 1153) (vin (k := 1) hn hL (by decide)) dl_1153 ?_
  refine fs_aload_n (pc := 1154) 3 rfl rfl dl_1154 ?_
  refine fs_iload_n (pc := 1155) 0 rfl rfl dl_1155 ?_
  refine fs_iconst (pc := 1156) 2 (by decide) dl_1156 ?_
  refine fs_iadd (pc := 1157) dl_1157 ?_
  refine fs_sld (pc := 1158) (vin (k := 2) hn hL (by decide)) dl_1158 ?_
  refine fs_aload_n (pc := 1159) 3 rfl rfl dl_1159 ?_
  refine fs_iload_n (pc := 1160) 0 rfl rfl dl_1160 ?_
  refine fs_iconst (pc := 1161) 3 (by decide) dl_1161 ?_
  refine fs_iadd (pc := 1162) dl_1162 ?_
  refine fs_sld (pc := 1163) (vin (k := 3) hn hL (by decide)) dl_1163 ?_
  refine fs_aload_n (pc := 1164) 3 rfl rfl dl_1164 ?_
  refine fs_iload_n (pc := 1165) 0 rfl rfl dl_1165 ?_
  refine fs_iconst (pc := 1166) 4 (by decide) dl_1166 ?_
  refine fs_iadd (pc := 1167) dl_1167 ?_
  refine fs_sld (pc := 1168) (vin (k := 4) hn hL (by decide)) dl_1168 ?_
  refine fs_callV (pc := 1169) (As := [.int (xs (nI n + 1).toNatClampNeg), .int (xs (nI n + 2).toNatClampNeg), .int (xs (nI n + 3).toNatClampNeg), .int (xs (nI n + 4).toNatClampNeg)]) (st := [_]) (mc := 0) (ms := 0) wd_X12_foretold lk_144 ok_X12_foretold (by decide) rfl (Nat.le_of_ble_eq_true rfl) dl_1169 ⟨show kc + 0 + 0 ≤ 600000 by omega, show ks + 0 + 0 ≤ 7302249 by omega⟩ kc_X12 rc2 d2 (fun v2 σ2 h2 => ?_)
  obtain ⟨rfl, ko2, rm2⟩ := pair_2 ko1 h2
  refine fs_icmp_eq (pc := 1172) (tgt := 1352) (φ := True) (ψ := False) (by decide) dl_1172 ⟨fun _ => trivial, fun z => z rfl⟩ (fun _ => ?_) (fun z => z.elim)
  exact next σ2 R1 _ (kc + 0 + 0) (ks + 0 + 0) ko2 rm2 (iv) f0 f3 (by omega) (by omega)
theorem lw_likely (h : LC g b L xs n kc ks σ R S) : Fs g (SL b L xs g) (600000, 7302249, kc, ks) [(3, .int (nI n)), (2, .ref (R 300)), (1, .ref (R 0)), (0, .ref b)] [] 1177 σ := by
  obtain ⟨ko, rm, iv, hn, hL, hz1, hz2, next⟩ := h
  have v : Iv S := ⟨iv, ko.wide, ko.qok, ko.upk⟩
  refine fs_aload_n (pc := 1177) 2 rfl rfl dl_1177 ?_
  refine fs_aload_n (pc := 1178) 3 rfl rfl dl_1178 ?_
  refine fs_iload_n (pc := 1179) 0 rfl rfl dl_1179 ?_
  refine fs_iconst (pc := 1180) 1 (by decide) dl_1180 ?_
  refine fs_iadd (pc := 1181) dl_1181 ?_
  refine fs_sld (pc := 1182) (vin (k := 1) hn hL (by decide)) dl_1182 ?_
  refine fs_callV (pc := 1183) (As := [.int (xs (nI n + 1).toNatClampNeg)]) (st := []) (mc := 0) (ms := 0) wd_X11_likely lk_145 ok_X11_likely (by decide) rfl (Nat.le_of_ble_eq_true rfl) dl_1183 ⟨show kc + 0 ≤ 600000 by omega, show ks + 0 ≤ 7302249 by omega⟩ kc_X11 (Rc.of ko.1) (KP.rd ko (rd_likely ko iv (xs (nI n + 1).toNatClampNeg))) (fun v1 σ1 h1 => ?_)
  obtain ⟨R1, rfl, ko1, rm1, f0, f3⟩ := pair_ok ko rm h1
  obtain ⟨X1, A1, hh1, rq⟩ := rm1
  have d2 := RP.rd rq (rr_likely rq v (xs (nI n + 1).toNatClampNeg))
  rw [f3] at d2
  have rc2 := rq.1.rc
  rw [f3] at rc2
  refine fs_aload_n (pc := 1186) 1 rfl rfl dl_1186 ?_
  refine fs_aload_n (pc := 1187) 3 rfl rfl dl_1187 ?_
  refine fs_iload_n (pc := 1188) 0 rfl rfl dl_1188 ?_
  refine fs_iconst (pc := 1189) 1 (by decide) dl_1189 ?_
  refine fs_iadd (pc := 1190) dl_1190 ?_
  refine fs_sld (pc := 1191) (vin (k := 1) hn hL (by decide)) dl_1191 ?_
  refine fs_callV (pc := 1192) (As := [.int (xs (nI n + 1).toNatClampNeg)]) (st := [_]) (mc := 0) (ms := 0) wd_X12_likely lk_148 ok_X12_likely (by decide) rfl (Nat.le_of_ble_eq_true rfl) dl_1192 ⟨show kc + 0 + 0 ≤ 600000 by omega, show ks + 0 + 0 ≤ 7302249 by omega⟩ kc_X12 rc2 d2 (fun v2 σ2 h2 => ?_)
  obtain ⟨rfl, ko2, rm2⟩ := pair_2 ko1 h2
  refine fs_icmp_eq (pc := 1195) (tgt := 1352) (φ := True) (ψ := False) (by decide) dl_1195 ⟨fun _ => trivial, fun z => z rfl⟩ (fun _ => ?_) (fun z => z.elim)
  exact next σ2 R1 _ (kc + 0 + 0) (ks + 0 + 0) ko2 rm2 (iv) f0 f3 (by omega) (by omega)
theorem lw_guess (h : LC g b L xs n kc ks σ R S) : Fs g (SL b L xs g) (600000, 7302249, kc, ks) [(3, .int (nI n)), (2, .ref (R 300)), (1, .ref (R 0)), (0, .ref b)] [] 1200 σ := by
  obtain ⟨ko, rm, iv, hn, hL, hz1, hz2, next⟩ := h
  have v : Iv S := ⟨iv, ko.wide, ko.qok, ko.upk⟩
  refine fs_aload_n (pc := 1200) 2 rfl rfl dl_1200 ?_
  refine fs_aload_n (pc := 1201) 3 rfl rfl dl_1201 ?_
  refine fs_iload_n (pc := 1202) 0 rfl rfl dl_1202 ?_
  refine fs_iconst (pc := 1203) 1 (by decide) dl_1203 ?_
  refine fs_iadd (pc := 1204) dl_1204 ?_
  refine fs_sld (pc := 1205) (vin (k := 1) hn hL (by decide)) dl_1205 ?_
  refine fs_aload_n (pc := 1206) 3 rfl rfl dl_1206 ?_
  refine fs_iload_n (pc := 1207) 0 rfl rfl dl_1207 ?_
  refine fs_iconst (pc := 1208) 2 (by decide) dl_1208 ?_
  refine fs_iadd (pc := 1209) dl_1209 ?_
  refine fs_sld (pc := 1210) (vin (k := 2) hn hL (by decide)) dl_1210 ?_
  refine fs_callV (pc := 1211) (As := [.int (xs (nI n + 1).toNatClampNeg), .int (xs (nI n + 2).toNatClampNeg)]) (st := []) (mc := 0) (ms := 0) wd_X11_guess lk_149 ok_X11_guess (by decide) rfl (Nat.le_of_ble_eq_true rfl) dl_1211 ⟨show kc + 0 ≤ 600000 by omega, show ks + 0 ≤ 7302249 by omega⟩ kc_X11 (Rc.of ko.1) (KP.rd ko (rd_guess ko iv (xs (nI n + 1).toNatClampNeg) (xs (nI n + 2).toNatClampNeg))) (fun v1 σ1 h1 => ?_)
  obtain ⟨R1, rfl, ko1, rm1, f0, f3⟩ := pair_ok ko rm h1
  obtain ⟨X1, A1, hh1, rq⟩ := rm1
  have d2 := RP.rd rq (rr_guess rq v (xs (nI n + 1).toNatClampNeg) (xs (nI n + 2).toNatClampNeg))
  rw [f3] at d2
  have rc2 := rq.1.rc
  rw [f3] at rc2
  refine fs_aload_n (pc := 1214) 1 rfl rfl dl_1214 ?_
  refine fs_aload_n (pc := 1215) 3 rfl rfl dl_1215 ?_
  refine fs_iload_n (pc := 1216) 0 rfl rfl dl_1216 ?_
  refine fs_iconst (pc := 1217) 1 (by decide) dl_1217 ?_
  refine fs_iadd (pc := 1218) dl_1218 ?_
  refine fs_sld (pc := 1219) (vin (k := 1) hn hL (by decide)) dl_1219 ?_
  refine fs_aload_n (pc := 1220) 3 rfl rfl dl_1220 ?_
  refine fs_iload_n (pc := 1221) 0 rfl rfl dl_1221 ?_
  refine fs_iconst (pc := 1222) 2 (by decide) dl_1222 ?_
  refine fs_iadd (pc := 1223) dl_1223 ?_
  refine fs_sld (pc := 1224) (vin (k := 2) hn hL (by decide)) dl_1224 ?_
  refine fs_callV (pc := 1225) (As := [.int (xs (nI n + 1).toNatClampNeg), .int (xs (nI n + 2).toNatClampNeg)]) (st := [_]) (mc := 0) (ms := 0) wd_X12_guess lk_152 ok_X12_guess (by decide) rfl (Nat.le_of_ble_eq_true rfl) dl_1225 ⟨show kc + 0 + 0 ≤ 600000 by omega, show ks + 0 + 0 ≤ 7302249 by omega⟩ kc_X12 rc2 d2 (fun v2 σ2 h2 => ?_)
  obtain ⟨rfl, ko2, rm2⟩ := pair_2 ko1 h2
  refine fs_icmp_eq (pc := 1228) (tgt := 1352) (φ := True) (ψ := False) (by decide) dl_1228 ⟨fun _ => trivial, fun z => z rfl⟩ (fun _ => ?_) (fun z => z.elim)
  exact next σ2 R1 _ (kc + 0 + 0) (ks + 0 + 0) ko2 rm2 (iv) f0 f3 (by omega) (by omega)
theorem lw_chosen (h : LC g b L xs n kc ks σ R S) : Fs g (SL b L xs g) (600000, 7302249, kc, ks) [(3, .int (nI n)), (2, .ref (R 300)), (1, .ref (R 0)), (0, .ref b)] [] 1233 σ := by
  obtain ⟨ko, rm, iv, hn, hL, hz1, hz2, next⟩ := h
  have v : Iv S := ⟨iv, ko.wide, ko.qok, ko.upk⟩
  refine fs_aload_n (pc := 1233) 2 rfl rfl dl_1233 ?_
  refine fs_aload_n (pc := 1234) 3 rfl rfl dl_1234 ?_
  refine fs_iload_n (pc := 1235) 0 rfl rfl dl_1235 ?_
  refine fs_iconst (pc := 1236) 1 (by decide) dl_1236 ?_
  refine fs_iadd (pc := 1237) dl_1237 ?_
  refine fs_sld (pc := 1238) (vin (k := 1) hn hL (by decide)) dl_1238 ?_
  refine fs_callV (pc := 1239) (As := [.int (xs (nI n + 1).toNatClampNeg)]) (st := []) (mc := 0) (ms := 0) wd_X11_chosen lk_153 ok_X11_chosen (by decide) rfl (Nat.le_of_ble_eq_true rfl) dl_1239 ⟨show kc + 0 ≤ 600000 by omega, show ks + 0 ≤ 7302249 by omega⟩ kc_X11 (Rc.of ko.1) (KP.rd ko (rd_chosen ko iv (xs (nI n + 1).toNatClampNeg))) (fun v1 σ1 h1 => ?_)
  obtain ⟨R1, rfl, ko1, rm1, f0, f3⟩ := pair_ok ko rm h1
  obtain ⟨X1, A1, hh1, rq⟩ := rm1
  have d2 := RP.rd rq (rr_chosen rq v (xs (nI n + 1).toNatClampNeg))
  rw [f3] at d2
  have rc2 := rq.1.rc
  rw [f3] at rc2
  refine fs_aload_n (pc := 1242) 1 rfl rfl dl_1242 ?_
  refine fs_aload_n (pc := 1243) 3 rfl rfl dl_1243 ?_
  refine fs_iload_n (pc := 1244) 0 rfl rfl dl_1244 ?_
  refine fs_iconst (pc := 1245) 1 (by decide) dl_1245 ?_
  refine fs_iadd (pc := 1246) dl_1246 ?_
  refine fs_sld (pc := 1247) (vin (k := 1) hn hL (by decide)) dl_1247 ?_
  refine fs_callV (pc := 1248) (As := [.int (xs (nI n + 1).toNatClampNeg)]) (st := [_]) (mc := 0) (ms := 0) wd_X12_chosen lk_156 ok_X12_chosen (by decide) rfl (Nat.le_of_ble_eq_true rfl) dl_1248 ⟨show kc + 0 + 0 ≤ 600000 by omega, show ks + 0 + 0 ≤ 7302249 by omega⟩ kc_X12 rc2 d2 (fun v2 σ2 h2 => ?_)
  obtain ⟨rfl, ko2, rm2⟩ := pair_2 ko1 h2
  refine fs_icmp_eq (pc := 1251) (tgt := 1352) (φ := True) (ψ := False) (by decide) dl_1251 ⟨fun _ => trivial, fun z => z rfl⟩ (fun _ => ?_) (fun z => z.elim)
  exact next σ2 R1 _ (kc + 0 + 0) (ks + 0 + 0) ko2 rm2 (iv) f0 f3 (by omega) (by omega)
theorem lw_regret (h : LC g b L xs n kc ks σ R S) : Fs g (SL b L xs g) (600000, 7302249, kc, ks) [(3, .int (nI n)), (2, .ref (R 300)), (1, .ref (R 0)), (0, .ref b)] [] 1256 σ := by
  obtain ⟨ko, rm, iv, hn, hL, hz1, hz2, next⟩ := h
  have v : Iv S := ⟨iv, ko.wide, ko.qok, ko.upk⟩
  refine fs_aload_n (pc := 1256) 2 rfl rfl dl_1256 ?_
  refine fs_aload_n (pc := 1257) 3 rfl rfl dl_1257 ?_
  refine fs_iload_n (pc := 1258) 0 rfl rfl dl_1258 ?_
  refine fs_iconst (pc := 1259) 1 (by decide) dl_1259 ?_
  refine fs_iadd (pc := 1260) dl_1260 ?_
  refine fs_sld (pc := 1261) (vin (k := 1) hn hL (by decide)) dl_1261 ?_
  refine fs_callV (pc := 1262) (As := [.int (xs (nI n + 1).toNatClampNeg)]) (st := []) (mc := 0) (ms := 0) wd_X11_regret lk_157 ok_X11_regret (by decide) rfl (Nat.le_of_ble_eq_true rfl) dl_1262 ⟨show kc + 0 ≤ 600000 by omega, show ks + 0 ≤ 7302249 by omega⟩ kc_X11 (Rc.of ko.1) (do_regret ko iv (xs (nI n + 1).toNatClampNeg)) (fun v1 σ1 h1 => ?_)
  obtain ⟨R1, rfl, ko1, rm1, f0, f3⟩ := pair_ok ko rm h1
  obtain ⟨X1, A1, hh1, rq⟩ := rm1
  have d2 := rw_regret rq v (xs (nI n + 1).toNatClampNeg)
  rw [f3] at d2
  have rc2 := rq.1.rc
  rw [f3] at rc2
  refine fs_aload_n (pc := 1265) 1 rfl rfl dl_1265 ?_
  refine fs_aload_n (pc := 1266) 3 rfl rfl dl_1266 ?_
  refine fs_iload_n (pc := 1267) 0 rfl rfl dl_1267 ?_
  refine fs_iconst (pc := 1268) 1 (by decide) dl_1268 ?_
  refine fs_iadd (pc := 1269) dl_1269 ?_
  refine fs_sld (pc := 1270) (vin (k := 1) hn hL (by decide)) dl_1270 ?_
  refine fs_callV (pc := 1271) (As := [.int (xs (nI n + 1).toNatClampNeg)]) (st := [_]) (mc := 0) (ms := 0) wd_X12_regret lk_160 ok_X12_regret (by decide) rfl (Nat.le_of_ble_eq_true rfl) dl_1271 ⟨show kc + 0 + 0 ≤ 600000 by omega, show ks + 0 + 0 ≤ 7302249 by omega⟩ kc_X12 rc2 d2 (fun v2 σ2 h2 => ?_)
  obtain ⟨rfl, ko2, rm2⟩ := pair_2 ko1 h2
  refine fs_icmp_eq (pc := 1274) (tgt := 1352) (φ := True) (ψ := False) (by decide) dl_1274 ⟨fun _ => trivial, fun z => z rfl⟩ (fun _ => ?_) (fun z => z.elim)
  exact next σ2 R1 _ (kc + 0 + 0) (ks + 0 + 0) ko2 rm2 (iv) f0 f3 (by omega) (by omega)
theorem lw_mark (h : LC g b L xs n kc ks σ R S) : Fs g (SL b L xs g) (600000, 7302249, kc, ks) [(3, .int (nI n)), (2, .ref (R 300)), (1, .ref (R 0)), (0, .ref b)] [] 1279 σ := by
  obtain ⟨ko, rm, iv, hn, hL, hz1, hz2, next⟩ := h
  have v : Iv S := ⟨iv, ko.wide, ko.qok, ko.upk⟩
  refine fs_aload_n (pc := 1279) 2 rfl rfl dl_1279 ?_
  refine fs_callV (pc := 1280) (As := []) (st := []) (mc := 0) (ms := 0) wd_X11_mark lk_161 ok_X11_mark (by decide) rfl (Nat.le_of_ble_eq_true rfl) dl_1280 ⟨show kc + 0 ≤ 600000 by omega, show ks + 0 ≤ 7302249 by omega⟩ kc_X11 (Rc.of ko.1) (do_mark ko iv) (fun v1 σ1 h1 => ?_)
  obtain ⟨R1, rfl, ko1, rm1, f0, f3⟩ := pair_ok ko rm h1
  obtain ⟨X1, A1, hh1, rq⟩ := rm1
  have d2 := rw_mark rq v
  rw [f3] at d2
  have rc2 := rq.1.rc
  rw [f3] at rc2
  refine fs_aload_n (pc := 1283) 1 rfl rfl dl_1283 ?_
  refine fs_callV (pc := 1284) (As := []) (st := [_]) (mc := 0) (ms := 0) wd_X12_mark lk_164 ok_X12_mark (by decide) rfl (Nat.le_of_ble_eq_true rfl) dl_1284 ⟨show kc + 0 + 0 ≤ 600000 by omega, show ks + 0 + 0 ≤ 7302249 by omega⟩ kc_X12 rc2 d2 (fun v2 σ2 h2 => ?_)
  obtain ⟨rfl, ko2, rm2⟩ := pair_2 ko1 h2
  refine fs_icmp_eq (pc := 1287) (tgt := 1352) (φ := True) (ψ := False) (by decide) dl_1287 ⟨fun _ => trivial, fun z => z rfl⟩ (fun _ => ?_) (fun z => z.elim)
  exact next σ2 R1 _ (kc + 0 + 0) (ks + 0 + 0) ko2 rm2 (iv.mark) f0 f3 (by omega) (by omega)
theorem lw_back (h : LC g b L xs n kc ks σ R S) : Fs g (SL b L xs g) (600000, 7302249, kc, ks) [(3, .int (nI n)), (2, .ref (R 300)), (1, .ref (R 0)), (0, .ref b)] [] 1292 σ := by
  obtain ⟨ko, rm, iv, hn, hL, hz1, hz2, next⟩ := h
  have v : Iv S := ⟨iv, ko.wide, ko.qok, ko.upk⟩
  refine fs_aload_n (pc := 1292) 2 rfl rfl dl_1292 ?_
  refine fs_aload_n (pc := 1293) 3 rfl rfl dl_1293 ?_
  refine fs_iload_n (pc := 1294) 0 rfl rfl dl_1294 ?_
  refine fs_iconst (pc := 1295) 1 (by decide) dl_1295 ?_
  refine fs_iadd (pc := 1296) dl_1296 ?_
  refine fs_sld (pc := 1297) (vin (k := 1) hn hL (by decide)) dl_1297 ?_
  refine fs_callV (pc := 1298) (As := [.int (xs (nI n + 1).toNatClampNeg)]) (st := []) (mc := 0) (ms := 0) wd_X11_back lk_165 ok_X11_back (by decide) rfl (Nat.le_of_ble_eq_true rfl) dl_1298 ⟨show kc + 0 ≤ 600000 by omega, show ks + 0 ≤ 7302249 by omega⟩ kc_X11 (Rc.of ko.1) (do_back ko iv (xs (nI n + 1).toNatClampNeg)) (fun v1 σ1 h1 => ?_)
  obtain ⟨R1, rfl, ko1, rm1, f0, f3⟩ := pair_ok ko rm h1
  obtain ⟨X1, A1, hh1, rq⟩ := rm1
  have d2 := rw_back rq v (xs (nI n + 1).toNatClampNeg)
  rw [f3] at d2
  have rc2 := rq.1.rc
  rw [f3] at rc2
  refine fs_aload_n (pc := 1301) 1 rfl rfl dl_1301 ?_
  refine fs_aload_n (pc := 1302) 3 rfl rfl dl_1302 ?_
  refine fs_iload_n (pc := 1303) 0 rfl rfl dl_1303 ?_
  refine fs_iconst (pc := 1304) 1 (by decide) dl_1304 ?_
  refine fs_iadd (pc := 1305) dl_1305 ?_
  refine fs_sld (pc := 1306) (vin (k := 1) hn hL (by decide)) dl_1306 ?_
  refine fs_callV (pc := 1307) (As := [.int (xs (nI n + 1).toNatClampNeg)]) (st := [_]) (mc := 0) (ms := 0) wd_X12_back lk_168 ok_X12_back (by decide) rfl (Nat.le_of_ble_eq_true rfl) dl_1307 ⟨show kc + 0 + 0 ≤ 600000 by omega, show ks + 0 + 0 ≤ 7302249 by omega⟩ kc_X12 rc2 d2 (fun v2 σ2 h2 => ?_)
  obtain ⟨rfl, ko2, rm2⟩ := pair_2 ko1 h2
  refine fs_icmp_eq (pc := 1310) (tgt := 1352) (φ := True) (ψ := False) (by decide) dl_1310 ⟨fun _ => trivial, fun z => z rfl⟩ (fun _ => ?_) (fun z => z.elim)
  exact next σ2 R1 _ (kc + 0 + 0) (ks + 0 + 0) ko2 rm2 (iv.back (xs (nI n + 1).toNatClampNeg)) f0 f3 (by omega) (by omega)
theorem lw_count (h : LC g b L xs n kc ks σ R S) : Fs g (SL b L xs g) (600000, 7302249, kc, ks) [(3, .int (nI n)), (2, .ref (R 300)), (1, .ref (R 0)), (0, .ref b)] [] 1315 σ := by
  obtain ⟨ko, rm, iv, hn, hL, hz1, hz2, next⟩ := h
  have v : Iv S := ⟨iv, ko.wide, ko.qok, ko.upk⟩
  refine fs_aload_n (pc := 1315) 2 rfl rfl dl_1315 ?_
  refine fs_aload_n (pc := 1316) 3 rfl rfl dl_1316 ?_
  refine fs_iload_n (pc := 1317) 0 rfl rfl dl_1317 ?_
  refine fs_iconst (pc := 1318) 1 (by decide) dl_1318 ?_
  refine fs_iadd (pc := 1319) dl_1319 ?_
  refine fs_sld (pc := 1320) (vin (k := 1) hn hL (by decide)) dl_1320 ?_
  refine fs_callV (pc := 1321) (As := [.int (xs (nI n + 1).toNatClampNeg)]) (st := []) (mc := 0) (ms := 0) wd_X11_count lk_169 ok_X11_count (by decide) rfl (Nat.le_of_ble_eq_true rfl) dl_1321 ⟨show kc + 0 ≤ 600000 by omega, show ks + 0 ≤ 7302249 by omega⟩ kc_X11 (Rc.of ko.1) (KP.rd ko (rd_count ko (xs (nI n + 1).toNatClampNeg))) (fun v1 σ1 h1 => ?_)
  obtain ⟨R1, rfl, ko1, rm1, f0, f3⟩ := pair_ok ko rm h1
  obtain ⟨X1, A1, hh1, rq⟩ := rm1
  have d2 := RP.rd rq (rr_count rq v (xs (nI n + 1).toNatClampNeg))
  rw [f3] at d2
  have rc2 := rq.1.rc
  rw [f3] at rc2
  refine fs_aload_n (pc := 1324) 1 rfl rfl dl_1324 ?_
  refine fs_aload_n (pc := 1325) 3 rfl rfl dl_1325 ?_
  refine fs_iload_n (pc := 1326) 0 rfl rfl dl_1326 ?_
  refine fs_iconst (pc := 1327) 1 (by decide) dl_1327 ?_
  refine fs_iadd (pc := 1328) dl_1328 ?_
  refine fs_sld (pc := 1329) (vin (k := 1) hn hL (by decide)) dl_1329 ?_
  refine fs_callV (pc := 1330) (As := [.int (xs (nI n + 1).toNatClampNeg)]) (st := [_]) (mc := 0) (ms := 0) wd_X12_count lk_172 ok_X12_count (by decide) rfl (Nat.le_of_ble_eq_true rfl) dl_1330 ⟨show kc + 0 + 0 ≤ 600000 by omega, show ks + 0 + 0 ≤ 7302249 by omega⟩ kc_X12 rc2 d2 (fun v2 σ2 h2 => ?_)
  obtain ⟨rfl, ko2, rm2⟩ := pair_2 ko1 h2
  refine fs_icmp_eq (pc := 1333) (tgt := 1352) (φ := True) (ψ := False) (by decide) dl_1333 ⟨fun _ => trivial, fun z => z rfl⟩ (fun _ => ?_) (fun z => z.elim)
  exact next σ2 R1 _ (kc + 0 + 0) (ks + 0 + 0) ko2 rm2 (iv) f0 f3 (by omega) (by omega)
theorem lw_digest (h : LC g b L xs n kc ks σ R S) : Fs g (SL b L xs g) (600000, 7302249, kc, ks) [(3, .int (nI n)), (2, .ref (R 300)), (1, .ref (R 0)), (0, .ref b)] [] 1338 σ := by
  obtain ⟨ko, rm, iv, hn, hL, hz1, hz2, next⟩ := h
  have v : Iv S := ⟨iv, ko.wide, ko.qok, ko.upk⟩
  refine fs_aload_n (pc := 1338) 2 rfl rfl dl_1338 ?_
  refine fs_callV (pc := 1339) (As := []) (st := []) (mc := 0) (ms := 0) wd_X11_digest lk_173 ok_X11_digest (by decide) rfl (Nat.le_of_ble_eq_true rfl) dl_1339 ⟨show kc + 0 ≤ 600000 by omega, show ks + 0 ≤ 7302249 by omega⟩ kc_X11 (Rc.of ko.1) (rd_digest ko iv) (fun v1 σ1 h1 => ?_)
  obtain ⟨x1, rfl, rfl, rfl⟩ := h1
  have ko1 := ko
  have f0 : R 0 = R 0 := rfl
  have f3 : R 300 = R 300 := rfl
  obtain ⟨X1, A1, hh1, rq⟩ := rm
  have d2 := rw_digest rq v
  have rc2 := rq.1.rc
  rw [f3] at rc2
  refine fs_aload_n (pc := 1342) 1 rfl rfl dl_1342 ?_
  refine fs_callV (pc := 1343) (As := []) (st := [.long (v_digest S)]) (mc := 0) (ms := 0) wd_X12_digest lk_177 ok_X12_digest (by decide) rfl (Nat.le_of_ble_eq_true rfl) dl_1343 ⟨show kc + 0 + 0 ≤ 600000 by omega, show ks + 0 + 0 ≤ 7302249 by omega⟩ kc_X12 rc2 d2 (fun v2 σ2 h2 => ?_)
  obtain ⟨x2, rfl, rfl, rm2, s2⟩ := h2
  have ko2 := ko1.t3 s2
  refine fs_lcmp (pc := 1346) dl_1346 ?_
  refine fs_if_eq (pc := 1347) (tgt := 1352) (φ := True) (ψ := False) (by decide) dl_1347 ⟨fun _ => trivial, fun z => z (lg_cmp_self _)⟩ (fun _ => ?_) (fun z => z.elim)
  exact next σ2 R _ (kc + 0 + 0) (ks + 0 + 0) ko2 rm2 (iv) f0 f3 (by omega) (by omega)
end LCS
