/-! The law: its loop. -/
section LOP
variable {g : GG} {b L : Nat} {xs : Nat → Int32}
theorem vin0 {n L : Nat} (h : n + 5 ≤ L) (hL : L ≤ 2560) : vp_in (nI n) L := by
  have := vin (k := 0) h hL (by decide)
  rw [nI_add] at this
  exact this
theorem law_switch {n kc ks : Nat} {σ : Hs} {R : Nat → Nat} {S : SS} (h : LC g b L xs n kc ks σ R S) (w : Int32) : Fs g (SL b L xs g) (600000, 7302249, kc, ks) [(3, .int (nI n)), (2, .ref (R 300)), (1, .ref (R 0)), (0, .ref b)] [.int w] 32 σ := by
  by_cases h0 : 0 ≤ w.toInt ∧ w.toInt < 39
  · obtain ⟨j, hj, rfl⟩ := I_of (x := w) (n := 39) h0.1 h0.2 (by decide)
    rcases (show j = 0 ∨ j = 1 ∨ j = 2 ∨ j = 3 ∨ j = 4 ∨ j = 5 ∨ j = 6 ∨ j = 7 ∨ j = 8 ∨ j = 9 ∨ j = 10 ∨ j = 11 ∨ j = 12 ∨ j = 13 ∨ j = 14 ∨ j = 15 ∨ j = 16 ∨ j = 17 ∨ j = 18 ∨ j = 19 ∨ j = 20 ∨ j = 21 ∨ j = 22 ∨ j = 23 ∨ j = 24 ∨ j = 25 ∨ j = 26 ∨ j = 27 ∨ j = 28 ∨ j = 29 ∨ j = 30 ∨ j = 31 ∨ j = 32 ∨ j = 33 ∨ j = 34 ∨ j = 35 ∨ j = 36 ∨ j = 37 ∨ j = 38 by omega) with rfl | rfl | rfl | rfl | rfl | rfl | rfl | rfl | rfl | rfl | rfl | rfl | rfl | rfl | rfl | rfl | rfl | rfl | rfl | rfl | rfl | rfl | rfl | rfl | rfl | rfl | rfl | rfl | rfl | rfl | rfl | rfl | rfl | rfl | rfl | rfl | rfl | rfl | rfl
    · exact fs_switchIn (pc := 32) (off := 172) (tgt := 204) dl_32 (by decide) (by decide) rfl (by decide) (lw_row h)
    · exact fs_switchIn (pc := 32) (off := 225) (tgt := 257) dl_32 (by decide) (by decide) rfl (by decide) (lw_set h)
    · exact fs_switchIn (pc := 32) (off := 268) (tgt := 300) dl_32 (by decide) (by decide) rfl (by decide) (lw_drop h)
    · exact fs_switchIn (pc := 32) (off := 291) (tgt := 323) dl_32 (by decide) (by decide) rfl (by decide) (lw_fill h)
    · exact fs_switchIn (pc := 32) (off := 334) (tgt := 366) dl_32 (by decide) (by decide) rfl (by decide) (lw_get h)
    · exact fs_switchIn (pc := 32) (off := 367) (tgt := 399) dl_32 (by decide) (by decide) rfl (by decide) (lw_wide h)
    · exact fs_switchIn (pc := 32) (off := 390) (tgt := 422) dl_32 (by decide) (by decide) rfl (by decide) (lw_order h)
    · exact fs_switchIn (pc := 32) (off := 413) (tgt := 445) dl_32 (by decide) (by decide) rfl (by decide) (lw_lose h)
    · exact fs_switchIn (pc := 32) (off := 436) (tgt := 468) dl_32 (by decide) (by decide) rfl (by decide) (lw_pack h)
    · exact fs_switchIn (pc := 32) (off := 459) (tgt := 491) dl_32 (by decide) (by decide) rfl (by decide) (lw_about h)
    · exact fs_switchIn (pc := 32) (off := 492) (tgt := 524) dl_32 (by decide) (by decide) rfl (by decide) (lw_entry h)
    · exact fs_switchIn (pc := 32) (off := 525) (tgt := 557) dl_32 (by decide) (by decide) rfl (by decide) (lw_leaf h)
    · exact fs_switchIn (pc := 32) (off := 558) (tgt := 590) dl_32 (by decide) (by decide) rfl (by decide) (lw_letters h)
    · exact fs_switchIn (pc := 32) (off := 611) (tgt := 643) dl_32 (by decide) (by decide) rfl (by decide) (lw_blank h)
    · exact fs_switchIn (pc := 32) (off := 624) (tgt := 656) dl_32 (by decide) (by decide) rfl (by decide) (lw_good h)
    · exact fs_switchIn (pc := 32) (off := 637) (tgt := 669) dl_32 (by decide) (by decide) rfl (by decide) (lw_ask h)
    · exact fs_switchIn (pc := 32) (off := 650) (tgt := 682) dl_32 (by decide) (by decide) rfl (by decide) (lw_bound h)
    · exact fs_switchIn (pc := 32) (off := 693) (tgt := 725) dl_32 (by decide) (by decide) rfl (by decide) (lw_weight h)
    · exact fs_switchIn (pc := 32) (off := 726) (tgt := 758) dl_32 (by decide) (by decide) rfl (by decide) (lw_answers h)
    · exact fs_switchIn (pc := 32) (off := 749) (tgt := 781) dl_32 (by decide) (by decide) rfl (by decide) (lw_answer h)
    · exact fs_switchIn (pc := 32) (off := 782) (tgt := 814) dl_32 (by decide) (by decide) rfl (by decide) (lw_looks h)
    · exact fs_switchIn (pc := 32) (off := 815) (tgt := 847) dl_32 (by decide) (by decide) rfl (by decide) (lw_run h)
    · exact fs_switchIn (pc := 32) (off := 848) (tgt := 880) dl_32 (by decide) (by decide) rfl (by decide) (lw_best h)
    · exact fs_switchIn (pc := 32) (off := 881) (tgt := 913) dl_32 (by decide) (by decide) rfl (by decide) (lw_work h)
    · exact fs_switchIn (pc := 32) (off := 904) (tgt := 936) dl_32 (by decide) (by decide) rfl (by decide) (lw_upkeep h)
    · exact fs_switchIn (pc := 32) (off := 927) (tgt := 959) dl_32 (by decide) (by decide) rfl (by decide) (lw_choose h)
    · exact fs_switchIn (pc := 32) (off := 960) (tgt := 992) dl_32 (by decide) (by decide) rfl (by decide) (lw_steps h)
    · exact fs_switchIn (pc := 32) (off := 993) (tgt := 1025) dl_32 (by decide) (by decide) rfl (by decide) (lw_worth h)
    · exact fs_switchIn (pc := 32) (off := 1026) (tgt := 1058) dl_32 (by decide) (by decide) rfl (by decide) (lw_picture h)
    · exact fs_switchIn (pc := 32) (off := 1049) (tgt := 1081) dl_32 (by decide) (by decide) rfl (by decide) (lw_part h)
    · exact fs_switchIn (pc := 32) (off := 1092) (tgt := 1124) dl_32 (by decide) (by decide) rfl (by decide) (lw_foretold h)
    · exact fs_switchIn (pc := 32) (off := 1145) (tgt := 1177) dl_32 (by decide) (by decide) rfl (by decide) (lw_likely h)
    · exact fs_switchIn (pc := 32) (off := 1168) (tgt := 1200) dl_32 (by decide) (by decide) rfl (by decide) (lw_guess h)
    · exact fs_switchIn (pc := 32) (off := 1201) (tgt := 1233) dl_32 (by decide) (by decide) rfl (by decide) (lw_chosen h)
    · exact fs_switchIn (pc := 32) (off := 1224) (tgt := 1256) dl_32 (by decide) (by decide) rfl (by decide) (lw_regret h)
    · exact fs_switchIn (pc := 32) (off := 1247) (tgt := 1279) dl_32 (by decide) (by decide) rfl (by decide) (lw_mark h)
    · exact fs_switchIn (pc := 32) (off := 1260) (tgt := 1292) dl_32 (by decide) (by decide) rfl (by decide) (lw_back h)
    · exact fs_switchIn (pc := 32) (off := 1283) (tgt := 1315) dl_32 (by decide) (by decide) rfl (by decide) (lw_count h)
    · exact fs_switchIn (pc := 32) (off := 1306) (tgt := 1338) dl_32 (by decide) (by decide) rfl (by decide) (lw_digest h)
  · obtain ⟨ko, rm, iv, hn, hL, hz1, hz2, next⟩ := h
    exact fs_switchOut (pc := 32) (tgt := 1352) dl_32 (by omega) (by decide) (next σ R S kc ks ko rm iv rfl rfl (by omega) (by omega))
theorem law_loop (hL : L ≤ 2560) : ∀ (e n kc ks : Nat) (σ : Hs) (R : Nat → Nat) (S : SS) (r0 m0 : Nat), L + 5 ≤ n + e → n ≤ L + 5 → kc ≤ 98 + 7 * n → ks ≤ 5291 + 146 * n → KO g σ R S → RM g σ R S → Inv S → R 0 = r0 → R 300 = m0 → Fs g (SL b L xs g) (600000, 7302249, kc, ks) [(3, .int (nI n)), (2, .ref m0), (1, .ref r0), (0, .ref b)] [] 18 σ := by
  intro e
  induction e with
  | zero =>
    intro n kc ks σ R S r0 m0 he hn hk hs ko rm iv e0 e3
    refine fs_iload_n (pc := 18) 0 rfl rfl dl_18 (fs_aload_n (pc := 19) 3 rfl rfl dl_19 (fs_slen (pc := 20) dl_20 (fs_iconst (pc := 21) 5 (by decide) dl_21 (fs_isub (pc := 22) dl_22 ?_))))
    refine fs_icmp_gt (pc := 23) (tgt := 1358) (φ := True) (ψ := False) (by decide) dl_23 ⟨fun _ => trivial, fun z => z ?_⟩ (fun _ => ?_) (fun z => z.elim)
    · show nI L - nI 5 < nI n
      rw [I_lt, pk_sub_toInt (by omega) (by omega), I_n (by omega)]
      omega
    · exact fs_iconst (pc := 1358) 1 (by decide) dl_1358 (fs_end (pc := 1359) dl_1359 ⟨show kc ≤ 600000 by omega, show ks ≤ 7302249 by omega⟩)
  | succ e ih =>
    intro n kc ks σ R S r0 m0 he hn hk hs ko rm iv e0 e3
    refine fs_iload_n (pc := 18) 0 rfl rfl dl_18 (fs_aload_n (pc := 19) 3 rfl rfl dl_19 (fs_slen (pc := 20) dl_20 (fs_iconst (pc := 21) 5 (by decide) dl_21 (fs_isub (pc := 22) dl_22 ?_))))
    refine fs_icmp_gt (pc := 23) (tgt := 1358) (φ := True) (ψ := n + 5 ≤ L) (by decide) dl_23 ⟨fun _ => trivial, fun z => ?_⟩ (fun _ => ?_) (fun hn5 => ?_)
    · have z : ¬ (nI L - nI 5 < nI n) := z
      rw [I_lt, pk_sub_toInt (by omega) (by omega), I_n (by omega)] at z
      omega
    · exact fs_iconst (pc := 1358) 1 (by decide) dl_1358 (fs_end (pc := 1359) dl_1359 ⟨show kc ≤ 600000 by omega, show ks ≤ 7302249 by omega⟩)
    · subst e0
      subst e3
      refine fs_aload_n (pc := 26) 3 rfl rfl dl_26 (fs_iload_n (pc := 27) 0 rfl rfl dl_27 (fs_sld (pc := 28) (vin0 hn5 hL) dl_28 (fs_bipush (pc := 29) 63 (by decide) dl_29 (fs_iand (pc := 31) dl_31 ?_))))
      refine law_switch ⟨ko, rm, iv, hn5, hL, by omega, by omega, fun σ' R' S' kc' ks' ko' rm' iv' f0 f3 hk' hs' => ?_⟩ _
      refine fs_iinc (pc := 1352) (lv' := [(3, .int (nI n + 5)), (2, .ref (R 300)), (1, .ref (R 0)), (0, .ref b)]) (nI n + 5) 0 rfl (congrArg (fun z => nI n + z) (by decide)) (by decide) rfl dl_1352 (fs_goto (pc := 1355) (tgt := 18) (by decide) dl_1355 ?_)
      rw [show nI n + 5 = nI (n + 5) from nI_add n 5]
      exact ih (n + 5) kc' ks' σ' R' S' (R 0) (R 300) (by omega) (by omega) (by omega) (by omega) ko' rm' iv' f0 f3
/-- no cell -/
def s00 : Hs := ([], fun _ => .inr (0, []))
def d11 : List Value := [.null, .null, .null, .null, .null, .null, .null, .int 0, .int 0]
def d12 : List Value := [.null, .null, .int 0, .int 0, .int 0, .null, .null, .null, .null, .null, .null, .null, .int 0, .null, .int 0, .null, .null, .null, .null, .int 0, .int 0, .int 0, .null, .null, .int 0, .int 0, .null, .null, .int 0, .int 0, .int 0, .null, .int 0, .int 0, .null, .int 0, .int 0, .null, .null, .long 0]
theorem law_begin (hL : L ≤ 2560) : Fs g (SL b L xs g) (600000, 7302249, 0, 0) [(0, .ref b)] [] 0 s00 := by
  refine fs_new (pc := 0) (φ := fun q s => q ∉ s00.1 ∧ s = hpush s00 q (.inr (11, d11))) d11 kc_X11 df_X11 ⟨lc_c7, li_X11, ln_X11⟩ dl_0 ⟨show 0 + 1 ≤ 600000 by omega, show 0 + 9 ≤ 7302249 by omega⟩ (Z' := (600000, 7302249, 1, 9)) rfl (fun q hq => ⟨hq, rfl⟩) (fun r0 σ1 h1 => ?_)
  obtain ⟨hr, rfl⟩ := h1
  refine fs_dup (pc := 3) rfl dl_3 ?_
  refine fs_callI_Va (pc := 4) (As := []) (st := [.ref r0]) wd_X11_init lk_9 ok_X11_init (by decide) rfl (Nat.le_of_ble_eq_true rfl) dl_4 ⟨show 1 + 74 ≤ 600000 by omega, show 9 + 1970 ≤ 7302249 by omega⟩ (Z' := (600000, 7302249, 75, 1979)) rfl rfl rfl (wr_xinit Ce.psh rfl) (fun σ2 h2 => ?_)
  obtain ⟨R1, e1, K, W1⟩ := h2
  refine fs_astore_n (pc := 7) (lv' := [(1, .ref r0), (0, .ref b)]) rfl (by decide) rfl dl_7 ?_
  refine fs_new (pc := 8) (φ := fun q s => q ∉ σ2.1 ∧ s = hpush σ2 q (.inr (12, d12))) d12 kc_X12 df_X12 ⟨lc_c10, li_X12, ln_X12⟩ dl_8 ⟨show 75 + 1 ≤ 600000 by omega, show 1979 + 40 ≤ 7302249 by omega⟩ (Z' := (600000, 7302249, 76, 2019)) rfl (fun q hq => ⟨hq, rfl⟩) (fun m0 σ3 h3 => ?_)
  obtain ⟨hm, rfl⟩ := h3
  refine fs_dup (pc := 11) rfl dl_11 ?_
  refine fs_callI_Va (pc := 12) (As := []) (st := [.ref m0]) wd_X12_init lk_12 ok_X12_init (by decide) rfl (Nat.le_of_ble_eq_true rfl) dl_12 ⟨show 76 + 22 ≤ 600000 by omega, show 2019 + 3272 ≤ 7302249 by omega⟩ (Z' := (600000, 7302249, 98, 5291)) rfl rfl rfl (wr_minitM Ce.psh) (fun σ4 h4 => ?_)
  obtain ⟨R2, e2, M, W2⟩ := h4
  obtain ⟨R, f0, f3, ko, rm⟩ := both_made rfl hr W1 e1 K hm W2 e2 M
  refine fs_astore_n (pc := 15) (lv' := [(2, .ref m0), (1, .ref r0), (0, .ref b)]) rfl (by decide) rfl dl_15 ?_
  refine fs_iconst (pc := 16) 0 (by decide) dl_16 ?_
  refine fs_istore_n (pc := 17) (lv' := [(3, .int 0), (2, .ref m0), (1, .ref r0), (0, .ref b)]) rfl (by decide) rfl dl_17 ?_
  exact law_loop hL (L + 5) 0 98 5291 σ4 R S0 r0 m0 (by omega) (by omega) (by omega) (by omega) ko rm Inv0 f0 f3
end LOP
