set_option maxHeartbeats 4000000 in
set_option maxRecDepth 100000 in
theorem q_X1_init {g : GG} {σ : Hs} {post : Option Value → Hs → Prop} (cM sM : Nat) (r0 : Nat) (p0 : Int32) (hW : (p0 ≤ 0 → ((0) + 1 ≤ cM ∧ (0) + 0 ≤ sM) ∧ NA g σ 0 0 ndef (fun r1 s2 => PF s2 r0 1 0 (.ref r1) (fun s3 => ((1) ≤ cM ∧ (0) ≤ sM) ∧ post none s3))) ∧ (¬ p0 ≤ 0 → ¬ p0 < 0 ∧ p0.toNatClampNeg ≤ 60000000 ∧ ((0) + 1 ≤ cM ∧ (0) + p0.toNatClampNeg ≤ sM) ∧ NA g σ 0 p0 ndef (fun r4 s5 => PF s5 r0 1 0 (.ref r4) (fun s6 => ((1) ≤ cM ∧ (0 + p0.toNatClampNeg) ≤ sM) ∧ post none s6)))) : Do g M_X1_init cM sM [.ref r0, .int p0] σ post := by
  refine Do.of (by decide +kernel) (Nat.le_of_ble_eq_true rfl) ?_
  show Fr g M_X1_init (cM, sM, 0, 0) [(0, .ref r0), (1, .int p0)] [] 0 σ post
  refine fr_aload_n (pc := 0) 0 rfl rfl dX1_init_0 ?_
  refine fr_obj (pc := 1) ⟨w_502, w_503, w_504⟩ (by decide) (Nat.le_of_ble_eq_true rfl) dX1_init_1 ?_
  refine fr_aload_n (pc := 4) 0 rfl rfl dX1_init_4 ?_
  refine fr_iload_n (pc := 5) 1 rfl rfl dX1_init_5 ?_
  refine fr_if_le (pc := 6) (tgt := 13) (by decide) dX1_init_6 hW (fun hW => ?_) (fun hW => ?_)
  · refine fr_iconst (pc := 13) 0 (by decide) dX1_init_13 ?_
    obtain ⟨hz, hW⟩ := hW
    refine fr_newI (pc := 14) 0 .int (Or.inl ⟨rfl, rfl⟩) w_500 dX1_init_14 (by decide) (by decide) hz (Z' := (cM, sM, 1, 0)) rfl hW (fun r1 s2 hW => ?_)
    refine fr_putF (pc := 16) (T := TX1) (k := 0) kc_X1 (by decide) w_501 rfl rfl rfl rfl rfl dX1_init_16 hW (fun s3 hW => ?_)
    obtain ⟨hz, hW⟩ := hW
    exact fr_ret (pc := 19) dX1_init_19 rfl hz hW
  · refine fr_iload_n (pc := 9) 1 rfl rfl dX1_init_9 ?_
    refine fr_goto (pc := 10) (tgt := 14) (by decide) dX1_init_10 ?_
    obtain ⟨hn1, hn2, hz, hW⟩ := hW
    refine fr_newI (pc := 14) 0 .int (Or.inl ⟨rfl, rfl⟩) w_500 dX1_init_14 hn1 hn2 hz (Z' := (cM, sM, 1, 0 + p0.toNatClampNeg)) rfl hW (fun r4 s5 hW => ?_)
    refine fr_putF (pc := 16) (T := TX1) (k := 0) kc_X1 (by decide) w_501 rfl rfl rfl rfl rfl dX1_init_16 hW (fun s6 hW => ?_)
    obtain ⟨hz, hW⟩ := hW
    exact fr_ret (pc := 19) dX1_init_19 rfl hz hW
set_option maxHeartbeats 4000000 in
set_option maxRecDepth 100000 in
theorem q_X6_init {g : GG} {σ : Hs} {post : Option Value → Hs → Prop} (cM sM : Nat) (r0 : Nat) (hW : ((0) + 1 ≤ cM ∧ (0) + 1 ≤ sM) ∧ NW σ 1 [.null] (fun r1 s2 => ∃ mc4 ms5 : Nat, ((1) + mc4 ≤ cM ∧ (1) + ms5 ≤ sM) ∧ Do g M_X1_init mc4 ms5 [.ref r1, .int 4] s2 (kV (fun s3 => PF s3 r0 6 0 (.ref r1) (fun s6 => ((1 + mc4) + 1 ≤ cM ∧ (1 + ms5) + 1 ≤ sM) ∧ NW s6 1 [.null] (fun r7 s8 => ∃ mc10 ms11 : Nat, ((1 + mc4 + 1) + mc10 ≤ cM ∧ (1 + ms5 + 1) + ms11 ≤ sM) ∧ Do g M_X1_init mc10 ms11 [.ref r7, .int 4] s8 (kV (fun s9 => PF s9 r0 6 1 (.ref r7) (fun s12 => ((1 + mc4 + 1 + mc10) ≤ cM ∧ (1 + ms5 + 1 + ms11) ≤ sM) ∧ post none s12))))))))) : Do g M_X6_init cM sM [.ref r0] σ post := by
  refine Do.of (by decide +kernel) (Nat.le_of_ble_eq_true rfl) ?_
  show Fr g M_X6_init (cM, sM, 0, 0) [(0, .ref r0)] [] 0 σ post
  refine fr_aload_n (pc := 0) 0 rfl rfl dX6_init_0 ?_
  refine fr_obj (pc := 1) ⟨w_509, w_503, w_504⟩ (by decide) (Nat.le_of_ble_eq_true rfl) dX6_init_1 ?_
  refine fr_aload_n (pc := 4) 0 rfl rfl dX6_init_4 ?_
  obtain ⟨hz, hW⟩ := hW
  refine fr_new (pc := 5) [.null] kc_X1 df_X1 ⟨w_505, w_506, w_1⟩ dX6_init_5 hz (Z' := (cM, sM, 1, 1)) rfl hW (fun r1 s2 hW => ?_)
  refine fr_dup (pc := 8) rfl dX6_init_8 ?_
  refine fr_iconst (pc := 9) 4 (by decide) dX6_init_9 ?_
  obtain ⟨mc4, ms5, hz, hW⟩ := hW
  refine fr_callI_Va (pc := 10) (As := [.int 4]) (st := [.ref r1, .ref r0]) wd_X1_init w_510 ok_X1_init (by decide) rfl (Nat.le_of_ble_eq_true rfl) dX6_init_10 hz (Z' := (cM, sM, 1 + mc4, 1 + ms5)) rfl rfl rfl hW (fun s3 hW => ?_)
  refine fr_putF (pc := 13) (T := TX6) (k := 0) kc_X6 (by decide) w_507 rfl rfl rfl rfl rfl dX6_init_13 hW (fun s6 hW => ?_)
  refine fr_aload_n (pc := 16) 0 rfl rfl dX6_init_16 ?_
  obtain ⟨hz, hW⟩ := hW
  refine fr_new (pc := 17) [.null] kc_X1 df_X1 ⟨w_505, w_506, w_1⟩ dX6_init_17 hz (Z' := (cM, sM, 1 + mc4 + 1, 1 + ms5 + 1)) rfl hW (fun r7 s8 hW => ?_)
  refine fr_dup (pc := 20) rfl dX6_init_20 ?_
  refine fr_iconst (pc := 21) 4 (by decide) dX6_init_21 ?_
  obtain ⟨mc10, ms11, hz, hW⟩ := hW
  refine fr_callI_Va (pc := 22) (As := [.int 4]) (st := [.ref r7, .ref r0]) wd_X1_init w_510 ok_X1_init (by decide) rfl (Nat.le_of_ble_eq_true rfl) dX6_init_22 hz (Z' := (cM, sM, 1 + mc4 + 1 + mc10, 1 + ms5 + 1 + ms11)) rfl rfl rfl hW (fun s9 hW => ?_)
  refine fr_putF (pc := 25) (T := TX6) (k := 1) kc_X6 (by decide) w_508 rfl rfl rfl rfl rfl dX6_init_25 hW (fun s12 hW => ?_)
  obtain ⟨hz, hW⟩ := hW
  exact fr_ret (pc := 28) dX6_init_28 rfl hz hW
set_option maxHeartbeats 4000000 in
set_option maxRecDepth 100000 in
theorem q_X7_init {g : GG} {σ : Hs} {post : Option Value → Hs → Prop} (cM sM : Nat) (r0 : Nat) (hW : ((0) + 1 ≤ cM ∧ (0) + 1 ≤ sM) ∧ NW σ 1 [.null] (fun r1 s2 => ∃ mc4 ms5 : Nat, ((1) + mc4 ≤ cM ∧ (1) + ms5 ≤ sM) ∧ Do g M_X1_init mc4 ms5 [.ref r1, .int 60] s2 (kV (fun s3 => PF s3 r0 7 0 (.ref r1) (fun s6 => ((1 + mc4) + 1 ≤ cM ∧ (1 + ms5) + 7 ≤ sM) ∧ NW s6 6 [.null, .null, .int 0, .int 0, .int 0, .int 0, .int 0] (fun r7 s8 => ∃ mc10 ms11 : Nat, ((1 + mc4 + 1) + mc10 ≤ cM ∧ (1 + ms5 + 7) + ms11 ≤ sM) ∧ Do g M_X6_init mc10 ms11 [.ref r7] s8 (kV (fun s9 => PF s9 r0 7 2 (.ref r7) (fun s12 => ((1 + mc4 + 1 + mc10) ≤ cM ∧ (1 + ms5 + 7 + ms11) ≤ sM) ∧ post none s12))))))))) : Do g M_X7_init cM sM [.ref r0] σ post := by
  refine Do.of (by decide +kernel) (Nat.le_of_ble_eq_true rfl) ?_
  show Fr g M_X7_init (cM, sM, 0, 0) [(0, .ref r0)] [] 0 σ post
  refine fr_aload_n (pc := 0) 0 rfl rfl dX7_init_0 ?_
  refine fr_obj (pc := 1) ⟨w_516, w_503, w_504⟩ (by decide) (Nat.le_of_ble_eq_true rfl) dX7_init_1 ?_
  refine fr_aload_n (pc := 4) 0 rfl rfl dX7_init_4 ?_
  obtain ⟨hz, hW⟩ := hW
  refine fr_new (pc := 5) [.null] kc_X1 df_X1 ⟨w_511, w_506, w_1⟩ dX7_init_5 hz (Z' := (cM, sM, 1, 1)) rfl hW (fun r1 s2 hW => ?_)
  refine fr_dup (pc := 8) rfl dX7_init_8 ?_
  refine fr_bipush (pc := 9) 60 (by decide) dX7_init_9 ?_
  obtain ⟨mc4, ms5, hz, hW⟩ := hW
  refine fr_callI_Va (pc := 11) (As := [.int 60]) (st := [.ref r1, .ref r0]) wd_X1_init w_517 ok_X1_init (by decide) rfl (Nat.le_of_ble_eq_true rfl) dX7_init_11 hz (Z' := (cM, sM, 1 + mc4, 1 + ms5)) rfl rfl rfl hW (fun s3 hW => ?_)
  refine fr_putF (pc := 14) (T := TX7) (k := 0) kc_X7 (by decide) w_512 rfl rfl rfl rfl rfl dX7_init_14 hW (fun s6 hW => ?_)
  refine fr_aload_n (pc := 17) 0 rfl rfl dX7_init_17 ?_
  obtain ⟨hz, hW⟩ := hW
  refine fr_new (pc := 18) [.null, .null, .int 0, .int 0, .int 0, .int 0, .int 0] kc_X6 df_X6 ⟨w_513, w_514, w_4⟩ dX7_init_18 hz (Z' := (cM, sM, 1 + mc4 + 1, 1 + ms5 + 7)) rfl hW (fun r7 s8 hW => ?_)
  refine fr_dup (pc := 21) rfl dX7_init_21 ?_
  obtain ⟨mc10, ms11, hz, hW⟩ := hW
  refine fr_callIN_Va (pc := 22) (As := []) (st := [.ref r7, .ref r0]) wd_X6_init ⟨RX11, by decide +kernel⟩ ok_X6_init (by decide) rfl (Nat.le_of_ble_eq_true rfl) dX7_init_22 hz (Z' := (cM, sM, 1 + mc4 + 1 + mc10, 1 + ms5 + 7 + ms11)) rfl rfl rfl hW (fun s9 hW => ?_)
  refine fr_put (pc := 25) (T := TX7) (k := 2) kc_X7 (by decide) w_515 rfl rfl rfl dX7_init_25 hW (fun s12 hW => ?_)
  obtain ⟨hz, hW⟩ := hW
  exact fr_ret (pc := 28) dX7_init_28 rfl hz hW
set_option maxHeartbeats 4000000 in
set_option maxRecDepth 100000 in
theorem q_X8_init {g : GG} {σ : Hs} {post : Option Value → Hs → Prop} (cM sM : Nat) (r0 : Nat) (hW : ((0) + 1 ≤ cM ∧ (0) + 1 ≤ sM) ∧ NW σ 1 [.null] (fun r1 s2 => ∃ mc4 ms5 : Nat, ((1) + mc4 ≤ cM ∧ (1) + ms5 ≤ sM) ∧ Do g M_X1_init mc4 ms5 [.ref r1, .int 256] s2 (kV (fun s3 => PF s3 r0 8 0 (.ref r1) (fun s6 => PF s6 r0 8 2 (.int 4) (fun s7 => ((1 + mc4) ≤ cM ∧ (1 + ms5) ≤ sM) ∧ post none s7)))))) : Do g M_X8_init cM sM [.ref r0] σ post := by
  refine Do.of (by decide +kernel) (Nat.le_of_ble_eq_true rfl) ?_
  show Fr g M_X8_init (cM, sM, 0, 0) [(0, .ref r0)] [] 0 σ post
  refine fr_aload_n (pc := 0) 0 rfl rfl dX8_init_0 ?_
  refine fr_obj (pc := 1) ⟨w_521, w_503, w_504⟩ (by decide) (Nat.le_of_ble_eq_true rfl) dX8_init_1 ?_
  refine fr_aload_n (pc := 4) 0 rfl rfl dX8_init_4 ?_
  obtain ⟨hz, hW⟩ := hW
  refine fr_new (pc := 5) [.null] kc_X1 df_X1 ⟨w_518, w_506, w_1⟩ dX8_init_5 hz (Z' := (cM, sM, 1, 1)) rfl hW (fun r1 s2 hW => ?_)
  refine fr_dup (pc := 8) rfl dX8_init_8 ?_
  refine fr_sipush (pc := 9) 256 (by decide) dX8_init_9 ?_
  obtain ⟨mc4, ms5, hz, hW⟩ := hW
  refine fr_callI_Va (pc := 12) (As := [.int 256]) (st := [.ref r1, .ref r0]) wd_X1_init w_522 ok_X1_init (by decide) rfl (Nat.le_of_ble_eq_true rfl) dX8_init_12 hz (Z' := (cM, sM, 1 + mc4, 1 + ms5)) rfl rfl rfl hW (fun s3 hW => ?_)
  refine fr_putF (pc := 15) (T := TX8) (k := 0) kc_X8 (by decide) w_519 rfl rfl rfl rfl rfl dX8_init_15 hW (fun s6 hW => ?_)
  refine fr_aload_n (pc := 18) 0 rfl rfl dX8_init_18 ?_
  refine fr_iconst (pc := 19) 4 (by decide) dX8_init_19 ?_
  refine fr_put (pc := 20) (T := TX8) (k := 2) kc_X8 (by decide) w_520 rfl rfl rfl dX8_init_20 hW (fun s7 hW => ?_)
  obtain ⟨hz, hW⟩ := hW
  exact fr_ret (pc := 23) dX8_init_23 rfl hz hW
def J_X0_init_14 (g : GG) (post : Option Value → Hs → Prop) (cM sM kM nM : Nat) (σ : Hs) (a0 : Nat) (v1 : Int32) : Prop := Fr g M_X0_init (cM, sM, kM, nM) [(0, .ref a0), (1, .int v1)] [] 14 σ post
set_option maxHeartbeats 4000000 in
set_option maxRecDepth 100000 in
theorem q_X0_init {g : GG} {σ : Hs} {post : Option Value → Hs → Prop} (cM sM : Nat) (r0 : Nat) (hW : ((0) + 1 ≤ cM ∧ (0) + 3 ≤ sM) ∧ NA g σ 7 3 ndef (fun r1 s2 => PF s2 r0 0 0 (.ref r1) (fun s3 => J_X0_init_14 g post cM sM 1 3 s3 r0 0 ))) : Do g M_X0_init cM sM [.ref r0] σ post := by
  refine Do.of (by decide +kernel) (Nat.le_of_ble_eq_true rfl) ?_
  show Fr g M_X0_init (cM, sM, 0, 0) [(0, .ref r0)] [] 0 σ post
  refine fr_aload_n (pc := 0) 0 rfl rfl dX0_init_0 ?_
  refine fr_obj (pc := 1) ⟨w_526, w_503, w_504⟩ (by decide) (Nat.le_of_ble_eq_true rfl) dX0_init_1 ?_
  refine fr_aload_n (pc := 4) 0 rfl rfl dX0_init_4 ?_
  refine fr_iconst (pc := 5) 3 (by decide) dX0_init_5 ?_
  obtain ⟨hz, hW⟩ := hW
  refine fr_newR (pc := 6) (C := RX8) 7 rfl (fun _ => rfl) w_523 (by decide) dX0_init_6 (by decide) (by decide) hz (Z' := (cM, sM, 1, 3)) rfl hW (fun r1 s2 hW => ?_)
  refine fr_putF (pc := 9) (T := TX0) (k := 0) kc_X0 (by decide) w_524 rfl rfl rfl rfl rfl dX0_init_9 hW (fun s3 hW => ?_)
  refine fr_iconst (pc := 12) 0 (by decide) dX0_init_12 ?_
  refine fr_istore_n (pc := 13) (lv' := [(1, .int 0), (0, .ref r0)]) rfl (by decide) rfl dX0_init_13 ?_
  exact fr_sub [1, 0] rfl hW
set_option maxHeartbeats 4000000 in
set_option maxRecDepth 100000 in
theorem q_X0_init_14 {g : GG} {σ : Hs} {post : Option Value → Hs → Prop} (cM sM kM nM : Nat) (a0 : Nat) (v1 : Int32) (hW : FR σ a0 0 0 (fun r4 => AN g σ r4 7 (fun i5 => (i5 ≤ v1 → ((kM) ≤ cM ∧ (nM) ≤ sM) ∧ post none σ) ∧ (¬ i5 ≤ v1 → FR σ a0 0 0 (fun r6 => ((kM) + 1 ≤ cM ∧ (nM) + 3 ≤ sM) ∧ NW σ 8 [.null, .long 0, .int 0] (fun r7 s8 => ∃ mc10 ms11 : Nat, ((kM + 1) + mc10 ≤ cM ∧ (nM + 3) + ms11 ≤ sM) ∧ Do g M_X8_init mc10 ms11 [.ref r7] s8 (kV (fun s9 => SR g s9 r6 7 8 v1 r7 (fun s12 => J_X0_init_14 g post cM sM (kM + 1 + mc10) (nM + 3 + ms11) s12 a0 ((v1 + 1)) ))))))))) : J_X0_init_14 g post cM sM kM nM σ a0 v1 := by
  show Fr g M_X0_init (cM, sM, kM, nM) [(0, .ref a0), (1, .int v1)] [] 14 σ post
  refine fr_iload_n (pc := 14) 1 rfl rfl dX0_init_14 ?_
  refine fr_aload_n (pc := 15) 0 rfl rfl dX0_init_15 ?_
  refine fr_getR (pc := 16) (T := TX0) (k := 0) kc_X0 (by decide) w_524 dX0_init_16 hW (fun r4 hW => ?_)
  refine fr_alen (pc := 19) 7 (fun _ => rfl) dX0_init_19 hW (fun i5 hW => ?_)
  refine fr_icmp_ge (pc := 20) (tgt := 42) (by decide) dX0_init_20 hW (fun hW => ?_) (fun hW => ?_)
  · obtain ⟨hz, hW⟩ := hW
    exact fr_ret (pc := 42) dX0_init_42 rfl hz hW
  · refine fr_aload_n (pc := 23) 0 rfl rfl dX0_init_23 ?_
    refine fr_getR (pc := 24) (T := TX0) (k := 0) kc_X0 (by decide) w_524 dX0_init_24 hW (fun r6 hW => ?_)
    refine fr_iload_n (pc := 27) 1 rfl rfl dX0_init_27 ?_
    obtain ⟨hz, hW⟩ := hW
    refine fr_new (pc := 28) [.null, .long 0, .int 0] kc_X8 df_X8 ⟨w_523, w_525, w_10⟩ dX0_init_28 hz (Z' := (cM, sM, kM + 1, nM + 3)) rfl hW (fun r7 s8 hW => ?_)
    refine fr_dup (pc := 31) rfl dX0_init_31 ?_
    obtain ⟨mc10, ms11, hz, hW⟩ := hW
    refine fr_callIN_Va (pc := 32) (As := []) (st := [.ref r7, .int v1, .ref r6]) wd_X8_init ⟨RX11, by decide +kernel⟩ ok_X8_init (by decide) rfl (Nat.le_of_ble_eq_true rfl) dX0_init_32 hz (Z' := (cM, sM, kM + 1 + mc10, nM + 3 + ms11)) rfl rfl rfl hW (fun s9 hW => ?_)
    refine fr_aast (pc := 35) 7 kc_X8 (fun _ => rfl) dX0_init_35 hW (fun s12 hW => ?_)
    refine fr_iinc (pc := 36) (lv' := [(1, .int (v1 + 1)), (0, .ref a0)]) (v1 + 1) 1 rfl (congrArg (fun z => v1 + z) (by decide)) (by decide) rfl dX0_init_36 ?_
    refine fr_goto (pc := 39) (tgt := 14) (by decide) dX0_init_39 ?_
    exact fr_sub [1, 0] rfl hW
set_option maxHeartbeats 4000000 in
set_option maxRecDepth 100000 in
theorem q_X3_init {g : GG} {σ : Hs} {post : Option Value → Hs → Prop} (cM sM : Nat) (r0 : Nat) (p0 : Nat) (hW : ((0) + 1 ≤ cM ∧ (0) + 8 ≤ sM) ∧ NA g σ 4 8 ndef (fun r1 s2 => PF s2 r0 3 1 (.ref r1) (fun s3 => PF s3 r0 3 0 (.ref p0) (fun s4 => ((1) ≤ cM ∧ (8) ≤ sM) ∧ post none s4)))) : Do g M_X3_init cM sM [.ref r0, .ref p0] σ post := by
  refine Do.of (by decide +kernel) (Nat.le_of_ble_eq_true rfl) ?_
  show Fr g M_X3_init (cM, sM, 0, 0) [(0, .ref r0), (1, .ref p0)] [] 0 σ post
  refine fr_aload_n (pc := 0) 0 rfl rfl dX3_init_0 ?_
  refine fr_obj (pc := 1) ⟨w_530, w_503, w_504⟩ (by decide) (Nat.le_of_ble_eq_true rfl) dX3_init_1 ?_
  refine fr_aload_n (pc := 4) 0 rfl rfl dX3_init_4 ?_
  refine fr_bipush (pc := 5) 8 (by decide) dX3_init_5 ?_
  obtain ⟨hz, hW⟩ := hW
  refine fr_newR (pc := 7) (C := RX2) 4 rfl (fun _ => rfl) w_527 (by decide) dX3_init_7 (by decide) (by decide) hz (Z' := (cM, sM, 1, 8)) rfl hW (fun r1 s2 hW => ?_)
  refine fr_putF (pc := 10) (T := TX3) (k := 1) kc_X3 (by decide) w_528 rfl rfl rfl rfl rfl dX3_init_10 hW (fun s3 hW => ?_)
  refine fr_aload_n (pc := 13) 0 rfl rfl dX3_init_13 ?_
  refine fr_aload_n (pc := 14) 1 rfl rfl dX3_init_14 ?_
  refine fr_putF (pc := 15) (T := TX3) (k := 0) kc_X3 (by decide) w_529 rfl rfl rfl rfl rfl dX3_init_15 hW (fun s4 hW => ?_)
  obtain ⟨hz, hW⟩ := hW
  exact fr_ret (pc := 18) dX3_init_18 rfl hz hW
set_option maxHeartbeats 4000000 in
set_option maxRecDepth 100000 in
theorem q_X9_init {g : GG} {σ : Hs} {post : Option Value → Hs → Prop} (cM sM : Nat) (r0 : Nat) (p0 : Nat) (p1 : Nat) (hW : ((0) + 1 ≤ cM ∧ (0) + 1 ≤ sM) ∧ NW σ 1 [.null] (fun r1 s2 => ∃ mc4 ms5 : Nat, ((1) + mc4 ≤ cM ∧ (1) + ms5 ≤ sM) ∧ Do g M_X1_init mc4 ms5 [.ref r1, .int 37] s2 (kV (fun s3 => PF s3 r0 9 2 (.ref r1) (fun s6 => ((1 + mc4) + 1 ≤ cM ∧ (1 + ms5) + 1 ≤ sM) ∧ NW s6 1 [.null] (fun r7 s8 => ∃ mc10 ms11 : Nat, ((1 + mc4 + 1) + mc10 ≤ cM ∧ (1 + ms5 + 1) + ms11 ≤ sM) ∧ Do g M_X1_init mc10 ms11 [.ref r7, .int 37] s8 (kV (fun s9 => PF s9 r0 9 3 (.ref r7) (fun s12 => ((1 + mc4 + 1 + mc10) + 1 ≤ cM ∧ (1 + ms5 + 1 + ms11) + 1 ≤ sM) ∧ NW s12 1 [.null] (fun r13 s14 => ∃ mc16 ms17 : Nat, ((1 + mc4 + 1 + mc10 + 1) + mc16 ≤ cM ∧ (1 + ms5 + 1 + ms11 + 1) + ms17 ≤ sM) ∧ Do g M_X1_init mc16 ms17 [.ref r13, .int 37] s14 (kV (fun s15 => PF s15 r0 9 4 (.ref r13) (fun s18 => ((1 + mc4 + 1 + mc10 + 1 + mc16) + 1 ≤ cM ∧ (1 + ms5 + 1 + ms11 + 1 + ms17) + 1 ≤ sM) ∧ NW s18 1 [.null] (fun r19 s20 => ∃ mc22 ms23 : Nat, ((1 + mc4 + 1 + mc10 + 1 + mc16 + 1) + mc22 ≤ cM ∧ (1 + ms5 + 1 + ms11 + 1 + ms17 + 1) + ms23 ≤ sM) ∧ Do g M_X1_init mc22 ms23 [.ref r19, .int 8] s20 (kV (fun s21 => PF s21 r0 9 5 (.ref r19) (fun s24 => ((1 + mc4 + 1 + mc10 + 1 + mc16 + 1 + mc22) + 1 ≤ cM ∧ (1 + ms5 + 1 + ms11 + 1 + ms17 + 1 + ms23) + 8 ≤ sM) ∧ NA g s24 3 8 ndef (fun r25 s26 => PF s26 r0 9 6 (.ref r25) (fun s27 => PF s27 r0 9 0 (.ref p0) (fun s28 => PF s28 r0 9 1 (.ref p1) (fun s29 => ((1 + mc4 + 1 + mc10 + 1 + mc16 + 1 + mc22 + 1) ≤ cM ∧ (1 + ms5 + 1 + ms11 + 1 + ms17 + 1 + ms23 + 8) ≤ sM) ∧ post none s29))))))))))))))))))))) : Do g M_X9_init cM sM [.ref r0, .ref p0, .ref p1] σ post := by
  refine Do.of (by decide +kernel) (Nat.le_of_ble_eq_true rfl) ?_
  show Fr g M_X9_init (cM, sM, 0, 0) [(0, .ref r0), (1, .ref p0), (2, .ref p1)] [] 0 σ post
  refine fr_aload_n (pc := 0) 0 rfl rfl dX9_init_0 ?_
  refine fr_obj (pc := 1) ⟨w_540, w_503, w_504⟩ (by decide) (Nat.le_of_ble_eq_true rfl) dX9_init_1 ?_
  refine fr_aload_n (pc := 4) 0 rfl rfl dX9_init_4 ?_
  obtain ⟨hz, hW⟩ := hW
  refine fr_new (pc := 5) [.null] kc_X1 df_X1 ⟨w_531, w_506, w_1⟩ dX9_init_5 hz (Z' := (cM, sM, 1, 1)) rfl hW (fun r1 s2 hW => ?_)
  refine fr_dup (pc := 8) rfl dX9_init_8 ?_
  refine fr_bipush (pc := 9) 37 (by decide) dX9_init_9 ?_
  obtain ⟨mc4, ms5, hz, hW⟩ := hW
  refine fr_callI_Va (pc := 11) (As := [.int 37]) (st := [.ref r1, .ref r0]) wd_X1_init w_541 ok_X1_init (by decide) rfl (Nat.le_of_ble_eq_true rfl) dX9_init_11 hz (Z' := (cM, sM, 1 + mc4, 1 + ms5)) rfl rfl rfl hW (fun s3 hW => ?_)
  refine fr_putF (pc := 14) (T := TX9) (k := 2) kc_X9 (by decide) w_532 rfl rfl rfl rfl rfl dX9_init_14 hW (fun s6 hW => ?_)
  refine fr_aload_n (pc := 17) 0 rfl rfl dX9_init_17 ?_
  obtain ⟨hz, hW⟩ := hW
  refine fr_new (pc := 18) [.null] kc_X1 df_X1 ⟨w_531, w_506, w_1⟩ dX9_init_18 hz (Z' := (cM, sM, 1 + mc4 + 1, 1 + ms5 + 1)) rfl hW (fun r7 s8 hW => ?_)
  refine fr_dup (pc := 21) rfl dX9_init_21 ?_
  refine fr_bipush (pc := 22) 37 (by decide) dX9_init_22 ?_
  obtain ⟨mc10, ms11, hz, hW⟩ := hW
  refine fr_callI_Va (pc := 24) (As := [.int 37]) (st := [.ref r7, .ref r0]) wd_X1_init w_541 ok_X1_init (by decide) rfl (Nat.le_of_ble_eq_true rfl) dX9_init_24 hz (Z' := (cM, sM, 1 + mc4 + 1 + mc10, 1 + ms5 + 1 + ms11)) rfl rfl rfl hW (fun s9 hW => ?_)
  refine fr_putF (pc := 27) (T := TX9) (k := 3) kc_X9 (by decide) w_533 rfl rfl rfl rfl rfl dX9_init_27 hW (fun s12 hW => ?_)
  refine fr_aload_n (pc := 30) 0 rfl rfl dX9_init_30 ?_
  obtain ⟨hz, hW⟩ := hW
  refine fr_new (pc := 31) [.null] kc_X1 df_X1 ⟨w_531, w_506, w_1⟩ dX9_init_31 hz (Z' := (cM, sM, 1 + mc4 + 1 + mc10 + 1, 1 + ms5 + 1 + ms11 + 1)) rfl hW (fun r13 s14 hW => ?_)
  refine fr_dup (pc := 34) rfl dX9_init_34 ?_
  refine fr_bipush (pc := 35) 37 (by decide) dX9_init_35 ?_
  obtain ⟨mc16, ms17, hz, hW⟩ := hW
  refine fr_callI_Va (pc := 37) (As := [.int 37]) (st := [.ref r13, .ref r0]) wd_X1_init w_541 ok_X1_init (by decide) rfl (Nat.le_of_ble_eq_true rfl) dX9_init_37 hz (Z' := (cM, sM, 1 + mc4 + 1 + mc10 + 1 + mc16, 1 + ms5 + 1 + ms11 + 1 + ms17)) rfl rfl rfl hW (fun s15 hW => ?_)
  refine fr_putF (pc := 40) (T := TX9) (k := 4) kc_X9 (by decide) w_534 rfl rfl rfl rfl rfl dX9_init_40 hW (fun s18 hW => ?_)
  refine fr_aload_n (pc := 43) 0 rfl rfl dX9_init_43 ?_
  obtain ⟨hz, hW⟩ := hW
  refine fr_new (pc := 44) [.null] kc_X1 df_X1 ⟨w_531, w_506, w_1⟩ dX9_init_44 hz (Z' := (cM, sM, 1 + mc4 + 1 + mc10 + 1 + mc16 + 1, 1 + ms5 + 1 + ms11 + 1 + ms17 + 1)) rfl hW (fun r19 s20 hW => ?_)
  refine fr_dup (pc := 47) rfl dX9_init_47 ?_
  refine fr_bipush (pc := 48) 8 (by decide) dX9_init_48 ?_
  obtain ⟨mc22, ms23, hz, hW⟩ := hW
  refine fr_callI_Va (pc := 50) (As := [.int 8]) (st := [.ref r19, .ref r0]) wd_X1_init w_541 ok_X1_init (by decide) rfl (Nat.le_of_ble_eq_true rfl) dX9_init_50 hz (Z' := (cM, sM, 1 + mc4 + 1 + mc10 + 1 + mc16 + 1 + mc22, 1 + ms5 + 1 + ms11 + 1 + ms17 + 1 + ms23)) rfl rfl rfl hW (fun s21 hW => ?_)
  refine fr_putF (pc := 53) (T := TX9) (k := 5) kc_X9 (by decide) w_535 rfl rfl rfl rfl rfl dX9_init_53 hW (fun s24 hW => ?_)
  refine fr_aload_n (pc := 56) 0 rfl rfl dX9_init_56 ?_
  refine fr_bipush (pc := 57) 8 (by decide) dX9_init_57 ?_
  obtain ⟨hz, hW⟩ := hW
  refine fr_newI (pc := 59) 3 .long (Or.inr ⟨rfl, rfl⟩) w_536 dX9_init_59 (by decide) (by decide) hz (Z' := (cM, sM, 1 + mc4 + 1 + mc10 + 1 + mc16 + 1 + mc22 + 1, 1 + ms5 + 1 + ms11 + 1 + ms17 + 1 + ms23 + 8)) rfl hW (fun r25 s26 hW => ?_)
  refine fr_putF (pc := 61) (T := TX9) (k := 6) kc_X9 (by decide) w_537 rfl rfl rfl rfl rfl dX9_init_61 hW (fun s27 hW => ?_)
  refine fr_aload_n (pc := 64) 0 rfl rfl dX9_init_64 ?_
  refine fr_aload_n (pc := 65) 1 rfl rfl dX9_init_65 ?_
  refine fr_putF (pc := 66) (T := TX9) (k := 0) kc_X9 (by decide) w_538 rfl rfl rfl rfl rfl dX9_init_66 hW (fun s28 hW => ?_)
  refine fr_aload_n (pc := 69) 0 rfl rfl dX9_init_69 ?_
  refine fr_aload_n (pc := 70) 2 rfl rfl dX9_init_70 ?_
  refine fr_putF (pc := 71) (T := TX9) (k := 1) kc_X9 (by decide) w_539 rfl rfl rfl rfl rfl dX9_init_71 hW (fun s29 hW => ?_)
  obtain ⟨hz, hW⟩ := hW
  exact fr_ret (pc := 74) dX9_init_74 rfl hz hW
set_option maxHeartbeats 4000000 in
set_option maxRecDepth 100000 in
theorem q_X10_init {g : GG} {σ : Hs} {post : Option Value → Hs → Prop} (cM sM : Nat) (r0 : Nat) (p0 : Nat) (p1 : Nat) (hW : ((0) + 1 ≤ cM ∧ (0) + 8 ≤ sM) ∧ NA g σ 6 8 ndef (fun r1 s2 => PF s2 r0 10 2 (.ref r1) (fun s3 => ((1) + 1 ≤ cM ∧ (8) + 1 ≤ sM) ∧ NW s3 1 [.null] (fun r4 s5 => ∃ mc7 ms8 : Nat, ((2) + mc7 ≤ cM ∧ (9) + ms8 ≤ sM) ∧ Do g M_X1_init mc7 ms8 [.ref r4, .int 256] s5 (kV (fun s6 => PF s6 r0 10 3 (.ref r4) (fun s9 => ((2 + mc7) + 1 ≤ cM ∧ (9 + ms8) + 1 ≤ sM) ∧ NW s9 1 [.null] (fun r10 s11 => ∃ mc13 ms14 : Nat, ((2 + mc7 + 1) + mc13 ≤ cM ∧ (9 + ms8 + 1) + ms14 ≤ sM) ∧ Do g M_X1_init mc13 ms14 [.ref r10, .int 256] s11 (kV (fun s12 => PF s12 r0 10 4 (.ref r10) (fun s15 => ((2 + mc7 + 1 + mc13) + 1 ≤ cM ∧ (9 + ms8 + 1 + ms14) + 1 ≤ sM) ∧ NW s15 1 [.null] (fun r16 s17 => ∃ mc19 ms20 : Nat, ((2 + mc7 + 1 + mc13 + 1) + mc19 ≤ cM ∧ (9 + ms8 + 1 + ms14 + 1) + ms20 ≤ sM) ∧ Do g M_X1_init mc19 ms20 [.ref r16, .int 8] s17 (kV (fun s18 => PF s18 r0 10 5 (.ref r16) (fun s21 => PF s21 r0 10 0 (.ref p0) (fun s22 => PF s22 r0 10 1 (.ref p1) (fun s23 => ((2 + mc7 + 1 + mc13 + 1 + mc19) ≤ cM ∧ (9 + ms8 + 1 + ms14 + 1 + ms20) ≤ sM) ∧ post none s23))))))))))))))))) : Do g M_X10_init cM sM [.ref r0, .ref p0, .ref p1] σ post := by
  refine Do.of (by decide +kernel) (Nat.le_of_ble_eq_true rfl) ?_
  show Fr g M_X10_init (cM, sM, 0, 0) [(0, .ref r0), (1, .ref p0), (2, .ref p1)] [] 0 σ post
  refine fr_aload_n (pc := 0) 0 rfl rfl dX10_init_0 ?_
  refine fr_obj (pc := 1) ⟨w_550, w_503, w_504⟩ (by decide) (Nat.le_of_ble_eq_true rfl) dX10_init_1 ?_
  refine fr_aload_n (pc := 4) 0 rfl rfl dX10_init_4 ?_
  refine fr_bipush (pc := 5) 8 (by decide) dX10_init_5 ?_
  obtain ⟨hz, hW⟩ := hW
  refine fr_newR (pc := 7) (C := RX6) 6 rfl (fun _ => rfl) w_542 (by decide) dX10_init_7 (by decide) (by decide) hz (Z' := (cM, sM, 1, 8)) rfl hW (fun r1 s2 hW => ?_)
  refine fr_putF (pc := 10) (T := TX10) (k := 2) kc_X10 (by decide) w_543 rfl rfl rfl rfl rfl dX10_init_10 hW (fun s3 hW => ?_)
  refine fr_aload_n (pc := 13) 0 rfl rfl dX10_init_13 ?_
  obtain ⟨hz, hW⟩ := hW
  refine fr_new (pc := 14) [.null] kc_X1 df_X1 ⟨w_544, w_506, w_1⟩ dX10_init_14 hz (Z' := (cM, sM, 2, 9)) rfl hW (fun r4 s5 hW => ?_)
  refine fr_dup (pc := 17) rfl dX10_init_17 ?_
  refine fr_sipush (pc := 18) 256 (by decide) dX10_init_18 ?_
  obtain ⟨mc7, ms8, hz, hW⟩ := hW
  refine fr_callI_Va (pc := 21) (As := [.int 256]) (st := [.ref r4, .ref r0]) wd_X1_init w_551 ok_X1_init (by decide) rfl (Nat.le_of_ble_eq_true rfl) dX10_init_21 hz (Z' := (cM, sM, 2 + mc7, 9 + ms8)) rfl rfl rfl hW (fun s6 hW => ?_)
  refine fr_putF (pc := 24) (T := TX10) (k := 3) kc_X10 (by decide) w_545 rfl rfl rfl rfl rfl dX10_init_24 hW (fun s9 hW => ?_)
  refine fr_aload_n (pc := 27) 0 rfl rfl dX10_init_27 ?_
  obtain ⟨hz, hW⟩ := hW
  refine fr_new (pc := 28) [.null] kc_X1 df_X1 ⟨w_544, w_506, w_1⟩ dX10_init_28 hz (Z' := (cM, sM, 2 + mc7 + 1, 9 + ms8 + 1)) rfl hW (fun r10 s11 hW => ?_)
  refine fr_dup (pc := 31) rfl dX10_init_31 ?_
  refine fr_sipush (pc := 32) 256 (by decide) dX10_init_32 ?_
  obtain ⟨mc13, ms14, hz, hW⟩ := hW
  refine fr_callI_Va (pc := 35) (As := [.int 256]) (st := [.ref r10, .ref r0]) wd_X1_init w_551 ok_X1_init (by decide) rfl (Nat.le_of_ble_eq_true rfl) dX10_init_35 hz (Z' := (cM, sM, 2 + mc7 + 1 + mc13, 9 + ms8 + 1 + ms14)) rfl rfl rfl hW (fun s12 hW => ?_)
  refine fr_putF (pc := 38) (T := TX10) (k := 4) kc_X10 (by decide) w_546 rfl rfl rfl rfl rfl dX10_init_38 hW (fun s15 hW => ?_)
  refine fr_aload_n (pc := 41) 0 rfl rfl dX10_init_41 ?_
  obtain ⟨hz, hW⟩ := hW
  refine fr_new (pc := 42) [.null] kc_X1 df_X1 ⟨w_544, w_506, w_1⟩ dX10_init_42 hz (Z' := (cM, sM, 2 + mc7 + 1 + mc13 + 1, 9 + ms8 + 1 + ms14 + 1)) rfl hW (fun r16 s17 hW => ?_)
  refine fr_dup (pc := 45) rfl dX10_init_45 ?_
  refine fr_bipush (pc := 46) 8 (by decide) dX10_init_46 ?_
  obtain ⟨mc19, ms20, hz, hW⟩ := hW
  refine fr_callI_Va (pc := 48) (As := [.int 8]) (st := [.ref r16, .ref r0]) wd_X1_init w_551 ok_X1_init (by decide) rfl (Nat.le_of_ble_eq_true rfl) dX10_init_48 hz (Z' := (cM, sM, 2 + mc7 + 1 + mc13 + 1 + mc19, 9 + ms8 + 1 + ms14 + 1 + ms20)) rfl rfl rfl hW (fun s18 hW => ?_)
  refine fr_putF (pc := 51) (T := TX10) (k := 5) kc_X10 (by decide) w_547 rfl rfl rfl rfl rfl dX10_init_51 hW (fun s21 hW => ?_)
  refine fr_aload_n (pc := 54) 0 rfl rfl dX10_init_54 ?_
  refine fr_aload_n (pc := 55) 1 rfl rfl dX10_init_55 ?_
  refine fr_putF (pc := 56) (T := TX10) (k := 0) kc_X10 (by decide) w_548 rfl rfl rfl rfl rfl dX10_init_56 hW (fun s22 hW => ?_)
  refine fr_aload_n (pc := 59) 0 rfl rfl dX10_init_59 ?_
  refine fr_aload_n (pc := 60) 2 rfl rfl dX10_init_60 ?_
  refine fr_putF (pc := 61) (T := TX10) (k := 1) kc_X10 (by decide) w_549 rfl rfl rfl rfl rfl dX10_init_61 hW (fun s23 hW => ?_)
  obtain ⟨hz, hW⟩ := hW
  exact fr_ret (pc := 64) dX10_init_64 rfl hz hW
set_option maxHeartbeats 4000000 in
set_option maxRecDepth 100000 in
theorem q_X4_init {g : GG} {σ : Hs} {post : Option Value → Hs → Prop} (cM sM : Nat) (r0 : Nat) (hW : ((0) + 1 ≤ cM ∧ (0) + 1 ≤ sM) ∧ NW σ 1 [.null] (fun r1 s2 => ∃ mc4 ms5 : Nat, ((1) + mc4 ≤ cM ∧ (1) + ms5 ≤ sM) ∧ Do g M_X1_init mc4 ms5 [.ref r1, .int 4] s2 (kV (fun s3 => PF s3 r0 4 0 (.ref r1) (fun s6 => ((1 + mc4) + 1 ≤ cM ∧ (1 + ms5) + 1 ≤ sM) ∧ NW s6 1 [.null] (fun r7 s8 => ∃ mc10 ms11 : Nat, ((1 + mc4 + 1) + mc10 ≤ cM ∧ (1 + ms5 + 1) + ms11 ≤ sM) ∧ Do g M_X1_init mc10 ms11 [.ref r7, .int 4] s8 (kV (fun s9 => PF s9 r0 4 1 (.ref r7) (fun s12 => ((1 + mc4 + 1 + mc10) + 1 ≤ cM ∧ (1 + ms5 + 1 + ms11) + 1 ≤ sM) ∧ NW s12 1 [.null] (fun r13 s14 => ∃ mc16 ms17 : Nat, ((1 + mc4 + 1 + mc10 + 1) + mc16 ≤ cM ∧ (1 + ms5 + 1 + ms11 + 1) + ms17 ≤ sM) ∧ Do g M_X1_init mc16 ms17 [.ref r13, .int 4] s14 (kV (fun s15 => PF s15 r0 4 2 (.ref r13) (fun s18 => ((1 + mc4 + 1 + mc10 + 1 + mc16) ≤ cM ∧ (1 + ms5 + 1 + ms11 + 1 + ms17) ≤ sM) ∧ post none s18))))))))))))) : Do g M_X4_init cM sM [.ref r0] σ post := by
  refine Do.of (by decide +kernel) (Nat.le_of_ble_eq_true rfl) ?_
  show Fr g M_X4_init (cM, sM, 0, 0) [(0, .ref r0)] [] 0 σ post
  refine fr_aload_n (pc := 0) 0 rfl rfl dX4_init_0 ?_
  refine fr_obj (pc := 1) ⟨w_556, w_503, w_504⟩ (by decide) (Nat.le_of_ble_eq_true rfl) dX4_init_1 ?_
  refine fr_aload_n (pc := 4) 0 rfl rfl dX4_init_4 ?_
  obtain ⟨hz, hW⟩ := hW
  refine fr_new (pc := 5) [.null] kc_X1 df_X1 ⟨w_552, w_506, w_1⟩ dX4_init_5 hz (Z' := (cM, sM, 1, 1)) rfl hW (fun r1 s2 hW => ?_)
  refine fr_dup (pc := 8) rfl dX4_init_8 ?_
  refine fr_iconst (pc := 9) 4 (by decide) dX4_init_9 ?_
  obtain ⟨mc4, ms5, hz, hW⟩ := hW
  refine fr_callI_Va (pc := 10) (As := [.int 4]) (st := [.ref r1, .ref r0]) wd_X1_init w_557 ok_X1_init (by decide) rfl (Nat.le_of_ble_eq_true rfl) dX4_init_10 hz (Z' := (cM, sM, 1 + mc4, 1 + ms5)) rfl rfl rfl hW (fun s3 hW => ?_)
  refine fr_putF (pc := 13) (T := TX4) (k := 0) kc_X4 (by decide) w_553 rfl rfl rfl rfl rfl dX4_init_13 hW (fun s6 hW => ?_)
  refine fr_aload_n (pc := 16) 0 rfl rfl dX4_init_16 ?_
  obtain ⟨hz, hW⟩ := hW
  refine fr_new (pc := 17) [.null] kc_X1 df_X1 ⟨w_552, w_506, w_1⟩ dX4_init_17 hz (Z' := (cM, sM, 1 + mc4 + 1, 1 + ms5 + 1)) rfl hW (fun r7 s8 hW => ?_)
  refine fr_dup (pc := 20) rfl dX4_init_20 ?_
  refine fr_iconst (pc := 21) 4 (by decide) dX4_init_21 ?_
  obtain ⟨mc10, ms11, hz, hW⟩ := hW
  refine fr_callI_Va (pc := 22) (As := [.int 4]) (st := [.ref r7, .ref r0]) wd_X1_init w_557 ok_X1_init (by decide) rfl (Nat.le_of_ble_eq_true rfl) dX4_init_22 hz (Z' := (cM, sM, 1 + mc4 + 1 + mc10, 1 + ms5 + 1 + ms11)) rfl rfl rfl hW (fun s9 hW => ?_)
  refine fr_putF (pc := 25) (T := TX4) (k := 1) kc_X4 (by decide) w_554 rfl rfl rfl rfl rfl dX4_init_25 hW (fun s12 hW => ?_)
  refine fr_aload_n (pc := 28) 0 rfl rfl dX4_init_28 ?_
  obtain ⟨hz, hW⟩ := hW
  refine fr_new (pc := 29) [.null] kc_X1 df_X1 ⟨w_552, w_506, w_1⟩ dX4_init_29 hz (Z' := (cM, sM, 1 + mc4 + 1 + mc10 + 1, 1 + ms5 + 1 + ms11 + 1)) rfl hW (fun r13 s14 hW => ?_)
  refine fr_dup (pc := 32) rfl dX4_init_32 ?_
  refine fr_iconst (pc := 33) 4 (by decide) dX4_init_33 ?_
  obtain ⟨mc16, ms17, hz, hW⟩ := hW
  refine fr_callI_Va (pc := 34) (As := [.int 4]) (st := [.ref r13, .ref r0]) wd_X1_init w_557 ok_X1_init (by decide) rfl (Nat.le_of_ble_eq_true rfl) dX4_init_34 hz (Z' := (cM, sM, 1 + mc4 + 1 + mc10 + 1 + mc16, 1 + ms5 + 1 + ms11 + 1 + ms17)) rfl rfl rfl hW (fun s15 hW => ?_)
  refine fr_putF (pc := 37) (T := TX4) (k := 2) kc_X4 (by decide) w_555 rfl rfl rfl rfl rfl dX4_init_37 hW (fun s18 hW => ?_)
  obtain ⟨hz, hW⟩ := hW
  exact fr_ret (pc := 40) dX4_init_40 rfl hz hW
def J_X5_init_37 (g : GG) (post : Option Value → Hs → Prop) (cM sM kM nM : Nat) (σ : Hs) (a0 : Nat) (v3 : Int32) : Prop := Fr g M_X5_init (cM, sM, kM, nM) [(0, .ref a0), (3, .int v3)] [] 37 σ post
set_option maxHeartbeats 4000000 in
set_option maxRecDepth 100000 in
theorem q_X5_init {g : GG} {σ : Hs} {post : Option Value → Hs → Prop} (cM sM : Nat) (r0 : Nat) (p0 : Nat) (p1 : Nat) (hW : ((0) + 1 ≤ cM ∧ (0) + 4 ≤ sM) ∧ NA g σ 5 4 ndef (fun r1 s2 => PF s2 r0 5 2 (.ref r1) (fun s3 => ((1) + 1 ≤ cM ∧ (4) + 1 ≤ sM) ∧ NW s3 1 [.null] (fun r4 s5 => ∃ mc7 ms8 : Nat, ((2) + mc7 ≤ cM ∧ (5) + ms8 ≤ sM) ∧ Do g M_X1_init mc7 ms8 [.ref r4, .int 64] s5 (kV (fun s6 => PF s6 r0 5 3 (.ref r4) (fun s9 => PF s9 r0 5 0 (.ref p0) (fun s10 => PF s10 r0 5 1 (.ref p1) (fun s11 => J_X5_init_37 g post cM sM (2 + mc7) (5 + ms8) s11 r0 0 ))))))))) : Do g M_X5_init cM sM [.ref r0, .ref p0, .ref p1] σ post := by
  refine Do.of (by decide +kernel) (Nat.le_of_ble_eq_true rfl) ?_
  show Fr g M_X5_init (cM, sM, 0, 0) [(0, .ref r0), (1, .ref p0), (2, .ref p1)] [] 0 σ post
  refine fr_aload_n (pc := 0) 0 rfl rfl dX5_init_0 ?_
  refine fr_obj (pc := 1) ⟨w_565, w_503, w_504⟩ (by decide) (Nat.le_of_ble_eq_true rfl) dX5_init_1 ?_
  refine fr_aload_n (pc := 4) 0 rfl rfl dX5_init_4 ?_
  refine fr_iconst (pc := 5) 4 (by decide) dX5_init_5 ?_
  obtain ⟨hz, hW⟩ := hW
  refine fr_newR (pc := 6) (C := RX4) 5 rfl (fun _ => rfl) w_558 (by decide) dX5_init_6 (by decide) (by decide) hz (Z' := (cM, sM, 1, 4)) rfl hW (fun r1 s2 hW => ?_)
  refine fr_putF (pc := 9) (T := TX5) (k := 2) kc_X5 (by decide) w_559 rfl rfl rfl rfl rfl dX5_init_9 hW (fun s3 hW => ?_)
  refine fr_aload_n (pc := 12) 0 rfl rfl dX5_init_12 ?_
  obtain ⟨hz, hW⟩ := hW
  refine fr_new (pc := 13) [.null] kc_X1 df_X1 ⟨w_560, w_506, w_1⟩ dX5_init_13 hz (Z' := (cM, sM, 2, 5)) rfl hW (fun r4 s5 hW => ?_)
  refine fr_dup (pc := 16) rfl dX5_init_16 ?_
  refine fr_bipush (pc := 17) 64 (by decide) dX5_init_17 ?_
  obtain ⟨mc7, ms8, hz, hW⟩ := hW
  refine fr_callI_Va (pc := 19) (As := [.int 64]) (st := [.ref r4, .ref r0]) wd_X1_init w_566 ok_X1_init (by decide) rfl (Nat.le_of_ble_eq_true rfl) dX5_init_19 hz (Z' := (cM, sM, 2 + mc7, 5 + ms8)) rfl rfl rfl hW (fun s6 hW => ?_)
  refine fr_putF (pc := 22) (T := TX5) (k := 3) kc_X5 (by decide) w_561 rfl rfl rfl rfl rfl dX5_init_22 hW (fun s9 hW => ?_)
  refine fr_aload_n (pc := 25) 0 rfl rfl dX5_init_25 ?_
  refine fr_aload_n (pc := 26) 1 rfl rfl dX5_init_26 ?_
  refine fr_putF (pc := 27) (T := TX5) (k := 0) kc_X5 (by decide) w_562 rfl rfl rfl rfl rfl dX5_init_27 hW (fun s10 hW => ?_)
  refine fr_aload_n (pc := 30) 0 rfl rfl dX5_init_30 ?_
  refine fr_aload_n (pc := 31) 2 rfl rfl dX5_init_31 ?_
  refine fr_putF (pc := 32) (T := TX5) (k := 1) kc_X5 (by decide) w_563 rfl rfl rfl rfl rfl dX5_init_32 hW (fun s11 hW => ?_)
  refine fr_iconst (pc := 35) 0 (by decide) dX5_init_35 ?_
  refine fr_istore_n (pc := 36) (lv' := [(3, .int 0), (0, .ref r0), (1, .ref p0), (2, .ref p1)]) rfl (by decide) rfl dX5_init_36 ?_
  exact fr_sub [1, 0] rfl hW
set_option maxHeartbeats 4000000 in
set_option maxRecDepth 100000 in
theorem q_X5_init_37 {g : GG} {σ : Hs} {post : Option Value → Hs → Prop} (cM sM kM nM : Nat) (a0 : Nat) (v3 : Int32) (hW : FR σ a0 5 2 (fun r12 => AN g σ r12 5 (fun i13 => (i13 ≤ v3 → ((kM) ≤ cM ∧ (nM) ≤ sM) ∧ post none σ) ∧ (¬ i13 ≤ v3 → FR σ a0 5 2 (fun r14 => ((kM) + 1 ≤ cM ∧ (nM) + 4 ≤ sM) ∧ NW σ 4 [.null, .null, .null, .int 0] (fun r15 s16 => ∃ mc18 ms19 : Nat, ((kM + 1) + mc18 ≤ cM ∧ (nM + 4) + ms19 ≤ sM) ∧ Do g M_X4_init mc18 ms19 [.ref r15] s16 (kV (fun s17 => SR g s17 r14 5 4 v3 r15 (fun s20 => J_X5_init_37 g post cM sM (kM + 1 + mc18) (nM + 4 + ms19) s20 a0 ((v3 + 1)) ))))))))) : J_X5_init_37 g post cM sM kM nM σ a0 v3 := by
  show Fr g M_X5_init (cM, sM, kM, nM) [(0, .ref a0), (3, .int v3)] [] 37 σ post
  refine fr_iload_n (pc := 37) 1 rfl rfl dX5_init_37 ?_
  refine fr_aload_n (pc := 38) 0 rfl rfl dX5_init_38 ?_
  refine fr_getR (pc := 39) (T := TX5) (k := 2) kc_X5 (by decide) w_559 dX5_init_39 hW (fun r12 hW => ?_)
  refine fr_alen (pc := 42) 5 (fun _ => rfl) dX5_init_42 hW (fun i13 hW => ?_)
  refine fr_icmp_ge (pc := 43) (tgt := 65) (by decide) dX5_init_43 hW (fun hW => ?_) (fun hW => ?_)
  · obtain ⟨hz, hW⟩ := hW
    exact fr_ret (pc := 65) dX5_init_65 rfl hz hW
  · refine fr_aload_n (pc := 46) 0 rfl rfl dX5_init_46 ?_
    refine fr_getR (pc := 47) (T := TX5) (k := 2) kc_X5 (by decide) w_559 dX5_init_47 hW (fun r14 hW => ?_)
    refine fr_iload_n (pc := 50) 1 rfl rfl dX5_init_50 ?_
    obtain ⟨hz, hW⟩ := hW
    refine fr_new (pc := 51) [.null, .null, .null, .int 0] kc_X4 df_X4 ⟨w_558, w_564, w_25⟩ dX5_init_51 hz (Z' := (cM, sM, kM + 1, nM + 4)) rfl hW (fun r15 s16 hW => ?_)
    refine fr_dup (pc := 54) rfl dX5_init_54 ?_
    obtain ⟨mc18, ms19, hz, hW⟩ := hW
    refine fr_callIN_Va (pc := 55) (As := []) (st := [.ref r15, .int v3, .ref r14]) wd_X4_init ⟨RX11, by decide +kernel⟩ ok_X4_init (by decide) rfl (Nat.le_of_ble_eq_true rfl) dX5_init_55 hz (Z' := (cM, sM, kM + 1 + mc18, nM + 4 + ms19)) rfl rfl rfl hW (fun s17 hW => ?_)
    refine fr_aast (pc := 58) 5 kc_X4 (fun _ => rfl) dX5_init_58 hW (fun s20 hW => ?_)
    refine fr_iinc (pc := 59) (lv' := [(3, .int (v3 + 1)), (0, .ref a0)]) (v3 + 1) 1 rfl (congrArg (fun z => v3 + z) (by decide)) (by decide) rfl dX5_init_59 ?_
    refine fr_goto (pc := 62) (tgt := 37) (by decide) dX5_init_62 ?_
    exact fr_sub [1, 0] rfl hW
set_option maxHeartbeats 4000000 in
set_option maxRecDepth 100000 in
theorem q_X11_init {g : GG} {σ : Hs} {post : Option Value → Hs → Prop} (cM sM : Nat) (r0 : Nat) (hW : ((0) + 1 ≤ cM ∧ (0) + 7 ≤ sM) ∧ NW σ 7 [.null, .int 0, .null, .int 0, .int 0, .int 0, .int 0] (fun r1 s2 => ∃ mc4 ms5 : Nat, ((1) + mc4 ≤ cM ∧ (7) + ms5 ≤ sM) ∧ Do g M_X7_init mc4 ms5 [.ref r1] s2 (kV (fun s3 => PF s3 r0 11 5 (.ref r1) (fun s6 => ((1 + mc4) + 1 ≤ cM ∧ (7 + ms5) + 2 ≤ sM) ∧ NW s6 0 [.null, .int 0] (fun r7 s8 => ∃ mc10 ms11 : Nat, ((1 + mc4 + 1) + mc10 ≤ cM ∧ (7 + ms5 + 2) + ms11 ≤ sM) ∧ Do g M_X0_init mc10 ms11 [.ref r7] s8 (kV (fun s9 => PF s9 r0 11 6 (.ref r7) (fun s12 => ((1 + mc4 + 1 + mc10) + 1 ≤ cM ∧ (7 + ms5 + 2 + ms11) + 3 ≤ sM) ∧ NW s12 8 [.null, .long 0, .int 0] (fun r13 s14 => ∃ mc16 ms17 : Nat, ((1 + mc4 + 1 + mc10 + 1) + mc16 ≤ cM ∧ (7 + ms5 + 2 + ms11 + 3) + ms17 ≤ sM) ∧ Do g M_X8_init mc16 ms17 [.ref r13] s14 (kV (fun s15 => ((1 + mc4 + 1 + mc10 + 1 + mc16) + 1 ≤ cM ∧ (7 + ms5 + 2 + ms11 + 3 + ms17) + 3 ≤ sM) ∧ NW s15 3 [.null, .null, .int 0] (fun r18 s19 => ∃ mc21 ms22 : Nat, ((1 + mc4 + 1 + mc10 + 1 + mc16 + 1) + mc21 ≤ cM ∧ (7 + ms5 + 2 + ms11 + 3 + ms17 + 3) + ms22 ≤ sM) ∧ Do g M_X3_init mc21 ms22 [.ref r18, .ref r13] s19 (kV (fun s20 => ((1 + mc4 + 1 + mc10 + 1 + mc16 + 1 + mc21) + 1 ≤ cM ∧ (7 + ms5 + 2 + ms11 + 3 + ms17 + 3 + ms22) + 8 ≤ sM) ∧ NW s20 9 [.null, .null, .null, .null, .null, .null, .null, .int 0] (fun r23 s24 => ∃ mc26 ms27 : Nat, ((1 + mc4 + 1 + mc10 + 1 + mc16 + 1 + mc21 + 1) + mc26 ≤ cM ∧ (7 + ms5 + 2 + ms11 + 3 + ms17 + 3 + ms22 + 8) + ms27 ≤ sM) ∧ Do g M_X9_init mc26 ms27 [.ref r23, .ref r13, .ref r18] s24 (kV (fun s25 => PF s25 r0 11 0 (.ref r13) (fun s28 => PF s28 r0 11 1 (.ref r18) (fun s29 => PF s29 r0 11 2 (.ref r23) (fun s30 => ((1 + mc4 + 1 + mc10 + 1 + mc16 + 1 + mc21 + 1 + mc26) + 1 ≤ cM ∧ (7 + ms5 + 2 + ms11 + 3 + ms17 + 3 + ms22 + 8 + ms27) + 9 ≤ sM) ∧ NW s30 10 [.null, .null, .null, .null, .null, .null, .int 0, .int 0, .int 0] (fun r31 s32 => ∃ mc34 ms35 : Nat, ((1 + mc4 + 1 + mc10 + 1 + mc16 + 1 + mc21 + 1 + mc26 + 1) + mc34 ≤ cM ∧ (7 + ms5 + 2 + ms11 + 3 + ms17 + 3 + ms22 + 8 + ms27 + 9) + ms35 ≤ sM) ∧ Do g M_X10_init mc34 ms35 [.ref r31, .ref r18, .ref r23] s32 (kV (fun s33 => PF s33 r0 11 3 (.ref r31) (fun s36 => ((1 + mc4 + 1 + mc10 + 1 + mc16 + 1 + mc21 + 1 + mc26 + 1 + mc34) + 1 ≤ cM ∧ (7 + ms5 + 2 + ms11 + 3 + ms17 + 3 + ms22 + 8 + ms27 + 9 + ms35) + 5 ≤ sM) ∧ NW s36 5 [.null, .null, .null, .null, .int 0] (fun r37 s38 => ∃ mc40 ms41 : Nat, ((1 + mc4 + 1 + mc10 + 1 + mc16 + 1 + mc21 + 1 + mc26 + 1 + mc34 + 1) + mc40 ≤ cM ∧ (7 + ms5 + 2 + ms11 + 3 + ms17 + 3 + ms22 + 8 + ms27 + 9 + ms35 + 5) + ms41 ≤ sM) ∧ Do g M_X5_init mc40 ms41 [.ref r37, .ref r13, .ref r18] s38 (kV (fun s39 => PF s39 r0 11 4 (.ref r37) (fun s42 => ((1 + mc4 + 1 + mc10 + 1 + mc16 + 1 + mc21 + 1 + mc26 + 1 + mc34 + 1 + mc40) ≤ cM ∧ (7 + ms5 + 2 + ms11 + 3 + ms17 + 3 + ms22 + 8 + ms27 + 9 + ms35 + 5 + ms41) ≤ sM) ∧ post none s42))))))))))))))))))))))))))))) : Do g M_X11_init cM sM [.ref r0] σ post := by
  refine Do.of (by decide +kernel) (Nat.le_of_ble_eq_true rfl) ?_
  show Fr g M_X11_init (cM, sM, 0, 0) [(0, .ref r0)] [] 0 σ post
  refine fr_aload_n (pc := 0) 0 rfl rfl dX11_init_0 ?_
  refine fr_obj (pc := 1) ⟨w_587, w_503, w_504⟩ (by decide) (Nat.le_of_ble_eq_true rfl) dX11_init_1 ?_
  refine fr_aload_n (pc := 4) 0 rfl rfl dX11_init_4 ?_
  obtain ⟨hz, hW⟩ := hW
  refine fr_new (pc := 5) [.null, .int 0, .null, .int 0, .int 0, .int 0, .int 0] kc_X7 df_X7 ⟨w_567, w_568, w_7⟩ dX11_init_5 hz (Z' := (cM, sM, 1, 7)) rfl hW (fun r1 s2 hW => ?_)
  refine fr_dup (pc := 8) rfl dX11_init_8 ?_
  obtain ⟨mc4, ms5, hz, hW⟩ := hW
  refine fr_callIN_Va (pc := 9) (As := []) (st := [.ref r1, .ref r0]) wd_X7_init ⟨RX11, by decide +kernel⟩ ok_X7_init (by decide) rfl (Nat.le_of_ble_eq_true rfl) dX11_init_9 hz (Z' := (cM, sM, 1 + mc4, 7 + ms5)) rfl rfl rfl hW (fun s3 hW => ?_)
  refine fr_putF (pc := 12) (T := TX11) (k := 5) kc_X11 (by decide) w_569 rfl rfl rfl rfl rfl dX11_init_12 hW (fun s6 hW => ?_)
  refine fr_aload_n (pc := 15) 0 rfl rfl dX11_init_15 ?_
  obtain ⟨hz, hW⟩ := hW
  refine fr_new (pc := 16) [.null, .int 0] kc_X0 df_X0 ⟨w_570, w_571, w_13⟩ dX11_init_16 hz (Z' := (cM, sM, 1 + mc4 + 1, 7 + ms5 + 2)) rfl hW (fun r7 s8 hW => ?_)
  refine fr_dup (pc := 19) rfl dX11_init_19 ?_
  obtain ⟨mc10, ms11, hz, hW⟩ := hW
  refine fr_callI_Va (pc := 20) (As := []) (st := [.ref r7, .ref r0]) wd_X0_init w_588 ok_X0_init (by decide) rfl (Nat.le_of_ble_eq_true rfl) dX11_init_20 hz (Z' := (cM, sM, 1 + mc4 + 1 + mc10, 7 + ms5 + 2 + ms11)) rfl rfl rfl hW (fun s9 hW => ?_)
  refine fr_putF (pc := 23) (T := TX11) (k := 6) kc_X11 (by decide) w_572 rfl rfl rfl rfl rfl dX11_init_23 hW (fun s12 hW => ?_)
  obtain ⟨hz, hW⟩ := hW
  refine fr_new (pc := 26) [.null, .long 0, .int 0] kc_X8 df_X8 ⟨w_573, w_525, w_10⟩ dX11_init_26 hz (Z' := (cM, sM, 1 + mc4 + 1 + mc10 + 1, 7 + ms5 + 2 + ms11 + 3)) rfl hW (fun r13 s14 hW => ?_)
  refine fr_dup (pc := 29) rfl dX11_init_29 ?_
  obtain ⟨mc16, ms17, hz, hW⟩ := hW
  refine fr_callIN_Va (pc := 30) (As := []) (st := [.ref r13]) wd_X8_init ⟨RX11, by decide +kernel⟩ ok_X8_init (by decide) rfl (Nat.le_of_ble_eq_true rfl) dX11_init_30 hz (Z' := (cM, sM, 1 + mc4 + 1 + mc10 + 1 + mc16, 7 + ms5 + 2 + ms11 + 3 + ms17)) rfl rfl rfl hW (fun s15 hW => ?_)
  refine fr_astore_n (pc := 33) (lv' := [(1, .ref r13), (0, .ref r0)]) rfl (by decide) rfl dX11_init_33 ?_
  obtain ⟨hz, hW⟩ := hW
  refine fr_new (pc := 34) [.null, .null, .int 0] kc_X3 df_X3 ⟨w_574, w_575, w_16⟩ dX11_init_34 hz (Z' := (cM, sM, 1 + mc4 + 1 + mc10 + 1 + mc16 + 1, 7 + ms5 + 2 + ms11 + 3 + ms17 + 3)) rfl hW (fun r18 s19 hW => ?_)
  refine fr_dup (pc := 37) rfl dX11_init_37 ?_
  refine fr_aload_n (pc := 38) 0 rfl rfl dX11_init_38 ?_
  obtain ⟨mc21, ms22, hz, hW⟩ := hW
  refine fr_callI_Va (pc := 39) (As := [.ref r13]) (st := [.ref r18]) wd_X3_init w_589 ok_X3_init (by decide) rfl (Nat.le_of_ble_eq_true rfl) dX11_init_39 hz (Z' := (cM, sM, 1 + mc4 + 1 + mc10 + 1 + mc16 + 1 + mc21, 7 + ms5 + 2 + ms11 + 3 + ms17 + 3 + ms22)) rfl rfl rfl hW (fun s20 hW => ?_)
  refine fr_astore_n (pc := 42) (lv' := [(2, .ref r18), (1, .ref r13), (0, .ref r0)]) rfl (by decide) rfl dX11_init_42 ?_
  obtain ⟨hz, hW⟩ := hW
  refine fr_new (pc := 43) [.null, .null, .null, .null, .null, .null, .null, .int 0] kc_X9 df_X9 ⟨w_576, w_577, w_19⟩ dX11_init_43 hz (Z' := (cM, sM, 1 + mc4 + 1 + mc10 + 1 + mc16 + 1 + mc21 + 1, 7 + ms5 + 2 + ms11 + 3 + ms17 + 3 + ms22 + 8)) rfl hW (fun r23 s24 hW => ?_)
  refine fr_dup (pc := 46) rfl dX11_init_46 ?_
  refine fr_aload_n (pc := 47) 1 rfl rfl dX11_init_47 ?_
  refine fr_aload_n (pc := 48) 0 rfl rfl dX11_init_48 ?_
  obtain ⟨mc26, ms27, hz, hW⟩ := hW
  refine fr_callI_Va (pc := 49) (As := [.ref r13, .ref r18]) (st := [.ref r23]) wd_X9_init w_590 ok_X9_init (by decide) rfl (Nat.le_of_ble_eq_true rfl) dX11_init_49 hz (Z' := (cM, sM, 1 + mc4 + 1 + mc10 + 1 + mc16 + 1 + mc21 + 1 + mc26, 7 + ms5 + 2 + ms11 + 3 + ms17 + 3 + ms22 + 8 + ms27)) rfl rfl rfl hW (fun s25 hW => ?_)
  refine fr_astore_n (pc := 52) (lv' := [(3, .ref r23), (2, .ref r18), (1, .ref r13), (0, .ref r0)]) rfl (by decide) rfl dX11_init_52 ?_
  refine fr_aload_n (pc := 53) 3 rfl rfl dX11_init_53 ?_
  refine fr_aload_n (pc := 54) 2 rfl rfl dX11_init_54 ?_
  refine fr_putF (pc := 55) (T := TX11) (k := 0) kc_X11 (by decide) w_578 rfl rfl rfl rfl rfl dX11_init_55 hW (fun s28 hW => ?_)
  refine fr_aload_n (pc := 58) 3 rfl rfl dX11_init_58 ?_
  refine fr_aload_n (pc := 59) 1 rfl rfl dX11_init_59 ?_
  refine fr_putF (pc := 60) (T := TX11) (k := 1) kc_X11 (by decide) w_579 rfl rfl rfl rfl rfl dX11_init_60 hW (fun s29 hW => ?_)
  refine fr_aload_n (pc := 63) 3 rfl rfl dX11_init_63 ?_
  refine fr_aload_n (pc := 64) 0 rfl rfl dX11_init_64 ?_
  refine fr_putF (pc := 65) (T := TX11) (k := 2) kc_X11 (by decide) w_580 rfl rfl rfl rfl rfl dX11_init_65 hW (fun s30 hW => ?_)
  refine fr_aload_n (pc := 68) 3 rfl rfl dX11_init_68 ?_
  obtain ⟨hz, hW⟩ := hW
  refine fr_new (pc := 69) [.null, .null, .null, .null, .null, .null, .int 0, .int 0, .int 0] kc_X10 df_X10 ⟨w_581, w_582, w_22⟩ dX11_init_69 hz (Z' := (cM, sM, 1 + mc4 + 1 + mc10 + 1 + mc16 + 1 + mc21 + 1 + mc26 + 1, 7 + ms5 + 2 + ms11 + 3 + ms17 + 3 + ms22 + 8 + ms27 + 9)) rfl hW (fun r31 s32 hW => ?_)
  refine fr_dup (pc := 72) rfl dX11_init_72 ?_
  refine fr_aload_n (pc := 73) 1 rfl rfl dX11_init_73 ?_
  refine fr_aload_n (pc := 74) 0 rfl rfl dX11_init_74 ?_
  obtain ⟨mc34, ms35, hz, hW⟩ := hW
  refine fr_callI_Va (pc := 75) (As := [.ref r18, .ref r23]) (st := [.ref r31, .ref r0]) wd_X10_init w_591 ok_X10_init (by decide) rfl (Nat.le_of_ble_eq_true rfl) dX11_init_75 hz (Z' := (cM, sM, 1 + mc4 + 1 + mc10 + 1 + mc16 + 1 + mc21 + 1 + mc26 + 1 + mc34, 7 + ms5 + 2 + ms11 + 3 + ms17 + 3 + ms22 + 8 + ms27 + 9 + ms35)) rfl rfl rfl hW (fun s33 hW => ?_)
  refine fr_putF (pc := 78) (T := TX11) (k := 3) kc_X11 (by decide) w_583 rfl rfl rfl rfl rfl dX11_init_78 hW (fun s36 hW => ?_)
  refine fr_aload_n (pc := 81) 3 rfl rfl dX11_init_81 ?_
  obtain ⟨hz, hW⟩ := hW
  refine fr_new (pc := 82) [.null, .null, .null, .null, .int 0] kc_X5 df_X5 ⟨w_584, w_585, w_28⟩ dX11_init_82 hz (Z' := (cM, sM, 1 + mc4 + 1 + mc10 + 1 + mc16 + 1 + mc21 + 1 + mc26 + 1 + mc34 + 1, 7 + ms5 + 2 + ms11 + 3 + ms17 + 3 + ms22 + 8 + ms27 + 9 + ms35 + 5)) rfl hW (fun r37 s38 hW => ?_)
  refine fr_dup (pc := 85) rfl dX11_init_85 ?_
  refine fr_aload_n (pc := 86) 2 rfl rfl dX11_init_86 ?_
  refine fr_aload_n (pc := 87) 1 rfl rfl dX11_init_87 ?_
  obtain ⟨mc40, ms41, hz, hW⟩ := hW
  refine fr_callI_Va (pc := 88) (As := [.ref r13, .ref r18]) (st := [.ref r37, .ref r0]) wd_X5_init w_592 ok_X5_init (by decide) rfl (Nat.le_of_ble_eq_true rfl) dX11_init_88 hz (Z' := (cM, sM, 1 + mc4 + 1 + mc10 + 1 + mc16 + 1 + mc21 + 1 + mc26 + 1 + mc34 + 1 + mc40, 7 + ms5 + 2 + ms11 + 3 + ms17 + 3 + ms22 + 8 + ms27 + 9 + ms35 + 5 + ms41)) rfl rfl rfl hW (fun s39 hW => ?_)
  refine fr_putF (pc := 91) (T := TX11) (k := 4) kc_X11 (by decide) w_586 rfl rfl rfl rfl rfl dX11_init_91 hW (fun s42 hW => ?_)
  obtain ⟨hz, hW⟩ := hW
  exact fr_ret (pc := 94) dX11_init_94 rfl hz hW
set_option maxHeartbeats 4000000 in
set_option maxRecDepth 100000 in
theorem q_X8_pageWidth {g : GG} {σ : Hs} {post : Option Value → Hs → Prop} (r0 : Nat) (hW : FI σ r0 8 2 (fun i1 => post (some (.int i1)) σ)) : Do g M_X8_pageWidth 0 0 [.ref r0] σ post := by
  refine Do.of (by decide +kernel) (Nat.le_of_ble_eq_true rfl) ?_
  show Fr g M_X8_pageWidth (0, 0, 0, 0) [(0, .ref r0)] [] 0 σ post
  refine fr_aload_n (pc := 0) 0 rfl rfl dX8_pageWidth_0 ?_
  refine fr_getI (pc := 1) (T := TX8) (k := 2) kc_X8 (by decide) w_520 dX8_pageWidth_1 hW (fun i1 hW => ?_)
  exact fr_iret (pc := 4) dX8_pageWidth_4 rfl ⟨Nat.le_refl 0, Nat.le_refl 0⟩ hW
set_option maxHeartbeats 4000000 in
set_option maxRecDepth 100000 in
theorem q_X8_widen {g : GG} {σ : Hs} {post : Option Value → Hs → Prop} (r0 : Nat) (p0 : Int32) (hW : PF σ r0 8 2 (.int p0) (fun s1 => post none s1)) : Do g M_X8_widen 0 0 [.ref r0, .int p0] σ post := by
  refine Do.of (by decide +kernel) (Nat.le_of_ble_eq_true rfl) ?_
  show Fr g M_X8_widen (0, 0, 0, 0) [(0, .ref r0), (1, .int p0)] [] 0 σ post
  refine fr_aload_n (pc := 0) 0 rfl rfl dX8_widen_0 ?_
  refine fr_iload_n (pc := 1) 1 rfl rfl dX8_widen_1 ?_
  refine fr_put (pc := 2) (T := TX8) (k := 2) kc_X8 (by decide) w_520 rfl rfl rfl dX8_widen_2 hW (fun s1 hW => ?_)
  exact fr_ret (pc := 5) dX8_widen_5 rfl ⟨Nat.le_refl 0, Nat.le_refl 0⟩ hW
set_option maxHeartbeats 4000000 in
set_option maxRecDepth 100000 in
theorem q_X11_wide {g : GG} {σ : Hs} {post : Option Value → Hs → Prop} (r0 : Nat) (p0 : Int32) (hW : (p0 < 2 → post (some (.int (-102))) σ) ∧ (¬ p0 < 2 → (p0 ≤ 8 → FR σ r0 11 0 (fun r1 => Rc σ r1 8 ∧ Do g M_X8_pageWidth 0 0 [.ref r1] σ (kI (fun i3 s2 => FR s2 r0 11 0 (fun r6 => Rc s2 r6 8 ∧ Do g M_X8_widen 0 0 [.ref r6, .int p0] s2 (kV (fun s7 => post (some (.int i3)) s7))))))) ∧ (¬ p0 ≤ 8 → post (some (.int (-102))) σ))) : Do g M_X11_wide 0 0 [.ref r0, .int p0] σ post := by
  refine Do.of (by decide +kernel) (Nat.le_of_ble_eq_true rfl) ?_
  show Fr g M_X11_wide (0, 0, 0, 0) [(0, .ref r0), (1, .int p0)] [] 0 σ post
  refine fr_iload_n (pc := 0) 1 rfl rfl dX11_wide_0 ?_
  refine fr_iconst (pc := 1) 2 (by decide) dX11_wide_1 ?_
  refine fr_icmp_lt (pc := 2) (tgt := 11) (by decide) dX11_wide_2 hW (fun hW => ?_) (fun hW => ?_)
  · refine fr_bipush (pc := 11) (-102) (by decide) dX11_wide_11 ?_
    exact fr_iret (pc := 13) dX11_wide_13 rfl ⟨Nat.le_refl 0, Nat.le_refl 0⟩ hW
  · refine fr_iload_n (pc := 5) 1 rfl rfl dX11_wide_5 ?_
    refine fr_bipush (pc := 6) 8 (by decide) dX11_wide_6 ?_
    refine fr_icmp_le (pc := 8) (tgt := 14) (by decide) dX11_wide_8 hW (fun hW => ?_) (fun hW => ?_)
    · refine fr_aload_n (pc := 14) 0 rfl rfl dX11_wide_14 ?_
      refine fr_getR (pc := 15) (T := TX11) (k := 0) kc_X11 (by decide) w_578 dX11_wide_15 hW (fun r1 hW => ?_)
      obtain ⟨hrc, hW⟩ := hW
      refine fr_callV_I (pc := 18) (As := []) (st := []) wd_X8_pageWidth w_594 ok_X8_pageWidth (by decide) rfl (Nat.le_of_ble_eq_true rfl) dX11_wide_18 ⟨Nat.le_refl 0, Nat.le_refl 0⟩ kc_X8 hrc hW (fun i3 s2 hW => ?_)
      refine fr_istore_n (pc := 21) (lv' := [(2, .int i3), (0, .ref r0), (1, .int p0)]) rfl (by decide) rfl dX11_wide_21 ?_
      refine fr_aload_n (pc := 22) 1 rfl rfl dX11_wide_22 ?_
      refine fr_getR (pc := 23) (T := TX11) (k := 0) kc_X11 (by decide) w_578 dX11_wide_23 hW (fun r6 hW => ?_)
      refine fr_iload_n (pc := 26) 2 rfl rfl dX11_wide_26 ?_
      obtain ⟨hrc, hW⟩ := hW
      refine fr_callV_V (pc := 27) (As := [.int p0]) (st := []) wd_X8_widen w_595 ok_X8_widen (by decide) rfl (Nat.le_of_ble_eq_true rfl) dX11_wide_27 ⟨Nat.le_refl 0, Nat.le_refl 0⟩ kc_X8 hrc hW (fun s7 hW => ?_)
      refine fr_iload_n (pc := 30) 0 rfl rfl dX11_wide_30 ?_
      exact fr_iret (pc := 31) dX11_wide_31 rfl ⟨Nat.le_refl 0, Nat.le_refl 0⟩ hW
    · refine fr_bipush (pc := 11) (-102) (by decide) dX11_wide_11 ?_
      exact fr_iret (pc := 13) dX11_wide_13 rfl ⟨Nat.le_refl 0, Nat.le_refl 0⟩ hW
set_option maxHeartbeats 4000000 in
set_option maxRecDepth 100000 in
theorem q_X11_hasSlot {g : GG} {σ : Hs} {post : Option Value → Hs → Prop} (p0 : Int64) (p1 : Int32) (hW : ((lg_cmp (((p0.toUInt64 >>> (p1.toInt64.toUInt64 &&& Int64.toUInt64 63)).toInt64) &&& 1) 0) = 0 → post (some (.int 0)) σ) ∧ (¬ (lg_cmp (((p0.toUInt64 >>> (p1.toInt64.toUInt64 &&& Int64.toUInt64 63)).toInt64) &&& 1) 0) = 0 → post (some (.int 1)) σ)) : Do g M_X11_hasSlot 0 0 [.long p0, .int p1] σ post := by
  refine Do.of (by decide +kernel) (Nat.le_of_ble_eq_true rfl) ?_
  show Fr g M_X11_hasSlot (0, 0, 0, 0) [(0, .long p0), (2, .int p1)] [] 0 σ post
  refine fr_lload_n (pc := 0) 0 rfl rfl dX11_hasSlot_0 ?_
  refine fr_iload_n (pc := 1) 1 rfl rfl dX11_hasSlot_1 ?_
  refine fr_lushr (pc := 2) dX11_hasSlot_2 ?_
  refine fr_lconst (pc := 3) 1 (by decide) dX11_hasSlot_3 ?_
  refine fr_land (pc := 4) dX11_hasSlot_4 ?_
  refine fr_lconst (pc := 5) 0 (by decide) dX11_hasSlot_5 ?_
  refine fr_lcmp (pc := 6) dX11_hasSlot_6 ?_
  refine fr_if_eq (pc := 7) (tgt := 14) (by decide) dX11_hasSlot_7 hW (fun hW => ?_) (fun hW => ?_)
  · refine fr_iconst (pc := 14) 0 (by decide) dX11_hasSlot_14 ?_
    exact fr_zret (pc := 15) dX11_hasSlot_15 rfl ⟨Nat.le_refl 0, Nat.le_refl 0⟩ ⟨rfl, hW⟩
  · refine fr_iconst (pc := 10) 1 (by decide) dX11_hasSlot_10 ?_
    refine fr_goto (pc := 11) (tgt := 15) (by decide) dX11_hasSlot_11 ?_
    exact fr_zret (pc := 15) dX11_hasSlot_15 rfl ⟨Nat.le_refl 0, Nat.le_refl 0⟩ ⟨rfl, hW⟩
def J_X8_emptySlot_2 (g : GG) (post : Option Value → Hs → Prop) (σ : Hs) (a0 : Nat) (v1 : Int32) : Prop := Fr g M_X8_emptySlot (0, 0, 0, 0) [(0, .ref a0), (1, .int v1)] [] 2 σ post
set_option maxHeartbeats 4000000 in
set_option maxRecDepth 100000 in
theorem q_X8_emptySlot {g : GG} {σ : Hs} {post : Option Value → Hs → Prop} (r0 : Nat) (hW : J_X8_emptySlot_2 g post σ r0 0 ) : Do g M_X8_emptySlot 0 0 [.ref r0] σ post := by
  refine Do.of (by decide +kernel) (Nat.le_of_ble_eq_true rfl) ?_
  show Fr g M_X8_emptySlot (0, 0, 0, 0) [(0, .ref r0)] [] 0 σ post
  refine fr_iconst (pc := 0) 0 (by decide) dX8_emptySlot_0 ?_
  refine fr_istore_n (pc := 1) (lv' := [(1, .int 0), (0, .ref r0)]) rfl (by decide) rfl dX8_emptySlot_1 ?_
  exact fr_sub [1, 0] rfl hW
set_option maxHeartbeats 4000000 in
set_option maxRecDepth 100000 in
theorem q_X8_emptySlot_2 {g : GG} {σ : Hs} {post : Option Value → Hs → Prop} (a0 : Nat) (v1 : Int32) (hW : (64 ≤ v1 → post (some (.int (-1))) σ) ∧ (¬ 64 ≤ v1 → FL σ a0 8 1 (fun l1 => Do g M_X11_hasSlot 0 0 [.long l1, .int v1] σ (kI (fun i3 s2 => (¬ i3 = 0 → J_X8_emptySlot_2 g post s2 a0 ((v1 + 1)) ) ∧ (i3 = 0 → post (some (.int v1)) s2)))))) : J_X8_emptySlot_2 g post σ a0 v1 := by
  show Fr g M_X8_emptySlot (0, 0, 0, 0) [(0, .ref a0), (1, .int v1)] [] 2 σ post
  refine fr_iload_n (pc := 2) 1 rfl rfl dX8_emptySlot_2 ?_
  refine fr_bipush (pc := 3) 64 (by decide) dX8_emptySlot_3 ?_
  refine fr_icmp_ge (pc := 5) (tgt := 27) (by decide) dX8_emptySlot_5 hW (fun hW => ?_) (fun hW => ?_)
  · refine fr_iconst (pc := 27) (-1) (by decide) dX8_emptySlot_27 ?_
    exact fr_iret (pc := 28) dX8_emptySlot_28 rfl ⟨Nat.le_refl 0, Nat.le_refl 0⟩ hW
  · refine fr_aload_n (pc := 8) 0 rfl rfl dX8_emptySlot_8 ?_
    refine fr_getL (pc := 9) (T := TX8) (k := 1) kc_X8 (by decide) w_596 dX8_emptySlot_9 hW (fun l1 hW => ?_)
    refine fr_iload_n (pc := 12) 1 rfl rfl dX8_emptySlot_12 ?_
    refine fr_callSN_I (pc := 13) (As := [.long l1, .int v1]) (st := []) wd_X11_hasSlot ⟨RX11, by decide +kernel⟩ ok_X11_hasSlot (by decide) rfl (Nat.le_of_ble_eq_true rfl) dX8_emptySlot_13 ⟨Nat.le_refl 0, Nat.le_refl 0⟩ hW (fun i3 s2 hW => ?_)
    refine fr_if_ne (pc := 16) (tgt := 21) (by decide) dX8_emptySlot_16 hW (fun hW => ?_) (fun hW => ?_)
    · refine fr_iinc (pc := 21) (lv' := [(1, .int (v1 + 1)), (0, .ref a0)]) (v1 + 1) 1 rfl (congrArg (fun z => v1 + z) (by decide)) (by decide) rfl dX8_emptySlot_21 ?_
      refine fr_goto (pc := 24) (tgt := 2) (by decide) dX8_emptySlot_24 ?_
      exact fr_sub [1, 0] rfl hW
    · refine fr_iload_n (pc := 19) 1 rfl rfl dX8_emptySlot_19 ?_
      exact fr_iret (pc := 20) dX8_emptySlot_20 rfl ⟨Nat.le_refl 0, Nat.le_refl 0⟩ hW
set_option maxHeartbeats 4000000 in
set_option maxRecDepth 100000 in
theorem q_X11_rest {g : GG} {σ : Hs} {post : Option Value → Hs → Prop} (p0 : Int32) (p1 : Int32) (hW : (p1 ≤ 0 → post (some (.int 0)) σ) ∧ (¬ p1 ≤ 0 → ¬ p1 = 0 ∧ post (some (.int (p0 - p0 / p1 * p1))) σ)) : Do g M_X11_rest 0 0 [.int p0, .int p1] σ post := by
  refine Do.of (by decide +kernel) (Nat.le_of_ble_eq_true rfl) ?_
  show Fr g M_X11_rest (0, 0, 0, 0) [(0, .int p0), (1, .int p1)] [] 0 σ post
  refine fr_iload_n (pc := 0) 1 rfl rfl dX11_rest_0 ?_
  refine fr_if_le (pc := 1) (tgt := 10) (by decide) dX11_rest_1 hW (fun hW => ?_) (fun hW => ?_)
  · refine fr_iconst (pc := 10) 0 (by decide) dX11_rest_10 ?_
    exact fr_iret (pc := 11) dX11_rest_11 rfl ⟨Nat.le_refl 0, Nat.le_refl 0⟩ hW
  · refine fr_iload_n (pc := 4) 0 rfl rfl dX11_rest_4 ?_
    refine fr_iload_n (pc := 5) 1 rfl rfl dX11_rest_5 ?_
    obtain ⟨hne, hW⟩ := hW
    refine fr_irem (pc := 6) hne dX11_rest_6 ?_
    refine fr_goto (pc := 7) (tgt := 11) (by decide) dX11_rest_7 ?_
    exact fr_iret (pc := 11) dX11_rest_11 rfl ⟨Nat.le_refl 0, Nat.le_refl 0⟩ hW
set_option maxHeartbeats 4000000 in
set_option maxRecDepth 100000 in
theorem q_X1_put {g : GG} {σ : Hs} {post : Option Value → Hs → Prop} (r0 : Nat) (p0 : Int32) (p1 : Int32) (hW : (p0 < 0 → post none σ) ∧ (¬ p0 < 0 → FR σ r0 1 0 (fun r1 => AN g σ r1 0 (fun i2 => (i2 ≤ p0 → post none σ) ∧ (¬ i2 ≤ p0 → FR σ r0 1 0 (fun r3 => SI g σ r3 0 p0 p1 (fun s4 => post none s4))))))) : Do g M_X1_put 0 0 [.ref r0, .int p0, .int p1] σ post := by
  refine Do.of (by decide +kernel) (Nat.le_of_ble_eq_true rfl) ?_
  show Fr g M_X1_put (0, 0, 0, 0) [(0, .ref r0), (1, .int p0), (2, .int p1)] [] 0 σ post
  refine fr_iload_n (pc := 0) 1 rfl rfl dX1_put_0 ?_
  refine fr_if_lt (pc := 1) (tgt := 20) (by decide) dX1_put_1 hW (fun hW => ?_) (fun hW => ?_)
  · exact fr_ret (pc := 20) dX1_put_20 rfl ⟨Nat.le_refl 0, Nat.le_refl 0⟩ hW
  · refine fr_iload_n (pc := 4) 1 rfl rfl dX1_put_4 ?_
    refine fr_aload_n (pc := 5) 0 rfl rfl dX1_put_5 ?_
    refine fr_getR (pc := 6) (T := TX1) (k := 0) kc_X1 (by decide) w_501 dX1_put_6 hW (fun r1 hW => ?_)
    refine fr_alen (pc := 9) 0 (fun _ => rfl) dX1_put_9 hW (fun i2 hW => ?_)
    refine fr_icmp_ge (pc := 10) (tgt := 20) (by decide) dX1_put_10 hW (fun hW => ?_) (fun hW => ?_)
    · exact fr_ret (pc := 20) dX1_put_20 rfl ⟨Nat.le_refl 0, Nat.le_refl 0⟩ hW
    · refine fr_aload_n (pc := 13) 0 rfl rfl dX1_put_13 ?_
      refine fr_getR (pc := 14) (T := TX1) (k := 0) kc_X1 (by decide) w_501 dX1_put_14 hW (fun r3 hW => ?_)
      refine fr_iload_n (pc := 17) 1 rfl rfl dX1_put_17 ?_
      refine fr_iload_n (pc := 18) 2 rfl rfl dX1_put_18 ?_
      refine fr_iast (pc := 19) dX1_put_19 hW (fun s4 hW => ?_)
      exact fr_ret (pc := 20) dX1_put_20 rfl ⟨Nat.le_refl 0, Nat.le_refl 0⟩ hW
set_option maxHeartbeats 4000000 in
set_option maxRecDepth 100000 in
theorem q_X8_put {g : GG} {σ : Hs} {post : Option Value → Hs → Prop} (r0 : Nat) (p0 : Int32) (p1 : Int32) (p2 : Int32) (hW : FR σ r0 8 0 (fun r1 => Rc σ r1 1 ∧ Do g M_X1_put 0 0 [.ref r1, .int ((p0 * 4) + p1), .int p2] σ (kV (fun s2 => post none s2)))) : Do g M_X8_put 0 0 [.ref r0, .int p0, .int p1, .int p2] σ post := by
  refine Do.of (by decide +kernel) (Nat.le_of_ble_eq_true rfl) ?_
  show Fr g M_X8_put (0, 0, 0, 0) [(0, .ref r0), (1, .int p0), (2, .int p1), (3, .int p2)] [] 0 σ post
  refine fr_aload_n (pc := 0) 0 rfl rfl dX8_put_0 ?_
  refine fr_getR (pc := 1) (T := TX8) (k := 0) kc_X8 (by decide) w_519 dX8_put_1 hW (fun r1 hW => ?_)
  refine fr_iload_n (pc := 4) 1 rfl rfl dX8_put_4 ?_
  refine fr_iconst (pc := 5) 4 (by decide) dX8_put_5 ?_
  refine fr_imul (pc := 6) dX8_put_6 ?_
  refine fr_iload_n (pc := 7) 2 rfl rfl dX8_put_7 ?_
  refine fr_iadd (pc := 8) dX8_put_8 ?_
  refine fr_iload_n (pc := 9) 3 rfl rfl dX8_put_9 ?_
  obtain ⟨hrc, hW⟩ := hW
  refine fr_callV_V (pc := 10) (As := [.int ((p0 * 4) + p1), .int p2]) (st := []) wd_X1_put w_597 ok_X1_put (by decide) rfl (Nat.le_of_ble_eq_true rfl) dX8_put_10 ⟨Nat.le_refl 0, Nat.le_refl 0⟩ kc_X1 hrc hW (fun s2 hW => ?_)
  exact fr_ret (pc := 13) dX8_put_13 rfl ⟨Nat.le_refl 0, Nat.le_refl 0⟩ hW
set_option maxHeartbeats 4000000 in
set_option maxRecDepth 100000 in
theorem q_X8_hold {g : GG} {σ : Hs} {post : Option Value → Hs → Prop} (r0 : Nat) (p0 : Int32) (hW : FL σ r0 8 1 (fun l1 => PF σ r0 8 1 (.long (l1 ||| ((1 : Int64) <<< (p0.toInt64 &&& 63)))) (fun s2 => post none s2))) : Do g M_X8_hold 0 0 [.ref r0, .int p0] σ post := by
  refine Do.of (by decide +kernel) (Nat.le_of_ble_eq_true rfl) ?_
  show Fr g M_X8_hold (0, 0, 0, 0) [(0, .ref r0), (1, .int p0)] [] 0 σ post
  refine fr_aload_n (pc := 0) 0 rfl rfl dX8_hold_0 ?_
  refine fr_dup (pc := 1) rfl dX8_hold_1 ?_
  refine fr_getL (pc := 2) (T := TX8) (k := 1) kc_X8 (by decide) w_596 dX8_hold_2 hW (fun l1 hW => ?_)
  refine fr_lconst (pc := 5) 1 (by decide) dX8_hold_5 ?_
  refine fr_iload_n (pc := 6) 1 rfl rfl dX8_hold_6 ?_
  refine fr_lshl (pc := 7) dX8_hold_7 ?_
  refine fr_lor (pc := 8) dX8_hold_8 ?_
  refine fr_put (pc := 9) (T := TX8) (k := 1) kc_X8 (by decide) w_596 rfl rfl rfl dX8_hold_9 hW (fun s2 hW => ?_)
  exact fr_ret (pc := 12) dX8_hold_12 rfl ⟨Nat.le_refl 0, Nat.le_refl 0⟩ hW
set_option maxHeartbeats 4000000 in
set_option maxRecDepth 100000 in
theorem q_X2_isDropped {g : GG} {σ : Hs} {post : Option Value → Hs → Prop} (r0 : Nat) (hW : FI σ r0 2 11 (fun i1 => (narrow .boolean (.int i1) = .int i1 ∧ post (some (.int i1)) σ))) : Do g M_X2_isDropped 0 0 [.ref r0] σ post := by
  refine Do.of (by decide +kernel) (Nat.le_of_ble_eq_true rfl) ?_
  show Fr g M_X2_isDropped (0, 0, 0, 0) [(0, .ref r0)] [] 0 σ post
  refine fr_aload_n (pc := 0) 0 rfl rfl dX2_isDropped_0 ?_
  refine fr_getI (pc := 1) (T := TX2) (k := 11) kc_X2 (by decide) w_598 dX2_isDropped_1 hW (fun i1 hW => ?_)
  exact fr_zret (pc := 4) dX2_isDropped_4 rfl ⟨Nat.le_refl 0, Nat.le_refl 0⟩ hW
set_option maxHeartbeats 4000000 in
set_option maxRecDepth 100000 in
theorem q_X3_kept {g : GG} {σ : Hs} {post : Option Value → Hs → Prop} (r0 : Nat) (p0 : Int32) (hW : (p0 < 0 → post (some (.null)) σ) ∧ (¬ p0 < 0 → FR σ r0 3 1 (fun r1 => AN g σ r1 4 (fun i2 => (p0 < i2 → FR σ r0 3 1 (fun r3 => AR g σ r3 4 p0 (post (some (.null)) σ) (fun r4 => Rc σ r4 2 ∧ Do g M_X2_isDropped 0 0 [.ref r4] σ (kI (fun i6 s5 => (i6 = 0 → post (some (.ref r4)) s5) ∧ (¬ i6 = 0 → post (some (.null)) s5)))))) ∧ (¬ p0 < i2 → post (some (.null)) σ))))) : Do g M_X3_kept 0 0 [.ref r0, .int p0] σ post := by
  refine Do.of (by decide +kernel) (Nat.le_of_ble_eq_true rfl) ?_
  show Fr g M_X3_kept (0, 0, 0, 0) [(0, .ref r0), (1, .int p0)] [] 0 σ post
  refine fr_iload_n (pc := 0) 1 rfl rfl dX3_kept_0 ?_
  refine fr_if_lt (pc := 1) (tgt := 13) (by decide) dX3_kept_1 hW (fun hW => ?_) (fun hW => ?_)
  · refine fr_null (pc := 13) dX3_kept_13 ?_
    exact fr_aret (pc := 14) dX3_kept_14 rfl (Or.inl rfl) ⟨Nat.le_refl 0, Nat.le_refl 0⟩ hW
  · refine fr_iload_n (pc := 4) 1 rfl rfl dX3_kept_4 ?_
    refine fr_aload_n (pc := 5) 0 rfl rfl dX3_kept_5 ?_
    refine fr_getR (pc := 6) (T := TX3) (k := 1) kc_X3 (by decide) w_528 dX3_kept_6 hW (fun r1 hW => ?_)
    refine fr_alen (pc := 9) 4 (fun _ => rfl) dX3_kept_9 hW (fun i2 hW => ?_)
    refine fr_icmp_lt (pc := 10) (tgt := 15) (by decide) dX3_kept_10 hW (fun hW => ?_) (fun hW => ?_)
    · refine fr_aload_n (pc := 15) 0 rfl rfl dX3_kept_15 ?_
      refine fr_getR (pc := 16) (T := TX3) (k := 1) kc_X3 (by decide) w_528 dX3_kept_16 hW (fun r3 hW => ?_)
      refine fr_iload_n (pc := 19) 1 rfl rfl dX3_kept_19 ?_
      refine fr_aald (pc := 20) 4 (fun _ => rfl) dX3_kept_20 hW (fun hW => ?_) (fun r4 hW => ?_)
      · refine fr_astore_nN (pc := 21) (lv' := [(2, .null), (0, .ref r0), (1, .int p0)]) rfl (by decide) rfl dX3_kept_21 ?_
        refine fr_aload_nN (pc := 22) 0 rfl rfl dX3_kept_22 ?_
        refine fr_ifnullN (pc := 23) (tgt := 33) (by decide) dX3_kept_23 ?_
        refine fr_null (pc := 33) dX3_kept_33 ?_
        refine fr_goto (pc := 34) (tgt := 38) (by decide) dX3_kept_34 ?_
        exact fr_aret (pc := 38) dX3_kept_38 rfl (Or.inl rfl) ⟨Nat.le_refl 0, Nat.le_refl 0⟩ hW
      · refine fr_astore_n (pc := 21) (lv' := [(2, .ref r4), (0, .ref r0), (1, .int p0)]) rfl (by decide) rfl dX3_kept_21 ?_
        refine fr_aload_n (pc := 22) 0 rfl rfl dX3_kept_22 ?_
        refine fr_ifnull (pc := 23) dX3_kept_23 ?_
        refine fr_aload_n (pc := 26) 0 rfl rfl dX3_kept_26 ?_
        obtain ⟨hrc, hW⟩ := hW
        refine fr_callV_I (pc := 27) (As := []) (st := []) wd_X2_isDropped w_599 ok_X2_isDropped (by decide) rfl (Nat.le_of_ble_eq_true rfl) dX3_kept_27 ⟨Nat.le_refl 0, Nat.le_refl 0⟩ kc_X2 hrc hW (fun i6 s5 hW => ?_)
        refine fr_if_eq (pc := 30) (tgt := 37) (by decide) dX3_kept_30 hW (fun hW => ?_) (fun hW => ?_)
        · refine fr_aload_n (pc := 37) 0 rfl rfl dX3_kept_37 ?_
          exact fr_aret (pc := 38) dX3_kept_38 rfl (Or.inr ⟨_, rfl⟩) ⟨Nat.le_refl 0, Nat.le_refl 0⟩ hW
        · refine fr_null (pc := 33) dX3_kept_33 ?_
          refine fr_goto (pc := 34) (tgt := 38) (by decide) dX3_kept_34 ?_
          exact fr_aret (pc := 38) dX3_kept_38 rfl (Or.inl rfl) ⟨Nat.le_refl 0, Nat.le_refl 0⟩ hW
    · refine fr_null (pc := 13) dX3_kept_13 ?_
      exact fr_aret (pc := 14) dX3_kept_14 rfl (Or.inl rfl) ⟨Nat.le_refl 0, Nat.le_refl 0⟩ hW
set_option maxHeartbeats 4000000 in
set_option maxRecDepth 100000 in
theorem q_X1_at {g : GG} {σ : Hs} {post : Option Value → Hs → Prop} (r0 : Nat) (p0 : Int32) (hW : (p0 < 0 → post (some (.int 0)) σ) ∧ (¬ p0 < 0 → FR σ r0 1 0 (fun r1 => AN g σ r1 0 (fun i2 => (i2 ≤ p0 → post (some (.int 0)) σ) ∧ (¬ i2 ≤ p0 → FR σ r0 1 0 (fun r3 => AI g σ r3 0 p0 (fun i4 => post (some (.int i4)) σ))))))) : Do g M_X1_at 0 0 [.ref r0, .int p0] σ post := by
  refine Do.of (by decide +kernel) (Nat.le_of_ble_eq_true rfl) ?_
  show Fr g M_X1_at (0, 0, 0, 0) [(0, .ref r0), (1, .int p0)] [] 0 σ post
  refine fr_iload_n (pc := 0) 1 rfl rfl dX1_at_0 ?_
  refine fr_if_lt (pc := 1) (tgt := 22) (by decide) dX1_at_1 hW (fun hW => ?_) (fun hW => ?_)
  · refine fr_iconst (pc := 22) 0 (by decide) dX1_at_22 ?_
    exact fr_iret (pc := 23) dX1_at_23 rfl ⟨Nat.le_refl 0, Nat.le_refl 0⟩ hW
  · refine fr_iload_n (pc := 4) 1 rfl rfl dX1_at_4 ?_
    refine fr_aload_n (pc := 5) 0 rfl rfl dX1_at_5 ?_
    refine fr_getR (pc := 6) (T := TX1) (k := 0) kc_X1 (by decide) w_501 dX1_at_6 hW (fun r1 hW => ?_)
    refine fr_alen (pc := 9) 0 (fun _ => rfl) dX1_at_9 hW (fun i2 hW => ?_)
    refine fr_icmp_ge (pc := 10) (tgt := 22) (by decide) dX1_at_10 hW (fun hW => ?_) (fun hW => ?_)
    · refine fr_iconst (pc := 22) 0 (by decide) dX1_at_22 ?_
      exact fr_iret (pc := 23) dX1_at_23 rfl ⟨Nat.le_refl 0, Nat.le_refl 0⟩ hW
    · refine fr_aload_n (pc := 13) 0 rfl rfl dX1_at_13 ?_
      refine fr_getR (pc := 14) (T := TX1) (k := 0) kc_X1 (by decide) w_501 dX1_at_14 hW (fun r3 hW => ?_)
      refine fr_iload_n (pc := 17) 1 rfl rfl dX1_at_17 ?_
      refine fr_iald (pc := 18) dX1_at_18 hW (fun i4 hW => ?_)
      refine fr_goto (pc := 19) (tgt := 23) (by decide) dX1_at_19 ?_
      exact fr_iret (pc := 23) dX1_at_23 rfl ⟨Nat.le_refl 0, Nat.le_refl 0⟩ hW
set_option maxHeartbeats 4000000 in
set_option maxRecDepth 100000 in
theorem q_X8_number {g : GG} {σ : Hs} {post : Option Value → Hs → Prop} (r0 : Nat) (p0 : Int32) (p1 : Int32) (hW : FR σ r0 8 0 (fun r1 => Rc σ r1 1 ∧ Do g M_X1_at 0 0 [.ref r1, .int ((p0 * 4) + p1)] σ (kI (fun i3 s2 => post (some (.int i3)) s2)))) : Do g M_X8_number 0 0 [.ref r0, .int p0, .int p1] σ post := by
  refine Do.of (by decide +kernel) (Nat.le_of_ble_eq_true rfl) ?_
  show Fr g M_X8_number (0, 0, 0, 0) [(0, .ref r0), (1, .int p0), (2, .int p1)] [] 0 σ post
  refine fr_aload_n (pc := 0) 0 rfl rfl dX8_number_0 ?_
  refine fr_getR (pc := 1) (T := TX8) (k := 0) kc_X8 (by decide) w_519 dX8_number_1 hW (fun r1 hW => ?_)
  refine fr_iload_n (pc := 4) 1 rfl rfl dX8_number_4 ?_
  refine fr_iconst (pc := 5) 4 (by decide) dX8_number_5 ?_
  refine fr_imul (pc := 6) dX8_number_6 ?_
  refine fr_iload_n (pc := 7) 2 rfl rfl dX8_number_7 ?_
  refine fr_iadd (pc := 8) dX8_number_8 ?_
  obtain ⟨hrc, hW⟩ := hW
  refine fr_callV_I (pc := 9) (As := [.int ((p0 * 4) + p1)]) (st := []) wd_X1_at w_600 ok_X1_at (by decide) rfl (Nat.le_of_ble_eq_true rfl) dX8_number_9 ⟨Nat.le_refl 0, Nat.le_refl 0⟩ kc_X1 hrc hW (fun i3 s2 hW => ?_)
  exact fr_iret (pc := 12) dX8_number_12 rfl ⟨Nat.le_refl 0, Nat.le_refl 0⟩ hW
def J_X2_isAhead_2 (g : GG) (post : Option Value → Hs → Prop) (σ : Hs) (a0 : Nat) (v1 : Int32) (v2 : Int32) (v3 : Int32) : Prop := Fr g M_X2_isAhead (0, 0, 0, 0) [(0, .ref a0), (1, .int v1), (2, .int v2), (3, .int v3)] [] 2 σ post
set_option maxHeartbeats 4000000 in
set_option maxRecDepth 100000 in
theorem q_X2_isAhead {g : GG} {σ : Hs} {post : Option Value → Hs → Prop} (r0 : Nat) (p0 : Int32) (p1 : Int32) (hW : J_X2_isAhead_2 g post σ r0 p0 p1 0 ) : Do g M_X2_isAhead 0 0 [.ref r0, .int p0, .int p1] σ post := by
  refine Do.of (by decide +kernel) (Nat.le_of_ble_eq_true rfl) ?_
  show Fr g M_X2_isAhead (0, 0, 0, 0) [(0, .ref r0), (1, .int p0), (2, .int p1)] [] 0 σ post
  refine fr_iconst (pc := 0) 0 (by decide) dX2_isAhead_0 ?_
  refine fr_istore_n (pc := 1) (lv' := [(3, .int 0), (0, .ref r0), (1, .int p0), (2, .int p1)]) rfl (by decide) rfl dX2_isAhead_1 ?_
  exact fr_sub [1, 2, 3, 0] rfl hW
set_option maxHeartbeats 4000000 in
set_option maxRecDepth 100000 in
theorem q_X2_isAhead_2 {g : GG} {σ : Hs} {post : Option Value → Hs → Prop} (a0 : Nat) (v1 : Int32) (v2 : Int32) (v3 : Int32) (hW : FI σ a0 2 2 (fun i1 => (i1 ≤ v3 → (v2 ≤ v1 → post (some (.int 0)) σ) ∧ (¬ v2 ≤ v1 → post (some (.int 1)) σ)) ∧ (¬ i1 ≤ v3 → FR σ a0 2 5 (fun r2 => Rc σ r2 1 ∧ Do g M_X1_at 0 0 [.ref r2, .int v3] σ (kI (fun i4 s3 => FR s3 a0 2 0 (fun r7 => Rc s3 r7 8 ∧ Do g M_X8_number 0 0 [.ref r7, .int v1, .int i4] s3 (kI (fun i9 s8 => FR s8 a0 2 0 (fun r12 => Rc s8 r12 8 ∧ Do g M_X8_number 0 0 [.ref r12, .int v2, .int i4] s8 (kI (fun i14 s13 => (i9 = i14 → J_X2_isAhead_2 g post s13 a0 v1 v2 ((v3 + 1)) ) ∧ (¬ i9 = i14 → (i14 ≤ i9 → post (some (.int 0)) s13) ∧ (¬ i14 ≤ i9 → post (some (.int 1)) s13)))))))))))))) : J_X2_isAhead_2 g post σ a0 v1 v2 v3 := by
  show Fr g M_X2_isAhead (0, 0, 0, 0) [(0, .ref a0), (1, .int v1), (2, .int v2), (3, .int v3)] [] 2 σ post
  refine fr_iload_n (pc := 2) 3 rfl rfl dX2_isAhead_2 ?_
  refine fr_aload_n (pc := 3) 0 rfl rfl dX2_isAhead_3 ?_
  refine fr_getI (pc := 4) (T := TX2) (k := 2) kc_X2 (by decide) w_601 dX2_isAhead_4 hW (fun i1 hW => ?_)
  refine fr_icmp_ge (pc := 7) (tgt := 70) (by decide) dX2_isAhead_7 hW (fun hW => ?_) (fun hW => ?_)
  · refine fr_iload_n (pc := 70) 1 rfl rfl dX2_isAhead_70 ?_
    refine fr_iload_n (pc := 71) 2 rfl rfl dX2_isAhead_71 ?_
    refine fr_icmp_ge (pc := 72) (tgt := 79) (by decide) dX2_isAhead_72 hW (fun hW => ?_) (fun hW => ?_)
    · refine fr_iconst (pc := 79) 0 (by decide) dX2_isAhead_79 ?_
      exact fr_zret (pc := 80) dX2_isAhead_80 rfl ⟨Nat.le_refl 0, Nat.le_refl 0⟩ ⟨rfl, hW⟩
    · refine fr_iconst (pc := 75) 1 (by decide) dX2_isAhead_75 ?_
      refine fr_goto (pc := 76) (tgt := 80) (by decide) dX2_isAhead_76 ?_
      exact fr_zret (pc := 80) dX2_isAhead_80 rfl ⟨Nat.le_refl 0, Nat.le_refl 0⟩ ⟨rfl, hW⟩
  · refine fr_aload_n (pc := 10) 0 rfl rfl dX2_isAhead_10 ?_
    refine fr_getR (pc := 11) (T := TX2) (k := 5) kc_X2 (by decide) w_602 dX2_isAhead_11 hW (fun r2 hW => ?_)
    refine fr_iload_n (pc := 14) 3 rfl rfl dX2_isAhead_14 ?_
    obtain ⟨hrc, hW⟩ := hW
    refine fr_callV_I (pc := 15) (As := [.int v3]) (st := []) wd_X1_at w_604 ok_X1_at (by decide) rfl (Nat.le_of_ble_eq_true rfl) dX2_isAhead_15 ⟨Nat.le_refl 0, Nat.le_refl 0⟩ kc_X1 hrc hW (fun i4 s3 hW => ?_)
    refine fr_istore (pc := 18) (lv' := [(4, .int i4), (0, .ref a0), (1, .int v1), (2, .int v2), (3, .int v3)]) (by decide) rfl dX2_isAhead_18 ?_
    refine fr_aload_n (pc := 20) 1 rfl rfl dX2_isAhead_20 ?_
    refine fr_getR (pc := 21) (T := TX2) (k := 0) kc_X2 (by decide) w_603 dX2_isAhead_21 hW (fun r7 hW => ?_)
    refine fr_iload_n (pc := 24) 2 rfl rfl dX2_isAhead_24 ?_
    refine fr_iload (pc := 25) 0 rfl dX2_isAhead_25 ?_
    obtain ⟨hrc, hW⟩ := hW
    refine fr_callV_I (pc := 27) (As := [.int v1, .int i4]) (st := []) wd_X8_number w_605 ok_X8_number (by decide) rfl (Nat.le_of_ble_eq_true rfl) dX2_isAhead_27 ⟨Nat.le_refl 0, Nat.le_refl 0⟩ kc_X8 hrc hW (fun i9 s8 hW => ?_)
    refine fr_istore (pc := 30) (lv' := [(5, .int i9), (4, .int i4), (0, .ref a0), (1, .int v1), (2, .int v2), (3, .int v3)]) (by decide) rfl dX2_isAhead_30 ?_
    refine fr_aload_n (pc := 32) 2 rfl rfl dX2_isAhead_32 ?_
    refine fr_getR (pc := 33) (T := TX2) (k := 0) kc_X2 (by decide) w_603 dX2_isAhead_33 hW (fun r12 hW => ?_)
    refine fr_iload_n (pc := 36) 4 rfl rfl dX2_isAhead_36 ?_
    refine fr_iload (pc := 37) 1 rfl dX2_isAhead_37 ?_
    obtain ⟨hrc, hW⟩ := hW
    refine fr_callV_I (pc := 39) (As := [.int v2, .int i4]) (st := []) wd_X8_number w_605 ok_X8_number (by decide) rfl (Nat.le_of_ble_eq_true rfl) dX2_isAhead_39 ⟨Nat.le_refl 0, Nat.le_refl 0⟩ kc_X8 hrc hW (fun i14 s13 hW => ?_)
    refine fr_istore (pc := 42) (lv' := [(6, .int i14), (5, .int i9), (4, .int i4), (0, .ref a0), (1, .int v1), (2, .int v2), (3, .int v3)]) (by decide) rfl dX2_isAhead_42 ?_
    refine fr_iload (pc := 44) 1 rfl dX2_isAhead_44 ?_
    refine fr_iload (pc := 46) 0 rfl dX2_isAhead_46 ?_
    refine fr_icmp_eq (pc := 48) (tgt := 64) (by decide) dX2_isAhead_48 hW (fun hW => ?_) (fun hW => ?_)
    · refine fr_iinc (pc := 64) (lv' := [(3, .int (v3 + 1)), (6, .int i14), (5, .int i9), (4, .int i4), (0, .ref a0), (1, .int v1), (2, .int v2)]) (v3 + 1) 6 rfl (congrArg (fun z => v3 + z) (by decide)) (by decide) rfl dX2_isAhead_64 ?_
      refine fr_goto (pc := 67) (tgt := 2) (by decide) dX2_isAhead_67 ?_
      exact fr_sub [4, 5, 6, 0] rfl hW
    · refine fr_iload (pc := 51) 1 rfl dX2_isAhead_51 ?_
      refine fr_iload (pc := 53) 0 rfl dX2_isAhead_53 ?_
      refine fr_icmp_ge (pc := 55) (tgt := 62) (by decide) dX2_isAhead_55 hW (fun hW => ?_) (fun hW => ?_)
      · refine fr_iconst (pc := 62) 0 (by decide) dX2_isAhead_62 ?_
        exact fr_zret (pc := 63) dX2_isAhead_63 rfl ⟨Nat.le_refl 0, Nat.le_refl 0⟩ ⟨rfl, hW⟩
      · refine fr_iconst (pc := 58) 1 (by decide) dX2_isAhead_58 ?_
        refine fr_goto (pc := 59) (tgt := 63) (by decide) dX2_isAhead_59 ?_
        exact fr_zret (pc := 63) dX2_isAhead_63 rfl ⟨Nat.le_refl 0, Nat.le_refl 0⟩ ⟨rfl, hW⟩
def J_X2_placeFor_2 (g : GG) (post : Option Value → Hs → Prop) (σ : Hs) (a0 : Nat) (v1 : Int32) (v2 : Int32) : Prop := Fr g M_X2_placeFor (0, 0, 0, 0) [(0, .ref a0), (1, .int v1), (2, .int v2)] [] 2 σ post
set_option maxHeartbeats 4000000 in
set_option maxRecDepth 100000 in
theorem q_X2_placeFor {g : GG} {σ : Hs} {post : Option Value → Hs → Prop} (r0 : Nat) (p0 : Int32) (hW : J_X2_placeFor_2 g post σ r0 p0 0 ) : Do g M_X2_placeFor 0 0 [.ref r0, .int p0] σ post := by
  refine Do.of (by decide +kernel) (Nat.le_of_ble_eq_true rfl) ?_
  show Fr g M_X2_placeFor (0, 0, 0, 0) [(0, .ref r0), (1, .int p0)] [] 0 σ post
  refine fr_iconst (pc := 0) 0 (by decide) dX2_placeFor_0 ?_
  refine fr_istore_n (pc := 1) (lv' := [(2, .int 0), (0, .ref r0), (1, .int p0)]) rfl (by decide) rfl dX2_placeFor_1 ?_
  exact fr_sub [1, 2, 0] rfl hW
set_option maxHeartbeats 4000000 in
set_option maxRecDepth 100000 in
theorem q_X2_placeFor_2 {g : GG} {σ : Hs} {post : Option Value → Hs → Prop} (a0 : Nat) (v1 : Int32) (v2 : Int32) (hW : FI σ a0 2 8 (fun i1 => (i1 ≤ v2 → post (some (.int v2)) σ) ∧ (¬ i1 ≤ v2 → FR σ a0 2 6 (fun r2 => Rc σ r2 1 ∧ Do g M_X1_at 0 0 [.ref r2, .int v2] σ (kI (fun i4 s3 => Rc s3 a0 2 ∧ Do g M_X2_isAhead 0 0 [.ref a0, .int i4, .int v1] s3 (kI (fun i8 s7 => (i8 = 0 → post (some (.int v2)) s7) ∧ (¬ i8 = 0 → J_X2_placeFor_2 g post s7 a0 v1 ((v2 + 1)) ))))))))) : J_X2_placeFor_2 g post σ a0 v1 v2 := by
  show Fr g M_X2_placeFor (0, 0, 0, 0) [(0, .ref a0), (1, .int v1), (2, .int v2)] [] 2 σ post
  refine fr_iload_n (pc := 2) 2 rfl rfl dX2_placeFor_2 ?_
  refine fr_aload_n (pc := 3) 0 rfl rfl dX2_placeFor_3 ?_
  refine fr_getI (pc := 4) (T := TX2) (k := 8) kc_X2 (by decide) w_606 dX2_placeFor_4 hW (fun i1 hW => ?_)
  refine fr_icmp_ge (pc := 7) (tgt := 32) (by decide) dX2_placeFor_7 hW (fun hW => ?_) (fun hW => ?_)
  · refine fr_iload_n (pc := 32) 2 rfl rfl dX2_placeFor_32 ?_
    exact fr_iret (pc := 33) dX2_placeFor_33 rfl ⟨Nat.le_refl 0, Nat.le_refl 0⟩ hW
  · refine fr_aload_n (pc := 10) 0 rfl rfl dX2_placeFor_10 ?_
    refine fr_aload_n (pc := 11) 0 rfl rfl dX2_placeFor_11 ?_
    refine fr_getR (pc := 12) (T := TX2) (k := 6) kc_X2 (by decide) w_607 dX2_placeFor_12 hW (fun r2 hW => ?_)
    refine fr_iload_n (pc := 15) 2 rfl rfl dX2_placeFor_15 ?_
    obtain ⟨hrc, hW⟩ := hW
    refine fr_callV_I (pc := 16) (As := [.int v2]) (st := [.ref a0]) wd_X1_at w_604 ok_X1_at (by decide) rfl (Nat.le_of_ble_eq_true rfl) dX2_placeFor_16 ⟨Nat.le_refl 0, Nat.le_refl 0⟩ kc_X1 hrc hW (fun i4 s3 hW => ?_)
    refine fr_iload_n (pc := 19) 1 rfl rfl dX2_placeFor_19 ?_
    obtain ⟨hrc, hW⟩ := hW
    refine fr_callV_I (pc := 20) (As := [.int i4, .int v1]) (st := []) wd_X2_isAhead w_608 ok_X2_isAhead (by decide) rfl (Nat.le_of_ble_eq_true rfl) dX2_placeFor_20 ⟨Nat.le_refl 0, Nat.le_refl 0⟩ kc_X2 hrc hW (fun i8 s7 hW => ?_)
    refine fr_if_eq (pc := 23) (tgt := 32) (by decide) dX2_placeFor_23 hW (fun hW => ?_) (fun hW => ?_)
    · refine fr_iload_n (pc := 32) 2 rfl rfl dX2_placeFor_32 ?_
      exact fr_iret (pc := 33) dX2_placeFor_33 rfl ⟨Nat.le_refl 0, Nat.le_refl 0⟩ hW
    · refine fr_iinc (pc := 26) (lv' := [(2, .int (v2 + 1)), (0, .ref a0), (1, .int v1)]) (v2 + 1) 2 rfl (congrArg (fun z => v2 + z) (by decide)) (by decide) rfl dX2_placeFor_26 ?_
      refine fr_goto (pc := 29) (tgt := 2) (by decide) dX2_placeFor_29 ?_
      exact fr_sub [1, 2, 0] rfl hW
def J_X2_leafAt_4 (g : GG) (post : Option Value → Hs → Prop) (σ : Hs) (a0 : Nat) (v1 : Int32) (v2 : Int32) (v3 : Int32) : Prop := Fr g M_X2_leafAt (0, 0, 0, 0) [(0, .ref a0), (1, .int v1), (2, .int v2), (3, .int v3)] [] 4 σ post
set_option maxHeartbeats 4000000 in
set_option maxRecDepth 100000 in
theorem q_X2_leafAt {g : GG} {σ : Hs} {post : Option Value → Hs → Prop} (r0 : Nat) (p0 : Int32) (hW : J_X2_leafAt_4 g post σ r0 p0 0 0 ) : Do g M_X2_leafAt 0 0 [.ref r0, .int p0] σ post := by
  refine Do.of (by decide +kernel) (Nat.le_of_ble_eq_true rfl) ?_
  show Fr g M_X2_leafAt (0, 0, 0, 0) [(0, .ref r0), (1, .int p0)] [] 0 σ post
  refine fr_iconst (pc := 0) 0 (by decide) dX2_leafAt_0 ?_
  refine fr_istore_n (pc := 1) (lv' := [(2, .int 0), (0, .ref r0), (1, .int p0)]) rfl (by decide) rfl dX2_leafAt_1 ?_
  refine fr_iconst (pc := 2) 0 (by decide) dX2_leafAt_2 ?_
  refine fr_istore_n (pc := 3) (lv' := [(3, .int 0), (2, .int 0), (0, .ref r0), (1, .int p0)]) rfl (by decide) rfl dX2_leafAt_3 ?_
  exact fr_sub [2, 3, 1, 0] rfl hW
set_option maxHeartbeats 4000000 in
set_option maxRecDepth 100000 in
theorem q_X2_leafAt_4 {g : GG} {σ : Hs} {post : Option Value → Hs → Prop} (a0 : Nat) (v1 : Int32) (v2 : Int32) (v3 : Int32) (hW : FI σ a0 2 9 (fun i1 => (i1 ≤ v3 → post (some (.int 0)) σ) ∧ (¬ i1 ≤ v3 → FR σ a0 2 7 (fun r2 => Rc σ r2 1 ∧ Do g M_X1_at 0 0 [.ref r2, .int v3] σ (kI (fun i4 s3 => ((v2 + i4) ≤ v1 → J_X2_leafAt_4 g post s3 a0 v1 ((v2 + i4)) ((v3 + 1)) ) ∧ (¬ (v2 + i4) ≤ v1 → post (some (.int v3)) s3))))))) : J_X2_leafAt_4 g post σ a0 v1 v2 v3 := by
  show Fr g M_X2_leafAt (0, 0, 0, 0) [(0, .ref a0), (1, .int v1), (2, .int v2), (3, .int v3)] [] 4 σ post
  refine fr_iload_n (pc := 4) 3 rfl rfl dX2_leafAt_4 ?_
  refine fr_aload_n (pc := 5) 0 rfl rfl dX2_leafAt_5 ?_
  refine fr_getI (pc := 6) (T := TX2) (k := 9) kc_X2 (by decide) w_609 dX2_leafAt_6 hW (fun i1 hW => ?_)
  refine fr_icmp_ge (pc := 9) (tgt := 36) (by decide) dX2_leafAt_9 hW (fun hW => ?_) (fun hW => ?_)
  · refine fr_iconst (pc := 36) 0 (by decide) dX2_leafAt_36 ?_
    exact fr_iret (pc := 37) dX2_leafAt_37 rfl ⟨Nat.le_refl 0, Nat.le_refl 0⟩ hW
  · refine fr_iload_n (pc := 12) 2 rfl rfl dX2_leafAt_12 ?_
    refine fr_aload_n (pc := 13) 0 rfl rfl dX2_leafAt_13 ?_
    refine fr_getR (pc := 14) (T := TX2) (k := 7) kc_X2 (by decide) w_610 dX2_leafAt_14 hW (fun r2 hW => ?_)
    refine fr_iload_n (pc := 17) 3 rfl rfl dX2_leafAt_17 ?_
    obtain ⟨hrc, hW⟩ := hW
    refine fr_callV_I (pc := 18) (As := [.int v3]) (st := [.int v2]) wd_X1_at w_604 ok_X1_at (by decide) rfl (Nat.le_of_ble_eq_true rfl) dX2_leafAt_18 ⟨Nat.le_refl 0, Nat.le_refl 0⟩ kc_X1 hrc hW (fun i4 s3 hW => ?_)
    refine fr_iadd (pc := 21) dX2_leafAt_21 ?_
    refine fr_istore_n (pc := 22) (lv' := [(2, .int (v2 + i4)), (0, .ref a0), (1, .int v1), (3, .int v3)]) rfl (by decide) rfl dX2_leafAt_22 ?_
    refine fr_iload_n (pc := 23) 2 rfl rfl dX2_leafAt_23 ?_
    refine fr_iload_n (pc := 24) 0 rfl rfl dX2_leafAt_24 ?_
    refine fr_icmp_ge (pc := 25) (tgt := 30) (by decide) dX2_leafAt_25 hW (fun hW => ?_) (fun hW => ?_)
    · refine fr_iinc (pc := 30) (lv' := [(3, .int (v3 + 1)), (2, .int (v2 + i4)), (0, .ref a0), (1, .int v1)]) (v3 + 1) 3 rfl (congrArg (fun z => v3 + z) (by decide)) (by decide) rfl dX2_leafAt_30 ?_
      refine fr_goto (pc := 33) (tgt := 4) (by decide) dX2_leafAt_33 ?_
      exact fr_sub [2, 3, 1, 0] rfl hW
    · refine fr_iload_n (pc := 28) 3 rfl rfl dX2_leafAt_28 ?_
      exact fr_iret (pc := 29) dX2_leafAt_29 rfl ⟨Nat.le_refl 0, Nat.le_refl 0⟩ hW
set_option maxHeartbeats 4000000 in
set_option maxRecDepth 100000 in
theorem q_X2_leafFor {g : GG} {σ : Hs} {post : Option Value → Hs → Prop} (r0 : Nat) (p0 : Int32) (hW : (p0 ≤ 0 → post (some (.int 0)) σ) ∧ (¬ p0 ≤ 0 → Rc σ r0 2 ∧ Do g M_X2_leafAt 0 0 [.ref r0, .int (p0 - 1)] σ (kI (fun i2 s1 => post (some (.int i2)) s1)))) : Do g M_X2_leafFor 0 0 [.ref r0, .int p0] σ post := by
  refine Do.of (by decide +kernel) (Nat.le_of_ble_eq_true rfl) ?_
  show Fr g M_X2_leafFor (0, 0, 0, 0) [(0, .ref r0), (1, .int p0)] [] 0 σ post
  refine fr_iload_n (pc := 0) 1 rfl rfl dX2_leafFor_0 ?_
  refine fr_if_le (pc := 1) (tgt := 14) (by decide) dX2_leafFor_1 hW (fun hW => ?_) (fun hW => ?_)
  · refine fr_iconst (pc := 14) 0 (by decide) dX2_leafFor_14 ?_
    exact fr_iret (pc := 15) dX2_leafFor_15 rfl ⟨Nat.le_refl 0, Nat.le_refl 0⟩ hW
  · refine fr_aload_n (pc := 4) 0 rfl rfl dX2_leafFor_4 ?_
    refine fr_iload_n (pc := 5) 1 rfl rfl dX2_leafFor_5 ?_
    refine fr_iconst (pc := 6) 1 (by decide) dX2_leafFor_6 ?_
    refine fr_isub (pc := 7) dX2_leafFor_7 ?_
    obtain ⟨hrc, hW⟩ := hW
    refine fr_callV_I (pc := 8) (As := [.int (p0 - 1)]) (st := []) wd_X2_leafAt w_611 ok_X2_leafAt (by decide) rfl (Nat.le_of_ble_eq_true rfl) dX2_leafFor_8 ⟨Nat.le_refl 0, Nat.le_refl 0⟩ kc_X2 hrc hW (fun i2 s1 hW => ?_)
    refine fr_goto (pc := 11) (tgt := 15) (by decide) dX2_leafFor_11 ?_
    exact fr_iret (pc := 15) dX2_leafFor_15 rfl ⟨Nat.le_refl 0, Nat.le_refl 0⟩ hW
def J_X1_insert_3 (g : GG) (post : Option Value → Hs → Prop) (σ : Hs) (a0 : Nat) (v1 : Int32) (v3 : Int32) (v4 : Int32) : Prop := Fr g M_X1_insert (0, 0, 0, 0) [(0, .ref a0), (1, .int v1), (3, .int v3), (4, .int v4)] [] 3 σ post
set_option maxHeartbeats 4000000 in
set_option maxRecDepth 100000 in
theorem q_X1_insert {g : GG} {σ : Hs} {post : Option Value → Hs → Prop} (r0 : Nat) (p0 : Int32) (p1 : Int32) (p2 : Int32) (hW : J_X1_insert_3 g post σ r0 p0 p2 p1 ) : Do g M_X1_insert 0 0 [.ref r0, .int p0, .int p1, .int p2] σ post := by
  refine Do.of (by decide +kernel) (Nat.le_of_ble_eq_true rfl) ?_
  show Fr g M_X1_insert (0, 0, 0, 0) [(0, .ref r0), (1, .int p0), (2, .int p1), (3, .int p2)] [] 0 σ post
  refine fr_iload_n (pc := 0) 2 rfl rfl dX1_insert_0 ?_
  refine fr_istore (pc := 1) (lv' := [(4, .int p1), (0, .ref r0), (1, .int p0), (2, .int p1), (3, .int p2)]) (by decide) rfl dX1_insert_1 ?_
  exact fr_sub [1, 2, 4, 0] rfl hW
set_option maxHeartbeats 4000000 in
set_option maxRecDepth 100000 in
theorem q_X1_insert_3 {g : GG} {σ : Hs} {post : Option Value → Hs → Prop} (a0 : Nat) (v1 : Int32) (v3 : Int32) (v4 : Int32) (hW : (v4 ≤ v1 → Rc σ a0 1 ∧ Do g M_X1_put 0 0 [.ref a0, .int v1, .int v3] σ (kV (fun s1 => post none s1))) ∧ (¬ v4 ≤ v1 → Rc σ a0 1 ∧ Do g M_X1_at 0 0 [.ref a0, .int (v4 - 1)] σ (kI (fun i3 s2 => Rc s2 a0 1 ∧ Do g M_X1_put 0 0 [.ref a0, .int v4, .int i3] s2 (kV (fun s6 => J_X1_insert_3 g post s6 a0 v1 v3 ((v4 + (-1))) )))))) : J_X1_insert_3 g post σ a0 v1 v3 v4 := by
  show Fr g M_X1_insert (0, 0, 0, 0) [(0, .ref a0), (1, .int v1), (3, .int v3), (4, .int v4)] [] 3 σ post
  refine fr_iload (pc := 3) 3 rfl dX1_insert_3 ?_
  refine fr_iload_n (pc := 5) 1 rfl rfl dX1_insert_5 ?_
  refine fr_icmp_le (pc := 6) (tgt := 29) (by decide) dX1_insert_6 hW (fun hW => ?_) (fun hW => ?_)
  · refine fr_aload_n (pc := 29) 0 rfl rfl dX1_insert_29 ?_
    refine fr_iload_n (pc := 30) 1 rfl rfl dX1_insert_30 ?_
    refine fr_iload_n (pc := 31) 2 rfl rfl dX1_insert_31 ?_
    obtain ⟨hrc, hW⟩ := hW
    refine fr_callV_V (pc := 32) (As := [.int v1, .int v3]) (st := []) wd_X1_put w_613 ok_X1_put (by decide) rfl (Nat.le_of_ble_eq_true rfl) dX1_insert_32 ⟨Nat.le_refl 0, Nat.le_refl 0⟩ kc_X1 hrc hW (fun s1 hW => ?_)
    exact fr_ret (pc := 35) dX1_insert_35 rfl ⟨Nat.le_refl 0, Nat.le_refl 0⟩ hW
  · refine fr_aload_n (pc := 9) 0 rfl rfl dX1_insert_9 ?_
    refine fr_iload (pc := 10) 3 rfl dX1_insert_10 ?_
    refine fr_aload_n (pc := 12) 0 rfl rfl dX1_insert_12 ?_
    refine fr_iload (pc := 13) 3 rfl dX1_insert_13 ?_
    refine fr_iconst (pc := 15) 1 (by decide) dX1_insert_15 ?_
    refine fr_isub (pc := 16) dX1_insert_16 ?_
    obtain ⟨hrc, hW⟩ := hW
    refine fr_callV_I (pc := 17) (As := [.int (v4 - 1)]) (st := [.int v4, .ref a0]) wd_X1_at w_612 ok_X1_at (by decide) rfl (Nat.le_of_ble_eq_true rfl) dX1_insert_17 ⟨Nat.le_refl 0, Nat.le_refl 0⟩ kc_X1 hrc hW (fun i3 s2 hW => ?_)
    obtain ⟨hrc, hW⟩ := hW
    refine fr_callV_V (pc := 20) (As := [.int v4, .int i3]) (st := []) wd_X1_put w_613 ok_X1_put (by decide) rfl (Nat.le_of_ble_eq_true rfl) dX1_insert_20 ⟨Nat.le_refl 0, Nat.le_refl 0⟩ kc_X1 hrc hW (fun s6 hW => ?_)
    refine fr_iinc (pc := 23) (lv' := [(4, .int (v4 + (-1))), (0, .ref a0), (1, .int v1), (3, .int v3)]) (v4 + (-1)) 3 rfl (congrArg (fun z => v4 + z) (by decide)) (by decide) rfl dX1_insert_23 ?_
    refine fr_goto (pc := 26) (tgt := 3) (by decide) dX1_insert_26 ?_
    exact fr_sub [1, 2, 3, 0] rfl hW
set_option maxHeartbeats 4000000 in
set_option maxRecDepth 100000 in
theorem q_X1_raise {g : GG} {σ : Hs} {post : Option Value → Hs → Prop} (r0 : Nat) (p0 : Int32) (p1 : Int32) (hW : Rc σ r0 1 ∧ Do g M_X1_at 0 0 [.ref r0, .int p0] σ (kI (fun i2 s1 => Rc s1 r0 1 ∧ Do g M_X1_put 0 0 [.ref r0, .int p0, .int (i2 + p1)] s1 (kV (fun s5 => post none s5))))) : Do g M_X1_raise 0 0 [.ref r0, .int p0, .int p1] σ post := by
  refine Do.of (by decide +kernel) (Nat.le_of_ble_eq_true rfl) ?_
  show Fr g M_X1_raise (0, 0, 0, 0) [(0, .ref r0), (1, .int p0), (2, .int p1)] [] 0 σ post
  refine fr_aload_n (pc := 0) 0 rfl rfl dX1_raise_0 ?_
  refine fr_iload_n (pc := 1) 1 rfl rfl dX1_raise_1 ?_
  refine fr_aload_n (pc := 2) 0 rfl rfl dX1_raise_2 ?_
  refine fr_iload_n (pc := 3) 1 rfl rfl dX1_raise_3 ?_
  obtain ⟨hrc, hW⟩ := hW
  refine fr_callV_I (pc := 4) (As := [.int p0]) (st := [.int p0, .ref r0]) wd_X1_at w_612 ok_X1_at (by decide) rfl (Nat.le_of_ble_eq_true rfl) dX1_raise_4 ⟨Nat.le_refl 0, Nat.le_refl 0⟩ kc_X1 hrc hW (fun i2 s1 hW => ?_)
  refine fr_iload_n (pc := 7) 2 rfl rfl dX1_raise_7 ?_
  refine fr_iadd (pc := 8) dX1_raise_8 ?_
  obtain ⟨hrc, hW⟩ := hW
  refine fr_callV_V (pc := 9) (As := [.int p0, .int (i2 + p1)]) (st := []) wd_X1_put w_613 ok_X1_put (by decide) rfl (Nat.le_of_ble_eq_true rfl) dX1_raise_9 ⟨Nat.le_refl 0, Nat.le_refl 0⟩ kc_X1 hrc hW (fun s5 hW => ?_)
  exact fr_ret (pc := 12) dX1_raise_12 rfl ⟨Nat.le_refl 0, Nat.le_refl 0⟩ hW
set_option maxHeartbeats 4000000 in
set_option maxRecDepth 100000 in
theorem q_X11_quotient {g : GG} {σ : Hs} {post : Option Value → Hs → Prop} (p0 : Int32) (p1 : Int32) (hW : (p1 ≤ 0 → post (some (.int 0)) σ) ∧ (¬ p1 ≤ 0 → ¬ p1 = 0 ∧ post (some (.int (p0 / p1))) σ)) : Do g M_X11_quotient 0 0 [.int p0, .int p1] σ post := by
  refine Do.of (by decide +kernel) (Nat.le_of_ble_eq_true rfl) ?_
  show Fr g M_X11_quotient (0, 0, 0, 0) [(0, .int p0), (1, .int p1)] [] 0 σ post
  refine fr_iload_n (pc := 0) 1 rfl rfl dX11_quotient_0 ?_
  refine fr_if_le (pc := 1) (tgt := 10) (by decide) dX11_quotient_1 hW (fun hW => ?_) (fun hW => ?_)
  · refine fr_iconst (pc := 10) 0 (by decide) dX11_quotient_10 ?_
    exact fr_iret (pc := 11) dX11_quotient_11 rfl ⟨Nat.le_refl 0, Nat.le_refl 0⟩ hW
  · refine fr_iload_n (pc := 4) 0 rfl rfl dX11_quotient_4 ?_
    refine fr_iload_n (pc := 5) 1 rfl rfl dX11_quotient_5 ?_
    obtain ⟨hne, hW⟩ := hW
    refine fr_idiv (pc := 6) hne dX11_quotient_6 ?_
    refine fr_goto (pc := 7) (tgt := 11) (by decide) dX11_quotient_7 ?_
    exact fr_iret (pc := 11) dX11_quotient_11 rfl ⟨Nat.le_refl 0, Nat.le_refl 0⟩ hW
set_option maxHeartbeats 4000000 in
set_option maxRecDepth 100000 in
theorem q_X11_roundedUp {g : GG} {σ : Hs} {post : Option Value → Hs → Prop} (p0 : Int32) (p1 : Int32) (hW : Do g M_X11_quotient 0 0 [.int ((p0 + p1) - 1), .int p1] σ (kI (fun i2 s1 => post (some (.int i2)) s1))) : Do g M_X11_roundedUp 0 0 [.int p0, .int p1] σ post := by
  refine Do.of (by decide +kernel) (Nat.le_of_ble_eq_true rfl) ?_
  show Fr g M_X11_roundedUp (0, 0, 0, 0) [(0, .int p0), (1, .int p1)] [] 0 σ post
  refine fr_iload_n (pc := 0) 0 rfl rfl dX11_roundedUp_0 ?_
  refine fr_iload_n (pc := 1) 1 rfl rfl dX11_roundedUp_1 ?_
  refine fr_iadd (pc := 2) dX11_roundedUp_2 ?_
  refine fr_iconst (pc := 3) 1 (by decide) dX11_roundedUp_3 ?_
  refine fr_isub (pc := 4) dX11_roundedUp_4 ?_
  refine fr_iload_n (pc := 5) 1 rfl rfl dX11_roundedUp_5 ?_
  refine fr_callS_I (pc := 6) (As := [.int ((p0 + p1) - 1), .int p1]) (st := []) wd_X11_quotient w_614 ok_X11_quotient (by decide) rfl (Nat.le_of_ble_eq_true rfl) dX11_roundedUp_6 ⟨Nat.le_refl 0, Nat.le_refl 0⟩ hW (fun i2 s1 hW => ?_)
  exact fr_iret (pc := 9) dX11_roundedUp_9 rfl ⟨Nat.le_refl 0, Nat.le_refl 0⟩ hW
set_option maxHeartbeats 4000000 in
set_option maxRecDepth 100000 in
theorem q_X2_cut {g : GG} {σ : Hs} {post : Option Value → Hs → Prop} (r0 : Nat) (p0 : Int32) (hW : FR σ r0 2 7 (fun r1 => Rc σ r1 1 ∧ Do g M_X1_at 0 0 [.ref r1, .int p0] σ (kI (fun i3 s2 => Do g M_X11_roundedUp 0 0 [.int i3, .int 2] s2 (kI (fun i7 s6 => FR s6 r0 2 7 (fun r10 => Rc s6 r10 1 ∧ Do g M_X1_put 0 0 [.ref r10, .int p0, .int i7] s6 (kV (fun s11 => FR s11 r0 2 7 (fun r12 => FI s11 r0 2 9 (fun i13 => Rc s11 r12 1 ∧ Do g M_X1_insert 0 0 [.ref r12, .int (p0 + 1), .int i13, .int (i3 - i7)] s11 (kV (fun s14 => FI s14 r0 2 9 (fun i15 => PF s14 r0 2 9 (.int (i15 + 1)) (fun s16 => FI s16 r0 2 10 (fun i17 => PF s16 r0 2 10 (.int (i17 + 1)) (fun s18 => post none s18))))))))))))))))) : Do g M_X2_cut 0 0 [.ref r0, .int p0] σ post := by
  refine Do.of (by decide +kernel) (Nat.le_of_ble_eq_true rfl) ?_
  show Fr g M_X2_cut (0, 0, 0, 0) [(0, .ref r0), (1, .int p0)] [] 0 σ post
  refine fr_aload_n (pc := 0) 0 rfl rfl dX2_cut_0 ?_
  refine fr_getR (pc := 1) (T := TX2) (k := 7) kc_X2 (by decide) w_610 dX2_cut_1 hW (fun r1 hW => ?_)
  refine fr_iload_n (pc := 4) 1 rfl rfl dX2_cut_4 ?_
  obtain ⟨hrc, hW⟩ := hW
  refine fr_callV_I (pc := 5) (As := [.int p0]) (st := []) wd_X1_at w_604 ok_X1_at (by decide) rfl (Nat.le_of_ble_eq_true rfl) dX2_cut_5 ⟨Nat.le_refl 0, Nat.le_refl 0⟩ kc_X1 hrc hW (fun i3 s2 hW => ?_)
  refine fr_istore_n (pc := 8) (lv' := [(2, .int i3), (0, .ref r0), (1, .int p0)]) rfl (by decide) rfl dX2_cut_8 ?_
  refine fr_iload_n (pc := 9) 0 rfl rfl dX2_cut_9 ?_
  refine fr_iconst (pc := 10) 2 (by decide) dX2_cut_10 ?_
  refine fr_callSN_I (pc := 11) (As := [.int i3, .int 2]) (st := []) wd_X11_roundedUp ⟨RX11, by decide +kernel⟩ ok_X11_roundedUp (by decide) rfl (Nat.le_of_ble_eq_true rfl) dX2_cut_11 ⟨Nat.le_refl 0, Nat.le_refl 0⟩ hW (fun i7 s6 hW => ?_)
  refine fr_istore_n (pc := 14) (lv' := [(3, .int i7), (2, .int i3), (0, .ref r0), (1, .int p0)]) rfl (by decide) rfl dX2_cut_14 ?_
  refine fr_aload_n (pc := 15) 2 rfl rfl dX2_cut_15 ?_
  refine fr_getR (pc := 16) (T := TX2) (k := 7) kc_X2 (by decide) w_610 dX2_cut_16 hW (fun r10 hW => ?_)
  refine fr_iload_n (pc := 19) 3 rfl rfl dX2_cut_19 ?_
  refine fr_iload_n (pc := 20) 0 rfl rfl dX2_cut_20 ?_
  obtain ⟨hrc, hW⟩ := hW
  refine fr_callV_V (pc := 21) (As := [.int p0, .int i7]) (st := []) wd_X1_put w_616 ok_X1_put (by decide) rfl (Nat.le_of_ble_eq_true rfl) dX2_cut_21 ⟨Nat.le_refl 0, Nat.le_refl 0⟩ kc_X1 hrc hW (fun s11 hW => ?_)
  refine fr_aload_n (pc := 24) 2 rfl rfl dX2_cut_24 ?_
  refine fr_getR (pc := 25) (T := TX2) (k := 7) kc_X2 (by decide) w_610 dX2_cut_25 hW (fun r12 hW => ?_)
  refine fr_iload_n (pc := 28) 3 rfl rfl dX2_cut_28 ?_
  refine fr_iconst (pc := 29) 1 (by decide) dX2_cut_29 ?_
  refine fr_iadd (pc := 30) dX2_cut_30 ?_
  refine fr_aload_n (pc := 31) 2 rfl rfl dX2_cut_31 ?_
  refine fr_getI (pc := 32) (T := TX2) (k := 9) kc_X2 (by decide) w_609 dX2_cut_32 hW (fun i13 hW => ?_)
  refine fr_iload_n (pc := 35) 1 rfl rfl dX2_cut_35 ?_
  refine fr_iload_n (pc := 36) 0 rfl rfl dX2_cut_36 ?_
  refine fr_isub (pc := 37) dX2_cut_37 ?_
  obtain ⟨hrc, hW⟩ := hW
  refine fr_callV_V (pc := 38) (As := [.int (p0 + 1), .int i13, .int (i3 - i7)]) (st := []) wd_X1_insert w_617 ok_X1_insert (by decide) rfl (Nat.le_of_ble_eq_true rfl) dX2_cut_38 ⟨Nat.le_refl 0, Nat.le_refl 0⟩ kc_X1 hrc hW (fun s14 hW => ?_)
  refine fr_aload_n (pc := 41) 2 rfl rfl dX2_cut_41 ?_
  refine fr_dup (pc := 42) rfl dX2_cut_42 ?_
  refine fr_getI (pc := 43) (T := TX2) (k := 9) kc_X2 (by decide) w_609 dX2_cut_43 hW (fun i15 hW => ?_)
  refine fr_iconst (pc := 46) 1 (by decide) dX2_cut_46 ?_
  refine fr_iadd (pc := 47) dX2_cut_47 ?_
  refine fr_put (pc := 48) (T := TX2) (k := 9) kc_X2 (by decide) w_609 rfl rfl rfl dX2_cut_48 hW (fun s16 hW => ?_)
  refine fr_aload_n (pc := 51) 2 rfl rfl dX2_cut_51 ?_
  refine fr_dup (pc := 52) rfl dX2_cut_52 ?_
  refine fr_getI (pc := 53) (T := TX2) (k := 10) kc_X2 (by decide) w_615 dX2_cut_53 hW (fun i17 hW => ?_)
  refine fr_iconst (pc := 56) 1 (by decide) dX2_cut_56 ?_
  refine fr_iadd (pc := 57) dX2_cut_57 ?_
  refine fr_put (pc := 58) (T := TX2) (k := 10) kc_X2 (by decide) w_615 rfl rfl rfl dX2_cut_58 hW (fun s18 hW => ?_)
  exact fr_ret (pc := 61) dX2_cut_61 rfl ⟨Nat.le_refl 0, Nat.le_refl 0⟩ hW
def J_X2_entryComes_56 (g : GG) (post : Option Value → Hs → Prop) (σ : Hs) (a0 : Nat) (v3 : Int32) : Prop := Fr g M_X2_entryComes (0, 0, 0, 0) [(0, .ref a0), (3, .int v3)] [] 56 σ post
set_option maxHeartbeats 4000000 in
set_option maxRecDepth 100000 in
theorem q_X2_entryComes {g : GG} {σ : Hs} {post : Option Value → Hs → Prop} (r0 : Nat) (p0 : Int32) (hW : Rc σ r0 2 ∧ Do g M_X2_placeFor 0 0 [.ref r0, .int p0] σ (kI (fun i2 s1 => Rc s1 r0 2 ∧ Do g M_X2_leafFor 0 0 [.ref r0, .int i2] s1 (kI (fun i6 s5 => FR s5 r0 2 6 (fun r9 => FI s5 r0 2 8 (fun i10 => Rc s5 r9 1 ∧ Do g M_X1_insert 0 0 [.ref r9, .int i2, .int i10, .int p0] s5 (kV (fun s11 => FI s11 r0 2 8 (fun i12 => PF s11 r0 2 8 (.int (i12 + 1)) (fun s13 => FI s13 r0 2 9 (fun i14 => (¬ i14 = 0 → J_X2_entryComes_56 g post s13 r0 i6 ) ∧ (i14 = 0 → FR s13 r0 2 7 (fun r15 => Rc s13 r15 1 ∧ Do g M_X1_put 0 0 [.ref r15, .int 0, .int 0] s13 (kV (fun s16 => PF s16 r0 2 9 (.int 1) (fun s17 => J_X2_entryComes_56 g post s17 r0 i6 ))))))))))))))))) : Do g M_X2_entryComes 0 0 [.ref r0, .int p0] σ post := by
  refine Do.of (by decide +kernel) (Nat.le_of_ble_eq_true rfl) ?_
  show Fr g M_X2_entryComes (0, 0, 0, 0) [(0, .ref r0), (1, .int p0)] [] 0 σ post
  refine fr_aload_n (pc := 0) 0 rfl rfl dX2_entryComes_0 ?_
  refine fr_iload_n (pc := 1) 1 rfl rfl dX2_entryComes_1 ?_
  obtain ⟨hrc, hW⟩ := hW
  refine fr_callV_I (pc := 2) (As := [.int p0]) (st := []) wd_X2_placeFor w_619 ok_X2_placeFor (by decide) rfl (Nat.le_of_ble_eq_true rfl) dX2_entryComes_2 ⟨Nat.le_refl 0, Nat.le_refl 0⟩ kc_X2 hrc hW (fun i2 s1 hW => ?_)
  refine fr_istore_n (pc := 5) (lv' := [(2, .int i2), (0, .ref r0), (1, .int p0)]) rfl (by decide) rfl dX2_entryComes_5 ?_
  refine fr_aload_n (pc := 6) 1 rfl rfl dX2_entryComes_6 ?_
  refine fr_iload_n (pc := 7) 0 rfl rfl dX2_entryComes_7 ?_
  obtain ⟨hrc, hW⟩ := hW
  refine fr_callV_I (pc := 8) (As := [.int i2]) (st := []) wd_X2_leafFor w_620 ok_X2_leafFor (by decide) rfl (Nat.le_of_ble_eq_true rfl) dX2_entryComes_8 ⟨Nat.le_refl 0, Nat.le_refl 0⟩ kc_X2 hrc hW (fun i6 s5 hW => ?_)
  refine fr_istore_n (pc := 11) (lv' := [(3, .int i6), (2, .int i2), (0, .ref r0), (1, .int p0)]) rfl (by decide) rfl dX2_entryComes_11 ?_
  refine fr_aload_n (pc := 12) 2 rfl rfl dX2_entryComes_12 ?_
  refine fr_getR (pc := 13) (T := TX2) (k := 6) kc_X2 (by decide) w_607 dX2_entryComes_13 hW (fun r9 hW => ?_)
  refine fr_iload_n (pc := 16) 1 rfl rfl dX2_entryComes_16 ?_
  refine fr_aload_n (pc := 17) 2 rfl rfl dX2_entryComes_17 ?_
  refine fr_getI (pc := 18) (T := TX2) (k := 8) kc_X2 (by decide) w_606 dX2_entryComes_18 hW (fun i10 hW => ?_)
  refine fr_iload_n (pc := 21) 3 rfl rfl dX2_entryComes_21 ?_
  obtain ⟨hrc, hW⟩ := hW
  refine fr_callV_V (pc := 22) (As := [.int i2, .int i10, .int p0]) (st := []) wd_X1_insert w_617 ok_X1_insert (by decide) rfl (Nat.le_of_ble_eq_true rfl) dX2_entryComes_22 ⟨Nat.le_refl 0, Nat.le_refl 0⟩ kc_X1 hrc hW (fun s11 hW => ?_)
  refine fr_aload_n (pc := 25) 2 rfl rfl dX2_entryComes_25 ?_
  refine fr_dup (pc := 26) rfl dX2_entryComes_26 ?_
  refine fr_getI (pc := 27) (T := TX2) (k := 8) kc_X2 (by decide) w_606 dX2_entryComes_27 hW (fun i12 hW => ?_)
  refine fr_iconst (pc := 30) 1 (by decide) dX2_entryComes_30 ?_
  refine fr_iadd (pc := 31) dX2_entryComes_31 ?_
  refine fr_put (pc := 32) (T := TX2) (k := 8) kc_X2 (by decide) w_606 rfl rfl rfl dX2_entryComes_32 hW (fun s13 hW => ?_)
  refine fr_aload_n (pc := 35) 2 rfl rfl dX2_entryComes_35 ?_
  refine fr_getI (pc := 36) (T := TX2) (k := 9) kc_X2 (by decide) w_609 dX2_entryComes_36 hW (fun i14 hW => ?_)
  refine fr_if_ne (pc := 39) (tgt := 56) (by decide) dX2_entryComes_39 hW (fun hW => ?_) (fun hW => ?_)
  · exact fr_sub [2, 0] rfl hW
  · refine fr_aload_n (pc := 42) 2 rfl rfl dX2_entryComes_42 ?_
    refine fr_getR (pc := 43) (T := TX2) (k := 7) kc_X2 (by decide) w_610 dX2_entryComes_43 hW (fun r15 hW => ?_)
    refine fr_iconst (pc := 46) 0 (by decide) dX2_entryComes_46 ?_
    refine fr_iconst (pc := 47) 0 (by decide) dX2_entryComes_47 ?_
    obtain ⟨hrc, hW⟩ := hW
    refine fr_callV_V (pc := 48) (As := [.int 0, .int 0]) (st := []) wd_X1_put w_616 ok_X1_put (by decide) rfl (Nat.le_of_ble_eq_true rfl) dX2_entryComes_48 ⟨Nat.le_refl 0, Nat.le_refl 0⟩ kc_X1 hrc hW (fun s16 hW => ?_)
    refine fr_aload_n (pc := 51) 2 rfl rfl dX2_entryComes_51 ?_
    refine fr_iconst (pc := 52) 1 (by decide) dX2_entryComes_52 ?_
    refine fr_put (pc := 53) (T := TX2) (k := 9) kc_X2 (by decide) w_609 rfl rfl rfl dX2_entryComes_53 hW (fun s17 hW => ?_)
    exact fr_sub [2, 0] rfl hW
set_option maxHeartbeats 4000000 in
set_option maxRecDepth 100000 in
theorem q_X2_entryComes_56 {g : GG} {σ : Hs} {post : Option Value → Hs → Prop} (a0 : Nat) (v3 : Int32) (hW : FR σ a0 2 7 (fun r18 => Rc σ r18 1 ∧ Do g M_X1_raise 0 0 [.ref r18, .int v3, .int 1] σ (kV (fun s19 => FR s19 a0 2 7 (fun r20 => Rc s19 r20 1 ∧ Do g M_X1_at 0 0 [.ref r20, .int v3] s19 (kI (fun i22 s21 => FI s21 a0 2 3 (fun i25 => (i22 ≤ i25 → post none s21) ∧ (¬ i22 ≤ i25 → Rc s21 a0 2 ∧ Do g M_X2_cut 0 0 [.ref a0, .int v3] s21 (kV (fun s26 => post none s26))))))))))) : J_X2_entryComes_56 g post σ a0 v3 := by
  show Fr g M_X2_entryComes (0, 0, 0, 0) [(0, .ref a0), (3, .int v3)] [] 56 σ post
  refine fr_aload_n (pc := 56) 0 rfl rfl dX2_entryComes_56 ?_
  refine fr_getR (pc := 57) (T := TX2) (k := 7) kc_X2 (by decide) w_610 dX2_entryComes_57 hW (fun r18 hW => ?_)
  refine fr_iload_n (pc := 60) 1 rfl rfl dX2_entryComes_60 ?_
  refine fr_iconst (pc := 61) 1 (by decide) dX2_entryComes_61 ?_
  obtain ⟨hrc, hW⟩ := hW
  refine fr_callV_V (pc := 62) (As := [.int v3, .int 1]) (st := []) wd_X1_raise w_621 ok_X1_raise (by decide) rfl (Nat.le_of_ble_eq_true rfl) dX2_entryComes_62 ⟨Nat.le_refl 0, Nat.le_refl 0⟩ kc_X1 hrc hW (fun s19 hW => ?_)
  refine fr_aload_n (pc := 65) 0 rfl rfl dX2_entryComes_65 ?_
  refine fr_getR (pc := 66) (T := TX2) (k := 7) kc_X2 (by decide) w_610 dX2_entryComes_66 hW (fun r20 hW => ?_)
  refine fr_iload_n (pc := 69) 1 rfl rfl dX2_entryComes_69 ?_
  obtain ⟨hrc, hW⟩ := hW
  refine fr_callV_I (pc := 70) (As := [.int v3]) (st := []) wd_X1_at w_604 ok_X1_at (by decide) rfl (Nat.le_of_ble_eq_true rfl) dX2_entryComes_70 ⟨Nat.le_refl 0, Nat.le_refl 0⟩ kc_X1 hrc hW (fun i22 s21 hW => ?_)
  refine fr_aload_n (pc := 73) 0 rfl rfl dX2_entryComes_73 ?_
  refine fr_getI (pc := 74) (T := TX2) (k := 3) kc_X2 (by decide) w_618 dX2_entryComes_74 hW (fun i25 hW => ?_)
  refine fr_icmp_le (pc := 77) (tgt := 85) (by decide) dX2_entryComes_77 hW (fun hW => ?_) (fun hW => ?_)
  · exact fr_ret (pc := 85) dX2_entryComes_85 rfl ⟨Nat.le_refl 0, Nat.le_refl 0⟩ hW
  · refine fr_aload_n (pc := 80) 0 rfl rfl dX2_entryComes_80 ?_
    refine fr_iload_n (pc := 81) 1 rfl rfl dX2_entryComes_81 ?_
    obtain ⟨hrc, hW⟩ := hW
    refine fr_callV_V (pc := 82) (As := [.int v3]) (st := []) wd_X2_cut w_622 ok_X2_cut (by decide) rfl (Nat.le_of_ble_eq_true rfl) dX2_entryComes_82 ⟨Nat.le_refl 0, Nat.le_refl 0⟩ kc_X2 hrc hW (fun s26 hW => ?_)
    exact fr_ret (pc := 85) dX2_entryComes_85 rfl ⟨Nat.le_refl 0, Nat.le_refl 0⟩ hW
def J_X3_entriesCome_2 (g : GG) (post : Option Value → Hs → Prop) (σ : Hs) (a0 : Nat) (v1 : Int32) (v2 : Int32) : Prop := Fr g M_X3_entriesCome (0, 0, 0, 0) [(0, .ref a0), (1, .int v1), (2, .int v2)] [] 2 σ post
set_option maxHeartbeats 4000000 in
set_option maxRecDepth 100000 in
theorem q_X3_entriesCome {g : GG} {σ : Hs} {post : Option Value → Hs → Prop} (r0 : Nat) (p0 : Int32) (hW : J_X3_entriesCome_2 g post σ r0 p0 0 ) : Do g M_X3_entriesCome 0 0 [.ref r0, .int p0] σ post := by
  refine Do.of (by decide +kernel) (Nat.le_of_ble_eq_true rfl) ?_
  show Fr g M_X3_entriesCome (0, 0, 0, 0) [(0, .ref r0), (1, .int p0)] [] 0 σ post
  refine fr_iconst (pc := 0) 0 (by decide) dX3_entriesCome_0 ?_
  refine fr_istore_n (pc := 1) (lv' := [(2, .int 0), (0, .ref r0), (1, .int p0)]) rfl (by decide) rfl dX3_entriesCome_1 ?_
  exact fr_sub [1, 2, 0] rfl hW
set_option maxHeartbeats 4000000 in
set_option maxRecDepth 100000 in
theorem q_X3_entriesCome_2 {g : GG} {σ : Hs} {post : Option Value → Hs → Prop} (a0 : Nat) (v1 : Int32) (v2 : Int32) (hW : FI σ a0 3 2 (fun i1 => (i1 ≤ v2 → post none σ) ∧ (¬ i1 ≤ v2 → Rc σ a0 3 ∧ Do g M_X3_kept 0 0 [.ref a0, .int v2] σ (kA (fun s2 => J_X3_entriesCome_2 g post s2 a0 v1 ((v2 + 1)) ) (fun r5 s2 => Rc s2 r5 2 ∧ Do g M_X2_entryComes 0 0 [.ref r5, .int v1] s2 (kV (fun s6 => J_X3_entriesCome_2 g post s6 a0 v1 ((v2 + 1)) ))))))) : J_X3_entriesCome_2 g post σ a0 v1 v2 := by
  show Fr g M_X3_entriesCome (0, 0, 0, 0) [(0, .ref a0), (1, .int v1), (2, .int v2)] [] 2 σ post
  refine fr_iload_n (pc := 2) 2 rfl rfl dX3_entriesCome_2 ?_
  refine fr_aload_n (pc := 3) 0 rfl rfl dX3_entriesCome_3 ?_
  refine fr_getI (pc := 4) (T := TX3) (k := 2) kc_X3 (by decide) w_623 dX3_entriesCome_4 hW (fun i1 hW => ?_)
  refine fr_icmp_ge (pc := 7) (tgt := 31) (by decide) dX3_entriesCome_7 hW (fun hW => ?_) (fun hW => ?_)
  · exact fr_ret (pc := 31) dX3_entriesCome_31 rfl ⟨Nat.le_refl 0, Nat.le_refl 0⟩ hW
  · refine fr_aload_n (pc := 10) 0 rfl rfl dX3_entriesCome_10 ?_
    refine fr_iload_n (pc := 11) 2 rfl rfl dX3_entriesCome_11 ?_
    obtain ⟨hrc, hW⟩ := hW
    refine fr_callV_A (pc := 12) (As := [.int v2]) (st := []) wd_X3_kept w_624 ok_X3_kept (by decide) rfl (Nat.le_of_ble_eq_true rfl) dX3_entriesCome_12 ⟨Nat.le_refl 0, Nat.le_refl 0⟩ kc_X3 hrc hW (fun s2 hW => ?_) (fun r5 s2 hW => ?_)
    · refine fr_astore_nN (pc := 15) (lv' := [(3, .null), (0, .ref a0), (1, .int v1), (2, .int v2)]) rfl (by decide) rfl dX3_entriesCome_15 ?_
      refine fr_aload_nN (pc := 16) 0 rfl rfl dX3_entriesCome_16 ?_
      refine fr_ifnullN (pc := 17) (tgt := 25) (by decide) dX3_entriesCome_17 ?_
      refine fr_iinc (pc := 25) (lv' := [(2, .int (v2 + 1)), (3, .null), (0, .ref a0), (1, .int v1)]) (v2 + 1) 3 rfl (congrArg (fun z => v2 + z) (by decide)) (by decide) rfl dX3_entriesCome_25 ?_
      refine fr_goto (pc := 28) (tgt := 2) (by decide) dX3_entriesCome_28 ?_
      exact fr_sub [2, 3, 0] rfl hW
    · refine fr_astore_n (pc := 15) (lv' := [(3, .ref r5), (0, .ref a0), (1, .int v1), (2, .int v2)]) rfl (by decide) rfl dX3_entriesCome_15 ?_
      refine fr_aload_n (pc := 16) 0 rfl rfl dX3_entriesCome_16 ?_
      refine fr_ifnull (pc := 17) dX3_entriesCome_17 ?_
      refine fr_aload_n (pc := 20) 0 rfl rfl dX3_entriesCome_20 ?_
      refine fr_iload_n (pc := 21) 2 rfl rfl dX3_entriesCome_21 ?_
      obtain ⟨hrc, hW⟩ := hW
      refine fr_callV_V (pc := 22) (As := [.int v1]) (st := []) wd_X2_entryComes w_625 ok_X2_entryComes (by decide) rfl (Nat.le_of_ble_eq_true rfl) dX3_entriesCome_22 ⟨Nat.le_refl 0, Nat.le_refl 0⟩ kc_X2 hrc hW (fun s6 hW => ?_)
      refine fr_iinc (pc := 25) (lv' := [(2, .int (v2 + 1)), (3, .ref r5), (0, .ref a0), (1, .int v1)]) (v2 + 1) 3 rfl (congrArg (fun z => v2 + z) (by decide)) (by decide) rfl dX3_entriesCome_25 ?_
      refine fr_goto (pc := 28) (tgt := 2) (by decide) dX3_entriesCome_28 ?_
      exact fr_sub [2, 3, 0] rfl hW
set_option maxHeartbeats 4000000 in
set_option maxRecDepth 100000 in
theorem q_X11_rowComes {g : GG} {σ : Hs} {post : Option Value → Hs → Prop} (r0 : Nat) (p0 : Int32) (hW : FR σ r0 11 0 (fun r1 => Rc σ r1 8 ∧ Do g M_X8_hold 0 0 [.ref r1, .int p0] σ (kV (fun s2 => FR s2 r0 11 1 (fun r3 => Rc s2 r3 3 ∧ Do g M_X3_entriesCome 0 0 [.ref r3, .int p0] s2 (kV (fun s4 => post none s4))))))) : Do g M_X11_rowComes 0 0 [.ref r0, .int p0] σ post := by
  refine Do.of (by decide +kernel) (Nat.le_of_ble_eq_true rfl) ?_
  show Fr g M_X11_rowComes (0, 0, 0, 0) [(0, .ref r0), (1, .int p0)] [] 0 σ post
  refine fr_aload_n (pc := 0) 0 rfl rfl dX11_rowComes_0 ?_
  refine fr_getR (pc := 1) (T := TX11) (k := 0) kc_X11 (by decide) w_578 dX11_rowComes_1 hW (fun r1 hW => ?_)
  refine fr_iload_n (pc := 4) 1 rfl rfl dX11_rowComes_4 ?_
  obtain ⟨hrc, hW⟩ := hW
  refine fr_callV_V (pc := 5) (As := [.int p0]) (st := []) wd_X8_hold w_626 ok_X8_hold (by decide) rfl (Nat.le_of_ble_eq_true rfl) dX11_rowComes_5 ⟨Nat.le_refl 0, Nat.le_refl 0⟩ kc_X8 hrc hW (fun s2 hW => ?_)
  refine fr_aload_n (pc := 8) 0 rfl rfl dX11_rowComes_8 ?_
  refine fr_getR (pc := 9) (T := TX11) (k := 1) kc_X11 (by decide) w_579 dX11_rowComes_9 hW (fun r3 hW => ?_)
  refine fr_iload_n (pc := 12) 1 rfl rfl dX11_rowComes_12 ?_
  obtain ⟨hrc, hW⟩ := hW
  refine fr_callV_V (pc := 13) (As := [.int p0]) (st := []) wd_X3_entriesCome w_627 ok_X3_entriesCome (by decide) rfl (Nat.le_of_ble_eq_true rfl) dX11_rowComes_13 ⟨Nat.le_refl 0, Nat.le_refl 0⟩ kc_X3 hrc hW (fun s4 hW => ?_)
  exact fr_ret (pc := 16) dX11_rowComes_16 rfl ⟨Nat.le_refl 0, Nat.le_refl 0⟩ hW
