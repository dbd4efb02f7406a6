/-! The law's ask, walked. -/
def nsh (d : QD) : Prop := d.2.2.1 = (fun _ => false) ∧ d.2.2.2.1 = -1
theorem endD_nsh {c sg n : Nat} {d : QD} (h : nsh d) : nsh (endD c sg n d) := by
  unfold endD
  split
  · exact h
  · split <;> exact h
theorem cnd_38 {k : Nat} {s : AM} (h0 : 0 < k) (h : cnd k s) : ∃ col sg nm, stpA 38 s = some (1, col, sg, nm, dnA s) := by
  obtain ⟨a, col, sg, nm, d⟩ := s
  rcases h with ⟨h1, -⟩ | ⟨-, h1⟩
  · omega
  · have h1 : a = 4 ∨ a = 5 := h1
    rcases h1 with rfl | rfl
    · exact ⟨col, sg, nm, rfl⟩
    · exact ⟨col, sg, nm, rfl⟩
theorem cnd_58 {k : Nat} {s : AM} (h : cnd k s) : ∃ col sg nm, stpA 58 s = some (6, col, sg, nm, dnA s) := by
  rcases h with ⟨-, rfl⟩ | ⟨-, h1⟩
  · exact ⟨0, 0, 0, rfl⟩
  · obtain ⟨a, col, sg, nm, d⟩ := s
    have h1 : a = 4 ∨ a = 5 := h1
    rcases h1 with rfl | rfl
    · exact ⟨col, sg, nm, rfl⟩
    · exact ⟨col, sg, nm, rfl⟩
theorem stp_col {c a col sg nm : Nat} {d : QD} (hc : c < 4) (ha : a = 0 ∨ a = 1) : stpA (97 + c) (a, col, sg, nm, d) = some (2, c, sg, nm, d) := by
  have e : colA (97 + c) sg nm d = some (2, c, sg, nm, d) := by
    unfold colA
    rw [if_pos (lett_iff.mpr ⟨by omega, by omega⟩), Nat.add_sub_cancel_left]
  rcases ha with rfl | rfl
  · show (if 97 + c = 58 then _ else colA (97 + c) sg nm d) = _
    rw [if_neg (by omega), e]
  · exact e
theorem stp_sgn {c sg x nm : Nat} {d : QD} : stpA (sgc sg) (2, c, x, nm, d) = some (3, c, sgc sg, nm, d) := by
  show (if sgc sg = 60 ∨ sgc sg = 61 ∨ sgc sg = 62 then some (3, c, sgc sg, nm, d) else none) = _
  refine if_pos ?_
  unfold sgc
  split
  · omega
  · split <;> omega
theorem stp_dg1 {c sg n nm : Nat} {d : QD} (hn : n < 10) : stpA (48 + n) (3, c, sg, nm, d) = some (4, c, sg, n, d) := by
  show digA (48 + n) 4 0 c sg d = _
  unfold digA
  rw [if_pos (digi_iff.mpr ⟨by omega, by omega⟩), show 0 + (48 + n) - 48 = n by omega]
theorem stp_dg2 {c sg n nm : Nat} {d : QD} (hn : n < 10) : stpA (48 + n) (4, c, sg, nm, d) = some (5, c, sg, 10 * nm + n, d) := by
  show (if digi (48 + n) then digA (48 + n) 5 (10 * nm) c sg d else _) = _
  rw [if_pos (digi_iff.mpr ⟨by omega, by omega⟩)]
  unfold digA
  rw [if_pos (digi_iff.mpr ⟨by omega, by omega⟩), show 10 * nm + (48 + n) - 48 = 10 * nm + n by omega]
theorem stp_sh6 {c col sg nm : Nat} {d : QD} (hc : c < 4) (h : d.2.2.1 c = false) : stpA (97 + c) (6, col, sg, nm, d) = some (7, col, sg, nm, shwD d c) := by
  show shwA (97 + c) col sg nm d = _
  unfold shwA
  rw [if_pos (by rw [lett_iff.mpr ⟨by omega, by omega⟩, Nat.add_sub_cancel_left, h]; rfl), Nat.add_sub_cancel_left]
theorem stp_sh7 {c col sg nm : Nat} {d : QD} (hc : c < 4) (h : d.2.2.1 c = false) : stpA (97 + c) (7, col, sg, nm, d) = some (7, col, sg, nm, shwD d c) := by
  show (if 97 + c = 47 then _ else shwA (97 + c) col sg nm d) = _
  rw [if_neg (by omega)]
  exact stp_sh6 (col := col) hc h
theorem stp_srt {c col sg nm : Nat} {d : QD} (hc : c < 4) : stpA (97 + c) (8, col, sg, nm, d) = some (9, col, sg, nm, srtD d c) := by
  show sorA (97 + c) col sg nm d = _
  unfold sorA
  rw [if_pos (lett_iff.mpr ⟨by omega, by omega⟩), Nat.add_sub_cancel_left]
theorem shl_or : ∀ f, f < 4 → ∀ s, s < 4 → ((1 : Int32) <<< (nI f &&& 31)) ||| ((1 : Int32) <<< (nI s &&& 31)) = nI (2 ^ f ||| 2 ^ s) := by decide +kernel
theorem shl_or0 : ∀ f, f < 4 → ((1 : Int32) <<< (nI f &&& 31)) ||| 0 = nI (2 ^ f) := by decide +kernel
theorem mk4_2 : ∀ f, f < 4 → ∀ s, s < 4 → mk4 (fun j => (false || decide (j = f)) || decide (j = s)) = 2 ^ f ||| 2 ^ s := by decide +kernel
theorem mk4_1 : ∀ f, f < 4 → mk4 (fun j => false || decide (j = f)) = 2 ^ f := by decide +kernel
theorem or_self2 : ∀ f : Nat, f < 4 → 2 ^ f ||| 2 ^ f = 2 ^ f := by decide +kernel
/-- the state behind a question that was read -/
def askS (S : SS) (d : QD) (C : Nat → Nat) : SS := (S.1, S.2.1, (zq S + 1, Q_set (zQ S) (zq S) d, zu S), S.2.2.2.1, (0, C), S.2.2.2.2.2)
section LAW
variable {g : GG} {m : Nat} {Q : Nat → Nat} {E2 : (Nat → Int32) × (Nat → Int32) × (Nat → Int32) × (Nat → Int32)} {σ : Hs} {R : Nat → Nat} {S : SS} {r : Nat → Int32} {q X Y : Nat}
def askP (g : GG) (m r0 : Nat) (Q : Nat → Nat) (E2 : (Nat → Int32) × (Nat → Int32) × (Nat → Int32) × (Nat → Int32)) (S : SS) (r : Nat → Int32) (q : Nat) : Option Value → Hs → Prop := kI fun x σ' => x = 1 ∧ ∃ R' r' d C', R' 0 = r0 ∧ Lw g σ' R' (askS S d C') m Q (r', E2) ∧ Inv (askS S d C') ∧ RQ r' q d ∧ d.2.2.2.2 = 1 ∧ RO q r r'
/-- what stands in the row behind all conditions -/
def RLb (r : Nat → Int32) (q : Nat) (d : QD) : Prop := ∀ c, c < 4 → r (8 * q + c) = b_lo d c ∧ r (8 * q + 4 + c) = b_hi d c
theorem RLb.upd {d : QD} {r : Nat → Int32} {q j : Nat} {v : Int32} (h : RLb r q d) (hq : q < 4) (hj : 48 ≤ j) : RLb (upd r j v) q d := fun c hc => by
  rw [pk_un (by omega), pk_un (by omega)]
  exact h c hc
theorem ask_end {r0 : Nat} {σ1 : Hs} {n : Nat} {C : Nat → Nat} {r1 : Nat → Int32} {s : AM} (hA : Ak g S m r0 Q E2 σ1 n C r1 s) (hs : s.1 = 7 ∨ s.1 = 9) (hzq : zq S = q) (hq : q < 4) (hRO : RO q r r1) (hRL : RLb r1 q s.2.2.2.2) (h48 : r1 (48 + q) = nI (mk4 s.2.2.2.2.2.2.1)) (h56 : r1 (56 + q) = srtR s.2.2.2.2) : J_L_ask_590 g (askP g m r0 Q E2 S r q) 5 17 0 0 σ1 r0 (nI q) 1 := by
  obtain ⟨R1, e, hl, iv, hr⟩ := hA
  subst e
  have hn60 : n ≤ 60 := iv.2.2.2.1.1
  have hro := read_ok iv
  rw [hr] at hro
  refine q_L_ask_590 _ _ _ _ _ _ _ ⟨fun c => absurd c (by decide), fun _ => ⟨by omega, Rc.of hl.1.1, DoI.use (do_good hl.1 iv) ?_⟩⟩
  rintro x σ2 ⟨rfl, kb⟩
  obtain ⟨R2, e2, hl2⟩ := hl.call kb
  rw [← e2]
  refine ⟨by omega, Rc.of hl2.1.1, (rd_count hl2.1 6).use ?_⟩
  have e3 : s_good (zPg S n C) = nI n := by unfold s_good; rw [hr]
  have e4 : v_count (zPg S n C) 6 = nI n := rfl
  rw [e3, e4]
  refine ⟨fun c => absurd rfl c, fun _ => ⟨5, 17, by omega, Rc.of hl2.1.1, DoI.use (do_ask hl2.1 iv) ?_⟩⟩
  rintro x σ3 ⟨rfl, kb3⟩
  have e5 : s_ask (zPg S n C) = (nI q, s_askd (zPg S n C)) := by
    unfold s_ask
    rw [hr, if_pos (show zn (zPg S n C) ≤ (n, s).fst from Nat.le_refl n), if_pos (show (n, s).snd.fst = 7 ∨ (n, s).snd.fst = 9 from hs), if_pos (show zq (zPg S n C) < 8 from by show zq S < 8; omega)]
    show (nI (zq S), _) = _
    rw [hzq]
  have iv3 := iv.ask
  rw [e5] at kb3 iv3 ⊢
  have e6 : s_askd (zPg S n C) = askS S s.2.2.2.2 C := by
    unfold s_askd askS
    rw [hr]
    rfl
  rw [e6] at kb3 iv3
  obtain ⟨R3, e7, hl3⟩ := hl2.call kb3
  refine ⟨fun c => absurd rfl c, fun _ => ⟨by omega, _, rfl, rfl, R3, r1, s.2.2.2.2, C, e7, hl3, iv3, ⟨fun c hc => ?_, hro.1.2.2.2.2.2, hRL, h48, h56⟩, hro.2.2.2, hRO⟩⟩
  obtain ⟨⟨a1, a2⟩, a3, a4⟩ := hro.2.2.1 c hc
  exact ⟨a1, a2, a3, a4⟩
theorem ask_sort {r0 : Nat} {σ1 : Hs} {n col sg nm : Nat} {C : Nat → Nat} {r1 : Nat → Int32} {d : QD} {v : Int32} (hm : 0 < m) (hA : Ak g S m r0 Q E2 σ1 n C r1 (7, col, sg, nm, d)) (hd : d.2.2.2.1 = -1) (hn : n < 50) (hzq : zq S = q) (hq : q < 4) (hRO : RO q r r1) (hRL : RLb r1 q d) (h48 : r1 (48 + q) = nI (mk4 d.2.2.1)) (hv : v = 4 ∨ ∃ c, c < 4 ∧ v = nI c) : J_L_ask_542 g (askP g m r0 Q E2 S r q) 5 17 0 0 σ1 r0 (nI q) (Q 0) 1 v (56 + nI q) (Q 0) := by
  have hRO2 : RO q r (upd r1 (56 + q) v) := hRO.upd (Or.inr (Or.inr rfl))
  have hRL2 : RLb (upd r1 (56 + q) v) q d := hRL.upd hq (by omega)
  have h482 : upd r1 (56 + q) v (48 + q) = nI (mk4 d.2.2.1) := by rw [pk_un (by omega)]; exact h48
  have hA2 := hA.wr hm (upd r1 (56 + q) v)
  refine q_L_ask_542 _ _ _ _ _ _ _ _ _ _ _ (SI.of (hA.ce hm) (nI_add 56 q) (by omega) (by decide) ⟨fun c => absurd c (by decide), fun _ => AI.of (hA2.ce hm) (nI_add 56 q) (by omega) (by decide) ?_⟩)
  rw [pk_us]
  rcases hv with rfl | ⟨c, hc, rfl⟩
  · refine ⟨fun _ => ask_end hA2 (Or.inl rfl) hzq hq hRO2 hRL2 h482 ?_, fun z => absurd rfl z⟩
    rw [pk_us]
    unfold srtR
    rw [if_pos hd]
  · refine ⟨fun z => absurd ((nI_eq (b := 4) (by omega) (by decide)).mp z) (by omega), fun _ => ⟨by omega, hA2.put (k := 47) (s' := (8, col, sg, nm, d)) rfl (by decide) (by decide) (by omega) rfl fun σ2 hA3 => ?_⟩⟩
    refine ⟨fun z => absurd z (by decide), fun _ => AI.of (hA3.ce hm) (nI_add 56 q) (by omega) (by decide) ⟨by omega, ?_⟩⟩
    rw [pk_us]
    refine hA3.put (k := 97 + c) (nI_add 97 c) (by omega) (by omega) (by omega) (stp_srt hc) fun σ3 hA4 => ⟨fun z => absurd z (by decide), fun _ => ?_⟩
    refine ask_end hA4 (Or.inr rfl) hzq hq hRO2 hRL2 h482 ?_
    rw [pk_us]
    show nI c = if (nI c : Int32) = -1 then 4 else nI c
    rw [if_neg (nI_neg (by omega))]
theorem ask_shown {r0 : Nat} {σ1 : Hs} {n col sg nm f v8 : Nat} {C : Nat → Nat} {r1 : Nat → Int32} {d : QD} (hm : 0 < m) (hX : X < 2 ^ 31) (hA : Ak g S m r0 Q E2 σ1 n C r1 (7, col, sg, nm, d)) (hd : d.2.2.2.1 = -1) (hn : n < 50) (hzq : zq S = q) (hq : q < 4) (hRO : RO q r r1) (hRL : RLb r1 q d) (hf : f < 4) (h8 : v8 < 5) (h48 : mk4 d.2.2.1 = if v8 = 4 then 2 ^ f else 2 ^ f ||| 2 ^ v8) : J_L_ask_489 g (askP g m r0 Q E2 S r q) 5 17 0 0 σ1 r0 (nI X) (nI q) (Q 0) (nI f) (nI v8) 1 := by
  have go : ∀ w : Int32, (∃ a b, w = a ||| b ∧ w = nI (mk4 d.2.2.1)) → Ak g S m r0 Q E2 (hup σ1 (Q 0) (aI g 64 (upd r1 (48 + q) w))) n C (upd r1 (48 + q) w) (7, col, sg, nm, d) → (¬ ((nI X / 65536) - (nI X / 65536) / 2 * 2) = 0 → J_L_ask_542 g (askP g m r0 Q E2 S r q) 5 17 0 0 (hup σ1 (Q 0) (aI g 64 (upd r1 (48 + q) w))) r0 (nI q) (Q 0) 1 (((nI X / 131072) - (nI X / 131072) / 4 * 4)) ((56 + nI q)) (Q 0)) ∧ (((nI X / 65536) - (nI X / 65536) / 2 * 2) = 0 → J_L_ask_542 g (askP g m r0 Q E2 S r q) 5 17 0 0 (hup σ1 (Q 0) (aI g 64 (upd r1 (48 + q) w))) r0 (nI q) (Q 0) 1 4 ((56 + nI q)) (Q 0)) := by
    rintro w ⟨-, -, -, hw⟩ hA2
    have k1 : RO q r (upd r1 (48 + q) w) := hRO.upd (Or.inr (Or.inl rfl))
    have k2 : RLb (upd r1 (48 + q) w) q d := hRL.upd hq (by omega)
    have k3 : upd r1 (48 + q) w (48 + q) = nI (mk4 d.2.2.1) := by rw [pk_us, hw]
    refine ⟨fun _ => ask_sort hm hA2 hd hn hzq hq k1 k2 k3 (Or.inr ⟨X / 131072 % 4, by omega, ?_⟩), fun _ => ask_sort hm hA2 hd hn hzq hq k1 k2 k3 (Or.inl rfl)⟩
    rw [show nI X / 131072 = nI (X / 131072) from pk_div hX (by decide) (by decide)]
    exact pk_rem (by omega) (by decide) (by decide)
  refine q_L_ask_489 _ _ _ _ _ _ _ _ _ _ _ ⟨fun c => ?_, fun c => ?_⟩
  · have c : v8 ≠ 4 := fun z => c (by rw [z]; rfl)
    rw [if_neg c] at h48
    refine q_L_ask_515 _ _ _ _ _ _ _ _ _ _ _ _ _ (SI.of (hA.ce hm) (nI_add 48 q) (by omega) (by decide) (go _ ⟨_, _, rfl, ?_⟩ (hA.wr hm _)))
    rw [h48, shl_or f hf v8 (by omega)]
  · have c : v8 = 4 := (nI_eq (b := 4) (by omega) (by decide)).mp c
    rw [if_pos c] at h48
    refine q_L_ask_515 _ _ _ _ _ _ _ _ _ _ _ _ _ (SI.of (hA.ce hm) (nI_add 48 q) (by omega) (by decide) (go _ ⟨_, _, rfl, ?_⟩ (hA.wr hm _)))
    rw [h48, shl_or0 f hf]
theorem ask_norm {r0 : Nat} {σ1 : Hs} {k n : Nat} {C : Nat → Nat} {r1 : Nat → Int32} {s : AM} (hm : 0 < m) (hX : X < 2 ^ 31) (hA : Ak g S m r0 Q E2 σ1 n C r1 s) (hk : cnd k s) (hns : nsh (dnA s)) (hn : n ≤ 20) (hzq : zq S = q) (hq : q < 4) (hRO : RO q r r1) (hRW : RW r1 q (dnA s)) : J_L_ask_354 g (askP g m r0 Q E2 S r q) 5 17 0 0 σ1 r0 (nI X) (nI q) (Q 0) 1 0 := by
  have e1 : nI X / 2048 - nI X / 2048 / 4 * 4 = nI (X / 2048 % 4) := by
    rw [show nI X / 2048 = nI (X / 2048) from pk_div hX (by decide) (by decide)]
    exact pk_rem (by omega) (by decide) (by decide)
  have e2 : nI X / 8192 - nI X / 8192 / 5 * 5 = nI (X / 8192 % 5) := by
    rw [show nI X / 8192 = nI (X / 8192) from pk_div hX (by decide) (by decide)]
    exact pk_rem (by omega) (by decide) (by decide)
  have loop : ∀ (e c : Nat) (σ2 : Hs) (r2 : Nat → Int32), c + e = 4 → Ak g S m r0 Q E2 σ2 n C r2 s → RO q r r2 → (∀ j, j < c → r2 (8 * q + j) = b_lo (dnA s) j ∧ r2 (8 * q + 4 + j) = b_hi (dnA s) j) → (∀ j, c ≤ j → j < 4 → r2 (8 * q + j) = (dnA s).1 j ∧ r2 (8 * q + 4 + j) = (dnA s).2.1 j) → J_L_ask_354 g (askP g m r0 Q E2 S r q) 5 17 0 0 σ2 r0 (nI X) (nI q) (Q 0) 1 (nI c) := by
    intro e
    induction e with
    | zero =>
      intro c σ2 r2 hc hA2 hRO2 h1 h2
      have hc : c = 4 := hc
      subst hc
      obtain ⟨col, sg, nm, st⟩ := cnd_58 hk
      refine q_L_ask_354 _ _ _ _ _ _ _ _ _ _ ⟨fun _ => ⟨fun z => absurd z (by decide), fun _ => ⟨by omega, hA2.put (k := 58) rfl (by decide) (by decide) (by omega) st fun σ3 hA3 => ⟨fun z => absurd z (by decide), fun _ => ⟨by omega, ?_⟩⟩⟩⟩, fun z => absurd (show (4 : Int32) ≤ nI 4 by decide) z⟩
      rw [e1, e2]
      have hf : X / 2048 % 4 < 4 := Nat.mod_lt _ (by decide)
      have hs : X / 8192 % 5 < 5 := Nat.mod_lt _ (by decide)
      generalize X / 2048 % 4 = f at hf ⊢
      generalize X / 8192 % 5 = v8 at hs ⊢
      refine hA3.put (k := 97 + f) (nI_add 97 f) (by omega) (by omega) (by omega) (stp_sh6 hf (by rw [hns.1])) fun σ4 hA4 => ⟨fun z => absurd z (by decide), fun _ => ?_⟩
      have sh1 : (shwD (dnA s) f).2.2.1 = fun j => false || decide (j = f) := by
        show (fun j => (dnA s).2.2.1 j || decide (j = f)) = _
        rw [hns.1]
      have hRL : RLb r2 q (shwD (dnA s) f) := fun c hc => h1 c hc
      refine ⟨fun z => ?_, fun z => ⟨fun z2 => ?_, fun z2 => ⟨by omega, ?_⟩⟩⟩
      · have z : v8 = f := (nI_eq (by omega) (by omega)).mp z
        refine ask_shown hm hX hA4 hns.2 (by omega) hzq hq hRO2 hRL hf hs ?_
        rw [sh1, mk4_1 f hf, z, or_self2 f hf]
        split <;> rfl
      · have z2 : v8 = 4 := (nI_eq (b := 4) (by omega) (by decide)).mp z2
        refine ask_shown hm hX hA4 hns.2 (by omega) hzq hq hRO2 hRL hf hs ?_
        rw [sh1, mk4_1 f hf, if_pos z2]
      · have z : v8 ≠ f := fun y => z (by rw [y])
        have z2 : v8 ≠ 4 := fun y => z2 (by rw [y]; rfl)
        refine hA4.put (k := 97 + v8) (nI_add 97 v8) (by omega) (by omega) (by omega) (stp_sh7 (by omega) ?_) fun σ5 hA5 => ⟨fun z => absurd z (by decide), fun _ => ?_⟩
        · rw [sh1]
          show (false || decide (v8 = f)) = false
          rw [decide_eq_false z]; rfl
        · refine ask_shown hm hX hA5 hns.2 (by omega) hzq hq hRO2 (fun c hc => h1 c hc) hf hs ?_
          rw [if_neg z2, show (shwD (shwD (dnA s) f) v8).2.2.1 = fun j => (false || decide (j = f)) || decide (j = v8) from by
            show (fun j => (shwD (dnA s) f).2.2.1 j || decide (j = v8)) = _
            rw [sh1], mk4_2 f hf v8 (by omega)]
    | succ e ih =>
      intro c σ2 r2 hc hA2 hRO2 h1 h2
      have hc4 : c < 4 := by omega
      obtain ⟨a1, a2⟩ := h2 c (Nat.le_refl _) hc4
      refine q_L_ask_354 _ _ _ _ _ _ _ _ _ _ ⟨fun z => absurd ((nI_leI (a := 4) (by decide) (by omega)).mp z) (by omega), fun _ => AI.of (hA2.ce hm) (ix_a q c) (by omega) (by decide) (AI.of (hA2.ce hm) (ix_b q c) (by omega) (by decide) ⟨fun z => ?_, fun z => SI.of (hA2.ce hm) (ix_a q c) (by omega) (by decide) (SI.of ((hA2.wr hm _).ce hm) (ix_b q c) (by omega) (by decide) ?_)⟩)⟩
      · rw [nI_1]
        rw [a1, a2] at z
        have nz : ¬ (dnA s).2.1 c < (dnA s).1 c := fun y => by
          have y := I_lt.mp y
          have z := I_le.mp z
          omega
        refine ih (c + 1) _ _ (by omega) hA2 hRO2 (fun j hj => ?_) fun j hj => h2 j (by omega)
        by_cases y : j = c
        · subst y
          unfold b_lo b_hi
          rw [if_neg nz, if_neg nz]
          exact ⟨a1, a2⟩
        · exact h1 j (by omega)
      · rw [nI_1]
        rw [a1, a2] at z
        have nz : (dnA s).2.1 c < (dnA s).1 c := I_lt.mpr (by
          have z : ¬ ((dnA s).1 c).toInt ≤ ((dnA s).2.1 c).toInt := fun y => z (I_le.mpr y)
          omega)
        refine ih (c + 1) _ _ (by omega) ((hA2.wr hm _).wr hm _) ((hRO2.upd (Or.inl (by omega))).upd (Or.inl (by omega))) (fun j hj => ?_) fun j hj hj4 => ?_
        · by_cases y : j = c
          · subst y
            unfold b_lo b_hi
            rw [if_pos nz, if_pos nz, pk_us, pk_un (by omega), pk_us]
            exact ⟨rfl, rfl⟩
          · rw [pk_un (by omega), pk_un (by omega), pk_un (by omega), pk_un (by omega)]
            exact h1 j (by omega)
        · rw [pk_un (by omega), pk_un (by omega), pk_un (by omega), pk_un (by omega)]
          exact h2 j (by omega) hj4
  exact loop 4 0 σ1 r1 (by omega) hA hRO (fun j hj => absurd hj (Nat.not_lt_zero _)) fun j _ hj => hRW j hj
end LAW
