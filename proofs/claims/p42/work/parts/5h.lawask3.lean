/-! The law's ask: its conditions; its key. -/
section LAX
variable {g : GG} {m : Nat} {Q : Nat → Nat} {E2 : (Nat → Int32) × (Nat → Int32) × (Nat → Int32) × (Nat → Int32)} {σ : Hs} {R : Nat → Nat} {S : SS} {r : Nat → Int32} {q X Y : Nat}
theorem mxI_le {x y : Int32} : (y ≤ x → mxI x y = x) ∧ (¬ y ≤ x → mxI x y = y) := by
  unfold mxI
  constructor
  · intro h
    rw [if_neg fun z => by have z := I_lt.mp z; have h := I_le.mp h; omega]
  · intro h
    rw [if_pos (I_lt.mpr (by have h : ¬ y.toInt ≤ x.toInt := fun z => h (I_le.mpr z); omega))]
theorem mnI_le {x y : Int32} : (x ≤ y → mnI x y = x) ∧ (¬ x ≤ y → mnI x y = y) := by
  unfold mnI
  constructor
  · intro h
    rw [if_neg fun z => by have z := I_lt.mp z; have h := I_le.mp h; omega]
  · intro h
    rw [if_pos (I_lt.mpr (by have h : ¬ x.toInt ≤ y.toInt := fun z => h (I_le.mpr z); omega))]
/-- a condition's bounds come into the row -/
theorem ask_row {r0 : Nat} {σ1 : Hs} {k n c sg nn : Nat} {C : Nat → Nat} {r1 : Nat → Int32} {s : AM} {d : QD} (hm : 0 < m) (hq : q < 4) (hA : Ak g S m r0 Q E2 σ1 n C r1 s) (hRO : RO q r r1) (hRW : RW r1 q d) (hc : c < 4) (hsg : sg < 3) (hnn : nn < 23) (hk : k < 3)
    (K : ∀ (σ' : Hs) (r' : Nat → Int32), Ak g S m r0 Q E2 σ' n C r' s → RO q r r' → RW r' q (endD c (sgc sg) nn d) → J_L_ask_51 g (askP g m r0 Q E2 S r q) 5 17 0 0 σ' r0 (nI X) (nI Y) (nI q) (Q 0) (nI (X % 4)) 1 (nI (k + 1))) : J_L_ask_202 g (askP g m r0 Q E2 S r q) 5 17 0 0 σ1 r0 (nI X) (nI Y) (nI q) (Q 0) (nI (X % 4)) (nI k) (nI c) (nI sg) (nI nn) 1 := by
  obtain ⟨a1, a2⟩ := hRW c hc
  have last : ∀ (σ2 : Hs) (r2 : Nat → Int32), Ak g S m r0 Q E2 σ2 n C r2 s → r2 = upd r1 (8 * q + c) (mxI (d.1 c) (lsN sg nn)) → J_L_ask_51 g (askP g m r0 Q E2 S r q) 5 17 0 0 (hup σ2 (Q 0) (aI g 64 (upd r2 (8 * q + 4 + c) (mnI (d.2.1 c) (moN sg nn))))) r0 (nI X) (nI Y) (nI q) (Q 0) (nI (X % 4)) 1 (nI (k + 1)) := by
    rintro σ2 r2 hA2 rfl
    refine K _ _ (hA2.wr hm _) ((hRO.upd (Or.inl (by omega))).upd (Or.inl (by omega))) fun j hj => ?_
    rw [endD_is d hsg]
    show upd _ _ _ _ = upd d.1 c _ j ∧ upd _ _ _ _ = upd d.2.1 c _ j
    by_cases e : j = c
    · subst e
      rw [pk_us, pk_us, pk_us, pk_un (by omega), pk_us]
      exact ⟨rfl, rfl⟩
    · rw [pk_un (show 8 * q + j ≠ 8 * q + 4 + c by omega), pk_un (show 8 * q + j ≠ 8 * q + c by omega), pk_un (show 8 * q + 4 + j ≠ 8 * q + 4 + c by omega), pk_un (show 8 * q + 4 + j ≠ 8 * q + c by omega), pk_un e, pk_un e]
      exact hRW j hj
  have st298 : ∀ v : Int32, v = mxI (d.1 c) (lsN sg nn) → J_L_ask_298 g (askP g m r0 Q E2 S r q) 5 17 0 0 σ1 r0 (nI X) (nI Y) (nI q) (Q 0) (nI (X % 4)) 1 (nI k) (nI c) (moN sg nn) v (8 * nI q + nI c) (Q 0) := by
    rintro v rfl
    have hA2 := hA.wr hm (upd r1 (8 * q + c) (mxI (d.1 c) (lsN sg nn)))
    refine q_L_ask_298 _ _ _ _ _ _ _ _ _ _ _ _ _ _ _ _ _ (SI.of (hA.ce hm) (ix_a q c) (by omega) (by decide) (AI.of (hA2.ce hm) (ix_b q c) (by omega) (by decide) ?_))
    rw [pk_un (show 8 * q + 4 + c ≠ 8 * q + c by omega), a2, nI_1]
    refine ⟨fun z => AI.of (hA2.ce hm) (ix_b q c) (by omega) (by decide) (SI.of (hA2.ce hm) (ix_b q c) (by omega) (by decide) ?_), fun z => SI.of (hA2.ce hm) (ix_b q c) (by omega) (by decide) ?_⟩
    · rw [pk_un (show 8 * q + 4 + c ≠ 8 * q + c by omega), a2]
      have := last _ _ hA2 rfl
      rw [mnI_le.1 z] at this
      exact this
    · have := last _ _ hA2 rfl
      rw [mnI_le.2 z] at this
      exact this
  have st257 : ∀ t : Int32, t = moN sg nn → ∀ v11 : Int32, v11 = lsN sg nn → J_L_ask_257 g (askP g m r0 Q E2 S r q) 5 17 0 0 σ1 r0 (nI X) (nI Y) (nI q) (Q 0) (nI (X % 4)) 1 (nI k) (nI c) v11 t := by
    rintro t rfl v11 rfl
    refine q_L_ask_257 _ _ _ _ _ _ _ _ _ _ _ _ _ _ _ (AI.of (hA.ce hm) (ix_a q c) (by omega) (by decide) ?_)
    rw [a1]
    refine ⟨fun z => AI.of (hA.ce hm) (ix_a q c) (by omega) (by decide) ?_, fun z => st298 _ (mxI_le.2 z).symm⟩
    rw [a1]
    exact st298 _ (mxI_le.1 z).symm
  have e3 : ∀ j : Nat, j < 3 → (nI sg = nI j ↔ sg = j) := fun j hj => nI_eq (by omega) (by omega)
  have e31 := e3 1 (by omega)
  have e32 := e3 2 (by omega)
  have st229 : ∀ v : Int32, v = lsN sg nn → J_L_ask_229 g (askP g m r0 Q E2 S r q) 5 17 0 0 σ1 r0 (nI X) (nI Y) (nI q) (Q 0) (nI (X % 4)) 1 (nI k) (nI c) (nI sg) (nI nn) v := by
    intro v hv
    refine q_L_ask_229 _ _ _ _ _ _ _ _ _ _ _ _ _ _ _ _ ⟨fun z => ⟨fun y => st257 _ ?_ _ hv, fun y => st257 _ ?_ _ hv⟩, fun z => st257 _ ?_ _ hv⟩
    · unfold moN
      rw [if_neg fun w => z (e32.mpr w), if_neg fun w => y (e31.mpr w)]
    · unfold moN
      have y := e31.mp y
      rw [if_neg (by omega), if_pos y]
    · unfold moN
      rw [if_pos (e32.mp z)]
  refine q_L_ask_202 _ _ _ _ _ _ _ _ _ _ _ _ _ _ _ ⟨fun z => ⟨fun y => st229 _ ?_, fun y => st229 _ ?_⟩, fun z => st229 _ ?_⟩
  · unfold lsN
    rw [if_neg fun w => z (e31.mpr w), if_neg fun w => y (e32.mpr w)]
  · unfold lsN
    have y := e32.mp y
    rw [if_neg (by omega), if_pos y, nI_1]
  · unfold lsN
    rw [if_pos (e31.mp z)]
/-- a condition is put -/
theorem ask_cond {r0 : Nat} {σ1 : Hs} {k n a col sg' nm c sg nn : Nat} {C : Nat → Nat} {r1 : Nat → Int32} {d : QD} (hm : 0 < m) (hq : q < 4) (hA : Ak g S m r0 Q E2 σ1 n C r1 (a, col, sg', nm, d)) (ha : a = 0 ∨ a = 1) (hRO : RO q r r1) (hRW : RW r1 q d) (hc : c < 4) (hsg : sg < 3) (hnn : nn < 23) (hk : k < 3) (hn : n < 40)
    (K : ∀ (σ' : Hs) (n' : Nat) (C' : Nat → Nat) (r' : Nat → Int32) (s' : AM), n' ≤ n + 4 → (s'.1 = 4 ∨ s'.1 = 5) → dnA s' = endD c (sgc sg) nn d → Ak g S m r0 Q E2 σ' n' C' r' s' → RO q r r' → RW r' q (endD c (sgc sg) nn d) → J_L_ask_51 g (askP g m r0 Q E2 S r q) 5 17 0 0 σ' r0 (nI X) (nI Y) (nI q) (Q 0) (nI (X % 4)) 1 (nI (k + 1))) : J_L_ask_118 g (askP g m r0 Q E2 S r q) 5 17 0 0 σ1 r0 (nI X) (nI Y) (nI q) (Q 0) (nI (X % 4)) (nI k) (nI c) (nI sg) (nI nn) := by
  refine q_L_ask_118 _ _ _ _ _ _ _ _ _ _ _ _ _ _ ⟨by omega, hA.put (k := 97 + c) (nI_add 97 c) (by omega) (by omega) (by omega) (stp_col hc ha) fun σ2 hA2 => ⟨fun z => absurd z (by decide), fun _ => ?_⟩⟩
  have st154 : J_L_ask_154 g (askP g m r0 Q E2 S r q) 5 17 0 0 σ2 r0 (nI X) (nI Y) (nI q) (Q 0) (nI (X % 4)) (nI k) (nI c) (nI sg) (nI nn) (nI (sgc sg)) r0 := by
    have h62 : 60 ≤ sgc sg ∧ sgc sg ≤ 62 := by unfold sgc; split <;> (try split) <;> omega
    refine q_L_ask_154 _ _ _ _ _ _ _ _ _ _ _ _ _ _ _ _ ⟨by omega, hA2.put (k := sgc sg) rfl (by omega) (by omega) (by omega) stp_sgn fun σ3 hA3 => ⟨fun z => absurd z (by decide), fun _ => ⟨fun z => ⟨by omega, ?_⟩, fun z => ⟨by omega, ?_⟩⟩⟩⟩
    · have z := (nI_ltI (b := 10) (by omega) (by decide)).mp z
      rw [show nI nn - nI nn / 10 * 10 = nI (nn % 10) from pk_rem (by omega) (by decide) (by decide), Nat.mod_eq_of_lt z]
      refine hA3.put (k := 48 + nn) (nI_add 48 nn) (by omega) (by omega) (by omega) (stp_dg1 z) fun σ4 hA4 => ⟨fun z => absurd z (by decide), fun _ => ?_⟩
      exact ask_row hm hq hA4 hRO hRW hc hsg hnn hk fun σ' r' h1 h2 h3 => K σ' _ _ r' _ (by omega) (Or.inl rfl) rfl h1 h2 h3
    · have z : ¬ nn < 10 := fun y => z (nI_lt y (by decide))
      rw [show nI nn / 10 = nI (nn / 10) from pk_div (by omega) (by decide) (by decide)]
      refine hA3.put (k := 48 + nn / 10) (nI_add 48 (nn / 10)) (by omega) (by omega) (by omega) (stp_dg1 (by omega)) fun σ4 hA4 => ⟨fun z => absurd z (by decide), fun _ => ⟨by omega, ?_⟩⟩
      rw [show nI nn - nI (nn / 10) * 10 = nI (nn % 10) from by
        rw [show nI (nn / 10) = nI nn / 10 from (pk_div (by omega) (by decide) (by decide)).symm]
        exact pk_rem (by omega) (by decide) (by decide)]
      refine hA4.put (k := 48 + nn % 10) (nI_add 48 (nn % 10)) (by omega) (by omega) (by omega) (stp_dg2 (by omega)) fun σ5 hA5 => ⟨fun z => absurd z (by decide), fun _ => ?_⟩
      rw [show 10 * (nn / 10) + nn % 10 = nn by omega] at hA5
      exact ask_row hm hq hA5 hRO hRW hc hsg hnn hk fun σ' r' h1 h2 h3 => K σ' _ _ r' _ (by omega) (Or.inr rfl) rfl h1 h2 h3
  rcases (show sg = 0 ∨ sg = 1 ∨ sg = 2 by omega) with rfl | rfl | rfl
  · exact ⟨fun z => absurd rfl z, fun _ => st154⟩
  · exact ⟨fun _ => ⟨fun z => absurd rfl z, fun _ => st154⟩, fun z => absurd z (by decide)⟩
  · exact ⟨fun _ => ⟨fun _ => st154, fun z => absurd z (by decide)⟩, fun z => absurd z (by decide)⟩
theorem shr_x : ∀ k, k < 3 → ((2 + 2 * nI k) &&& 31 : Int32).toBitVec.toNat = 2 + 2 * k ∧ ((5 * nI k) &&& 31 : Int32).toBitVec.toNat = 5 * k := by decide +kernel
theorem shr_s : ∀ k, k < 3 → ((((2 + 2 * nI k) &&& 31 : Int32).toBitVec.smod 32).toNat = 2 + 2 * k) ∧ ((((5 * nI k) &&& 31 : Int32).toBitVec.smod 32).toNat = 5 * k) := by decide +kernel
theorem wr_lask (hl : Lw g σ R S m Q (r, E2)) (hm : 0 < m) (iv : Inv S) (hz : zn S = 0) (hzq : zq S = q) (hq : q < 4) (hX : X < 2 ^ 31) (hY : Y < 2 ^ 31) : Do g M_L_ask 5 17 [.ref (R 0), .int (nI X), .int (nI Y), .int (nI q), .ref (Q 0)] σ (askP g m (R 0) Q E2 S r q) := by
  have e0 : zPg S 0 (zC S) = S := by
    show zPg S 0 (zC S) = zPg S (zn S) (zC S)
    rw [hz]
  have hA : Ak g S m (R 0) Q E2 σ 0 (zC S) r (0, 0, 0, 0, dq0) := by
    refine ⟨R, rfl, ?_, ?_, ?_⟩
    · rw [e0]; exact hl
    · rw [e0]; exact iv
    · rfl
  have exm : nI X - nI X / 4 * 4 = nI (X % 4) := pk_rem hX (by decide) (by decide)
  have exs : nI X / 512 - nI X / 512 / 3 * 3 = nI (X / 512 % 3) := by
    rw [show nI X / 512 = nI (X / 512) from pk_div hX (by decide) (by decide)]
    exact pk_rem (by omega) (by decide) (by decide)
  -- conditions
  have conds : ∀ (e k : Nat) (σ1 : Hs) (n : Nat) (C : Nat → Nat) (r1 : Nat → Int32) (s : AM), k + e = X % 4 → n ≤ 5 * k → cnd k s → nsh (dnA s) → Ak g S m (R 0) Q E2 σ1 n C r1 s → RO q r r1 → RW r1 q (dnA s) → J_L_ask_51 g (askP g m (R 0) Q E2 S r q) 5 17 0 0 σ1 (R 0) (nI X) (nI Y) (nI q) (Q 0) (nI (X % 4)) 1 (nI k) := by
    intro e
    induction e with
    | zero =>
      intro k σ1 n C r1 s hk hn hcd hns hA1 hRO hRW
      have h4 : X % 4 < 4 := Nat.mod_lt _ (by decide)
      exact q_L_ask_51 _ _ _ _ _ _ _ _ _ _ _ _ ⟨fun _ => ask_norm hm hX hA1 hcd hns (by omega) hzq hq hRO hRW, fun z => absurd (nI_le (by omega) (by omega)) z⟩
    | succ e ih =>
      intro k σ1 n C r1 s hk hn hcd hns hA1 hRO hRW
      have h4 : X % 4 < 4 := Nat.mod_lt _ (by decide)
      have hk3 : k < 3 := by omega
      obtain ⟨sx, sy⟩ := shr_s k hk3
      have ec : (nI X >>> ((2 + 2 * nI k) &&& 31)) &&& 3 = nI (X / 2 ^ (2 + 2 * k) % 4) := by
        rw [pk_shrN hX _ _ sx]
        exact pk_andN (Nat.lt_of_le_of_lt (Nat.div_le_self _ _) (by omega)) 2 (by decide)
      have ey : (nI Y >>> ((5 * nI k) &&& 31)) - (nI Y >>> ((5 * nI k) &&& 31)) / 23 * 23 = nI (Y / 2 ^ (5 * k) % 23) := by
        rw [pk_shrN hY _ _ sy]
        exact pk_rem (Nat.lt_of_le_of_lt (Nat.div_le_self _ _) hY) (by decide) (by decide)
      have es : ((nI X / 512 - nI X / 512 / 3 * 3) + nI k) - ((nI X / 512 - nI X / 512 / 3 * 3) + nI k) / 3 * 3 = nI ((X / 512 % 3 + k) % 3) := by
        rw [exs, nI_add]
        exact pk_rem (by omega) (by decide) (by decide)
      have hc : X / 2 ^ (2 + 2 * k) % 4 < 4 := Nat.mod_lt _ (by decide)
      have hnn : Y / 2 ^ (5 * k) % 23 < 23 := Nat.mod_lt _ (by decide)
      have hsg : (X / 512 % 3 + k) % 3 < 3 := Nat.mod_lt _ (by decide)
      refine q_L_ask_51 _ _ _ _ _ _ _ _ _ _ _ _ ⟨fun z => absurd ((nI_leI (by omega) (by omega)).mp z) (by omega), fun _ => ⟨fun z => absurd z (by decide), fun _ => ?_⟩⟩
      rw [ec, ey, es]
      generalize X / 2 ^ (2 + 2 * k) % 4 = c at hc
      generalize Y / 2 ^ (5 * k) % 23 = nn at hnn
      generalize (X / 512 % 3 + k) % 3 = sg at hsg
      have go : ∀ (σ2 : Hs) (n2 : Nat) (C2 : Nat → Nat) (a col sg' nm : Nat), n2 ≤ n + 1 → (a = 0 ∨ a = 1) → Ak g S m (R 0) Q E2 σ2 n2 C2 r1 (a, col, sg', nm, dnA s) → J_L_ask_118 g (askP g m (R 0) Q E2 S r q) 5 17 0 0 σ2 (R 0) (nI X) (nI Y) (nI q) (Q 0) (nI (X % 4)) (nI k) (nI c) (nI sg) (nI nn) := fun σ2 n2 C2 a col sg' nm hn2 ha hA2 =>
        ask_cond hm hq hA2 ha hRO hRW hc hsg hnn hk3 (by omega) fun σ' n' C' r' s' h1 h2 h3 h4 h5 h6 => ih (k + 1) σ' n' C' r' s' (by omega) (by omega) (Or.inr ⟨by omega, h2⟩) (by rw [h3]; exact endD_nsh hns) h4 h5 (by rw [h3]; exact h6)
      refine ⟨fun z => ?_, fun z => ⟨by omega, ?_⟩⟩
      · have z : k = 0 := (nI_eq (b := 0) (by omega) (by decide)).mp z
        rcases hcd with ⟨-, rfl⟩ | ⟨z2, -⟩
        · exact go σ1 n C 0 0 0 0 (by omega) (Or.inl rfl) hA1
        · omega
      · have z : k ≠ 0 := fun y => z (by rw [y]; rfl)
        obtain ⟨col, sg', nm, st⟩ := cnd_38 (by omega) hcd
        exact hA1.put (k := 38) rfl (by decide) (by decide) (by omega) st fun σ2 hA2 => ⟨fun z => absurd z (by decide), fun _ => go σ2 (n + 1) _ 1 col sg' nm (Nat.le_refl _) (Or.inr rfl) hA2⟩
  -- the bounds at first
  have first : ∀ (e c : Nat) (σ1 : Hs) (r1 : Nat → Int32), c + e = 4 → Ak g S m (R 0) Q E2 σ1 0 (zC S) r1 (0, 0, 0, 0, dq0) → RO q r r1 → (∀ j, j < c → r1 (8 * q + j) = 0 ∧ r1 (8 * q + 4 + j) = 99) → J_L_ask_3 g (askP g m (R 0) Q E2 S r q) 5 17 0 0 σ1 (R 0) (nI X) (nI Y) (nI q) (Q 0) (nI c) := by
    intro e
    induction e with
    | zero =>
      intro c σ1 r1 hc hA1 hRO h1
      have hc : c = 4 := hc
      subst hc
      refine q_L_ask_3 _ _ _ _ _ _ _ _ _ _ ⟨fun _ => ?_, fun z => absurd (show (4 : Int32) ≤ nI 4 by decide) z⟩
      rw [exm]
      refine conds (X % 4) 0 σ1 0 (zC S) r1 _ (by omega) (Nat.le_refl _) (Or.inl ⟨rfl, rfl⟩) ⟨rfl, rfl⟩ hA1 hRO fun j hj => ?_
      obtain ⟨a1, a2⟩ := h1 j hj
      refine ⟨a1, a2.trans ?_⟩
      show (99 : Int32) = if j < 4 then 99 else 0
      rw [if_pos hj]
    | succ e ih =>
      intro c σ1 r1 hc hA1 hRO h1
      refine q_L_ask_3 _ _ _ _ _ _ _ _ _ _ ⟨fun z => absurd ((nI_leI (a := 4) (by decide) (by omega)).mp z) (by omega), fun _ => SI.of (hA1.ce hm) (ix_a q c) (by omega) (by decide) (SI.of ((hA1.wr hm _).ce hm) (ix_b q c) (by omega) (by decide) ?_)⟩
      rw [nI_1]
      refine ih (c + 1) _ _ (by omega) ((hA1.wr hm _).wr hm _) ((hRO.upd (Or.inl (by omega))).upd (Or.inl (by omega))) fun j hj => ?_
      by_cases y : j = c
      · subst y
        rw [pk_us, pk_un (by omega), pk_us]
        exact ⟨rfl, rfl⟩
      · rw [pk_un (by omega), pk_un (by omega), pk_un (by omega), pk_un (by omega)]
        exact h1 j (by omega)
  exact q_L_ask 5 17 _ _ _ _ _ (first 4 0 σ r (by omega) hA (fun j _ _ _ => rfl) fun j hj => absurd hj (Nat.not_lt_zero _))
end LAX
