/-! The law's body: its table, its orders, its beginning. -/
def E0 : AE := (fun _ => 0, fun _ => 0, fun _ => 0, fun _ => 0, fun _ => 0)
def Q0 : Nat → Nat := fun _ => 0
section LBE
variable {g : GG} {b L : Nat} {xs : Nat → Int32} {r0 : Nat}
theorem law_rows (hL : L ≤ 260) {W M T : Nat} (hM : 2 ≤ M ∧ M ≤ 23) (hT : T ≤ 3) : ∀ (e t kM nM : Nat) (σ : Hs) (S : SS), t + e = 6 → LW g σ r0 S 0 Q0 E0 → PA S W (24 + t) → zo S = T → kM ≤ 400 → nM ≤ 4000 → J_L_law_131 g b L xs kM nM σ r0 (nI W) (nI M) (nI T) (nI t) := by
  intro e
  induction e with
  | zero =>
    intro t kM nM σ S ht h pa hz hk1 hk2
    have ht : t = 6 := ht
    subst ht
    obtain ⟨X, hX, eX⟩ := cel_n L xs 15
    have ex : (1 : Int32) + (nI X - nI X / 3 * 3) = nI (1 + X % 3) := by
      rw [show nI X - nI X / 3 * 3 = nI (X % 3) from pk_rem hX (by decide) (by decide)]
      exact nI_add 1 _
    refine q_L_law_131 _ _ _ _ _ _ _ hL ⟨fun _ => ⟨⟨by omega, by omega⟩, ⟨by omega, by omega⟩, NA.of (n := 64) (by decide) rfl fun p0 hp0 => ⟨⟨by omega, by omega⟩, NA.of (n := 4) (by decide) rfl fun p1 hp1 => ⟨⟨by omega, by omega⟩, NA.of (n := 4) (by decide) rfl fun p2 hp2 => ?_⟩⟩⟩, fun z => absurd (show (6 : Int32) ≤ nI 6 by decide) z⟩
    rw [eX, ex]
    obtain ⟨R1, e1, l1⟩ := h
    have l2 := l1.psh (q := p0) (E' := E0) hp0 fun k hk => absurd hk (Nat.not_lt_zero _)
    have l3 := l2.psh (q := p1) (E' := E0) hp1 fun k hk => rfl
    have l4 := l3.psh (q := p2) (E' := E0) hp2 fun k hk => rfl
    obtain ⟨iv, hw, ⟨z1, z2, z3, z4, z5⟩, hd, -⟩ := pa
    exact law_quests (b := b) (xs := xs) (r0 := r0) (W := W) (T := T) (N := 1 + X % 3) hL ⟨by omega, by omega⟩ (1 + X % 3) 0 (kM + 1 + 1 + 1) (nM + 64 + 4 + 4) _ S E0 (by omega) ⟨R1, e1, l4⟩ iv ⟨by omega, hd⟩ z1 ⟨z2, z3, z4, z5⟩ hw hz (fun q hq => absurd hq (by rw [z1]; exact Nat.not_lt_zero _)) (fun _ _ _ => rfl) (by omega) (by omega)
  | succ e ih =>
    intro t kM nM σ S ht h pa hz hk1 hk2
    have ht6 : t < 6 := by omega
    obtain ⟨X, hX, eX⟩ := cel_n L xs (9 + nI t)
    have e1 : nI X - nI X / 64 * 64 = nI (X % 64) := pk_rem hX (by decide) (by decide)
    have hs : X % 64 < 64 := Nat.mod_lt _ (by decide)
    have nxt : ∀ (v : Nat) (S' : SS), v < 65 → PA S' W (24 + (t + 1)) → zo S' = T → ∀ σ', LW g σ' r0 S' 0 Q0 E0 → (0 ≤ nI v → J_L_law_131 g b L xs kM nM σ' r0 (nI W) (nI M) (nI T) (nI t + 1)) ∧ (¬ 0 ≤ nI v → False) := fun v S' hv pa' hz' σ' h' => by
      refine ⟨fun _ => ?_, fun z => z (nI_pos' (by omega))⟩
      rw [nI_1]
      exact ih (t + 1) kM nM σ' S' (by omega) h' pa' hz' hk1 hk2
    have row : J_L_law_187 g b L xs kM nM σ r0 (nI W) (nI M) (nI T) (nI t) (nI X) := by
      have rm : ∀ n : Nat, 0 < n → n < 2 ^ 31 → nI X / nI n - nI X / nI n / nI M * nI M = nI (X / n % M) := fun n h1 h2 => by
        rw [pk_div hX h1 h2]
        exact pk_rem (Nat.lt_of_le_of_lt (Nat.div_le_self _ _) hX) (by omega) (by omega)
      have r1 : nI X / 64 - nI X / 64 / nI M * nI M = nI (X / 64 % M) := rm 64 (by decide) (by decide)
      have r2 : nI X / 512 - nI X / 512 / nI M * nI M = nI (X / 512 % M) := rm 512 (by decide) (by decide)
      have r3 : nI X / 4096 - nI X / 4096 / nI M * nI M = nI (X / 4096 % M) := rm 4096 (by decide) (by decide)
      have r4 : nI X / 32768 - nI X / 32768 / nI M * nI M = nI (X / 32768 % M) := rm 32768 (by decide) (by decide)
      have lt : ∀ n, n % M < 100 := fun n => by
        have := Nat.mod_lt n (show 0 < M by omega)
        omega
      have m0 : ¬ nI M = 0 := nI_ne0 (by omega) (by omega)
      refine q_L_law_187 _ _ _ _ _ _ _ _ hL ⟨m0, m0, m0, m0, ⟨by omega, by omega⟩, h.rc, ?_⟩
      rw [r1, r2, r3, r4]
      obtain ⟨s, s1, s2, s3, s4⟩ := pa.row (a1 := X / 64 % M) (a2 := X / 512 % M) (a3 := X / 4096 % M) (a4 := X / 32768 % M) (by omega) (lt _) (lt _) (lt _) (lt _)
      refine h.use (fun R k => do_row k pa.1 _ _ _ _) ?_
      rw [s2]
      exact nxt s _ (by omega) s3 (by rw [s4, hz])
    refine q_L_law_131 _ _ _ _ _ _ _ hL ⟨fun z => absurd ((nI_leI (a := 6) (by decide) (by omega)).mp z) (by omega), fun _ => ⟨⟨by omega, by omega⟩, by rw [show (9 : Int32) + nI t = nI (9 + t) from nI_add 9 t]; exact nI_pos (by omega), ⟨by omega, by omega⟩, h.rc, ?_⟩⟩
    rw [eX, e1]
    refine h.rd (fun R k => rd_get k (nI (X % 64)) 0) ?_
    rw [show v_get S (nI (X % 64)) 0 = v_get S (nI (X % 64)) (nI 0) from rfl, v_get_in hs (by decide)]
    refine ⟨fun _ => row, fun z => ⟨fun _ => row, fun _ => ⟨⟨by omega, by omega⟩, h.rc, ?_⟩⟩⟩
    have htk : zt S (X % 64) = true := by
      rcases Bool.eq_false_or_eq_true (zt S (X % 64)) with y | y
      · exact y
      · rw [if_f y] at z
        exact absurd (by decide) z
    obtain ⟨v, v1, v2, v3, v4⟩ := pa.drop hs htk
    refine h.use (fun R k => do_drop k pa.1 _) ?_
    rw [v2]
    exact nxt v _ v1 ⟨v3.1, v3.2.1, v3.2.2.1, v3.2.2.2.1, by have := v3.2.2.2.2; omega⟩ (by rw [v4, hz])
theorem law_orders (hL : L ≤ 260) {W M N : Nat} (hM : 2 ≤ M ∧ M ≤ 23) (hN : N < 4) : ∀ (e k kM nM : Nat) (σ : Hs) (S : SS), k + e = N → LW g σ r0 S 0 Q0 E0 → PA S W 24 → zo S ≤ k → kM ≤ 200 + 7 * k → nM ≤ 3000 + 146 * k → J_L_law_85 g b L xs kM nM σ r0 (nI W) (nI M) (nI N) (nI (zo S)) (nI k) := by
  intro e
  induction e with
  | zero =>
    intro k kM nM σ S hk h pa hz hk1 hk2
    have hk : k = N := hk
    subst hk
    exact q_L_law_85 _ _ _ _ _ _ _ _ hL ⟨fun _ => law_rows hL hM (by omega) 6 0 kM nM σ S rfl h pa rfl (by omega) (by omega), fun z => absurd (nI_le (Nat.le_refl _) (by omega)) z⟩
  | succ e ih =>
    intro k kM nM σ S hk h pa hz hk1 hk2
    obtain ⟨X, hX, eX⟩ := cel_n L xs (5 + nI k)
    obtain ⟨key, k1, k2, k3⟩ := rd_lkey (g := g) (σ := σ) hX
    obtain ⟨p1, p2⟩ := pa.order k1 k2 (by omega)
    refine q_L_law_85 _ _ _ _ _ _ _ _ hL ⟨fun z => absurd ((nI_leI (by omega) (by omega)).mp z) (by omega), fun _ => ⟨⟨by omega, by omega⟩, by rw [show (5 : Int32) + nI k = nI (5 + k) from nI_add 5 k]; exact nI_pos (by omega), ⟨by omega, by omega⟩, ?_⟩⟩
    rw [eX]
    refine k3.use ⟨7, 146, ⟨by omega, by omega⟩, h.rc, h.use (fun R kk => do_order kk pa.1 (nI key)) fun σ1 h1 => ?_⟩
    have ih := ih (k + 1) (kM + 7) (nM + 146) σ1 _ (by omega) h1 p1
    rcases p2 with ⟨q1, q2⟩ | ⟨q1, q2⟩
    · rw [q1]
      rw [q2] at ih
      refine ⟨fun z => absurd rfl z, fun _ => ?_⟩
      rw [nI_1, nI_1]
      exact ih (by omega) (by omega) (by omega)
    · rw [q1]
      rw [q2] at ih
      refine ⟨fun _ => ?_, fun z => ?_⟩
      · rw [nI_p0, nI_1]
        exact ih (by omega) (by omega) (by omega)
      · exfalso
        have z := (eq_n (n := zo S) (by omega)).mp z
        have : ((-103 : Int32)).toInt = -103 := by decide
        omega
/-- no cell -/
def s00 : Hs := ([], fun _ => .inr (0, []))
theorem law_begin (hL : L ≤ 260) : Fs g (SL b L xs g) (600000, 7302250, 0, 0) [(0, .ref b)] [] 0 s00 := by
  obtain ⟨X0, hX0, e0⟩ := cel_n L xs 0
  obtain ⟨X1, hX1, e1⟩ := cel_n L xs 1
  obtain ⟨X2, hX2, e2⟩ := cel_n L xs 2
  obtain ⟨X3, hX3, e3⟩ := cel_n L xs 3
  obtain ⟨X4, hX4, e4⟩ := cel_n L xs 4
  have f0 : (2 : Int32) + (nI X0 - nI X0 / 7 * 7) = nI (2 + X0 % 7) := by
    rw [show nI X0 - nI X0 / 7 * 7 = nI (X0 % 7) from pk_rem hX0 (by decide) (by decide)]
    exact nI_add 2 _
  have f1 : (2 : Int32) + (nI X1 - nI X1 / 22 * 22) = nI (2 + X1 % 22) := by
    rw [show nI X1 - nI X1 / 22 * 22 = nI (X1 % 22) from pk_rem hX1 (by decide) (by decide)]
    exact nI_add 2 _
  have f2 : (1 : Int32) + (nI X2 - nI X2 / 24 * 24) = nI (1 + X2 % 24) := by
    rw [show nI X2 - nI X2 / 24 * 24 = nI (X2 % 24) from pk_rem hX2 (by decide) (by decide)]
    exact nI_add 1 _
  have f4 : nI X4 - nI X4 / 4 * 4 = nI (X4 % 4) := pk_rem hX4 (by decide) (by decide)
  have w0 : 2 ≤ 2 + X0 % 7 ∧ 2 + X0 % 7 ≤ 8 := ⟨by omega, by omega⟩
  have w1 : 2 ≤ 2 + X1 % 22 ∧ 2 + X1 % 22 ≤ 23 := ⟨by omega, by omega⟩
  have w2 : 1 ≤ 1 + X2 % 24 ∧ 1 + X2 % 24 ≤ 24 := ⟨by omega, by omega⟩
  have w4 : X4 % 4 < 4 := Nat.mod_lt _ (by decide)
  refine q_L_law hL ⟨⟨by omega, by omega⟩, fun r0 hr => ⟨74, 1970, ⟨by omega, by omega⟩, DoV.use (wr_xinit Ce.psh rfl) ?_⟩⟩
  rintro σ1 ⟨R1, er, K, W1⟩
  have ko := made (g := g) (σ0 := s00) rfl hr W1 er K
  have h0 : LW g σ1 r0 S0 0 Q0 E0 := ⟨R1, er, ko, fun k hk => absurd hk (Nat.not_lt_zero _), fun j k hj => absurd hj (Nat.not_lt_zero _)⟩
  rw [e0, e1, e2, e3, e4, f0, f1, f2, f4]
  obtain ⟨a1, a2, a3⟩ := PA.wide w0
  refine ⟨⟨by omega, by omega⟩, ⟨by omega, by omega⟩, ⟨by omega, by omega⟩, ⟨by omega, by omega⟩, h0.rc, h0.use (fun R k => do_wide k _) ?_⟩
  rw [a1]
  refine fun σ2 h2 => ⟨fun z => absurd rfl z, fun _ => ⟨⟨by omega, by omega⟩, ⟨by omega, by omega⟩, h2.rc, ?_⟩⟩
  obtain ⟨c1, c2, c3⟩ := a2.fill (X := X3) (N := 1 + X2 % 24) (M := 2 + X1 % 22) hX3 ⟨w2.1, by omega⟩ ⟨by omega, by omega⟩
  refine h2.use (fun R k => do_fill k a2.1 _ _ _) ?_
  rw [c1]
  refine fun σ3 h3 => ⟨fun _ => ⟨⟨by omega, by omega⟩, ?_⟩, fun z => absurd rfl z⟩
  have c4 : zo (s_fill (s_wide S0 (nI (2 + X0 % 7))).2 (nI X3) (nI (1 + X2 % 24)) (nI (2 + X1 % 22))).2 = 0 := by rw [c3, a3]
  have fin := law_orders (b := b) (xs := xs) hL (W := 2 + X0 % 7) w1 w4 (X4 % 4) 0 75 1979 σ3 _ (by omega) h3 ⟨c2.1, c2.2.1, c2.2.2.1, c2.2.2.2.1, Nat.le_trans c2.2.2.2.2 w2.2⟩ (by rw [c4]; exact Nat.le_refl _) (by omega) (by omega)
  rw [c4] at fin
  exact fin
end LBE
