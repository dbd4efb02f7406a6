/-! The law's key by a cell. -/
theorem key1 : ∀ A, A < 5 → 1 ≤ A → keyB A = true := by decide +kernel
theorem key2 : ∀ A, A < 5 → ∀ B, B < 5 → 1 ≤ A → 1 ≤ B → A ≠ B → keyB (5 * A + B) = true := by decide +kernel
def kyB (A B D : Nat) : Bool := decide (1 ≤ A) && decide (1 ≤ B) && decide (1 ≤ D) && !decide (A = B) && !decide (D = A) && !decide (D = B)
theorem key3a : (List.range 5).all (fun A => (List.range 5).all fun B => (List.range 5).all fun D => !kyB A B D || keyB (25 * A + 5 * B + D)) = true := by decide +kernel
theorem key3b (A : Nat) (a : A < 5) (B : Nat) (b : B < 5) (D : Nat) (d : D < 5) (h : 1 ≤ A ∧ 1 ≤ B ∧ 1 ≤ D ∧ A ≠ B ∧ D ≠ A ∧ D ≠ B) : keyB (25 * A + 5 * B + D) = true := by
  have h1 := List.all_eq_true.mp (List.all_eq_true.mp (List.all_eq_true.mp key3a A (List.mem_range.mpr a)) B (List.mem_range.mpr b)) D (List.mem_range.mpr d)
  have h2 : kyB A B D = true := by
    unfold kyB
    rw [decide_eq_true h.1, decide_eq_true h.2.1, decide_eq_true h.2.2.1, decide_eq_false h.2.2.2.1, decide_eq_false h.2.2.2.2.1, decide_eq_false h.2.2.2.2.2]
    rfl
  rw [h2] at h1
  simpa using h1
theorem key3 (A : Nat) (a : A < 5) (B : Nat) (b : B < 5) (D : Nat) (d : D < 5) (h1 : 1 ≤ A) (h2 : 1 ≤ B) (h3 : 1 ≤ D) (h4 : A ≠ B) (h5 : D ≠ A) (h6 : D ≠ B) : keyB (25 * A + 5 * B + D) = true := key3b A a B b D d ⟨h1, h2, h3, h4, h5, h6⟩
theorem rd_lkey {g : GG} {σ : Hs} {X : Nat} (hX : X < 2 ^ 31) : ∃ key, key < 125 ∧ keyB key = true ∧ Rd g M_L_key [.int (nI X)] σ (nI key) := by
  have e1 : (1 : Int32) + (nI X - nI X / 4 * 4) = nI (1 + X % 4) := by
    rw [show nI X - nI X / 4 * 4 = nI (X % 4) from pk_rem hX (by decide) (by decide)]
    exact nI_add 1 _
  have ed : ∀ n : Nat, 0 < n → n < 2 ^ 31 → nI X / nI n = nI (X / n) := fun n h1 h2 => pk_div hX h1 h2
  have e2 : nI X / 4 - nI X / 4 / 3 * 3 = nI (X / 4 % 3) := by
    rw [show nI X / 4 = nI (X / 4) from ed 4 (by decide) (by decide)]
    exact pk_rem (by omega) (by decide) (by decide)
  have e3 : nI X / 64 - nI X / 64 / 2 * 2 = nI (X / 64 % 2) := by
    rw [show nI X / 64 = nI (X / 64) from ed 64 (by decide) (by decide)]
    exact pk_rem (by omega) (by decide) (by decide)
  have e4 : nI X / 16 - nI X / 16 / 4 * 4 = nI (X / 16 % 4) := by
    rw [show nI X / 16 = nI (X / 16) from ed 16 (by decide) (by decide)]
    exact pk_rem (by omega) (by decide) (by decide)
  have hA : 1 ≤ 1 + X % 4 ∧ 1 + X % 4 < 5 := by omega
  have hB : 1 ≤ 1 + (1 + X % 4 + X / 4 % 3) % 4 ∧ 1 + (1 + X % 4 + X / 4 % 3) % 4 < 5 := by omega
  have hAB : 1 + X % 4 ≠ 1 + (1 + X % 4 + X / 4 % 3) % 4 := by omega
  have e5 : (1 : Int32) + ((nI (1 + X % 4) + nI (X / 4 % 3)) - (nI (1 + X % 4) + nI (X / 4 % 3)) / 4 * 4) = nI (1 + (1 + X % 4 + X / 4 % 3) % 4) := by
    rw [nI_add, show nI (1 + X % 4 + X / 4 % 3) - nI (1 + X % 4 + X / 4 % 3) / 4 * 4 = nI ((1 + X % 4 + X / 4 % 3) % 4) from pk_rem (by omega) (by decide) (by decide)]
    exact nI_add 1 _
  have start : ∀ φ, J_L_key_28 g φ σ (nI X) (nI (1 + X % 4)) (nI (1 + (1 + X % 4 + X / 4 % 3) % 4)) ((10 - nI (1 + X % 4)) - nI (1 + (1 + X % 4 + X / 4 % 3) % 4)) 1 → Do g M_L_key 0 0 [.int (nI X)] σ φ := fun φ h => by
    refine q_L_key _ ?_
    rw [e1, e2, e5]
    exact h
  generalize 1 + X % 4 = A at hA hAB hB start
  generalize 1 + (A + X / 4 % 3) % 4 = B at hB hAB start
  have e6 : (10 - nI A : Int32) - nI B = nI (10 - A - B) := by
    rw [show (10 : Int32) - nI A = nI (10 - A) from pk_sub (a := 10) (by omega)]
    exact pk_sub (by omega)
  rw [e6] at start
  -- the third column
  have fin : ∀ D, 1 ≤ D → D < 5 → D ≠ A → D ≠ B → ∃ key, key < 125 ∧ keyB key = true ∧ ∀ φ : Option Value → Hs → Prop, φ (some (.int (nI key))) σ → J_L_key_64 g φ σ (nI X) (nI A) (nI B) (nI D) := by
    intro D h1 h2 h3 h4
    have w5 : X / 16 % 4 < 4 := Nat.mod_lt _ (by decide)
    by_cases c0 : X / 16 % 4 = 0
    · refine ⟨A, by omega, key1 A hA.2 hA.1, fun φ h => q_L_key_64 _ _ _ _ ⟨fun z => absurd ?_ z, fun _ => h⟩⟩
      rw [e4, c0]
      rfl
    · by_cases c1 : X / 16 % 4 = 1
      · refine ⟨25 * A + 5 * B + D, by omega, key3 A hA.2 B hB.2 D h2 hA.1 hB.1 h1 hAB h3 h4, fun φ h => q_L_key_64 _ _ _ _ ⟨fun _ => ⟨fun z => absurd ?_ z, fun _ => ?_⟩, fun z => absurd ?_ c0⟩⟩
        · rw [e4, c1]
          rfl
        · rw [show (25 : Int32) * nI A = nI (25 * A) from pk_mul 25 A, show (5 : Int32) * nI B = nI (5 * B) from pk_mul 5 B, nI_add, nI_add]
          exact h
        · rw [e4] at z
          exact (nI_eq (b := 0) (by omega) (by decide)).mp z
      · refine ⟨5 * A + B, by omega, key2 A hA.2 B hB.2 hA.1 hB.1 hAB, fun φ h => q_L_key_64 _ _ _ _ ⟨fun _ => ⟨fun _ => ?_, fun z => absurd ?_ c1⟩, fun z => absurd ?_ c0⟩⟩
        · rw [show (5 : Int32) * nI A = nI (5 * A) from pk_mul 5 A, nI_add]
          exact h
        · rw [e4] at z
          exact (nI_eq (b := 1) (by omega) (by decide)).mp z
        · rw [e4] at z
          exact (nI_eq (b := 0) (by omega) (by decide)).mp z
  have loop : ∀ (e d : Nat), d + e = 4 → 1 ≤ d → (∀ j, 1 ≤ j → j < d → j = A ∨ j = B) → ∃ key, key < 125 ∧ keyB key = true ∧ ∀ φ : Option Value → Hs → Prop, φ (some (.int (nI key))) σ → J_L_key_28 g φ σ (nI X) (nI A) (nI B) (nI (10 - A - B)) (nI d) := by
    intro e
    induction e with
    | zero =>
      intro d hd h1 hp
      have a1 := hp 1 (by omega) (by omega)
      have a2 := hp 2 (by omega) (by omega)
      have a3 := hp 3 (by omega) (by omega)
      omega
    | succ e ih =>
      intro d hd h1 hp
      by_cases cA : d = A
      · obtain ⟨key, k1, k2, k3⟩ := ih (d + 1) (by omega) (by omega) fun j j1 j2 => by
          by_cases y : j = d
          · exact Or.inl (by omega)
          · exact hp j j1 (by omega)
        refine ⟨key, k1, k2, fun φ h => q_L_key_28 _ _ _ _ _ ⟨fun _ => ?_, fun z => absurd (by rw [cA]) z⟩⟩
        rw [nI_1]
        exact k3 φ h
      · by_cases cB : d = B
        · obtain ⟨key, k1, k2, k3⟩ := ih (d + 1) (by omega) (by omega) fun j j1 j2 => by
            by_cases y : j = d
            · exact Or.inr (by omega)
            · exact hp j j1 (by omega)
          refine ⟨key, k1, k2, fun φ h => q_L_key_28 _ _ _ _ _ ⟨fun z => absurd ((nI_eq (by omega) (by omega)).mp z) cA, fun _ => ⟨fun z => absurd (by rw [cB]) z, fun _ => ?_⟩⟩⟩
          rw [nI_1]
          exact k3 φ h
        · have w2 : X / 64 % 2 < 2 := Nat.mod_lt _ (by decide)
          by_cases cP : X / 64 % 2 = 0
          · obtain ⟨key, k1, k2, k3⟩ := fin d h1 (by omega) cA cB
            refine ⟨key, k1, k2, fun φ h => q_L_key_28 _ _ _ _ _ ⟨fun z => absurd ((nI_eq (by omega) (by omega)).mp z) cA, fun _ => ⟨fun _ => ⟨fun z => absurd ?_ z, fun _ => k3 φ h⟩, fun z => absurd ((nI_eq (by omega) (by omega)).mp z) cB⟩⟩⟩
            rw [e3, cP]
            rfl
          · obtain ⟨key, k1, k2, k3⟩ := fin (10 - A - B - d) (by omega) (by omega) (by omega) (by omega)
            refine ⟨key, k1, k2, fun φ h => q_L_key_28 _ _ _ _ _ ⟨fun z => absurd ((nI_eq (by omega) (by omega)).mp z) cA, fun _ => ⟨fun _ => ⟨fun _ => ?_, fun z => absurd ?_ cP⟩, fun z => absurd ((nI_eq (by omega) (by omega)).mp z) cB⟩⟩⟩
            · rw [pk_sub (by omega)]
              exact k3 φ h
            · rw [e3] at z
              exact (nI_eq (b := 0) (by omega) (by decide)).mp z
  obtain ⟨key, k1, k2, k3⟩ := loop 3 1 rfl (by decide) fun j j1 j2 => by omega
  exact ⟨key, k1, k2, start _ (k3 _ (rd_i rfl))⟩
