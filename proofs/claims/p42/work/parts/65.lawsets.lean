/-! Sets of orders: their work, the best within space, step by step. -/
section SETS
variable {S : SS}
theorem lt_pow_bits {k t : Nat} (h : k < 2 ^ t) : ∀ i, t ≤ i → k.testBit i = false := fun i hi => Nat.testBit_lt_two_pow (Nat.lt_of_lt_of_le h (Nat.pow_le_pow_right (by decide) hi))
theorem kSet_all (hK : Kp S) {k : Nat} (hk : k < 2 ^ zo S) : k &&& kSet (zB S) (zo S) = k := by
  refine Nat.eq_of_testBit_eq fun i => ?_
  rw [Nat.testBit_and, kSet_bit]
  by_cases c : i < zo S
  · rw [decide_eq_true c, hK.2 i c]
    simp
  · rw [lt_pow_bits hk i (by omega), Bool.false_and]
theorem kSet_lt2 (hK : Kp S) : kSet (zB S) (zo S) < 2 ^ zo S := kSet_lt (zB S) (zo S)
theorem pow_t {t : Nat} (h : t ≤ 3) : 2 ^ t ≤ 8 := Nat.pow_le_pow_right (n := 2) (by decide) h
/-- the best set of all: known at the last set of orders told -/
theorem bst_all (hK : Kp S) (sp : Nat) : s_bst S sp = bstS (s_wrk S) (s_szs S) (kSet (zB S) (zo S)) sp (2 ^ zo S) := by
  have h1 := pow_t hK.1
  have := bstS_ge (s_wrk S) (s_szs S) (kSet (zB S) (zo S)) sp (2 ^ zo S) (kSet_lt2 hK) (256 - 2 ^ zo S)
  rw [show 2 ^ zo S + (256 - 2 ^ zo S) = 256 by omega] at this
  exact this
theorem szs_0 : s_szs S 0 = 0 := by
  show sumO (fun w => szO w.2.2.1) (zB S) 0 (zo S) = 0
  have h : ∀ k, sumO (fun w => szO w.2.2.1) (zB S) 0 k = 0 := fun k => by
    induction k with
    | zero => rfl
    | succ k ih =>
      simp only [sumO]
      rw [ih, Nat.zero_testBit]
      simp
  exact h _
theorem bst_fit (hK : Kp S) (sp : Nat) : ∀ k, s_szs S (bstS (s_wrk S) (s_szs S) (kSet (zB S) (zo S)) sp k) ≤ sp
  | 0 => by
    show s_szs S 0 ≤ sp
    rw [szs_0]
    exact Nat.zero_le _
  | k + 1 => by
    have ih := bst_fit hK sp k
    simp only [bstS]
    split
    · rename_i h; exact h.1.2
    · exact ih
theorem bst_min (hK : Kp S) (sp : Nat) : ∀ k j, j < k → k ≤ 2 ^ zo S → s_szs S j ≤ sp → s_wrk S (bstS (s_wrk S) (s_szs S) (kSet (zB S) (zo S)) sp k) ≤ s_wrk S j
  | 0, j, h, _, _ => absurd h (Nat.not_lt_zero _)
  | k + 1, j, h, hk, hj => by
    have ih := fun h2 => bst_min hK sp k j h2 (by omega) hj
    simp only [bstS]
    have hb : ∀ m p, bet (s_wrk S) (s_szs S) m p = true ↔ s_wrk S m < s_wrk S p ∨ (s_wrk S m = s_wrk S p ∧ s_szs S m < s_szs S p) := fun m p => by
      unfold bet
      rw [Bool.or_eq_true, Bool.and_eq_true, decide_eq_true_eq, decide_eq_true_eq, decide_eq_true_eq]
    by_cases e : j = k
    · subst e
      by_cases c : bet (s_wrk S) (s_szs S) j (bstS (s_wrk S) (s_szs S) (kSet (zB S) (zo S)) sp j) = true
      · rw [if_pos ⟨⟨kSet_all hK (by omega), hj⟩, c⟩]
        exact Nat.le_refl _
      · rw [if_neg fun z => c z.2]
        have c : ¬ s_wrk S j < s_wrk S (bstS (s_wrk S) (s_szs S) (kSet (zB S) (zo S)) sp j) := fun z => c ((hb _ _).mpr (Or.inl z))
        omega
    · split
      · rename_i h1
        have := (hb _ _).mp h1.2
        have := ih (by omega)
        omega
      · exact ih (by omega)
theorem bst_lt (hK : Kp S) (sp : Nat) {k : Nat} (hk : k ≤ 2 ^ zo S) : bstS (s_wrk S) (s_szs S) (kSet (zB S) (zo S)) sp k < 8 := by
  have h1 := pow_t hK.1
  rcases bstS_lt (s_wrk S) (s_szs S) (kSet (zB S) (zo S)) sp k with h | h <;> omega
/-- step by step -/
theorem nx_t (hK : Kp S) (sp m : Nat) : nxS (s_wrk S) (s_szs S) (keptB (zo S) (zB S)) sp m 8 = nxS (s_wrk S) (s_szs S) (keptB (zo S) (zB S)) sp m (zo S) := by
  have h3 := hK.1
  have := nxS_ge (s_wrk S) (s_szs S) (keptB (zo S) (zB S)) sp m (zo S) (fun o ho => by rw [hK.kept, decide_eq_false (by omega)]) (8 - zo S)
  rw [show zo S + (8 - zo S) = 8 by omega] at this
  exact this
theorem pop3 : ∀ m, m < 8 → fa_cnt m.testBit 8 ≤ 3 := by decide +kernel
theorem pop_or : ∀ m, m < 8 → ∀ o, o < 3 → (m.testBit o = false → fa_cnt (m ||| 2 ^ o).testBit 8 = fa_cnt m.testBit 8 + 1 ∧ (m ||| 2 ^ o) < 8 ∧ wout (m ||| 2 ^ o) o = m) := by decide +kernel
theorem or_lt_t {m o t : Nat} (hm : m < 2 ^ t) (ho : o < t) : m ||| 2 ^ o < 2 ^ t := Nat.or_lt_two_pow hm (Nat.pow_lt_pow_right (by decide) ho)
end SETS
