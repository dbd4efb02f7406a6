/-! The law's body: the best way of a set, the works of all sets, the best set. -/
section LSE
variable {g : GG} {b L : Nat} {xs : Nat → Int32} {σ : Hs} {r0 : Nat} {S : SS} {Q : Nat → Nat} {E : AE} {kM nM sp q m : Nat}
theorem W_small (iv : Inv S) (q : Nat) : wOk (s_W S q) := (allW_ok _ _ _ _ _ _ (fun o ho => (iv.1.1 o ho).2.1)).1
theorem bC_lt (iv : Inv S) (q m k : Nat) (hk : k ≤ (s_W S q).length) : bC S q m k < 2 ^ 20 := by
  obtain ⟨-, h1, -, h2⟩ := W_small iv q
  refine (h2 _ ?_).2
  rcases bstW_lt (s_W S q) m k with h | h <;> omega
theorem cW_lt (iv : Inv S) (hK : Kp S) (q : Nat) {a b : Nat} (hab : a ≤ b) (hb : b < zo S) : cW S q a b < 2 ^ 20 := by
  obtain ⟨w1, w2⟩ := W_at (q := q) hK hab hb
  obtain ⟨-, h1, -, h2⟩ := W_small iv q
  have := (h2 (ixW (zo S) a b) (by rw [W_len hK]; exact w2)).2
  rw [w1] at this
  exact this
theorem prc_le {t s a c : Nat} (ht : t ≤ 3) (hs : s < 2) (hab : a ≤ c) (hb : c ≤ t) (ha : a < t ∨ a = t) : prc t s a c ≤ lnW t := by
  rcases (show s = 0 ∨ s = 1 by omega) with rfl | rfl <;> rcases (show t = 0 ∨ t = 1 ∨ t = 2 ∨ t = 3 by omega) with rfl | rfl | rfl | rfl <;> rcases (show c = 0 ∨ c = 1 ∨ c = 2 ∨ c = 3 by omega) with rfl | rfl | rfl | rfl <;> rcases (show a = 0 ∨ a = 1 ∨ a = 2 ∨ a = 3 by omega) with rfl | rfl | rfl | rfl <;> first | omega | decide +kernel
/-- what the arrays hold of weights and ways -/
def SWq (S : SS) (E : AE) : Prop := (∀ q, q < zq S → E.2.1 q = nI (hf (zQ S q))) ∧ (∀ q, q < zq S → E.2.2.2.1 (16 * q) = nI (tabL (zf S) (zt S) (zw S) (zQ S q))) ∧ ∀ q, q < zq S → ∀ a b, a ≤ b → b < zo S → E.2.2.2.1 (16 * q + 4 * (a + 1) + b + 1) = nI (cW S q a b)
theorem ix_w (q a c : Nat) : ((((16 : Int32) * nI q) + (4 * (nI a + 1))) + nI c) + 1 = nI (16 * q + 4 * (a + 1) + c + 1) := by
  rw [show (16 : Int32) * nI q = nI (16 * q) from pk_mul 16 q, nI_1, show (4 : Int32) * nI (a + 1) = nI (4 * (a + 1)) from pk_mul 4 (a + 1), nI_add, nI_add, nI_1]
theorem law_best (hL : L ≤ 260) (h : LW g σ r0 S 5 Q E) (iv : Inv S) (hK : Kp S) (hq : q < zq S) (hq3 : zq S ≤ 3) (hm : m < 8) (hE : SWq S E) {x12 x13 x14 x15 x16 x19 x20 : Int32} (K : J_L_law_917 g b L xs kM nM σ r0 (nI (zo S)) (nI (zq S)) (Q 1) (Q 3) x12 x13 x14 x15 x16 (Q 4) (nI m) x19 x20 (nI q) (nI (bNo S q m (lnW (zo S)))) (nI (bC S q m (lnW (zo S)))) (nI 2)) : J_L_law_917 g b L xs kM nM σ r0 (nI (zo S)) (nI (zq S)) (Q 1) (Q 3) x12 x13 x14 x15 x16 (Q 4) (nI m) x19 x20 (nI q) 0 (nI (tabL (zf S) (zt S) (zw S) (zQ S q))) 0 := by
  have h3 := hK.1
  have hlen := W_len (q := q) hK
  have row : ∀ (s a : Nat), s < 2 → a < zo S → J_L_law_926 g b L xs kM nM σ r0 (nI (zo S)) (nI (zq S)) (Q 1) (Q 3) x12 x13 x14 x15 x16 (Q 4) (nI m) x19 x20 (nI q) (nI (bNo S q m (prc (zo S) s (a + 1) (a + 1)))) (nI (bC S q m (prc (zo S) s (a + 1) (a + 1)))) (nI s) (nI (a + 1)) → ∀ (e c : Nat), c + e = zo S → a ≤ c → J_L_law_937 g b L xs kM nM σ r0 (nI (zo S)) (nI (zq S)) (Q 1) (Q 3) x12 x13 x14 x15 x16 (Q 4) (nI m) x19 x20 (nI q) (nI (bNo S q m (prc (zo S) s a c))) (nI (bC S q m (prc (zo S) s a c))) (nI s) (nI a) (nI c) := by
    intro s a hs ha K2 e
    induction e with
    | zero =>
      intro c hc hac
      have hc : c = zo S := hc
      subst hc
      rw [prc_row h3 hs ha]
      refine q_L_law_937 _ _ _ _ _ _ _ _ _ _ _ _ _ _ _ _ _ _ _ _ _ _ hL ⟨fun _ => ?_, fun z => absurd (nI_le (Nat.le_refl _) (by omega)) z⟩
      rw [nI_1]
      exact K2
    | succ e ih =>
      intro c hc hac
      have hct : c < zo S := by omega
      have ih := ih (c + 1) (by omega) (by omega)
      obtain ⟨p1, p2⟩ := prc_at (t := zo S) (s := s) (a := a) (b := c) h3 hs hac hct
      obtain ⟨b1, b2⟩ := best_step (q := q) (m := m) hK hac hct
      have hb30 := bC_lt iv q m (prc (zo S) s a c) (by rw [hlen]; exact prc_le h3 hs hac (by omega) (Or.inl ha))
      have hc30 := cW_lt iv hK q hac hct
      have skip : (¬ ((a = c ↔ s = 0) ∧ m.testBit a = true ∧ m.testBit c = true ∧ cW S q a c < bC S q m (prc (zo S) s a c))) → J_L_law_937 g b L xs kM nM σ r0 (nI (zo S)) (nI (zq S)) (Q 1) (Q 3) x12 x13 x14 x15 x16 (Q 4) (nI m) x19 x20 (nI q) (nI (bNo S q m (prc (zo S) s a c))) (nI (bC S q m (prc (zo S) s a c))) (nI s) (nI a) (nI c + 1) := fun z => by
        rw [nI_1]
        by_cases y : (a = c ↔ s = 0)
        · obtain ⟨y1, y2⟩ := p1 y
          rw [y1] at z ⊢
          rw [y2] at ih
          obtain ⟨d1, d2⟩ := b2 fun w => z ⟨y, w⟩
          rw [d1, d2] at ih
          exact ih
        · rw [p2 y] at ih
          exact ih
      refine q_L_law_937 _ _ _ _ _ _ _ _ _ _ _ _ _ _ _ _ _ _ _ _ _ _ hL ⟨fun z => absurd ((nI_leI (by omega) (by omega)).mp z) (by omega), fun _ => AI.of (h.c3 (by decide)) (ix_w q a c) (by omega) (by decide) ?_⟩
      rw [hE.2.2 q hq a c hac hct, bs_has1 m (by omega) a (by omega), bs_has1 m (by omega) c (by omega)]
      refine ⟨fun z => skip fun w => z w.2.1, fun z1 => ⟨fun z => skip fun w => z w.2.2.1, fun z2 => ?_⟩⟩
      have yes : (a = c ↔ s = 0) → ∀ t : Int32, J_L_law_1010 g b L xs kM nM σ r0 (nI (zo S)) (nI (zq S)) (Q 1) (Q 3) x12 x13 x14 x15 x16 (Q 4) (nI m) x19 x20 (nI q) (nI (bNo S q m (prc (zo S) s a c))) (nI (bC S q m (prc (zo S) s a c))) (nI s) (nI a) (nI c) (nI (cW S q a c)) t t := fun y t => by
        refine q_L_law_1010 _ _ _ _ _ _ _ _ _ _ _ _ _ _ _ _ _ _ _ _ _ _ _ _ _ hL ⟨fun z => absurd rfl z, fun _ => ⟨fun z => ?_, fun z => ?_⟩⟩
        · have z := (nI_leI (by omega) (by omega)).mp z
          exact skip fun w => by have := w.2.2.2; omega
        · have z : ¬ bC S q m (prc (zo S) s a c) ≤ cW S q a c := fun w => z (nI_le w (by omega))
          obtain ⟨y1, y2⟩ := p1 y
          rw [y1] at z
          obtain ⟨d1, d2⟩ := b1 ⟨z1, z2, by omega⟩
          rw [y2, d1, d2] at ih
          unfold nW at ih
          rw [nI_1 c]
          refine ⟨fun w => ?_, fun w => ?_⟩
          · have w : ¬ a = c := fun v => w (by rw [v])
            rw [if_neg w] at ih
            rw [show (100 + 10 * nI a + nI c : Int32) = nI (100 + 10 * a + c) from by rw [show (10 : Int32) * nI a = nI (10 * a) from pk_mul 10 a, show (100 : Int32) + nI (10 * a) = nI (100 + 10 * a) from nI_add 100 _, nI_add]]
            exact ih
          · have w : a = c := (nI_eq (by omega) (by omega)).mp w
            rw [if_pos w] at ih
            rw [nI_1 a]
            exact ih
      have no : ¬ (a = c ↔ s = 0) → ∀ t u : Int32, ¬ u = t → J_L_law_1010 g b L xs kM nM σ r0 (nI (zo S)) (nI (zq S)) (Q 1) (Q 3) x12 x13 x14 x15 x16 (Q 4) (nI m) x19 x20 (nI q) (nI (bNo S q m (prc (zo S) s a c))) (nI (bC S q m (prc (zo S) s a c))) (nI s) (nI a) (nI c) (nI (cW S q a c)) t u := fun y t u htu =>
        q_L_law_1010 _ _ _ _ _ _ _ _ _ _ _ _ _ _ _ _ _ _ _ _ _ _ _ _ _ hL ⟨fun _ => skip fun w => y w.1, fun z => absurd z htu⟩
      have es : nI s = 0 ↔ s = 0 := nI_eq (b := 0) (by omega) (by decide)
      refine ⟨fun z => ⟨fun w => yes ?_ 0, fun w => no ?_ 1 0 (by decide)⟩, fun z => ⟨fun w => no ?_ 0 1 (by decide), fun w => yes ?_ 1⟩⟩
      · have z : ¬ a = c := fun v => z (by rw [v])
        have w : ¬ s = 0 := fun v => w (es.mpr v)
        exact ⟨fun v => absurd v z, fun v => absurd v w⟩
      · have z : ¬ a = c := fun v => z (by rw [v])
        have w := es.mp w
        exact fun v => z (v.mpr w)
      · have z : a = c := (nI_eq (by omega) (by omega)).mp z
        have w : ¬ s = 0 := fun v => w (es.mpr v)
        exact fun v => w (v.mp z)
      · have z : a = c := (nI_eq (by omega) (by omega)).mp z
        exact ⟨fun _ => es.mp w, fun _ => z⟩
  have rows : ∀ (s : Nat), s < 2 → J_L_law_917 g b L xs kM nM σ r0 (nI (zo S)) (nI (zq S)) (Q 1) (Q 3) x12 x13 x14 x15 x16 (Q 4) (nI m) x19 x20 (nI q) (nI (bNo S q m (prc (zo S) s (zo S) (zo S)))) (nI (bC S q m (prc (zo S) s (zo S) (zo S)))) (nI (s + 1)) → ∀ (e a : Nat), a + e = zo S → J_L_law_926 g b L xs kM nM σ r0 (nI (zo S)) (nI (zq S)) (Q 1) (Q 3) x12 x13 x14 x15 x16 (Q 4) (nI m) x19 x20 (nI q) (nI (bNo S q m (prc (zo S) s a a))) (nI (bC S q m (prc (zo S) s a a))) (nI s) (nI a) := by
    intro s hs K2 e
    induction e with
    | zero =>
      intro a ha
      have ha : a = zo S := ha
      subst ha
      refine q_L_law_926 _ _ _ _ _ _ _ _ _ _ _ _ _ _ _ _ _ _ _ _ _ hL ⟨fun _ => ?_, fun z => absurd (nI_le (Nat.le_refl _) (by omega)) z⟩
      rw [nI_1]
      exact K2
    | succ e ih =>
      intro a ha
      exact q_L_law_926 _ _ _ _ _ _ _ _ _ _ _ _ _ _ _ _ _ _ _ _ _ hL ⟨fun z => absurd ((nI_leI (by omega) (by omega)).mp z) (by omega), fun _ => row s a hs (by omega) (ih (a + 1) (by omega)) (zo S - a) a (by omega) (Nat.le_refl _)⟩
  obtain ⟨q1, q2, q3⟩ := prc_s (t := zo S) h3
  obtain ⟨f1, f2⟩ := best_1 (q := q) hK (m := m)
  rw [← q3] at K
  have s1 := rows 1 (by decide) K (zo S) 0 (by omega)
  have s0 := rows 0 (by decide) (by
    rw [q2]
    exact q_L_law_917 _ _ _ _ _ _ _ _ _ _ _ _ _ _ _ _ _ _ _ _ hL ⟨fun z => absurd z (by decide), fun _ => s1⟩) (zo S) 0 (by omega)
  rw [q1, f1, f2] at s0
  exact q_L_law_917 _ _ _ _ _ _ _ _ _ _ _ _ _ _ _ _ _ _ _ _ hL ⟨fun z => absurd z (by decide), fun _ => s0⟩
end LSE
