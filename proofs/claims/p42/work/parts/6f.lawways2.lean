/-! The law's body: looks of all ways. -/
theorem cel_n (L : Nat) (xs : Nat → Int32) (k : Int32) : ∃ X, X < 2 ^ 31 ∧ cel L xs k = nI X := pk_andE _ 31 (by decide)
/-- a, from one below 0 -/
def am (j : Nat) : Int32 := if j = 0 then -1 else nI (j - 1)
theorem am_1 (j : Nat) : am j + 1 = nI j := by
  unfold am
  by_cases c : j = 0
  · rw [if_pos c, c]; decide
  · rw [if_neg c, nI_1, Nat.sub_add_cancel (by omega)]
theorem am_s (j : Nat) : am j + 1 = am (j + 1) := by
  rw [am_1]
  unfold am
  rw [if_neg (by omega), Nat.add_sub_cancel]
theorem am_ge {t j : Nat} (ht : t ≤ 8) (hj : j ≤ 9) : nI t ≤ am j ↔ t + 1 ≤ j := by
  unfold am
  by_cases c : j = 0
  · rw [if_pos c, c]
    constructor
    · intro z
      have z := (n_le (n := t) (by omega)).mp z
      have : ((-1 : Int32)).toInt = -1 := by decide
      omega
    · omega
  · rw [if_neg c, nI_leI (by omega) (by omega)]
    omega
theorem am_eq {i j : Nat} (hi : i ≤ 9) (hj : j ≤ 9) : am i = am j ↔ i = j := by
  constructor
  · intro h
    have : am i + 1 = am j + 1 := by rw [h]
    rw [am_1, am_1] at this
    exact (nI_eq (by omega) (by omega)).mp this
  · intro h; rw [h]
theorem am_0 {j : Nat} (hj : j ≤ 9) : (0 : Int32) ≤ am j ↔ 1 ≤ j := am_ge (t := 0) (by decide) hj
theorem ix_v (q i j : Nat) : (((16 : Int32) * nI q + 4 * (am j + 1)) + am i) + 1 = nI (16 * q + 4 * j + i) := by
  rw [am_1, show (16 : Int32) * nI q = nI (16 * q) from pk_mul 16 q, show (4 : Int32) * nI j = nI (4 * j) from pk_mul 4 j, nI_add, Int32.add_assoc, am_1, nI_add]
def vW (S : SS) (q j i : Nat) : Nat := if j = 0 then tabL (zf S) (zt S) (zw S) (zQ S q) else cW S q (j - 1) (i - 1)
def wN (j i : Nat) : Nat := if j = i then j else 100 + 10 * (j - 1) + (i - 1)
/-- the places of ways below n are laid down -/
def WyI (S : SS) (E : AE) (n : Nat) : Prop := ∀ q j i, q < zq S → j ≤ i → i ≤ zo S → (j = 0 → i = 0) → 16 * q + 4 * j + i < n → E.2.2.2.1 (16 * q + 4 * j + i) = nI (vW S q j i)
def RQs (S : SS) (E : AE) : Prop := ∀ q, q < zq S → RQ E.1 q (zQ S q) ∧ E.2.1 q = nI (hf (zQ S q)) ∧ E.2.2.1 q = nI (fa_cnt (q_ans S q) 64)
section LWY
variable {g : GG} {b L : Nat} {xs : Nat → Int32} {r0 : Nat} {S : SS} {Q : Nat → Nat} {E : AE}
theorem LW.gr {σ σ' : Hs} {n : Nat} (h : LW g σ r0 S n Q E) (s : Gr gN σ σ') : LW g σ' r0 S n Q E := by
  obtain ⟨R, e, h1⟩ := h
  exact ⟨R, e, h1.gr s⟩
theorem LW.put3 {σ : Hs} {w : Nat → Int32} (h : LW g σ r0 S 4 Q E) : LW g (hup σ (Q 3) (aI g 64 w)) r0 S 4 Q (E.1, E.2.1, E.2.2.1, w, E.2.2.2.2) := by
  obtain ⟨R, e, h1⟩ := h
  refine ⟨R, e, ?_⟩
  have := h1.hup (j := 3) (E' := (E.1, E.2.1, E.2.2.1, w, E.2.2.2.2)) (by decide) fun k hk hk4 => by
    rcases (show k = 0 ∨ k = 1 ∨ k = 2 by omega) with rfl | rfl | rfl <;> rfl
  exact this
theorem vW_way (hK : Kp S) {q j i : Nat} (hji : j ≤ i) (hi : i ≤ zo S) (h0 : j = 0 → i = 0) : wayC S (zQ S q) (wN j i) (vW S q j i) := by
  unfold vW wN
  by_cases c : j = 0
  · have c2 := h0 c
    rw [if_pos c, if_pos (by omega)]
    exact Or.inl ⟨c, rfl⟩
  · rw [if_neg c]
    by_cases e : j = i
    · rw [if_pos e]
      refine Or.inr (Or.inl ⟨j - 1, by omega, hK.2 _ (by omega), by omega, ?_⟩)
      unfold cW xW
      rw [if_pos (by omega)]
      rfl
    · rw [if_neg e]
      refine Or.inr (Or.inr ⟨j - 1, i - 1, by omega, by omega, hK.2 _ (by omega), hK.2 _ (by omega), rfl, ?_⟩)
      unfold cW xW
      rw [if_neg (by omega)]
      rfl
theorem law_ways (hL : L ≤ 260) (iv : Inv S) (hK : Kp S) (hq : 1 ≤ zq S ∧ zq S ≤ 3) (hu : zu S = 0) (hz0 : zc S = 0 ∧ zs S = 0) : ∀ (e q kM nM : Nat) (σ : Hs) (E : AE), q + e = zq S → LW g σ r0 S 4 Q E → RQs S E → WyI S E (16 * q) → kM ≤ 1000 + 48 * q → nM ≤ 10000 + 3072 * q → J_L_law_608 g b L xs kM nM σ r0 (nI (zw S)) (nI (zo S)) (nI (zq S)) (Q 0) (Q 1) (Q 2) (Q 3) (nI q) := by
  have h3 := hK.1
  intro e
  induction e with
  | zero =>
    intro q kM nM σ E hqe h hR hW hk1 hk2
    have hqe : q = zq S := hqe
    subst hqe
    obtain ⟨X, hX, eX⟩ := cel_n L xs 28
    obtain ⟨Y, hY, eY⟩ := cel_n L xs 29
    have ex : nI X - nI X / 20 * 20 = nI (X % 20) := pk_rem hX (by decide) (by decide)
    have ey : nI Y - nI Y / 40 * 40 = nI (Y % 40) := pk_rem hY (by decide) (by decide)
    have hu1 : X % 20 < 20 := Nat.mod_lt _ (by decide)
    have hs1 : Y % 40 < 40 := Nat.mod_lt _ (by decide)
    have eu : s_upkeep S (nI (X % 20)) = (nI (zu S), zQs S (zq S) (zQ S) (X % 20)) := by
      unfold s_upkeep
      rw [if_t (inR_y (by omega) (by decide)), nn_i (by omega)]
    have iv2 := iv.upkeep (nI (X % 20))
    rw [eu] at iv2
    refine q_L_law_608 _ _ _ _ _ _ _ _ _ _ _ hL ⟨fun _ => ⟨⟨by omega, by omega⟩, ⟨by omega, by omega⟩, ⟨by omega, by omega⟩, h.rc, ?_⟩, fun z => absurd (nI_le (Nat.le_refl _) (by omega)) z⟩
    rw [eX, ex, eY, ey]
    refine h.use (fun R k => do_upkeep k (nI (X % 20))) ?_
    rw [eu, hu]
    refine fun σ1 h1 => ⟨fun _ => ⟨⟨by omega, by omega⟩, NA.of (n := 8) (by decide) rfl fun w hw => ?_⟩, fun z => absurd rfl z⟩
    obtain ⟨R1, e1, l1⟩ := h1
    have l2 := l1.psh (q := w) (E' := (E.1, E.2.1, E.2.2.1, E.2.2.2.1, fun _ => 0)) hw fun k hk => by
      rcases (show k = 0 ∨ k = 1 ∨ k = 2 ∨ k = 3 by omega) with rfl | rfl | rfl | rfl <;> rfl
    have fin := law_sets (b := b) (xs := xs) (r0 := r0) (kM := kM + 1) (nM := nM + 8) (S := zQs S (zq S) (zQ S) (X % 20)) (sp := Y % 40) (Q := fun k => if k = 4 then w else Q k) hL iv2 hK hq hs1 hz0 (by omega) (by omega) (2 ^ zo S) 0 _ (E.1, E.2.1, E.2.2.1, E.2.2.2.1, fun _ => 0) (by show 0 + 2 ^ zo S = 2 ^ zo S; omega) ⟨R1, e1, l2⟩ ⟨fun q hqq => (hR q hqq).2.1, fun q hqq => ?_, fun q hqq a c hac hc => ?_⟩ fun m hm => absurd hm (Nat.not_lt_zero _)
    · rw [show bK (zQs S (zq S) (zQ S) (X % 20)) (Y % 40) 0 = 0 from rfl, szs_0] at fin
      exact fin
    · have := hW q 0 0 hqq (Nat.le_refl _) (Nat.zero_le _) (fun _ => rfl) (by have : q < zq S := hqq; omega)
      exact this
    · have hqq : q < zq S := hqq
      have hc : c < zo S := hc
      have := hW q (a + 1) (c + 1) hqq (by omega) (by omega) (by omega) (by omega)
      exact this
  | succ e ih =>
    intro q kM nM σ E hqe h hR hW hk1 hk2
    have hqq : q < zq S := by omega
    -- b
    have bs : ∀ (e2 i j kM nM : Nat) (σ : Hs) (E : AE), i + e2 = zo S + 1 → j ≤ i → j ≤ zo S → LW g σ r0 S 4 Q E → RQs S E → WyI S E (16 * q + 4 * j + i) → kM ≤ 1000 + 3 * (16 * q + 4 * j + i) → nM ≤ 10000 + 192 * (16 * q + 4 * j + i) → (∀ (kM nM : Nat) (σ : Hs) (E : AE), LW g σ r0 S 4 Q E → RQs S E → WyI S E (16 * q + 4 * (j + 1)) → kM ≤ 1000 + 3 * (16 * q + 4 * (j + 1)) → nM ≤ 10000 + 192 * (16 * q + 4 * (j + 1)) → J_L_law_618 g b L xs kM nM σ r0 (nI (zw S)) (nI (zo S)) (nI (zq S)) (Q 0) (Q 1) (Q 2) (Q 3) (nI q) (am (j + 1))) → J_L_law_629 g b L xs kM nM σ r0 (nI (zw S)) (nI (zo S)) (nI (zq S)) (Q 0) (Q 1) (Q 2) (Q 3) (nI q) (am j) (am i) := by
      intro e2
      induction e2 with
      | zero =>
        intro i j kM nM σ E hi hji hj h hR hW hk1 hk2 K
        have hi : i = zo S + 1 := hi
        refine q_L_law_629 _ _ _ _ _ _ _ _ _ _ _ _ _ hL ⟨fun _ => ?_, fun z => absurd ((am_ge (by omega) (by omega)).mpr (by omega)) z⟩
        rw [am_s]
        refine K kM nM σ E h hR (fun q' j' i' a1 a2 a3 a4 a5 => hW q' j' i' a1 a2 a3 a4 ?_) (by omega) (by omega)
        omega
      | succ e2 ih2 =>
        intro i j kM nM σ E hi hji hj h hR hW hk1 hk2 K
        have hit : i ≤ zo S := by omega
        have nxt := fun kM nM σ E h1 h2 h3 h4 h5 => ih2 (i + 1) j kM nM σ E (by omega) (by omega) hj h1 h2 h3 h4 h5 K
        have way : (j = 0 → i = 0) → J_L_law_670 g b L xs kM nM σ r0 (nI (zw S)) (nI (zo S)) (nI (zq S)) (Q 0) (Q 1) (Q 2) (Q 3) (nI q) (am j) (am i) (nI (wN j i)) := fun h0 => by
          obtain ⟨r1, r2, r3⟩ := hR q hqq
          have hV := vW_way (q := q) hK hji hit h0
          have hwn : wN j i < 200 := by unfold wN; split <;> omega
          refine q_L_law_670 _ _ _ _ _ _ _ _ _ _ _ _ _ _ hL ⟨fun z => absurd z (nI_pos (by omega)), fun _ => AI.of (h.c2 (by decide)) rfl (by omega) (by decide) ⟨3, 192, by omega, ?_⟩⟩
          rw [r3]
          obtain ⟨R0, e0, l0⟩ := id h
          subst e0
          refine DoI.use (wr_llooks l0.1 iv (l0.c0 (by decide)) r1 (by omega) hV) ?_
          rintro x σ1 ⟨rfl, g1⟩
          have h1 := h.gr g1
          refine SI.of (h1.c3 (by decide)) (ix_v q i j) (by omega) (by decide) ⟨by omega, (h1.put3 (w := upd E.2.2.2.1 (16 * q + 4 * j + i) (nI (vW S q j i)))).rc, (h1.put3 (w := upd E.2.2.2.1 (16 * q + 4 * j + i) (nI (vW S q j i)))).use (fun R k => do_looks k (nI q) (nI (wN j i))) ?_⟩
          rw [looks_is hqq (by omega) (by omega) hV]
          refine fun σ2 h2 => ⟨fun _ => ?_, fun z => absurd rfl z⟩
          rw [am_s]
          refine nxt _ _ σ2 _ h2 hR (fun q' j' i' a1 a2 a3 a4 a5 => ?_) (by omega) (by omega)
          show upd E.2.2.2.1 (16 * q + 4 * j + i) (nI (vW S q j i)) (16 * q' + 4 * j' + i') = nI (vW S q' j' i')
          by_cases c : 16 * q' + 4 * j' + i' = 16 * q + 4 * j + i
          · obtain ⟨rfl, rfl, rfl⟩ : q' = q ∧ j' = j ∧ i' = i := by omega
            rw [pk_us]
          · rw [pk_un c]
            exact hW q' j' i' a1 a2 a3 a4 (by omega)
        refine q_L_law_629 _ _ _ _ _ _ _ _ _ _ _ _ _ hL ⟨fun z => absurd ((am_ge (by omega) (by omega)).mp z) (by omega), fun _ => ⟨fun z => ⟨fun z2 => ?_, fun z2 => ?_⟩, fun z => ?_⟩⟩
        · have z : j ≠ i := fun y => z (by rw [y])
          have z2 := (am_0 (by omega)).mp z2
          have w := way (by omega)
          unfold wN at w
          rw [if_neg z] at w
          rw [show (100 + 10 * am j + am i : Int32) = nI (100 + 10 * (j - 1) + (i - 1)) from by
            unfold am
            rw [if_neg (by omega), if_neg (by omega), show (10 : Int32) * nI (j - 1) = nI (10 * (j - 1)) from pk_mul 10 _, show (100 : Int32) + nI (10 * (j - 1)) = nI (100 + 10 * (j - 1)) from nI_add 100 _, nI_add]]
          exact w
        · have z : j ≠ i := fun y => z (by rw [y])
          have z2 : ¬ 1 ≤ j := fun y => z2 ((am_0 (by omega)).mpr y)
          refine q_L_law_670 _ _ _ _ _ _ _ _ _ _ _ _ _ _ hL ⟨fun _ => ?_, fun y => absurd (by decide) y⟩
          rw [am_s]
          refine nxt kM nM σ E h hR (fun q' j' i' a1 a2 a3 a4 a5 => ?_) (by omega) (by omega)
          by_cases c : 16 * q' + 4 * j' + i' = 16 * q + 4 * j + i
          · omega
          · exact hW q' j' i' a1 a2 a3 a4 (by omega)
        · have z : j = i := (am_eq (by omega) (by omega)).mp z
          have w := way (by omega)
          unfold wN at w
          rw [if_pos z] at w
          rw [am_1]
          exact w
    have as : ∀ (e2 j kM nM : Nat) (σ : Hs) (E : AE), j + e2 = zo S + 1 → LW g σ r0 S 4 Q E → RQs S E → WyI S E (16 * q + 4 * j) → kM ≤ 1000 + 3 * (16 * q + 4 * j) → nM ≤ 10000 + 192 * (16 * q + 4 * j) → J_L_law_618 g b L xs kM nM σ r0 (nI (zw S)) (nI (zo S)) (nI (zq S)) (Q 0) (Q 1) (Q 2) (Q 3) (nI q) (am j) := by
      intro e2
      induction e2 with
      | zero =>
        intro j kM nM σ E hj h hR hW hk1 hk2
        have hj : j = zo S + 1 := hj
        refine q_L_law_618 _ _ _ _ _ _ _ _ _ _ _ _ hL ⟨fun _ => ?_, fun z => absurd ((am_ge (by omega) (by omega)).mpr (by omega)) z⟩
        rw [nI_1]
        refine ih (q + 1) kM nM σ E (by omega) h hR (fun q' j' i' a1 a2 a3 a4 a5 => hW q' j' i' a1 a2 a3 a4 ?_) (by omega) (by omega)
        omega
      | succ e2 ih2 =>
        intro j kM nM σ E hj h hR hW hk1 hk2
        refine q_L_law_618 _ _ _ _ _ _ _ _ _ _ _ _ hL ⟨fun z => absurd ((am_ge (by omega) (by omega)).mp z) (by omega), fun _ => ?_⟩
        refine bs (zo S + 1 - j) j j kM nM σ E (by omega) (Nat.le_refl _) (by omega) h hR (fun q' j' i' a1 a2 a3 a4 a5 => hW q' j' i' a1 a2 a3 a4 ?_) (by omega) (by omega) fun kM nM σ E h1 h2 h3 h4 h5 => ih2 (j + 1) kM nM σ E (by omega) h1 h2 h3 h4 h5
        omega
    refine q_L_law_608 _ _ _ _ _ _ _ _ _ _ _ hL ⟨fun z => absurd ((nI_leI (by omega) (by omega)).mp z) (by omega), fun _ => ?_⟩
    exact as (zo S + 1) 0 kM nM σ E (by omega) h hR (by rw [Nat.mul_zero, Nat.add_zero]; exact hW) (by omega) (by omega)
end LWY
