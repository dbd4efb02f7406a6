/-! All ways of a question, by up to three orders. -/
def Kp (S : SS) : Prop := zo S ≤ 3 ∧ ∀ o, o < zo S → (zB S o).2.2 = false
theorem Kp.kept {S : SS} (h : Kp S) (o : Nat) : keptB (zo S) (zB S) o = decide (o < zo S) := by
  unfold keptB
  by_cases c : o < zo S
  · rw [h.2 o c, decide_eq_true c]; rfl
  · rw [decide_eq_false c]; rfl
section WAYS
variable {S : SS} {q : Nat}
theorem looks_is (hq : q < zq S) (h8 : zo S ≤ 8) (hq8 : zq S ≤ 8) {way V : Nat} (hV : wayC S (zQ S q) way V) : v_looks S (nI q) (nI way) = nI V := by
  have h : wayPl (s_W S q) (nI way) < (s_W S q).length ∧ ((s_W S q).getD (wayPl (s_W S q) (nI way)) (0, 0, 0)).2.2 = V := by
    rcases hV with ⟨rfl, rfl⟩ | ⟨o, ho, hd, rfl, rfl⟩ | ⟨o, o2, hlt, ho2, hd, hd2, rfl, rfl⟩
    · refine lk_some ⟨_, (W_in S q _).mpr (Or.inl (Or.inl rfl)), rfl⟩ fun x hx e => ?_
      rcases (W_in S q x).mp hx with (rfl | ⟨j, hj, hk, rfl⟩) | ⟨j, p, hjp, hp, hk, hk2, rfl⟩
      · rfl
      · have e := (nI_eq (a := 1 + j) (by omega) (by omega)).mp e; omega
      · have e := (nI_eq (a := 100 + 10 * j + p) (by omega) (by omega)).mp e; omega
    · have hk0 : keptB (zo S) (zB S) o = true := by unfold keptB; rw [hd, decide_eq_true ho]; rfl
      refine lk_some ⟨_, (W_in S q _).mpr (Or.inl (Or.inr ⟨o, by omega, hk0, rfl⟩)), by rw [Nat.add_comm]⟩ fun x hx e => ?_
      rcases (W_in S q x).mp hx with (rfl | ⟨j, hj, hk, rfl⟩) | ⟨j, p, hjp, hp, hk, hk2, rfl⟩
      · have e := (nI_eq (a := 0) (by omega) (by omega)).mp e; omega
      · have e := (nI_eq (a := 1 + j) (by omega) (by omega)).mp e
        rw [show j = o by omega]
      · have e := (nI_eq (a := 100 + 10 * j + p) (by omega) (by omega)).mp e; omega
    · have ho : o < zo S := by omega
      have hk0 : keptB (zo S) (zB S) o = true := by unfold keptB; rw [hd, decide_eq_true ho]; rfl
      have hk1 : keptB (zo S) (zB S) o2 = true := by unfold keptB; rw [hd2, decide_eq_true ho2]; rfl
      refine lk_some ⟨_, (W_in S q _).mpr (Or.inr ⟨o, o2, hlt, by omega, hk0, hk1, rfl⟩), rfl⟩ fun x hx e => ?_
      rcases (W_in S q x).mp hx with (rfl | ⟨j, hj, hk, rfl⟩) | ⟨j, p, hjp, hp, hk, hk2, rfl⟩
      · have e := (nI_eq (a := 0) (by omega) (by omega)).mp e; omega
      · have e := (nI_eq (a := 1 + j) (by omega) (by omega)).mp e; omega
      · have e := (nI_eq (a := 100 + 10 * j + p) (by omega) (by omega)).mp e
        rw [show j = o by omega, show p = o2 by omega]
  unfold v_looks
  rw [if_t (inR_y hq (by omega)), nn_i (by omega), if_pos h.1]
  unfold s_cost
  rw [h.2]
theorem looks_none (hK : Kp S) (hq : 0 < zq S) : v_looks S 0 (nI (zo S + 1)) = -101 := by
  have h3 := hK.1
  have h : ¬ wayPl (s_W S 0) (nI (zo S + 1)) < (s_W S 0).length := lk_none fun x hx e => by
    rcases (W_in S 0 x).mp hx with (rfl | ⟨j, hj, hk, rfl⟩) | ⟨j, p, hjp, hp, hk, hk2, rfl⟩
    · have e := (nI_eq (a := 0) (by omega) (by omega)).mp e; omega
    · have e := (nI_eq (a := 1 + j) (by omega) (by omega)).mp e
      rw [hK.kept] at hk
      have := of_decide_eq_true hk
      omega
    · have e := (nI_eq (a := 100 + 10 * j + p) (by omega) (by omega)).mp e; omega
  unfold v_looks
  rw [show (0 : Int32) = nI 0 from rfl, if_t (inR_n (k := 0) (by decide) ▸ decide_eq_true hq), nn_i (by decide), if_neg h]
theorem looks_out {y : Int32} (h : zq S < 2 ^ 31) : v_looks S (nI (zq S)) y = -101 := by
  unfold v_looks
  rw [if_f (by rw [inR_n h]; exact decide_eq_false (Nat.lt_irrefl _))]
/-! the ways in their order -/
def e0W (S : SS) (q : Nat) : Nat × Nat × Nat := (0, 0, tabL (zf S) (zt S) (zw S) (zQ S q))
def sW (S : SS) (q o : Nat) : Nat × Nat × Nat := (1 + o, 2 ^ o, oneO (zf S) (zt S) (zw S) (zQ S q) (zB S o))
def pW (S : SS) (q o p : Nat) : Nat × Nat × Nat := (100 + 10 * o + p, 2 ^ o ||| 2 ^ p, twoO (zf S) (zt S) (zw S) (zQ S q) (zB S o) (zB S p))
def Wx (S : SS) (q : Nat) : WL := if zo S = 0 then [e0W S q] else if zo S = 1 then [e0W S q, sW S q 0] else if zo S = 2 then [e0W S q, sW S q 0, sW S q 1, pW S q 0 1] else [e0W S q, sW S q 0, sW S q 1, sW S q 2, pW S q 0 1, pW S q 0 2, pW S q 1 2]
theorem singW_s (f : Nat → Int32) (tk : Nat → Bool) (wd told : Nat) (B : Nat → OD) (d : QD) (o : Nat) : singW f tk wd told B d (o + 1) = if keptB told B o then singW f tk wd told B d o ++ [(1 + o, 2 ^ o, oneO f tk wd d (B o))] else singW f tk wd told B d o := rfl
theorem pairW_s (f : Nat → Int32) (tk : Nat → Bool) (wd told : Nat) (B : Nat → OD) (d : QD) (o : Nat) (W : WL) (k : Nat) : pairW f tk wd told B d o W (k + 1) = if keptB told B o && keptB told B (o + 1 + k) then pairW f tk wd told B d o W k ++ [(100 + 10 * o + (o + 1 + k), 2 ^ o ||| 2 ^ (o + 1 + k), twoO f tk wd d (B o) (B (o + 1 + k)))] else pairW f tk wd told B d o W k := rfl
theorem pairW_no (f : Nat → Int32) (tk : Nat → Bool) (wd told : Nat) (B : Nat → OD) (d : QD) (o : Nat) (W : WL) (h : keptB told B o = false) : ∀ k, pairW f tk wd told B d o W k = W
  | 0 => rfl
  | k + 1 => by rw [pairW_s, h, Bool.false_and, if_f rfl]; exact pairW_no f tk wd told B d o W h k
theorem pairW_ge (f : Nat → Int32) (tk : Nat → Bool) (wd told : Nat) (B : Nat → OD) (d : QD) (o : Nat) (W : WL) (n : Nat) (h : ∀ k, n ≤ k → keptB told B (o + 1 + k) = false) : ∀ j, pairW f tk wd told B d o W (n + j) = pairW f tk wd told B d o W n
  | 0 => rfl
  | j + 1 => by
    have ih := pairW_ge f tk wd told B d o W n h j
    show pairW f tk wd told B d o W (n + j + 1) = _
    rw [pairW_s, h (n + j) (by omega), Bool.and_false, if_f rfl, ih]
theorem singW_ge (f : Nat → Int32) (tk : Nat → Bool) (wd told : Nat) (B : Nat → OD) (d : QD) (n : Nat) (h : ∀ k, n ≤ k → keptB told B k = false) : ∀ j, singW f tk wd told B d (n + j) = singW f tk wd told B d n
  | 0 => rfl
  | j + 1 => by
    have ih := singW_ge f tk wd told B d n h j
    show singW f tk wd told B d (n + j + 1) = _
    rw [singW_s, h (n + j) (by omega), if_f rfl, ih]
theorem allW_s (f : Nat → Int32) (tk : Nat → Bool) (wd told : Nat) (B : Nat → OD) (d : QD) (o : Nat) : allW f tk wd told B d (o + 1) = pairW f tk wd told B d o (allW f tk wd told B d o) (7 - o) := rfl
theorem allW_ge (f : Nat → Int32) (tk : Nat → Bool) (wd told : Nat) (B : Nat → OD) (d : QD) (n : Nat) (h : ∀ k, n ≤ k → keptB told B k = false) : ∀ j, allW f tk wd told B d (n + j) = allW f tk wd told B d n
  | 0 => rfl
  | j + 1 => by
    have ih := allW_ge f tk wd told B d n h j
    show allW f tk wd told B d (n + j + 1) = _
    rw [allW_s, pairW_no _ _ _ _ _ _ _ _ (h (n + j) (by omega)), ih]
theorem s_W_is (hK : Kp S) : s_W S q = Wx S q := by
  have h3 := hK.1
  have hk := hK.kept
  have no : ∀ k, zo S ≤ k → keptB (zo S) (zB S) k = false := fun k h => by rw [hk, decide_eq_false (by omega)]
  have yes : ∀ k, k < zo S → keptB (zo S) (zB S) k = true := fun k h => by rw [hk, decide_eq_true h]
  show allW (zf S) (zt S) (zw S) (zo S) (zB S) (zQ S q) 8 = Wx S q
  unfold Wx
  have s0 : ∀ n, n ≤ 8 → (∀ k, n ≤ k → keptB (zo S) (zB S) k = false) → singW (zf S) (zt S) (zw S) (zo S) (zB S) (zQ S q) 8 = singW (zf S) (zt S) (zw S) (zo S) (zB S) (zQ S q) n := fun n hn h => by
    have := singW_ge (zf S) (zt S) (zw S) (zo S) (zB S) (zQ S q) n h (8 - n)
    rw [show n + (8 - n) = 8 by omega] at this
    exact this
  have a0 : ∀ n, n ≤ 8 → (∀ k, n ≤ k → keptB (zo S) (zB S) k = false) → allW (zf S) (zt S) (zw S) (zo S) (zB S) (zQ S q) 8 = allW (zf S) (zt S) (zw S) (zo S) (zB S) (zQ S q) n := fun n hn h => by
    have := allW_ge (zf S) (zt S) (zw S) (zo S) (zB S) (zQ S q) n h (8 - n)
    rw [show n + (8 - n) = 8 by omega] at this
    exact this
  have p0 : ∀ (o n : Nat) (W : WL), n ≤ 7 - o → (∀ k, n ≤ k → keptB (zo S) (zB S) (o + 1 + k) = false) → pairW (zf S) (zt S) (zw S) (zo S) (zB S) (zQ S q) o W (7 - o) = pairW (zf S) (zt S) (zw S) (zo S) (zB S) (zQ S q) o W n := fun o n W hn h => by
    have := pairW_ge (zf S) (zt S) (zw S) (zo S) (zB S) (zQ S q) o W n h (7 - o - n)
    rw [show n + (7 - o - n) = 7 - o by omega] at this
    exact this
  have e : allW (zf S) (zt S) (zw S) (zo S) (zB S) (zQ S q) 0 = singW (zf S) (zt S) (zw S) (zo S) (zB S) (zQ S q) 8 := rfl
  rcases (show zo S = 0 ∨ zo S = 1 ∨ zo S = 2 ∨ zo S = 3 by omega) with z | z | z | z
  · rw [if_pos z, a0 0 (by omega) (fun k h => no k (by omega)), e, s0 0 (by omega) (fun k h => no k (by omega))]
    rfl
  · rw [if_neg (by omega), if_pos z, a0 1 (by omega) (fun k h => no k (by omega)), allW_s, p0 0 0 _ (by omega) (fun k h => no _ (by omega)), e, s0 1 (by omega) (fun k h => no k (by omega)), singW_s, if_t (yes 0 (by omega))]
    rfl
  · rw [if_neg (by omega), if_neg (by omega), if_pos z, a0 2 (by omega) (fun k h => no k (by omega)), allW_s, p0 1 0 _ (by omega) (fun k h => no _ (by omega)), allW_s, p0 0 1 _ (by omega) (fun k h => no _ (by omega)), pairW_s, yes 0 (by omega), yes (0 + 1 + 0) (by omega), if_t (show (true && true) = true from rfl), e, s0 2 (by omega) (fun k h => no k (by omega)), singW_s, if_t (yes 1 (by omega)), singW_s, if_t (yes 0 (by omega))]
    rfl
  · rw [if_neg (by omega), if_neg (by omega), if_neg (by omega), a0 3 (by omega) (fun k h => no k (by omega)), allW_s, p0 2 0 _ (by omega) (fun k h => no _ (by omega)), allW_s, p0 1 1 _ (by omega) (fun k h => no _ (by omega)), pairW_s, yes 1 (by omega), yes (1 + 1 + 0) (by omega), if_t (show (true && true) = true from rfl), allW_s, p0 0 2 _ (by omega) (fun k h => no _ (by omega)), pairW_s, yes 0 (by omega), yes (0 + 1 + 1) (by omega), if_t (show (true && true) = true from rfl), pairW_s, yes 0 (by omega), yes (0 + 1 + 0) (by omega), if_t (show (true && true) = true from rfl), e, s0 3 (by omega) (fun k h => no k (by omega)), singW_s, if_t (yes 2 (by omega)), singW_s, if_t (yes 1 (by omega)), singW_s, if_t (yes 0 (by omega))]
    rfl
end WAYS
section BST
variable {S : SS} {q : Nat}
def ixW (t a b : Nat) : Nat := if a = b then 1 + a else 1 + t + (a + b - 1)
def xW (S : SS) (q a b : Nat) : Nat × Nat × Nat := if a = b then sW S q a else pW S q a b
def lnW (t : Nat) : Nat := if t = 3 then 7 else if t = 2 then 4 else 1 + t
theorem W_len (hK : Kp S) : (s_W S q).length = lnW (zo S) := by
  have h3 := hK.1
  rw [s_W_is hK]
  unfold Wx lnW
  rcases (show zo S = 0 ∨ zo S = 1 ∨ zo S = 2 ∨ zo S = 3 by omega) with z | z | z | z <;> rw [z] <;> rfl
theorem W_at (hK : Kp S) {a b : Nat} (hab : a ≤ b) (hb : b < zo S) : (s_W S q).getD (ixW (zo S) a b) (0, 0, 0) = xW S q a b ∧ ixW (zo S) a b < lnW (zo S) := by
  have h3 := hK.1
  rw [s_W_is hK]
  unfold Wx lnW ixW xW
  rcases (show zo S = 0 ∨ zo S = 1 ∨ zo S = 2 ∨ zo S = 3 by omega) with z | z | z | z
  · omega
  · rw [z] at hb ⊢
    rcases (show a = 0 ∧ b = 0 by omega) with ⟨rfl, rfl⟩
    exact ⟨rfl, by decide⟩
  · rw [z] at hb ⊢
    rcases (show (a = 0 ∧ b = 0) ∨ (a = 0 ∧ b = 1) ∨ (a = 1 ∧ b = 1) by omega) with ⟨rfl, rfl⟩ | ⟨rfl, rfl⟩ | ⟨rfl, rfl⟩
    · exact ⟨rfl, by decide⟩
    · exact ⟨rfl, by decide⟩
    · exact ⟨rfl, by decide⟩
  · rw [z] at hb ⊢
    rcases (show (a = 0 ∧ b = 0) ∨ (a = 0 ∧ b = 1) ∨ (a = 0 ∧ b = 2) ∨ (a = 1 ∧ b = 1) ∨ (a = 1 ∧ b = 2) ∨ (a = 2 ∧ b = 2) by omega) with ⟨rfl, rfl⟩ | ⟨rfl, rfl⟩ | ⟨rfl, rfl⟩ | ⟨rfl, rfl⟩ | ⟨rfl, rfl⟩ | ⟨rfl, rfl⟩
    · exact ⟨rfl, by decide⟩
    · exact ⟨rfl, by decide⟩
    · exact ⟨rfl, by decide⟩
    · exact ⟨rfl, by decide⟩
    · exact ⟨rfl, by decide⟩
    · exact ⟨rfl, by decide⟩
theorem W_0 (hK : Kp S) : (s_W S q).getD 0 (0, 0, 0) = e0W S q := by
  have h3 := hK.1
  rw [s_W_is hK]
  unfold Wx
  rcases (show zo S = 0 ∨ zo S = 1 ∨ zo S = 2 ∨ zo S = 3 by omega) with z | z | z | z <;> rw [z] <;> rfl
/-- cost and number of the way of a and b -/
def cW (S : SS) (q a b : Nat) : Nat := (xW S q a b).2.2
def nW (a b : Nat) : Nat := if a = b then a + 1 else 100 + 10 * a + b
theorem xW_n (a b : Nat) : (xW S q a b).1 = nW a b := by
  unfold xW nW
  by_cases c : a = b
  · rw [if_pos c, if_pos c]
    show 1 + a = a + 1
    omega
  · rw [if_neg c, if_neg c]; rfl
theorem xW_s {m a b : Nat} (ha : a < 4) (hb : b < 4) : ((xW S q a b).2.1 &&& m = (xW S q a b).2.1 ↔ m.testBit a = true ∧ m.testBit b = true) := by
  have two : ∀ c i : Nat, (2 ^ c).testBit i = true ↔ c = i := fun c i => by rw [Nat.testBit_two_pow, decide_eq_true_eq]
  unfold xW
  by_cases c : a = b
  · subst c
    rw [if_pos rfl]
    show 2 ^ a &&& m = 2 ^ a ↔ _
    rw [and_eq_iff (Nat.lt_of_lt_of_le (Nat.pow_lt_pow_right (by decide) ha) (by decide))]
    constructor
    · intro h
      have := h a (by omega) ((two a a).mpr rfl)
      exact ⟨this, this⟩
    · rintro ⟨h, -⟩ i _ hi
      rw [← (two a i).mp hi]
      exact h
  · rw [if_neg c]
    show (2 ^ a ||| 2 ^ b) &&& m = 2 ^ a ||| 2 ^ b ↔ _
    rw [and_eq_iff (Nat.lt_of_lt_of_le (Nat.or_lt_two_pow (Nat.pow_lt_pow_right (by decide) ha) (Nat.pow_lt_pow_right (by decide) hb)) (by decide))]
    constructor
    · intro h
      refine ⟨h a (by omega) ?_, h b (by omega) ?_⟩
      · rw [Nat.testBit_or, (two a a).mpr rfl]; rfl
      · rw [Nat.testBit_or, (two b b).mpr rfl, Bool.or_true]
    · rintro ⟨h, h2⟩ i _ hi
      rw [Nat.testBit_or, Bool.or_eq_true] at hi
      rcases hi with hi | hi
      · rw [← (two a i).mp hi]; exact h
      · rw [← (two b i).mp hi]; exact h2
/-- number and cost of the best among the first k -/
def bNo (S : SS) (q m k : Nat) : Nat := ((s_W S q).getD (bstW (s_W S q) m k) (0, 0, 0)).1
def bC (S : SS) (q m k : Nat) : Nat := ((s_W S q).getD (bstW (s_W S q) m k) (0, 0, 0)).2.2
theorem best_step (hK : Kp S) {m a b : Nat} (hab : a ≤ b) (hb : b < zo S) : (m.testBit a = true ∧ m.testBit b = true ∧ cW S q a b < bC S q m (ixW (zo S) a b) → bNo S q m (ixW (zo S) a b + 1) = nW a b ∧ bC S q m (ixW (zo S) a b + 1) = cW S q a b) ∧ (¬ (m.testBit a = true ∧ m.testBit b = true ∧ cW S q a b < bC S q m (ixW (zo S) a b)) → bNo S q m (ixW (zo S) a b + 1) = bNo S q m (ixW (zo S) a b) ∧ bC S q m (ixW (zo S) a b + 1) = bC S q m (ixW (zo S) a b)) := by
  have h3 := hK.1
  obtain ⟨w1, w2⟩ := W_at (q := q) hK hab hb
  have hs := xW_s (S := S) (q := q) (m := m) (show a < 4 by omega) (show b < 4 by omega)
  have e : bstW (s_W S q) m (ixW (zo S) a b + 1) = if (xW S q a b).2.1 &&& m = (xW S q a b).2.1 ∧ (xW S q a b).2.2 < bC S q m (ixW (zo S) a b) then ixW (zo S) a b else bstW (s_W S q) m (ixW (zo S) a b) := by
    show (if ((s_W S q).getD (ixW (zo S) a b) (0, 0, 0)).2.1 &&& m = ((s_W S q).getD (ixW (zo S) a b) (0, 0, 0)).2.1 ∧ ((s_W S q).getD (ixW (zo S) a b) (0, 0, 0)).2.2 < _ then _ else _) = _
    rw [w1]
    rfl
  constructor
  · rintro ⟨h1, h2, h4⟩
    unfold bNo
    rw [show bC S q m (ixW (zo S) a b + 1) = ((s_W S q).getD (bstW (s_W S q) m (ixW (zo S) a b + 1)) (0, 0, 0)).2.2 from rfl, e, if_pos ⟨hs.mpr ⟨h1, h2⟩, h4⟩, w1]
    exact ⟨xW_n a b, rfl⟩
  · intro h
    unfold bNo
    rw [show bC S q m (ixW (zo S) a b + 1) = ((s_W S q).getD (bstW (s_W S q) m (ixW (zo S) a b + 1)) (0, 0, 0)).2.2 from rfl, e, if_neg fun z => h ⟨(hs.mp z.1).1, (hs.mp z.1).2, z.2⟩]
    exact ⟨rfl, rfl⟩
theorem best_1 (hK : Kp S) {m : Nat} : bNo S q m 1 = 0 ∧ bC S q m 1 = tabL (zf S) (zt S) (zw S) (zQ S q) := by
  have e : bstW (s_W S q) m 1 = 0 := by simp [bstW]
  unfold bNo bC
  rw [e, W_0 hK]
  exact ⟨rfl, rfl⟩
theorem best_end (hK : Kp S) (hq : q < zq S) (hq8 : zq S ≤ 8) {m : Nat} (hm : m < 256) : v_best S (nI q) (nI m) = nI (bNo S q m (lnW (zo S))) := by
  unfold v_best
  rw [if_t (inR_y hq (by omega)), if_t (inR_y hm (by decide)), nn_i (by omega), nn_i (by omega)]
  unfold s_num s_bpl bNo
  rw [W_len hK]
theorem mnQ_bC (hK : Kp S) {m : Nat} : mnQ (zf S) (zt S) (zw S) (zo S) (zB S) (zQ S q) m = bC S q m (lnW (zo S)) := by
  unfold mnQ
  rw [mnW_bst]
  show wC (s_W S q) (bstW (s_W S q) m (s_W S q).length) = _
  rw [W_len hK]
  rfl
/-- so many ways are behind, in the law's own going -/
def prc (t s a b : Nat) : Nat := if s = 0 then 1 + a + (if a < b then 1 else 0) else 1 + t + (a * t - a * (a + 1) / 2) + (b - a - 1)
theorem prc_0 {t a : Nat} : prc t 0 a a = 1 + a := by
  have e : prc t 0 a a = 1 + a + (if a < a then 1 else 0) := rfl
  rw [e, if_neg (Nat.lt_irrefl a)]
  exact Nat.add_zero _
theorem prc_at {t s a b : Nat} (ht : t ≤ 3) (hs : s < 2) (hab : a ≤ b) (hb : b < t) : ((a = b ↔ s = 0) → prc t s a b = ixW t a b ∧ prc t s a (b + 1) = ixW t a b + 1) ∧ (¬ (a = b ↔ s = 0) → prc t s a (b + 1) = prc t s a b) := by
  rcases (show s = 0 ∨ s = 1 by omega) with rfl | rfl <;> rcases (show (t = 1 ∧ a = 0 ∧ b = 0) ∨ (t = 2 ∧ a = 0 ∧ b = 0) ∨ (t = 2 ∧ a = 0 ∧ b = 1) ∨ (t = 2 ∧ a = 1 ∧ b = 1) ∨ (t = 3 ∧ a = 0 ∧ b = 0) ∨ (t = 3 ∧ a = 0 ∧ b = 1) ∨ (t = 3 ∧ a = 0 ∧ b = 2) ∨ (t = 3 ∧ a = 1 ∧ b = 1) ∨ (t = 3 ∧ a = 1 ∧ b = 2) ∨ (t = 3 ∧ a = 2 ∧ b = 2) by omega) with ⟨rfl, rfl, rfl⟩ | ⟨rfl, rfl, rfl⟩ | ⟨rfl, rfl, rfl⟩ | ⟨rfl, rfl, rfl⟩ | ⟨rfl, rfl, rfl⟩ | ⟨rfl, rfl, rfl⟩ | ⟨rfl, rfl, rfl⟩ | ⟨rfl, rfl, rfl⟩ | ⟨rfl, rfl, rfl⟩ | ⟨rfl, rfl, rfl⟩ <;> decide +kernel
theorem prc_row {t s a : Nat} (ht : t ≤ 3) (hs : s < 2) (ha : a < t) : prc t s a t = prc t s (a + 1) (a + 1) := by
  rcases (show s = 0 ∨ s = 1 by omega) with rfl | rfl <;> rcases (show (t = 1 ∧ a = 0) ∨ (t = 2 ∧ a = 0) ∨ (t = 2 ∧ a = 1) ∨ (t = 3 ∧ a = 0) ∨ (t = 3 ∧ a = 1) ∨ (t = 3 ∧ a = 2) by omega) with ⟨rfl, rfl⟩ | ⟨rfl, rfl⟩ | ⟨rfl, rfl⟩ | ⟨rfl, rfl⟩ | ⟨rfl, rfl⟩ | ⟨rfl, rfl⟩ <;> decide +kernel
theorem prc_s {t : Nat} (ht : t ≤ 3) : prc t 0 0 0 = 1 ∧ prc t 0 t t = prc t 1 0 0 ∧ prc t 1 t t = lnW t := by
  rcases (show t = 0 ∨ t = 1 ∨ t = 2 ∨ t = 3 by omega) with rfl | rfl | rfl | rfl <;> decide
end BST
