/-! The law's going through all numbers and slots tells the answer in its order. -/
section ANS
variable {f : Nat → Int32} {d : QD} {P : Nat → Bool}
def kNs (f : Nat → Int32) (d : QD) (s : Nat) : Nat := (srtV f d s).toInt.toNat
def beh (f : Nat → Int32) (d : QD) (P : Nat → Bool) (v s t : Nat) : Bool := P t && (decide (kNs f d t < v) || (decide (kNs f d t = v) && decide (t < s)))
def anN (f : Nat → Int32) (d : QD) (P : Nat → Bool) (v s : Nat) : Nat := fa_cnt (beh f d P v s) 64
/-- sort numbers of rows of P lie in bounds -/
def kIn (f : Nat → Int32) (d : QD) (P : Nat → Bool) : Prop := ∀ s, s < 64 → P s = true → 0 ≤ (srtV f d s).toInt ∧ (srtV f d s).toInt ≤ 99
theorem kNs_lt (h : kIn f d P) {s t : Nat} (hs : s < 64) (ht : t < 64) (ps : P s = true) (pt : P t = true) : (srtV f d t < srtV f d s ↔ kNs f d t < kNs f d s) ∧ (srtV f d t = srtV f d s ↔ kNs f d t = kNs f d s) := by
  have h1 := h s hs ps
  have h2 := h t ht pt
  unfold kNs
  rw [I_lt, I_eq]
  omega
theorem anN_ahead (h : kIn f d P) {s : Nat} (hs : s < 64) (ps : P s = true) : anN f d P (kNs f d s) s = fa_cnt (aheadA f d P s) 64 := by
  refine fa_cnt_cong fun t ht => ?_
  unfold beh aheadA
  rcases Bool.eq_false_or_eq_true (P t) with y | y
  · obtain ⟨a1, a2⟩ := kNs_lt h hs ht ps y
    rw [decide_eq_decide.mpr a1, decide_eq_decide.mpr a2]
  · rw [y]; rfl
theorem fa_cnt_lt {p q : Nat → Bool} {x : Nat} : ∀ n, x < n → (∀ k, k < n → p k = true → q k = true) → p x = false → q x = true → fa_cnt p n < fa_cnt q n
  | 0, h, _, _, _ => absurd h (Nat.not_lt_zero _)
  | n + 1, h, hm, h1, h2 => by
    by_cases e : x = n
    · subst e
      rw [fa_cnt_no h1, fa_cnt_yes h2]
      have := fa_cnt_mono x fun k hk => hm k (by omega)
      omega
    · have ih := fa_cnt_lt n (by omega) (fun k hk => hm k (by omega)) h1 h2
      rcases Bool.eq_false_or_eq_true (p n) with z | z
      · rw [fa_cnt_yes z, fa_cnt_yes (hm n (by omega) z)]; omega
      · rw [fa_cnt_no z]
        rcases Bool.eq_false_or_eq_true (q n) with y | y
        · rw [fa_cnt_yes y]; omega
        · rw [fa_cnt_no y]; exact ih
/-- s comes ahead of t -/
def bef (f : Nat → Int32) (d : QD) (s t : Nat) : Prop := srtV f d s < srtV f d t ∨ (srtV f d s = srtV f d t ∧ s < t)
theorem bef_cnt {s t : Nat} (hs : s < 64) (ps : P s = true) (h : bef f d s t) : fa_cnt (aheadA f d P s) 64 < fa_cnt (aheadA f d P t) 64 := by
  refine fa_cnt_lt (x := s) 64 hs (fun k hk => ?_) ?_ ?_
  · unfold aheadA
    rw [Bool.and_eq_true, Bool.and_eq_true, Bool.or_eq_true, Bool.or_eq_true, Bool.and_eq_true, Bool.and_eq_true, decide_eq_true_eq, decide_eq_true_eq, decide_eq_true_eq, decide_eq_true_eq, decide_eq_true_eq, decide_eq_true_eq]
    rintro ⟨a, b⟩
    refine ⟨a, ?_⟩
    rcases h with h | ⟨h, h2⟩
    · rcases b with b | ⟨b, b2⟩
      · exact Or.inl (by rw [I_lt] at *; omega)
      · rw [b]; exact Or.inl h
    · rw [← h]
      rcases b with b | ⟨b, b2⟩
      · exact Or.inl b
      · exact Or.inr ⟨b, by omega⟩
  · unfold aheadA
    rw [decide_eq_false (p := srtV f d s < srtV f d s) (by rw [I_lt]; omega), decide_eq_false (p := s < s) (by omega), Bool.and_false, Bool.or_false, Bool.and_false]
  · unfold aheadA
    rw [ps, Bool.true_and, Bool.or_eq_true, Bool.and_eq_true, decide_eq_true_eq, decide_eq_true_eq, decide_eq_true_eq]
    exact h
theorem plcd_at {s : Nat} (hs : s < 64) (ps : P s = true) : plcd f d P (nI (fa_cnt (aheadA f d P s) 64)) = s := by
  have c64 := fun t => fa_cnt_le (aheadA f d P t) 64
  refine fa_first_s _ 64 s hs (fun j hj => ?_) ?_
  · show (P j && decide (nI (fa_cnt (aheadA f d P j) 64) = nI (fa_cnt (aheadA f d P s) 64))) = false
    rcases Bool.eq_false_or_eq_true (P j) with y | y
    · rw [y, Bool.true_and]
      refine decide_eq_false fun z => ?_
      have c1 := c64 j
      have c2 := c64 s
      have z := (nI_eq (by omega) (by omega)).mp z
      rcases fa_three (srtV f d j) (srtV f d s) with w | w | w
      · have := bef_cnt (P := P) (show j < 64 by omega) y (t := s) (Or.inl w); omega
      · have := bef_cnt (P := P) (show j < 64 by omega) y (t := s) (Or.inr ⟨w, hj⟩); omega
      · have := bef_cnt (P := P) hs ps (t := j) (Or.inl w); omega
    · rw [y]; rfl
  · show (P s && decide (nI (fa_cnt (aheadA f d P s) 64) = nI (fa_cnt (aheadA f d P s) 64))) = true
    rw [ps, decide_eq_true rfl]
    rfl
theorem plcd_end : plcd f d P (nI (fa_cnt P 64)) = 64 := by
  have hle := fa_first_le (fun s => P s && decide (nI (fa_cnt (aheadA f d P s) 64) = nI (fa_cnt P 64))) 64
  have c64 := fa_cnt_le P 64
  rcases Nat.lt_or_ge (plcd f d P (nI (fa_cnt P 64))) 64 with y | y
  · exfalso
    have h1 := fa_first_yes (fun s => P s && decide (nI (fa_cnt (aheadA f d P s) 64) = nI (fa_cnt P 64))) 64 y
    have h1 : (P (plcd f d P (nI (fa_cnt P 64))) && decide (nI (fa_cnt (aheadA f d P (plcd f d P (nI (fa_cnt P 64)))) 64) = nI (fa_cnt P 64))) = true := h1
    generalize plcd f d P (nI (fa_cnt P 64)) = s at h1 y
    rw [Bool.and_eq_true, decide_eq_true_eq] at h1
    have c2 := fa_cnt_le (aheadA f d P s) 64
    have z := (nI_eq (by omega) (by omega)).mp h1.2
    have : fa_cnt (aheadA f d P s) 64 < fa_cnt P 64 := fa_cnt_lt (x := s) 64 y (fun k _ hk => by
      unfold aheadA at hk
      rw [Bool.and_eq_true] at hk
      exact hk.1) (by
      unfold aheadA
      rw [decide_eq_false (p := srtV f d s < srtV f d s) (by rw [I_lt]; omega), decide_eq_false (p := s < s) (by omega), Bool.and_false, Bool.or_false, Bool.and_false]) h1.1
    omega
  · exact Nat.le_antisymm hle y
theorem anN_le (v s : Nat) : anN f d P v s ≤ 64 := fa_cnt_le _ 64
theorem anN_no {v s : Nat} (h : (P s && decide (kNs f d s = v)) = false) : anN f d P v (s + 1) = anN f d P v s := by
  refine fa_cnt_cong fun t ht => ?_
  unfold beh
  by_cases e : t = s
  · subst e
    rcases Bool.eq_false_or_eq_true (P t) with y | y
    · rw [y, Bool.true_and] at h
      rw [h, Bool.false_and, Bool.false_and]
    · rw [y, Bool.false_and, Bool.false_and]
  · rw [decide_eq_decide.mpr (show t < s + 1 ↔ t < s by omega)]
theorem anN_yes {v s : Nat} (hs : s < 64) (h : (P s && decide (kNs f d s = v)) = true) : anN f d P v (s + 1) = anN f d P v s + 1 := by
  rw [Bool.and_eq_true, decide_eq_true_eq] at h
  have hb : beh f d P v s s = false := by
    unfold beh
    rw [decide_eq_false (p := kNs f d s < v) (by omega), decide_eq_false (p := s < s) (by omega), Bool.and_false, Bool.or_false, Bool.and_false]
  have h1 := fa_cnt_add (Q := beh f d P v s) (x := s) 64
  rw [if_pos ⟨hs, hb⟩] at h1
  unfold anN
  rw [← h1]
  refine fa_cnt_cong fun t ht => ?_
  unfold beh
  by_cases e : t = s
  · subst e
    rw [h.1, decide_eq_true h.2, decide_eq_true (show t < t + 1 by omega), decide_eq_true (show t = t from rfl)]
    simp
  · rw [decide_eq_decide.mpr (show t < s + 1 ↔ t < s by omega), decide_eq_false e, Bool.or_false]
theorem anN_row (v : Nat) : anN f d P v 64 = anN f d P (v + 1) 0 := by
  refine fa_cnt_cong fun t ht => ?_
  unfold beh
  rw [decide_eq_true ht, decide_eq_false (Nat.not_lt_zero t), Bool.and_true, Bool.and_false, Bool.or_false]
  congr 1
  apply Bool.ex
  rw [Bool.or_eq_true, decide_eq_true_eq, decide_eq_true_eq, decide_eq_true_eq]
  omega
theorem anN_0 : anN f d P 0 0 = 0 := by
  have e : anN f d P 0 0 = fa_cnt (fun _ => false) 64 := fa_cnt_cong fun t _ => by
    unfold beh
    rw [decide_eq_false (Nat.not_lt_zero _), decide_eq_false (Nat.not_lt_zero _), Bool.and_false, Bool.or_false, Bool.and_false]
  rw [e]
  decide +kernel
theorem anN_100 (h : kIn f d P) : anN f d P 100 0 = fa_cnt P 64 := by
  refine fa_cnt_cong fun t ht => ?_
  unfold beh
  rcases Bool.eq_false_or_eq_true (P t) with y | y
  · have := h t ht y
    rw [y, decide_eq_true (show kNs f d t < 100 by unfold kNs; omega)]
    rfl
  · rw [y]; rfl
end ANS
/-- all rows within all bounds: the answer -/
theorem ans_is {S : SS} (iv : Inv S) {i s : Nat} (hs : s < 64) : q_ans S i s = (inC S (zQ S i) s 0 && inC S (zQ S i) s 1 && inC S (zQ S i) s 2 && inC S (zQ S i) s 3) := by
  apply Bool.ex
  unfold q_ans
  rw [rowsW_iff iv.1.2.1 _ hs, Bool.and_eq_true, Bool.and_eq_true, Bool.and_eq_true]
  unfold inC
  rw [Bool.and_eq_true, Bool.and_eq_true, Bool.and_eq_true, Bool.and_eq_true]
  constructor
  · rintro ⟨h1, h2⟩
    exact ⟨⟨⟨⟨h1, h2 0 (by decide) (by decide)⟩, h1, h2 1 (by decide) (by decide)⟩, h1, h2 2 (by decide) (by decide)⟩, h1, h2 3 (by decide) (by decide)⟩
  · rintro ⟨⟨⟨⟨h1, a0⟩, -, a1⟩, -, a2⟩, -, a3⟩
    refine ⟨h1, fun c hc _ => ?_⟩
    rcases (show c = 0 ∨ c = 1 ∨ c = 2 ∨ c = 3 by omega) with rfl | rfl | rfl | rfl
    · exact a0
    · exact a1
    · exact a2
    · exact a3
theorem ans_tk {S : SS} {i s : Nat} (h : q_ans S i s = true) : zt S s = true := by
  unfold q_ans rowsW at h
  rw [Bool.and_eq_true] at h
  exact h.1
theorem ans_k {S : SS} (iv : Inv S) {i : Nat} (hs : srtOk (zQ S i)) : kIn (zf S) (zQ S i) (q_ans S i) := by
  intro s h64 hp
  unfold srtV
  rcases hs with y | ⟨c, hc, y⟩
  · rw [if_pos y]
    decide
  · rw [y, if_neg (nI_neg (by omega)), nn_i (by omega)]
    exact iv.cells h64 (ans_tk hp) hc
