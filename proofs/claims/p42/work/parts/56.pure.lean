/-! Facts of pure numbers. -/
theorem kmaskN_bit (key c : Nat) : ∀ n, (kmaskN key n).testBit c = true ↔ ∃ i, i < n ∧ kcol key i = c
  | 0 => by simp [kmaskN]
  | n + 1 => by
    have ih := kmaskN_bit key c n
    rw [show kmaskN key (n + 1) = kmaskN key n ||| 2 ^ kcol key n from rfl, Nat.testBit_or, Bool.or_eq_true, ih, Nat.testBit_two_pow, decide_eq_true_eq]
    constructor
    · rintro (⟨i, h1, h2⟩ | h)
      · exact ⟨i, by omega, h2⟩
      · exact ⟨n, by omega, h⟩
    · rintro ⟨i, h1, h2⟩
      by_cases e : i = n
      · subst e; exact Or.inr h2
      · exact Or.inl ⟨i, by omega, h2⟩
theorem b_eq (d : QD) (c : Nat) : b_lo d c = b_hi d c ↔ d.1 c = d.2.1 c := by
  unfold b_lo b_hi
  by_cases h : d.2.1 c < d.1 c
  · rw [if_pos h, if_pos h]
    exact ⟨fun z => absurd z (by decide), fun z => by rw [z] at h; exact (Int32.lt_irrefl h).elim⟩
  · rw [if_neg h, if_neg h]
theorem b_bd (d : QD) (c : Nat) : (¬ b_lo d c = 0 ∨ ¬ b_hi d c = 99) ↔ (¬ d.1 c = 0 ∨ ¬ d.2.1 c = 99) := by
  unfold b_lo b_hi
  by_cases h : d.2.1 c < d.1 c
  · rw [if_pos h, if_pos h]
    refine ⟨fun _ => ?_, fun _ => Or.inr (by decide)⟩
    by_cases z : d.1 c = 0
    · right; intro z2; rw [z, z2] at h; exact absurd h (by decide)
    · exact Or.inl z
  · rw [if_neg h, if_neg h]
theorem b_wi (d : QD) (c : Nat) (x : Int32) : (b_lo d c ≤ x ∧ x ≤ b_hi d c) ↔ (d.1 c ≤ x ∧ x ≤ d.2.1 c) := by
  unfold b_lo b_hi
  by_cases h : d.2.1 c < d.1 c
  · rw [if_pos h, if_pos h]
    rw [I_lt] at h
    rw [I_le, I_le, I_le, I_le, show (0 : Int32).toInt = 0 from rfl, show (-1 : Int32).toInt = -1 from by decide]
    omega
  · rw [if_neg h, if_neg h]
theorem wiN_iff (f : Nat → Int32) (d : QD) (P : Nat → Bool) (s : Nat) : ∀ n, wiN f d P s n = true ↔ ∀ c, c < n → P c = true → isB d c = true → wi1 f d c s = true
  | 0 => ⟨fun _ _ hc => absurd hc (by omega), fun _ => rfl⟩
  | n + 1 => by
    have ih := wiN_iff f d P s n
    simp only [wiN]
    rw [Bool.and_eq_true, ih]
    constructor
    · rintro ⟨h1, h2⟩ c hc hp hb
      by_cases e : c = n
      · subst e
        rw [hp, hb] at h2
        exact h2
      · exact h1 c (by omega) hp hb
    · intro h1
      refine ⟨fun c hc => h1 c (by omega), ?_⟩
      rcases Bool.eq_false_or_eq_true (P n && isB d n) with z | z
      · rw [z]
        rw [Bool.and_eq_true] at z
        exact h1 n (by omega) z.1 z.2
      · rw [z]; rfl
theorem wi_free {f : Nat → Int32} {tk : Nat → Bool} {d : QD} (cl : Cells f tk) {s c : Nat} (hs : s < 64) (hc : c < 4) (ht : tk s = true) (hb : isB d c = false) : wi1 f d c s = true := by
  have hb := of_decide_eq_false hb
  have h1 : d.1 c = 0 := Classical.byContradiction fun z => hb (Or.inl z)
  have h2 : d.2.1 c = 99 := Classical.byContradiction fun z => hb (Or.inr z)
  have h3 := cl s hs ht c hc
  unfold wi1
  rw [h1, h2, decide_eq_true (show (0 : Int32) ≤ f (4 * s + c) by rw [I_le]; exact h3.1), decide_eq_true (show f (4 * s + c) ≤ (99 : Int32) by rw [I_le]; exact h3.2)]
  rfl
theorem rowsW_iff {f : Nat → Int32} {tk : Nat → Bool} {d : QD} (cl : Cells f tk) (P : Nat → Bool) {s : Nat} (hs : s < 64) : rowsW f tk d P s = true ↔ tk s = true ∧ ∀ c, c < 4 → P c = true → wi1 f d c s = true := by
  unfold rowsW
  rw [Bool.and_eq_true, wiN_iff]
  constructor
  · rintro ⟨h1, h2⟩
    refine ⟨h1, fun c hc hp => ?_⟩
    rcases Bool.eq_false_or_eq_true (isB d c) with z | z
    · exact h2 c hc hp z
    · exact wi_free cl hs hc h1 z
  · rintro ⟨h1, h2⟩
    exact ⟨h1, fun c hc hp _ => h2 c hc hp⟩
theorem Bool.ex {a b : Bool} (h : a = true ↔ b = true) : a = b := by
  cases a <;> cases b <;> simp_all
theorem nI_p0 (k : Nat) : nI k + 0 = nI k := by have := nI_add k 0; exact this
theorem nI_subI {a b : Int32} (ha : 0 ≤ a.toInt ∧ a.toInt ≤ 99) (hb : 0 ≤ b.toInt ∧ b.toInt ≤ 99) : (a - b < 0 ↔ a < b) ∧ (a - b = 0 ↔ a = b) := by
  obtain ⟨m, hm, rfl⟩ := I_of (x := a) (n := 100) ha.1 (by omega) (by decide)
  obtain ⟨n, hn, rfl⟩ := I_of (x := b) (n := 100) hb.1 (by omega) (by decide)
  have key : ∀ m, m < 100 → ∀ n, n < 100 → (nI m - nI n < 0 ↔ nI m < nI n) ∧ (nI m - nI n = 0 ↔ nI m = nI n) := by decide +kernel
  exact key m hm n hn
theorem fa_first_s (p : Nat → Bool) (n s : Nat) (hs : s < n) (hno : ∀ j, j < s → p j = false) (hp : p s = true) : fa_first p n = s := fa_first_is hs hp hno
theorem pgc_s (w : Nat) (P : Nat → Bool) (n : Nat) : pgc w P (n + 1) = pgc w P n + (if P n = true ∧ ∀ t, t < n → t / w = n / w → P t = false then 1 else 0) := rfl
theorem pgc_yes {w : Nat} {P : Nat → Bool} {n : Nat} (h : P n = true ∧ ∀ t, t < n → t / w = n / w → P t = false) : pgc w P (n + 1) = pgc w P n + 1 := by rw [pgc_s, if_pos h]
theorem pgc_no {w : Nat} {P : Nat → Bool} {n : Nat} (h : ¬ (P n = true ∧ ∀ t, t < n → t / w = n / w → P t = false)) : pgc w P (n + 1) = pgc w P n := by rw [pgc_s, if_neg h]; rfl
def irB (f : Nat → Int32) (d : QD) (key s n : Nat) : Bool := decide (∀ j, j < n → wi1 f d (kcol key j) s = true)
theorem ir_lft {f : Nat → Int32} {tk : Nat → Bool} {d : QD} (cl : Cells f tk) {key s : Nat} (hs : s < 64) (ht : tk s = true) : irB f d key s (kw key) = rowsW f tk d (kmask key).testBit s := by
  apply Bool.ex
  rw [rowsW_iff cl _ hs]
  unfold irB
  rw [decide_eq_true_eq]
  constructor
  · intro h1
    refine ⟨ht, fun c hc hp => ?_⟩
    obtain ⟨j, hj, e⟩ := (kmaskN_bit key c (kw key)).mp hp
    rw [← e]
    exact h1 j hj
  · rintro ⟨-, h1⟩ j hj
    exact h1 _ (kcol_lt key j) ((kmaskN_bit key _ (kw key)).mpr ⟨j, hj, rfl⟩)
/-- how many columns of a key make the run -/
def rcG (d : QD) (key : Nat) : Nat → Nat → Nat
  | i, 0 => i
  | i, r + 1 => if isF d (kcol key i) then rcG d key (i + 1) r else if isB d (kcol key i) then i + 1 else i
def rcN (d : QD) (key : Nat) : Nat := rcG d key 0 (kw key)
theorem rcG_in (d : QD) (key : Nat) : ∀ (r i : Nat), i ≤ rcG d key i r ∧ rcG d key i r ≤ i + r
  | 0, i => ⟨Nat.le_refl _, Nat.le_refl _⟩
  | r + 1, i => by
    have ih := rcG_in d key r (i + 1)
    simp only [rcG]
    split
    · omega
    · split <;> omega
theorem isF_isB {d : QD} {c : Nat} (h : isF d c = true) : isB d c = true := by
  unfold isF at h
  have h := of_decide_eq_true h
  unfold isB
  refine decide_eq_true ?_
  by_cases z : d.1 c = 0
  · right; rw [← h, z]; decide
  · exact Or.inl z
theorem runG_bit (d : QD) (key c : Nat) : ∀ (r i m : Nat), (runG d key i r m).testBit c = true ↔ m.testBit c = true ∨ ∃ j, i ≤ j ∧ j < rcG d key i r ∧ kcol key j = c
  | 0, i, m => by
    simp only [runG, rcG]
    constructor
    · exact Or.inl
    · rintro (h | ⟨j, h1, h2, _⟩)
      · exact h
      · omega
  | r + 1, i, m => by
    have ih := runG_bit d key c r (i + 1) (m ||| 2 ^ kcol key i)
    have h1 := rcG_in d key r (i + 1)
    simp only [runG, rcG]
    have hor : (m ||| 2 ^ kcol key i).testBit c = true ↔ m.testBit c = true ∨ kcol key i = c := by
      rw [Nat.testBit_or, Bool.or_eq_true, Nat.testBit_two_pow, decide_eq_true_eq]
    rcases Bool.eq_false_or_eq_true (isF d (kcol key i)) with z | z
    · rw [if_t (isF_isB z), if_t z, if_t z, ih, hor]
      constructor
      · rintro ((h | h) | ⟨j, h2, h3, h4⟩)
        · exact Or.inl h
        · exact Or.inr ⟨i, by omega, by omega, h⟩
        · exact Or.inr ⟨j, by omega, h3, h4⟩
      · rintro (h | ⟨j, h2, h3, h4⟩)
        · exact Or.inl (Or.inl h)
        · by_cases e : j = i
          · subst e; exact Or.inl (Or.inr h4)
          · exact Or.inr ⟨j, by omega, h3, h4⟩
    · rw [if_f z, if_f z]
      rcases Bool.eq_false_or_eq_true (isB d (kcol key i)) with y | y
      · rw [if_t y, if_t y, hor]
        constructor
        · rintro (h | h)
          · exact Or.inl h
          · exact Or.inr ⟨i, by omega, by omega, h⟩
        · rintro (h | ⟨j, h2, h3, h4⟩)
          · exact Or.inl h
          · exact Or.inr (by rw [show i = j by omega]; exact h4)
      · rw [if_f y, if_f y]
        constructor
        · exact Or.inl
        · rintro (h | ⟨j, h2, h3, _⟩)
          · exact h
          · omega
theorem ir_run {f : Nat → Int32} {tk : Nat → Bool} {d : QD} (cl : Cells f tk) {key s : Nat} (hs : s < 64) (ht : tk s = true) : irB f d key s (rcN d key) = rowsW f tk d (runM d key).testBit s := by
  apply Bool.ex
  rw [rowsW_iff cl _ hs]
  unfold irB
  rw [decide_eq_true_eq]
  have hb := fun c => runG_bit d key c (kw key) 0 0
  constructor
  · intro h1
    refine ⟨ht, fun c hc hp => ?_⟩
    rcases (hb c).mp hp with z | ⟨j, h2, h3, h4⟩
    · rw [Nat.zero_testBit] at z; cases z
    · rw [← h4]
      exact h1 j h3
  · rintro ⟨-, h1⟩ j hj
    exact h1 _ (kcol_lt key j) ((hb _).mpr (Or.inr ⟨j, Nat.zero_le _, hj, rfl⟩))
theorem fa_cnt_add {Q : Nat → Bool} {x : Nat} : ∀ m, fa_cnt (fun s => Q s || decide (s = x)) m = fa_cnt Q m + (if x < m ∧ Q x = false then 1 else 0)
  | 0 => by rw [if_neg (by omega)]; rfl
  | m + 1 => by
    have ih := fa_cnt_add (Q := Q) (x := x) m
    by_cases e : x = m
    · subst e
      rw [if_neg (by omega)] at ih
      rw [fa_cnt_yes (p := fun s => Q s || decide (s = x)) (n := x) (by simp), ih]
      rcases Bool.eq_false_or_eq_true (Q x) with z | z
      · rw [fa_cnt_yes z, if_neg (by rw [z]; simp)]
      · rw [fa_cnt_no z, if_pos ⟨by omega, z⟩]
    · have e2 : (if x < m + 1 ∧ Q x = false then 1 else 0) = (if x < m ∧ Q x = false then 1 else 0) := by
        by_cases c : x < m ∧ Q x = false
        · rw [if_pos c, if_pos ⟨by omega, c.2⟩]
        · rw [if_neg c, if_neg (fun z => c ⟨by omega, z.2⟩)]
      rw [e2]
      rcases Bool.eq_false_or_eq_true (Q m) with z | z
      · rw [fa_cnt_yes z, fa_cnt_yes (p := fun s => Q s || decide (s = x)) (n := m) (by simp [z]), ih]; omega
      · rw [fa_cnt_no z, fa_cnt_no (p := fun s => Q s || decide (s = x)) (n := m) (by simp [z]; omega), ih]
def inE (e : Nat → Nat) (s : Nat) : Nat → Bool
  | 0 => false
  | k + 1 => inE e s k || decide (s = e k)
theorem inE_iff (e : Nat → Nat) (s : Nat) : ∀ k, inE e s k = true ↔ ∃ i, i < k ∧ e i = s
  | 0 => ⟨fun z => by simp [inE] at z, fun ⟨i, hi, _⟩ => absurd hi (by omega)⟩
  | k + 1 => by
    have ih := inE_iff e s k
    simp only [inE]
    rw [Bool.or_eq_true, ih, decide_eq_true_eq]
    constructor
    · rintro (⟨i, h1, h2⟩ | h)
      · exact ⟨i, by omega, h2⟩
      · exact ⟨k, by omega, h.symm⟩
    · rintro ⟨i, h1, h2⟩
      by_cases c : i = k
      · subst c; exact Or.inr h2.symm
      · exact Or.inl ⟨i, by omega, h2⟩
theorem anyE_iff (e : Nat → Nat) (P : Nat → Bool) : ∀ (m p : Nat), anyE e P p m = true ↔ ∃ k, k < m ∧ P (e (p + k)) = true
  | 0, p => ⟨fun z => by simp [anyE] at z, fun ⟨k, hk, _⟩ => absurd hk (by omega)⟩
  | m + 1, p => by
    have ih := anyE_iff e P m (p + 1)
    simp only [anyE]
    rw [Bool.or_eq_true, ih]
    constructor
    · rintro (h | ⟨k, h1, h2⟩)
      · exact ⟨0, by omega, h⟩
      · exact ⟨k + 1, by omega, by rw [show p + (k + 1) = p + 1 + k by omega]; exact h2⟩
    · rintro ⟨k, h1, h2⟩
      rcases Nat.eq_zero_or_pos k with z | z
      · subst z; exact Or.inl h2
      · exact Or.inr ⟨k - 1, by omega, by rw [show p + 1 + (k - 1) = p + k by omega]; exact h2⟩
theorem rcN_le (d : QD) (key : Nat) : rcN d key ≤ kw key := by have := (rcG_in d key (kw key) 0).2; unfold rcN; omega
theorem runO_tk {f : Nat → Int32} {tk : Nat → Bool} {d : QD} {o : OD} {s : Nat} (z : runO f tk d o s = true) : tk s = true := by unfold runO rowsW at z; rw [Bool.and_eq_true] at z; exact z.1
theorem lft_tk {f : Nat → Int32} {tk : Nat → Bool} {d : QD} {o : OD} {s : Nat} (z : lftO f tk d o s = true) : tk s = true := by unfold lftO rowsW at z; rw [Bool.and_eq_true] at z; exact z.1
theorem nI_ci {c e : Nat} (hc : c < 4) (he : e < 4) : nI c = nI e ↔ c = e := nI_eq (by omega) (by omega)
theorem srtN_y {f : Nat → Int32} {tk : Nat → Bool} {d : QD} (c : msrt d = true) : srtN f tk d = fa_cnt (rowsW f tk d (15 : Nat).testBit) 64 := by unfold srtN; rw [if_t c]
theorem srtN_n {f : Nat → Int32} {tk : Nat → Bool} {d : QD} (c : msrt d = false) : srtN f tk d = 0 := by unfold srtN; rw [if_f c]
theorem nt_t {b : Bool} (c : b2 (!b) = 0) : b = true := by cases b <;> simp_all [b2]
theorem nt_f {b : Bool} (c : ¬ b2 (!b) = 0) : b = false := by cases b <;> simp_all [b2]
theorem lk_none {W : WL} {y : Int32} (h : ∀ x, x ∈ W → nI x.1 ≠ y) : ¬ wayPl W y < W.length := fun z => by
  have h1 := fa_first_yes (fun i => decide (nI (W.getD i (0, 0, 0)).1 = y)) W.length z
  have h1 := of_decide_eq_true h1
  unfold wayPl at z
  rw [getD_at z] at h1
  exact h _ (List.getElem_mem z) h1
theorem lk_some {W : WL} {y : Int32} {c : Nat} (h : ∃ x, x ∈ W ∧ nI x.1 = y) (h2 : ∀ x, x ∈ W → nI x.1 = y → x.2.2 = c) : wayPl W y < W.length ∧ (W.getD (wayPl W y) (0, 0, 0)).2.2 = c := by
  have hlt : wayPl W y < W.length := by
    obtain ⟨x, hx, hx2⟩ := h
    obtain ⟨p, hp, he⟩ := List.mem_iff_getElem.mp hx
    unfold wayPl
    rcases Nat.lt_or_ge (fa_first (fun j => decide (nI (W.getD j (0, 0, 0)).1 = y)) W.length) W.length with z | z
    · exact z
    · have := fa_first_no (fun j => decide (nI (W.getD j (0, 0, 0)).1 = y)) W.length p (by omega)
      exact absurd (by rw [getD_at hp, he]; exact hx2) (of_decide_eq_false this)
  have h1 := fa_first_yes (fun i => decide (nI (W.getD i (0, 0, 0)).1 = y)) W.length hlt
  have h1 := of_decide_eq_true h1
  refine ⟨hlt, h2 _ ?_ h1⟩
  show W.getD (wayPl W y) (0, 0, 0) ∈ W
  rw [getD_at hlt]
  exact List.getElem_mem hlt
theorem W_in (S : SS) (q : Nat) (x : Nat × Nat × Nat) : x ∈ s_W S q ↔ (x = (0, 0, tabL (zf S) (zt S) (zw S) (zQ S q)) ∨ ∃ j, j < 8 ∧ keptB (zo S) (zB S) j = true ∧ x = (1 + j, 2 ^ j, oneO (zf S) (zt S) (zw S) (zQ S q) (zB S j))) ∨ ∃ j p, j < p ∧ p < 8 ∧ keptB (zo S) (zB S) j = true ∧ keptB (zo S) (zB S) p = true ∧ x = (100 + 10 * j + p, 2 ^ j ||| 2 ^ p, twoO (zf S) (zt S) (zw S) (zQ S q) (zB S j) (zB S p)) := by
  have h := allW_in (zf S) (zt S) (zw S) (zo S) (zB S) (zQ S q) 8 (Nat.le_refl _) x
  unfold s_W
  rw [h]
  unfold inW1 inW2
  constructor
  · rintro (a | ⟨j, p, h1, h2, h3, h4, h5, h6⟩)
    · exact Or.inl a
    · exact Or.inr ⟨j, p, h1, h2, h4, h5, h6⟩
  · rintro (a | ⟨j, p, h1, h2, h4, h5, h6⟩)
    · exact Or.inl a
    · exact Or.inr ⟨j, p, h1, h2, Or.inl (by omega), h4, h5, h6⟩
def lkR (S : SS) (q : Nat) (y : Int32) : Int32 := if wayPl (s_W S q) y < (s_W S q).length then nI (s_cost S q (wayPl (s_W S q) y)) else -1
theorem lkR_none {S : SS} {q : Nat} {y : Int32} (h : ∀ x, x ∈ s_W S q → nI x.1 ≠ y) : lkR S q y = -1 := if_neg (lk_none h)
theorem lkR_some {S : SS} {q c : Nat} {y : Int32} (h : ∃ x, x ∈ s_W S q ∧ nI x.1 = y) (h2 : ∀ x, x ∈ s_W S q → nI x.1 = y → x.2.2 = c) : lkR S q y = nI c := by
  obtain ⟨h1, h3⟩ := lk_some h h2
  unfold lkR s_cost
  rw [if_pos h1, h3]
theorem kept_lt {told k : Nat} {B : Nat → OD} (h : keptB told B k = true) : k < told ∧ (B k).2.2 = false := by
  unfold keptB at h
  rw [Bool.and_eq_true] at h
  exact ⟨of_decide_eq_true h.1, by cases hb : (B k).2.2 <;> simp_all⟩
theorem kSet_bit (B : Nat → OD) : ∀ k j, (kSet B k).testBit j = (decide (j < k) && !(B j).2.2) := by
  intro k
  induction k with
  | zero => intro j; simp [kSet]
  | succ k ih =>
    intro j
    simp only [kSet]
    rcases Bool.eq_false_or_eq_true (B k).2.2 with z | z
    · rw [if_pos z, ih]
      by_cases e : j = k
      · subst e; rw [z]; simp
      · have : decide (j < k + 1) = decide (j < k) := decide_eq_decide.mpr (by omega)
        rw [this]
    · rw [if_neg (by rw [z]; decide), Nat.testBit_or, ih, Nat.testBit_two_pow]
      by_cases e : j = k
      · subst e; rw [z]; simp
      · have : decide (j < k + 1) = decide (j < k) := decide_eq_decide.mpr (by omega)
        rw [this, decide_eq_false (show ¬ k = j by omega), Bool.or_false]
theorem bs_sh0 : ∀ o, o < 9 → ∀ m, m < 256 → (m < 2 ^ o → nI m >>> (nI o &&& 31) = 0) := by decide +kernel
theorem bs_pow : ∀ o, o < 9 → (1 : Int32) <<< (nI o &&& 31) = nI (2 ^ o) := by decide +kernel
theorem bstS_ge (wr sz : Nat → Nat) (kept sp n : Nat) (h : kept < n) : ∀ j, bstS wr sz kept sp (n + j) = bstS wr sz kept sp n
  | 0 => rfl
  | j + 1 => by
    have ih := bstS_ge wr sz kept sp n h j
    rw [← ih]
    show (if ((n + j) &&& kept = n + j ∧ sz (n + j) ≤ sp) ∧ bet wr sz (n + j) (bstS wr sz kept sp (n + j)) = true then n + j else bstS wr sz kept sp (n + j)) = _
    rw [if_neg]
    rintro ⟨⟨a, -⟩, -⟩
    have : (n + j) &&& kept ≤ kept := Nat.and_le_right
    omega
theorem bstS_kept (wr sz : Nat → Nat) (kept sp : Nat) : ∀ k, bstS wr sz kept sp k &&& kept = bstS wr sz kept sp k
  | 0 => Nat.zero_and _
  | k + 1 => by
    have ih := bstS_kept wr sz kept sp k
    simp only [bstS]
    split
    · rename_i c
      exact c.1.1
    · exact ih
theorem nxS_ge (wr sz : Nat → Nat) (kp : Nat → Bool) (sp m n : Nat) (h : ∀ o, n ≤ o → kp o = false) : ∀ j, nxS wr sz kp sp m (n + j) = nxS wr sz kp sp m n
  | 0 => rfl
  | j + 1 => by
    have ih := nxS_ge wr sz kp sp m n h j
    rw [← ih]
    show (if (m.testBit (n + j) = false ∧ kp (n + j) = true ∧ sz (m ||| 2 ^ (n + j)) ≤ sp) ∧ wr (m ||| 2 ^ (n + j)) < (nxS wr sz kp sp m (n + j)).2 then (n + j, wr (m ||| 2 ^ (n + j))) else nxS wr sz kp sp m (n + j)) = _
    rw [if_neg (fun z => by rw [h (n + j) (by omega)] at z; cases z.1.2.1)]
/-- an order that comes next is not there yet, and is kept -/
theorem nxS_is (wr sz : Nat → Nat) (kp : Nat → Bool) (sp m : Nat) : ∀ o, (nxS wr sz kp sp m o).1 < 8 → m.testBit (nxS wr sz kp sp m o).1 = false ∧ kp (nxS wr sz kp sp m o).1 = true ∧ (nxS wr sz kp sp m o).2 = wr (m ||| 2 ^ (nxS wr sz kp sp m o).1)
  | 0, h => absurd h (by show ¬ 8 < 8; omega)
  | o + 1, h => by
    have ih := nxS_is wr sz kp sp m o
    simp only [nxS] at h ⊢
    by_cases c : (m.testBit o = false ∧ kp o = true ∧ sz (m ||| 2 ^ o) ≤ sp) ∧ wr (m ||| 2 ^ o) < (nxS wr sz kp sp m o).2
    · rw [if_pos c]
      exact ⟨c.1.1, c.1.2.1, rfl⟩
    · rw [if_neg c] at h ⊢
      exact ih h
theorem stpL_no {nx : Nat → Nat} {m : Nat} (h : ¬ nx m < 8) : ∀ e, stpL nx e m = [] ∧ stpE nx e m = m
  | 0 => ⟨rfl, rfl⟩
  | e + 1 => ⟨by rw [stpL_s, if_neg h], by rw [stpE_s, if_neg h]⟩
