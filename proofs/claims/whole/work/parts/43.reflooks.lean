/-! The reference: pages, runs, looks of a way. -/
theorem pg_iff {w s t : Nat} (hw : 0 < w) (hts : t ≤ s) : t / w = s / w ↔ s - s % w ≤ t := by
  have h1 : s - s % w = w * (s / w) := by have := Nat.div_add_mod s w; omega
  rw [h1]
  constructor
  · intro e
    rw [← e]
    exact Nat.mul_div_le t w
  · intro e
    have h2 : s / w ≤ t / w := (Nat.le_div_iff_mul_le hw).mpr (by rw [Nat.mul_comm]; exact e)
    have h3 : t / w ≤ s / w := Nat.div_le_div_right hts
    omega
theorem pgc_s (w : Nat) (P : Nat → Bool) (n : Nat) : pgc w P (n + 1) = pgc w P n + (if P n = true ∧ ∀ t, t < n → t / w = n / w → P t = false then 1 else 0) := rfl
theorem pgc_yes {w : Nat} {P : Nat → Bool} {n : Nat} (h : P n = true ∧ ∀ t, t < n → t / w = n / w → P t = false) : pgc w P (n + 1) = pgc w P n + 1 := by rw [pgc_s, if_pos h]
theorem pgc_no {w : Nat} {P : Nat → Bool} {n : Nat} (h : ¬ (P n = true ∧ ∀ t, t < n → t / w = n / w → P t = false)) : pgc w P (n + 1) = pgc w P n := by rw [pgc_s, if_neg h]; rfl
def irB (f : Nat → Int32) (d : QD) (key s n : Nat) : Bool := decide (∀ j, j < n → wi1 f d (kcol key j) s = true)
theorem ir_lft {f : Nat → Int32} {tk : Nat → Bool} {d : QD} (cl : Cells f tk) {key s : Nat} (hs : s < 64) (ht : tk s = true) : irB f d key s (kw key) = rowsW f tk d (kmask key).testBit s := by
  apply Bool.ex
  rw [rowsW_iff cl _ hs]
  unfold irB
  rw [decide_eq_true_eq]
  constructor
  · intro h1
    refine ⟨ht, fun c hc hp => ?_⟩
    obtain ⟨j, hj, e⟩ := (kmaskN_bit key c (kw key)).mp hp
    rw [← e]
    exact h1 j hj
  · rintro ⟨-, h1⟩ j hj
    exact h1 _ (kcol_lt key j) ((kmaskN_bit key _ (kw key)).mpr ⟨j, hj, rfl⟩)
/-- how many columns of a key make the run -/
def rcG (d : QD) (key : Nat) : Nat → Nat → Nat
  | i, 0 => i
  | i, r + 1 => if isF d (kcol key i) then rcG d key (i + 1) r else if isB d (kcol key i) then i + 1 else i
def rcN (d : QD) (key : Nat) : Nat := rcG d key 0 (kw key)
theorem rcG_in (d : QD) (key : Nat) : ∀ (r i : Nat), i ≤ rcG d key i r ∧ rcG d key i r ≤ i + r
  | 0, i => ⟨Nat.le_refl _, Nat.le_refl _⟩
  | r + 1, i => by
    have ih := rcG_in d key r (i + 1)
    simp only [rcG]
    split
    · omega
    · split <;> omega
theorem isF_isB {d : QD} {c : Nat} (h : isF d c = true) : isB d c = true := by
  unfold isF at h
  have h := of_decide_eq_true h
  unfold isB
  refine decide_eq_true ?_
  by_cases z : d.1 c = 0
  · right; rw [← h, z]; decide
  · exact Or.inl z
theorem runG_bit (d : QD) (key c : Nat) : ∀ (r i m : Nat), (runG d key i r m).testBit c = true ↔ m.testBit c = true ∨ ∃ j, i ≤ j ∧ j < rcG d key i r ∧ kcol key j = c
  | 0, i, m => by
    simp only [runG, rcG]
    constructor
    · exact Or.inl
    · rintro (h | ⟨j, h1, h2, _⟩)
      · exact h
      · omega
  | r + 1, i, m => by
    have ih := runG_bit d key c r (i + 1) (m ||| 2 ^ kcol key i)
    have h1 := rcG_in d key r (i + 1)
    simp only [runG, rcG]
    have hor : (m ||| 2 ^ kcol key i).testBit c = true ↔ m.testBit c = true ∨ kcol key i = c := by
      rw [Nat.testBit_or, Bool.or_eq_true, Nat.testBit_two_pow, decide_eq_true_eq]
    rcases Bool.eq_false_or_eq_true (isF d (kcol key i)) with z | z
    · rw [if_t (isF_isB z), if_t z, if_t z, ih, hor]
      constructor
      · rintro ((h | h) | ⟨j, h2, h3, h4⟩)
        · exact Or.inl h
        · exact Or.inr ⟨i, by omega, by omega, h⟩
        · exact Or.inr ⟨j, by omega, h3, h4⟩
      · rintro (h | ⟨j, h2, h3, h4⟩)
        · exact Or.inl (Or.inl h)
        · by_cases e : j = i
          · subst e; exact Or.inl (Or.inr h4)
          · exact Or.inr ⟨j, by omega, h3, h4⟩
    · rw [if_f z, if_f z]
      rcases Bool.eq_false_or_eq_true (isB d (kcol key i)) with y | y
      · rw [if_t y, if_t y, hor]
        constructor
        · rintro (h | h)
          · exact Or.inl h
          · exact Or.inr ⟨i, by omega, by omega, h⟩
        · rintro (h | ⟨j, h2, h3, h4⟩)
          · exact Or.inl h
          · exact Or.inr (by rw [show i = j by omega]; exact h4)
      · rw [if_f y, if_f y]
        constructor
        · exact Or.inl
        · rintro (h | ⟨j, h2, h3, _⟩)
          · exact h
          · omega
theorem ir_run {f : Nat → Int32} {tk : Nat → Bool} {d : QD} (cl : Cells f tk) {key s : Nat} (hs : s < 64) (ht : tk s = true) : irB f d key s (rcN d key) = rowsW f tk d (runM d key).testBit s := by
  apply Bool.ex
  rw [rowsW_iff cl _ hs]
  unfold irB
  rw [decide_eq_true_eq]
  have hb := fun c => runG_bit d key c (kw key) 0 0
  constructor
  · intro h1
    refine ⟨ht, fun c hc hp => ?_⟩
    rcases (hb c).mp hp with z | ⟨j, h2, h3, h4⟩
    · rw [Nat.zero_testBit] at z; cases z
    · rw [← h4]
      exact h1 j h3
  · rintro ⟨-, h1⟩ j hj
    exact h1 _ (kcol_lt key j) ((hb _).mpr (Or.inr ⟨j, Nat.zero_le _, hj, rfl⟩))
theorem fa_cnt_add {Q : Nat → Bool} {x : Nat} : ∀ m, fa_cnt (fun s => Q s || decide (s = x)) m = fa_cnt Q m + (if x < m ∧ Q x = false then 1 else 0)
  | 0 => by rw [if_neg (by omega)]; rfl
  | m + 1 => by
    have ih := fa_cnt_add (Q := Q) (x := x) m
    by_cases e : x = m
    · subst e
      rw [if_neg (by omega)] at ih
      rw [fa_cnt_yes (p := fun s => Q s || decide (s = x)) (n := x) (by simp), ih]
      rcases Bool.eq_false_or_eq_true (Q x) with z | z
      · rw [fa_cnt_yes z, if_neg (by rw [z]; simp)]
      · rw [fa_cnt_no z, if_pos ⟨by omega, z⟩]
    · have e2 : (if x < m + 1 ∧ Q x = false then 1 else 0) = (if x < m ∧ Q x = false then 1 else 0) := by
        by_cases c : x < m ∧ Q x = false
        · rw [if_pos c, if_pos ⟨by omega, c.2⟩]
        · rw [if_neg c, if_neg (fun z => c ⟨by omega, z.2⟩)]
      rw [e2]
      rcases Bool.eq_false_or_eq_true (Q m) with z | z
      · rw [fa_cnt_yes z, fa_cnt_yes (p := fun s => Q s || decide (s = x)) (n := m) (by simp [z]), ih]; omega
      · rw [fa_cnt_no z, fa_cnt_no (p := fun s => Q s || decide (s = x)) (n := m) (by simp [z]; omega), ih]
def inE (e : Nat → Nat) (s : Nat) : Nat → Bool
  | 0 => false
  | k + 1 => inE e s k || decide (s = e k)
theorem inE_iff (e : Nat → Nat) (s : Nat) : ∀ k, inE e s k = true ↔ ∃ i, i < k ∧ e i = s
  | 0 => ⟨fun z => by simp [inE] at z, fun ⟨i, hi, _⟩ => absurd hi (by omega)⟩
  | k + 1 => by
    have ih := inE_iff e s k
    simp only [inE]
    rw [Bool.or_eq_true, ih, decide_eq_true_eq]
    constructor
    · rintro (⟨i, h1, h2⟩ | h)
      · exact ⟨i, by omega, h2⟩
      · exact ⟨k, by omega, h.symm⟩
    · rintro ⟨i, h1, h2⟩
      by_cases c : i = k
      · subst c; exact Or.inr h2.symm
      · exact Or.inl ⟨i, by omega, h2⟩
theorem cnt_ent {e : Nat → Nat} {P : Nat → Bool} {n m : Nat} (inj : ∀ i j, i < j → j < n → e i ≠ e j) (lt : ∀ i, i < n → e i < m) : ∀ k, k ≤ n → fa_cnt (fun i => P (e i)) k = fa_cnt (fun s => P s && inE e s k) m
  | 0, _ => by
    have e0 : fa_cnt (fun s => P s && inE e s 0) m = fa_cnt (fun _ => false) m := fa_cnt_cong (fun s _ => Bool.and_false _)
    have : ∀ j, fa_cnt (fun _ => false) j = 0 := fun j => by induction j with | zero => rfl | succ j ih => rw [fa_cnt_no rfl, ih]
    rw [e0, this]; rfl
  | k + 1, hk => by
    have ih := cnt_ent (P := P) inj lt k (by omega)
    rcases Bool.eq_false_or_eq_true (P (e k)) with z | z
    · rw [fa_cnt_yes (p := fun i => P (e i)) z, ih]
      have ha := fa_cnt_add (Q := fun s => P s && inE e s k) (x := e k) m
      rw [if_pos ⟨lt k (by omega), by
        rcases Bool.eq_false_or_eq_true (inE e (e k) k) with y | y
        · obtain ⟨i, h1, h2⟩ := (inE_iff e (e k) k).mp y
          exact absurd h2 (inj i k h1 (by omega))
        · show (P (e k) && inE e (e k) k) = false
          rw [y, Bool.and_false]⟩] at ha
      rw [← ha]
      refine fa_cnt_cong fun s _ => ?_
      simp only [inE]
      by_cases c : s = e k
      · rw [decide_eq_true c, c, z]; simp
      · rw [decide_eq_false c]; simp
    · rw [fa_cnt_no (p := fun i => P (e i)) z, ih]
      refine fa_cnt_cong fun s _ => ?_
      simp only [inE]
      by_cases c : s = e k
      · rw [c, z]; simp
      · rw [decide_eq_false c]; simp
theorem EIn.cnt {f : Nat → Int32} {tk : Nat → Bool} {key n : Nat} {e : Nat → Nat} (h : EIn f tk key n e) {P : Nat → Bool} (hP : ∀ s, s < 64 → P s = true → tk s = true) : fa_cnt (fun i => P (e i)) n = fa_cnt P 64 := by
  rw [cnt_ent (fun i j h1 h2 h3 => by have := h.inj (by omega) h2 h3; omega) (fun i hi => (h.2.1 i hi).1) n (Nat.le_refl _)]
  refine fa_cnt_cong fun s hs => ?_
  rcases Bool.eq_false_or_eq_true (P s) with z | z
  · rw [z, Bool.true_and]
    exact (inE_iff e s n).mpr (h.2.2 s hs (hP s hs z))
  · rw [z]; rfl
theorem anyE_iff (e : Nat → Nat) (P : Nat → Bool) : ∀ (m p : Nat), anyE e P p m = true ↔ ∃ k, k < m ∧ P (e (p + k)) = true
  | 0, p => ⟨fun z => by simp [anyE] at z, fun ⟨k, hk, _⟩ => absurd hk (by omega)⟩
  | m + 1, p => by
    have ih := anyE_iff e P m (p + 1)
    simp only [anyE]
    rw [Bool.or_eq_true, ih]
    constructor
    · rintro (h | ⟨k, h1, h2⟩)
      · exact ⟨0, by omega, h⟩
      · exact ⟨k + 1, by omega, by rw [show p + (k + 1) = p + 1 + k by omega]; exact h2⟩
    · rintro ⟨k, h1, h2⟩
      rcases Nat.eq_zero_or_pos k with z | z
      · subst z; exact Or.inl h2
      · exact Or.inr ⟨k - 1, by omega, by rw [show p + 1 + (k - 1) = p + k by omega]; exact h2⟩
section RQB
variable {g : GG} {σ : Hs} {R : Nat → Nat} {S : SS} {X : Nat → Int32} {A : Nat → Nat → Int32} {hh : Int64}
theorem rr_fullPages (h : RQ g σ R S X A hh) (v : Iv S) : Rd g M_X12_fullPages [.ref (R 300)] σ (nI (pgc (zw S) (zt S) 64)) := by
  obtain ⟨hw2, hw8⟩ := v.2.1
  have loop : ∀ (d s : Nat), s + d = 64 → J_X12_fullPages_4 g (kI fun x σ' => σ' = σ ∧ x = nI (pgc (zw S) (zt S) 64)) σ (R 300) (nI (pgc (zw S) (zt S) s)) (nI s) := by
    intro d
    induction d with
    | zero =>
      intro s hs
      exact q_X12_fullPages_4 _ _ _ ⟨fun _ => rd_i (by rw [show s = 64 by omega]), fun c => absurd (nI_le (a := 64) (by omega) (by omega)) c⟩
    | succ d ih =>
      intro s hs
      have ih := ih (s + 1) (by omega)
      have hm : s % zw S ≤ s := Nat.mod_le _ _
      have inner : ∀ (e t : Nat), t + e = s → s - s % zw S ≤ t → J_X12_fullPages_27 g (kI fun x σ' => σ' = σ ∧ x = nI (pgc (zw S) (zt S) 64)) σ (R 300) (nI (pgc (zw S) (zt S) s)) (nI s) (b2 (decide (zt S s = true ∧ ∀ u, u < t → s - s % zw S ≤ u → zt S u = false))) (nI t) := by
        intro e
        induction e with
        | zero =>
          intro t ht h1
          refine q_X12_fullPages_27 _ _ _ _ _ ⟨fun _ => ⟨fun c => ?_, fun c => ?_⟩, fun c => absurd (nI_le (by omega) (by omega)) c⟩
          · have c := of_decide_eq_false (b2_0.mp c)
            rw [pgc_no (fun z => c ⟨z.1, fun u h3 h2 => z.2 u (by omega) ((pg_iff (by omega) (by omega)).mpr h2)⟩)] at ih
            rw [nI_p0, nI_1]
            exact ih
          · have c := of_decide_eq_true (b2_n0.mp c)
            rw [pgc_yes ⟨c.1, fun u h2 h3 => c.2 u (by omega) ((pg_iff (by omega) (by omega)).mp h3)⟩] at ih
            rw [nI_1, nI_1]
            exact ih
        | succ e ihe =>
          intro t ht h1
          have ihe := ihe (t + 1) (by omega) (by omega)
          refine q_X12_fullPages_27 _ _ _ _ _ ⟨fun c => absurd ((nI_leI (by omega) (by omega)).mp c) (by omega), fun _ => ⟨fun c => ?_, fun c => h.1.r 0 (fun _ _ _ => rfl) (h.1.a 0 rfl rfl rfl (show t < 64 by omega) ?_)⟩⟩
          · have c := of_decide_eq_false (b2_0.mp c)
            rw [nI_1]
            rw [decide_eq_false (fun z => c ⟨z.1, fun u h3 h2 => z.2 u (by omega) h2⟩)] at ihe
            exact ihe
          · have c := of_decide_eq_true (b2_n0.mp c)
            rw [h.tab.2.2.1 t (by omega)]
            refine ⟨fun c2 => ?_, fun c2 => ?_⟩
            · rw [nI_1]
              rw [decide_eq_false (fun z => by have := z.2 t (by omega) h1; rw [b2_n0.mp c2] at this; cases this)] at ihe
              exact ihe
            · rw [nI_1]
              rw [decide_eq_true ⟨c.1, fun u h3 h2 => by
                by_cases z : u = t
                · rw [z]; exact b2_0.mp c2
                · exact c.2 u (by omega) h2⟩] at ihe
              exact ihe
      refine q_X12_fullPages_4 _ _ _ ⟨fun c => absurd ((nI_leI (a := 64) (by decide) (by omega)).mp c) (by omega), fun _ => h.1.r 0 (fun _ _ _ => rfl) (h.1.a 0 rfl rfl rfl (show s < 64 by omega) (h.1.x 3 (fun _ _ _ => rfl) ?_))⟩
      rw [h.tab.2.2.1 s (by omega), h.tab.2.1]
      refine ⟨fun c => absurd ((nI_eq (b := 0) (by omega) (by decide)).mp c) (by omega), ?_⟩
      rw [pk_rem (d := zw S) (by omega) (by omega) (by omega), pk_sub hm]
      have h0 := inner (s % zw S) (s - s % zw S) (by omega) (Nat.le_refl _)
      have e : decide (zt S s = true ∧ ∀ u, u < s - s % zw S → s - s % zw S ≤ u → zt S u = false) = zt S s := by
        apply Bool.ex
        rw [decide_eq_true_eq]
        exact ⟨fun z => z.1, fun z => ⟨z, fun u h2 h1 => absurd h2 (by omega)⟩⟩
      rw [e] at h0
      exact h0
  exact q_X12_fullPages _ (loop 64 0 rfl)
theorem rr_isInRun (h : RQ g σ R S X A hh) (v : Iv S) {q o s n : Nat} (hq : q < zq S) (ho : o < zo S) (hs : s < 64) (hn : n ≤ kw (zB S o).1) : Rd g M_X12_isInRun [.ref (R 300), .int (nI q), .int (nI o), .int (nI s), .int (nI n)] σ (b2 (irB (zf S) (zQ S q) (zB S o).1 s n)) := by
  have h8 := v.o8
  have hw := kw_le (zB S o).1
  have loop : ∀ (d j : Nat), j + d = n → (∀ i, i < j → wi1 (zf S) (zQ S q) (kcol (zB S o).1 i) s = true) → J_X12_isInRun_3 g (kI fun x σ' => σ' = σ ∧ x = b2 (irB (zf S) (zQ S q) (zB S o).1 s n)) σ (R 300) (nI q) (nI o) (nI s) (nI n) (nI j) := by
    intro d
    induction d with
    | zero =>
      intro j hj hall
      refine q_X12_isInRun_3 _ _ _ _ _ _ ⟨fun _ => rd_i ?_, fun c => absurd (nI_le (by omega) (by omega)) c⟩
      unfold irB
      rw [decide_eq_true (fun i hi => hall i (by omega))]; rfl
    | succ d ih =>
      intro j hj hall
      have hk := v.ok ho
      refine q_X12_isInRun_3 _ _ _ _ _ _ ⟨fun c => absurd ((nI_leI (by omega) (by omega)).mp c) (by omega), fun _ => h.1.r 5 (fun _ _ _ => rfl) (h.1.a 5 rfl rfl rfl (show o < 8 by omega) ?_)⟩
      rw [(h.ord.2 o ho).1]
      refine (rr_col hk (by omega)).use ⟨h.1.rc, (rr_isWithin h v hq (kcol_lt _ _) hs).use ⟨fun c => ?_, fun c => rd_i ?_⟩⟩
      · rw [nI_1]
        refine ih (j + 1) (by omega) fun i hi => ?_
        by_cases e : i = j
        · rw [e]; exact b2_n0.mp c
        · exact hall i (by omega)
      · unfold irB
        rw [decide_eq_false (fun z => by have := z j (by omega); rw [b2_0.mp c] at this; cases this)]; rfl
  exact q_X12_isInRun _ _ _ _ _ (loop n 0 (by omega) (fun i hi => absurd hi (by omega)))
theorem rr_runColumns (h : RQ g σ R S X A hh) (v : Iv S) {q o : Nat} (hq : q < zq S) (ho : o < zo S) : Rd g M_X12_runColumns [.ref (R 300), .int (nI q), .int (nI o)] σ (nI (rcN (zQ S q) (zB S o).1)) := by
  have h8 := v.o8
  have hk := v.ok ho
  have hk2 : (zB S o).1 < 2 ^ 31 := by have := hk.2.1; omega
  have hw := kw_le (zB S o).1
  have loop : ∀ (r n : Nat), n + r = kw (zB S o).1 → J_X12_runColumns_2 g (kI fun x σ' => σ' = σ ∧ x = nI (rcG (zQ S q) (zB S o).1 n r)) σ (R 300) (nI q) (nI o) (nI n) := by
    intro r
    induction r with
    | zero =>
      intro n hn
      refine q_X12_runColumns_2 _ _ _ _ (h.1.r 5 (fun _ _ _ => rfl) (h.1.a 5 rfl rfl rfl (show o < 8 by omega) ?_))
      rw [(h.ord.2 o ho).1]
      refine (rr_keySize hk2).use ⟨fun _ => ?_, fun c => absurd (nI_le (by omega) (by omega)) c⟩
      refine q_X12_runColumns_39 _ _ _ _ (h.1.r 5 (fun _ _ _ => rfl) (h.1.a 5 rfl rfl rfl (show o < 8 by omega) ?_))
      rw [(h.ord.2 o ho).1]
      exact (rr_keySize hk2).use ⟨fun _ => rd_i rfl, fun c => absurd (nI_le (by omega) (by omega)) c⟩
    | succ r ih =>
      intro n hn
      have ih := ih (n + 1) (by omega)
      have hc := kcol_lt (zB S o).1 n
      refine q_X12_runColumns_2 _ _ _ _ (h.1.r 5 (fun _ _ _ => rfl) (h.1.a 5 rfl rfl rfl (show o < 8 by omega) ?_))
      rw [(h.ord.2 o ho).1]
      refine (rr_keySize hk2).use ⟨fun c => absurd ((nI_leI (by omega) (by omega)).mp c) (by omega), fun _ => h.1.r 5 (fun _ _ _ => rfl) (h.1.a 5 rfl rfl rfl (show o < 8 by omega) ?_)⟩
      rw [(h.ord.2 o ho).1]
      refine (rr_col hk (by omega)).use ⟨h.1.rc, (rr_isFixed h v hq hc).use ⟨fun c => ?_, fun c => ?_⟩⟩
      · have c := b2_0.mp c
        refine q_X12_runColumns_39 _ _ _ _ (h.1.r 5 (fun _ _ _ => rfl) (h.1.a 5 rfl rfl rfl (show o < 8 by omega) ?_))
        rw [(h.ord.2 o ho).1]
        refine (rr_keySize hk2).use ⟨fun c => absurd ((nI_leI (by omega) (by omega)).mp c) (by omega), fun _ => h.1.r 5 (fun _ _ _ => rfl) (h.1.a 5 rfl rfl rfl (show o < 8 by omega) ?_)⟩
        rw [(h.ord.2 o ho).1]
        refine (rr_col hk (by omega)).use ⟨h.1.rc, (rr_isBound h v hq hc).use ⟨fun c2 => rd_i ?_, fun c2 => rd_i ?_⟩⟩
        · simp only [rcG]; rw [if_f c, if_f (b2_0.mp c2)]
        · simp only [rcG]; rw [if_f c, if_t (b2_n0.mp c2), nI_1]
      · rw [nI_1]
        have e : rcG (zQ S q) (zB S o).1 n (r + 1) = rcG (zQ S q) (zB S o).1 (n + 1) r := by simp only [rcG]; rw [if_t (b2_n0.mp c)]
        rw [e]
        exact ih
  exact q_X12_runColumns _ _ _ (loop (kw (zB S o).1) 0 (by omega))
theorem rcN_le (d : QD) (key : Nat) : rcN d key ≤ kw key := by have := (rcG_in d key (kw key) 0).2; unfold rcN; omega
theorem runO_tk {f : Nat → Int32} {tk : Nat → Bool} {d : QD} {o : OD} {s : Nat} (z : runO f tk d o s = true) : tk s = true := by unfold runO rowsW at z; rw [Bool.and_eq_true] at z; exact z.1
theorem rr_runOf (h : RQ g σ R S X A hh) (v : Iv S) {q o : Nat} (hq : q < zq S) (ho : o < zo S) (hd : (zB S o).2.2 = false) : Rd g M_X12_runOf [.ref (R 300), .int (nI q), .int (nI o)] σ (nI (fa_cnt (runO (zf S) (zt S) (zQ S q) (zB S o)) 64)) := by
  have h8 := v.o8
  obtain ⟨hok, hin⟩ := v.oi ho hd
  obtain ⟨-, -, e9, -, -, e8, -⟩ := h.ord.2 o ho
  have h64 := hok.1
  rw [← hin.cnt (P := runO (zf S) (zt S) (zQ S q) (zB S o)) (fun s _ z => runO_tk z)]
  have loop : ∀ (d k : Nat), k + d = (zB S o).2.1.1 → J_X12_runOf_13 g (kI fun x σ' => σ' = σ ∧ x = nI (fa_cnt (fun i => runO (zf S) (zt S) (zQ S q) (zB S o) ((zB S o).2.1.2.1 i)) (zB S o).2.1.1)) σ (R 300) (nI q) (nI o) (nI (fa_cnt (fun i => runO (zf S) (zt S) (zQ S q) (zB S o) ((zB S o).2.1.2.1 i)) k)) (nI (rcN (zQ S q) (zB S o).1)) (nI k) := by
    intro d
    induction d with
    | zero =>
      intro k hk
      refine q_X12_runOf_13 _ _ _ _ _ _ (h.1.r 9 (fun _ _ _ => rfl) (h.1.a 9 rfl rfl rfl (show o < 8 by omega) ?_))
      rw [e9]
      exact ⟨fun _ => rd_i (by rw [show k = (zB S o).2.1.1 by omega]), fun c => absurd (nI_le (by omega) (by omega)) c⟩
    | succ d ih =>
      intro k hk
      have ih := ih (k + 1) (by omega)
      have hek := hin.2.1 k (by omega)
      refine q_X12_runOf_13 _ _ _ _ _ _ (h.1.r 9 (fun _ _ _ => rfl) (h.1.a 9 rfl rfl rfl (show o < 8 by omega) ?_))
      rw [e9]
      refine ⟨fun c => absurd ((nI_leI (by omega) (by omega)).mp c) (by omega), fun _ => h.1.r 8 (fun _ _ _ => rfl) (h.1.a 8 rfl rfl (i64 o k) (show _ < 512 by omega) ?_)⟩
      rw [e8 k (by omega)]
      refine ⟨h.1.rc, (rr_isInRun h v hq ho hek.1 (rcN_le _ _)).use ?_⟩
      rw [ir_run v.cl hek.1 hek.2]
      refine ⟨fun c => ?_, fun c => ?_⟩
      · rw [nI_p0, nI_1]
        rw [fa_cnt_no (p := fun i => runO (zf S) (zt S) (zQ S q) (zB S o) ((zB S o).2.1.2.1 i)) (b2_0.mp c)] at ih
        exact ih
      · rw [nI_1, nI_1]
        rw [fa_cnt_yes (p := fun i => runO (zf S) (zt S) (zQ S q) (zB S o) ((zB S o).2.1.2.1 i)) (b2_n0.mp c)] at ih
        exact ih
  exact q_X12_runOf _ _ _ ⟨h.1.rc, (rr_runColumns h v hq ho).use (loop (zB S o).2.1.1 0 (by omega))⟩
theorem rr_run (h : RQ g σ R S X A hh) (v : Iv S) (x y : Int32) : Rd g M_X12_run [.ref (R 300), .int x, .int y] σ (v_run S x y) := by
  have h8 := v.q8
  unfold v_run
  refine q_X12_run _ _ _ ⟨h.1.rc, (rr_isQuestion h h8 x).use ⟨fun c => rd_i ?_, fun c => ⟨h.1.rc, (rr_isOrder h v.o8 y).use ⟨fun c2 => rd_i ?_, fun c2 => ⟨h.1.rc, ?_⟩⟩⟩⟩⟩
  · rw [if_f (b2_0.mp c)]
  · rw [if_t (b2_n0.mp c), if_f (b2_0.mp c2)]
  · have c := b2_n0.mp c
    have c2 := b2_n0.mp c2
    obtain ⟨q, hq, rfl⟩ := inR_of c (by omega)
    obtain ⟨o, ho, h8', hd, rfl⟩ := isO_of v.o8 c2
    rw [if_t c, if_t c2, nn_i (by omega), nn_i (by omega)]
    exact (rr_runOf h v hq ho hd).use (rd_i rfl)
end RQB
