/-! The law's small helpers: a question's row of bounds, a key's columns, the run. -/
theorem ix_a (q c : Nat) : (8 : Int32) * nI q + nI c = nI (8 * q + c) := by rw [show (8 : Int32) * nI q = nI (8 * q) from pk_mul 8 q, nI_add]
theorem ix_b (q c : Nat) : (8 : Int32) * nI q + 4 + nI c = nI (8 * q + 4 + c) := by rw [show (8 : Int32) * nI q = nI (8 * q) from pk_mul 8 q, show nI (8 * q) + 4 = nI (8 * q + 4) from nI_add _ 4, nI_add]
/-- bounds as they are read -/
def BQ (d : QD) : Prop := ∀ c, c < 4 → 0 ≤ (d.1 c).toInt ∧ (d.1 c).toInt ≤ 100 ∧ -1 ≤ (d.2.1 c).toInt ∧ (d.2.1 c).toInt ≤ 99
/-- what the law's row holds of a question -/
def RQ (r : Nat → Int32) (q : Nat) (d : QD) : Prop := BQ d ∧ srtOk d ∧ (∀ c, c < 4 → r (8 * q + c) = b_lo d c ∧ r (8 * q + 4 + c) = b_hi d c) ∧ r (48 + q) = nI (mk4 d.2.2.1) ∧ r (56 + q) = if d.2.2.2.1 = -1 then 4 else d.2.2.2.1
/-- a slot holds a row within a column's bounds -/
def inC (S : SS) (d : QD) (s c : Nat) : Bool := zt S s && wi1 (zf S) d c s
section LSM
variable {g : GG} {σ : Hs} {R : Nat → Nat} {S : SS} {p q : Nat} {r : Nat → Int32} {d : QD}
theorem BQ.bnd {c : Nat} (h : BQ d) (hc : c < 4) : isB d c = decide (0 < (b_lo d c).toInt ∨ (b_hi d c).toInt < 99) := by
  obtain ⟨h1, h2, h3, h4⟩ := h c hc
  unfold isB b_lo b_hi
  refine decide_eq_decide.mpr ?_
  have e1 : d.1 c = 0 ↔ (d.1 c).toInt = 0 := eq_n (n := 0) (by decide)
  have e2 : d.2.1 c = 99 ↔ (d.2.1 c).toInt = 99 := eq_n (n := 99) (by decide)
  rw [e1, e2]
  by_cases z : d.2.1 c < d.1 c
  · rw [if_pos z, if_pos z]
    have z := I_lt.mp z
    have : ((-1 : Int32)).toInt = -1 := by decide
    rw [this]
    omega
  · rw [if_neg z, if_neg z]
    have z : ¬ (d.2.1 c).toInt < (d.1 c).toInt := fun y => z (I_lt.mpr y)
    omega
theorem BQ.fix {c : Nat} (_ : BQ d) : isF d c = decide (b_lo d c = b_hi d c) := by
  unfold isF b_lo b_hi
  refine decide_eq_decide.mpr ?_
  by_cases z : d.2.1 c < d.1 c
  · rw [if_pos z, if_pos z]
    have z := I_lt.mp z
    constructor
    · intro e; rw [e] at z; omega
    · intro e; exact absurd e (by decide)
  · rw [if_neg z, if_neg z]
theorem isF_B {c : Nat} (h : isF d c = true) : isB d c = true := by
  unfold isF at h
  unfold isB
  have h := of_decide_eq_true h
  refine decide_eq_true ?_
  by_cases z : d.1 c = 0
  · right
    rw [← h, z]
    decide
  · exact Or.inl z
theorem rd_lfixed (hr : Ce σ p (aI g 64 r)) (h : RQ r q d) {c : Nat} (hq : q < 4) (hc : c < 4) : Rd g M_L_fixed [.ref p, .int (nI q), .int (nI c)] σ (b2 (isF d c)) := by
  obtain ⟨e1, e2⟩ := h.2.2.1 c hc
  refine q_L_fixed _ _ _ (AI.of hr (ix_a q c) (by omega) (by decide) (AI.of hr (ix_b q c) (by omega) (by decide) ?_))
  rw [e1, e2, h.1.fix]
  exact ⟨fun z => rd_i (by rw [decide_eq_false z]; rfl), fun z => rd_i (by rw [decide_eq_true z]; rfl)⟩
theorem rd_lbound (hr : Ce σ p (aI g 64 r)) (h : RQ r q d) {c : Nat} (hq : q < 4) (hc : c < 4) : Rd g M_L_bound [.ref p, .int (nI q), .int (nI c)] σ (b2 (isB d c)) := by
  obtain ⟨e1, e2⟩ := h.2.2.1 c hc
  refine q_L_bound _ _ _ (AI.of hr (ix_a q c) (by omega) (by decide) ?_)
  rw [e1, h.1.bnd hc]
  refine ⟨fun z => rd_i ?_, fun z => AI.of hr (ix_b q c) (by omega) (by decide) ?_⟩
  · have z := (n_lt (n := 0) (by decide)).mp z
    rw [decide_eq_true (Or.inl (by omega))]; rfl
  · have z := n_nlt (n := 0) (by decide) z
    rw [e2]
    refine ⟨fun y => rd_i ?_, fun y => rd_i ?_⟩
    · have y := (n_le (n := 99) (by decide)).mp y
      rw [decide_eq_false (by omega)]; rfl
    · have y := n_nle (n := 99) (by decide) y
      rw [decide_eq_true (Or.inr (by omega))]; rfl
theorem v_get_in {s c : Nat} (hs : s < 64) (hc : c < 4) : v_get S (nI s) (nI c) = if zt S s then zf S (4 * s + c) else -1 := by
  unfold v_get
  rw [if_t (inR_y hs (by decide)), if_t (inR_y hc (by decide)), nn_i (by omega), nn_i (by omega)]
theorem rd_lwithin (ko : KO g σ R S) (hr : Ce σ p (aI g 64 r)) (h : RQ r q d) {s c : Nat} (hq : q < 4) (hs : s < 64) (hc : c < 4) : Rd g M_L_within [.ref (R 0), .ref p, .int (nI q), .int (nI s), .int (nI c)] σ (b2 (inC S d s c)) := by
  obtain ⟨e1, e2⟩ := h.2.2.1 c hc
  obtain ⟨b1, b2', b3, b4⟩ := h.1 c hc
  refine q_L_within _ _ _ _ _ ⟨Rc.of ko.1, (rd_get ko _ _).use (AI.of hr (ix_a q c) (by omega) (by decide) ?_)⟩
  rw [v_get_in hs hc, e1]
  have m1 : ((-1 : Int32)).toInt = -1 := by decide
  have z0 : ((0 : Int32)).toInt = 0 := by decide
  unfold inC wi1
  cases ht : zt S s with
  | false =>
    refine ⟨fun _ => rd_i rfl, fun z => absurd ?_ z⟩
    rw [if_f rfl, I_lt, m1]
    unfold b_lo
    by_cases y : d.2.1 c < d.1 c
    · rw [if_pos y, z0]; omega
    · rw [if_neg y]; omega
  | true =>
    rw [if_t rfl, Bool.true_and]
    refine ⟨fun z => rd_i ?_, fun z => AI.of hr (ix_b q c) (by omega) (by decide) ?_⟩
    · have z := I_lt.mp z
      unfold b_lo at z
      by_cases y : d.2.1 c < d.1 c
      · have y2 := I_lt.mp y
        by_cases x : d.1 c ≤ zf S (4 * s + c)
        · have x2 := I_le.mp x
          rw [decide_eq_false (p := zf S (4 * s + c) ≤ d.2.1 c) (fun w => by have w := I_le.mp w; omega), Bool.and_false]; rfl
        · rw [decide_eq_false x]; rfl
      · rw [if_neg y] at z
        rw [decide_eq_false (p := d.1 c ≤ zf S (4 * s + c)) (fun w => by have w := I_le.mp w; omega)]; rfl
    · rw [e2]
      have z : ¬ (zf S (4 * s + c)).toInt < (b_lo d c).toInt := fun y => z (I_lt.mpr y)
      unfold b_lo at z
      by_cases y : d.2.1 c < d.1 c
      · have y2 := I_lt.mp y
        rw [if_pos y, z0] at z
        have eh : b_hi d c = -1 := by unfold b_hi; exact if_pos y
        rw [eh]
        refine ⟨fun _ => rd_i ?_, fun w => absurd (I_lt.mpr (by rw [m1]; omega)) w⟩
        by_cases x : d.1 c ≤ zf S (4 * s + c)
        · have x2 := I_le.mp x
          rw [decide_eq_false (p := zf S (4 * s + c) ≤ d.2.1 c) (fun w => by have w := I_le.mp w; omega), Bool.and_false]; rfl
        · rw [decide_eq_false x]; rfl
      · rw [if_neg y] at z
        have eh : b_hi d c = d.2.1 c := by unfold b_hi; exact if_neg y
        rw [eh, decide_eq_true (p := d.1 c ≤ zf S (4 * s + c)) (I_le.mpr (by omega)), Bool.true_and]
        refine ⟨fun w => rd_i ?_, fun w => rd_i ?_⟩
        · have w := I_lt.mp w
          rw [decide_eq_false (fun v => by have v := I_le.mp v; omega)]; rfl
        · have w : ¬ (d.2.1 c).toInt < (zf S (4 * s + c)).toInt := fun y => w (I_lt.mpr y)
          rw [decide_eq_true (I_le.mpr (by omega))]; rfl
/-! a key's columns -/
def colV (key k : Nat) : Int32 := if k < kw key then nI (kcol key k) else -1
theorem kw_3 (key : Nat) : kw key ≤ 3 ∧ 1 ≤ kw key := by unfold kw; split <;> (try split) <;> omega
theorem kok_fig {key i : Nat} (h : kok key) (hi : i < kw key) : 1 ≤ kfig key i ∧ kfig key i ≤ 4 := ⟨h.2.2.1 i hi, by have : kfig key i < 5 := Nat.mod_lt _ (by decide); omega⟩
theorem kcol_4 {key i : Nat} (h : kok key) (hi : i < kw key) : kcol key i < 4 := by
  have := kok_fig h hi
  unfold kcol
  omega
theorem rd_lcolumn {key k : Nat} (h : kok key) (hk : k < 4) : Rd g M_L_column [.int (nI key), .int (nI k)] σ (colV key k) := by
  have hk2 := h.2.1
  have loop : ∀ (e i left : Nat), i < 9 ∧ (i = k + e ∨ (e = 0 ∧ i ≤ k)) → left < 200 → (k < kw key → left / 5 ^ e % 5 = kfig key k) → J_L_column_28 g (kI fun x σ' => σ' = σ ∧ x = colV key k) σ (nI k) (nI (kw key)) (nI left) (nI i) := by
    intro e
    induction e with
    | zero =>
      intro i left hi hl hf
      refine q_L_column_28 _ _ _ _ ⟨fun _ => ⟨fun z => rd_i ?_, fun z => rd_i ?_⟩, fun z => absurd (nI_le (by omega) (by omega)) z⟩
      · have z := (nI_leI (by have := kw_3 key; omega) (by omega)).mp z
        unfold colV
        rw [if_neg (by omega)]
      · have z : ¬ kw key ≤ k := fun y => z (nI_le y (by omega))
        have hf := hf (by omega)
        rw [Nat.pow_zero, Nat.div_one] at hf
        have f1 := (kok_fig h (show k < kw key by omega)).1
        rw [show nI left - nI left / 5 * 5 = nI (left % 5) from pk_rem (by omega) (by decide) (by decide), hf]
        show nI (kfig key k) - 1 = _
        unfold colV kcol
        rw [if_pos (by omega), nI_s1 f1]
    | succ e ih =>
      intro i left hi hl hf
      refine q_L_column_28 _ _ _ _ ⟨fun z => absurd ((nI_leI (by omega) (by omega)).mp z) (by omega), fun _ => ?_⟩
      rw [show nI left / 5 = nI (left / 5) from pk_div (by omega) (by decide) (by decide), nI_m1 (by omega)]
      refine ih (i - 1) (left / 5) ⟨by omega, by omega⟩ (by omega) fun z => ?_
      rw [Nat.div_div_eq_div_mul, ← hf z, Nat.pow_succ, Nat.mul_comm]
  have start : J_L_column_28 g (kI fun x σ' => σ' = σ ∧ x = colV key k) σ (nI k) (nI (kw key)) (nI key) (nI (kw key - 1)) := by
    by_cases c : k < kw key
    · exact loop (kw key - 1 - k) _ _ ⟨by have := kw_3 key; omega, Or.inl (by omega)⟩ (by omega) fun _ => rfl
    · exact loop 0 _ _ ⟨by have := kw_3 key; omega, Or.inr ⟨rfl, by omega⟩⟩ (by omega) fun z => absurd z c
  unfold kw at start
  refine q_L_column _ _ ⟨fun z => ⟨fun y => ?_, fun y => ?_⟩, fun z => ?_⟩
  · have y := (nI_leI (b := 4) (by omega) (by decide)).mp y
    rw [if_neg (by omega), if_neg (by omega)] at start
    exact start
  · have z := (nI_leI (b := 24) (by omega) (by decide)).mp z
    have y : ¬ key ≤ 4 := fun w => y (nI_le w (by decide))
    rw [if_neg (by omega), if_pos (by omega)] at start
    exact start
  · have z : ¬ key ≤ 24 := fun w => z (nI_le w (by decide))
    rw [if_pos (by omega)] at start
    exact start
theorem colV_neg {key k : Nat} (h : kok key) : (colV key k < 0 ↔ ¬ k < kw key) := by
  unfold colV
  by_cases c : k < kw key
  · rw [if_pos c]
    have := kcol_4 h c
    exact ⟨fun z => absurd z (nI_pos (by omega)), fun z => absurd c z⟩
  · rw [if_neg c]
    exact ⟨fun _ => c, fun _ => by decide⟩
/-- so many columns are fixed at the front; so many make the run -/
def kfx (d : QD) (key : Nat) : Nat := fa_first (fun i => !isF d (kcol key i)) (kw key)
def krn (d : QD) (key : Nat) : Nat := if kfx d key < kw key ∧ isB d (kcol key (kfx d key)) = true then kfx d key + 1 else kfx d key
theorem kfx_le (d : QD) (key : Nat) : kfx d key ≤ kw key := fa_first_le _ _
theorem krn_le (d : QD) (key : Nat) : krn d key ≤ kw key := by
  have := kfx_le d key
  unfold krn
  split <;> omega
theorem kfx_F {i : Nat} {key : Nat} (hi : i < kfx d key) : isF d (kcol key i) = true := by
  have := fa_first_no (fun i => !isF d (kcol key i)) (kw key) i hi
  simpa using this
theorem rd_lrun (hr : Ce σ p (aI g 64 r)) (h : RQ r q d) {key : Nat} (hq : q < 4) (hk : kok key) : Rd g M_L_run [.ref p, .int (nI q), .int (nI key)] σ (nI (8 * kfx d key + krn d key)) := by
  have h3 := kw_3 key
  have hfx := kfx_le d key
  have fin : ∀ t : Int32, (t = 0 ∧ krn d key = kfx d key) ∨ (t = 1 ∧ krn d key = kfx d key + 1) → J_L_run_55 g (kI fun x σ' => σ' = σ ∧ x = nI (8 * kfx d key + krn d key)) σ (nI (kfx d key)) t := by
    rintro t (⟨rfl, e⟩ | ⟨rfl, e⟩)
    · exact q_L_run_55 _ _ ⟨fun _ => rd_i (by rw [ix_a, e]), fun z => absurd rfl z⟩
    · exact q_L_run_55 _ _ ⟨fun z => absurd z (by decide), fun _ => rd_i (by rw [nI_1, ix_a, e])⟩
  have mid : J_L_run_29 g (kI fun x σ' => σ' = σ ∧ x = nI (8 * kfx d key + krn d key)) σ p (nI q) (nI key) (nI (kfx d key)) := by
    refine q_L_run_29 _ _ _ _ ((rd_lcolumn hk (by omega)).use ⟨fun z => fin 0 (Or.inl ⟨rfl, ?_⟩), fun z => (rd_lcolumn hk (by omega)).use ?_⟩)
    · have z := (colV_neg hk).mp z
      unfold krn
      rw [if_neg (by omega)]
    · have z : kfx d key < kw key := Decidable.not_not.mp fun y => z ((colV_neg hk).mpr y)
      have c4 := kcol_4 hk z
      rw [show colV key (kfx d key) = nI (kcol key (kfx d key)) from if_pos z]
      refine (rd_lbound hr h hq c4).use ⟨fun y => fin 0 (Or.inl ⟨rfl, ?_⟩), fun y => fin 1 (Or.inr ⟨rfl, ?_⟩)⟩
      · have y := b2_0.mp y
        unfold krn
        rw [if_neg fun w => by rw [y] at w; exact absurd w.2 (by decide)]
      · have y := b2_n0.mp y
        unfold krn
        rw [if_pos ⟨z, y⟩]
  have loop : ∀ (e k : Nat), k + e = kfx d key → J_L_run_2 g (kI fun x σ' => σ' = σ ∧ x = nI (8 * kfx d key + krn d key)) σ p (nI q) (nI key) (nI k) := by
    intro e
    induction e with
    | zero =>
      intro k he
      have he : k = kfx d key := he
      subst he
      refine q_L_run_2 _ _ _ _ ((rd_lcolumn hk (by omega)).use ⟨fun z => mid, fun z => (rd_lcolumn hk (by omega)).use ?_⟩)
      have z : kfx d key < kw key := Decidable.not_not.mp fun y => z ((colV_neg hk).mpr y)
      have c4 := kcol_4 hk z
      have nf : (!isF d (kcol key (kfx d key))) = true := fa_first_yes (fun i => !isF d (kcol key i)) (kw key) z
      have nf : isF d (kcol key (kfx d key)) = false := by simpa using nf
      rw [show colV key (kfx d key) = nI (kcol key (kfx d key)) from if_pos z]
      refine (rd_lfixed hr h hq c4).use ⟨fun y => mid, fun y => ?_⟩
      rw [nf] at y
      exact absurd rfl y
    | succ e ih =>
      intro k he
      have z : k < kw key := by omega
      have c4 := kcol_4 hk z
      refine q_L_run_2 _ _ _ _ ((rd_lcolumn hk (by omega)).use ⟨fun y => absurd z ((colV_neg hk).mp y), fun _ => (rd_lcolumn hk (by omega)).use ?_⟩)
      rw [show colV key k = nI (kcol key k) from if_pos z]
      refine (rd_lfixed hr h hq c4).use ⟨fun y => ?_, fun _ => ?_⟩
      · have y := b2_0.mp y
        rw [kfx_F (by omega)] at y
        cases y
      · rw [nI_1]
        exact ih (k + 1) (by omega)
  exact q_L_run _ _ _ (loop (kfx d key) 0 (by omega))
end LSM
