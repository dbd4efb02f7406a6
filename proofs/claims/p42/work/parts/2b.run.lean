/-! Order and a question: the columns of the run, covering, sorting. -/
theorem bt_n {u i : Nat} (h : u < 2 ^ 32) (hi : i < 32) : bt (nI u) i = u.testBit i := by
  show (BitVec.ofNat 32 u).getLsbD i = _
  rw [BitVec.getLsbD_ofNat]
  simp [hi]
theorem bs_diff {u m : Nat} (hu : u < 256) (hm : m < 2 ^ 32) : nI u &&& (nI m ^^^ (-1)) = 0 ↔ ∀ i, i < 8 → u.testBit i = true → m.testBit i = true := by
  have key : ∀ i, i < 32 → bt (nI u &&& (nI m ^^^ (-1))) i = (u.testBit i && !m.testBit i) := fun i hi => by
    rw [b_and, b_xor, b_m1 i hi, bt_n (by omega) hi, bt_n hm hi, Bool.xor_true]
  constructor
  · intro h i hi h1
    have h2 := key i (by omega)
    rw [h, b_0, h1] at h2
    cases hb : m.testBit i
    · rw [hb] at h2; cases h2
    · rfl
  · intro h
    refine b_ext fun i hi => ?_
    rw [key i hi, b_0]
    rcases Nat.lt_or_ge i 8 with h1 | h1
    · cases hb : u.testBit i
      · rfl
      · rw [h i h1 hb]; rfl
    · rw [Nat.testBit_lt_two_pow (Nat.lt_of_lt_of_le hu (Nat.pow_le_pow_right (n := 2) (by decide) h1)), Bool.false_and]
theorem kmaskN_lt (key : Nat) : ∀ i, kmaskN key i < 16
  | 0 => by simp [kmaskN]
  | i + 1 => by
    have ih := kmaskN_lt key i
    have hc := kcol_lt key i
    exact Nat.or_lt_two_pow (n := 4) ih (Nat.pow_lt_pow_right (by decide) hc)
theorem kmask_lt (key : Nat) : kmask key < 16 := kmaskN_lt key _
/-- the columns of the run of a question along a key -/
def runG (d : QD) (key : Nat) : Nat → Nat → Nat → Nat
  | _, 0, m => m
  | i, r + 1, m => if isB d (kcol key i) then (if isF d (kcol key i) then runG d key (i + 1) r (m ||| 2 ^ kcol key i) else m ||| 2 ^ kcol key i) else m
def runM (d : QD) (key : Nat) : Nat := runG d key 0 (kw key) 0
theorem runG_lt (d : QD) (key : Nat) : ∀ (r i m : Nat), m < 16 → runG d key i r m < 16
  | 0, _, _, h => h
  | r + 1, i, m, h => by
    have h1 : m ||| 2 ^ kcol key i < 16 := Nat.or_lt_two_pow (n := 4) h (Nat.pow_lt_pow_right (by decide) (kcol_lt key i))
    simp only [runG]
    split
    · split
      · exact runG_lt d key r (i + 1) _ h1
      · exact h1
    · exact h
theorem runM_lt (d : QD) (key : Nat) : runM d key < 16 := runG_lt d key _ _ _ (by decide)
/-- whether an order's entries stand as the question is sorted -/
def sfG (d : QD) (key : Nat) : Nat → Nat → Bool
  | _, 0 => false
  | i, r + 1 => if isF d (kcol key i) then sfG d key (i + 1) r else decide (nI (kcol key i) = d.2.2.2.1)
def sfO (d : QD) (key : Nat) : Bool := sfG d key 0 (kw key)
def covN (d : QD) (m : Nat) : Nat → Bool
  | 0 => true
  | c + 1 => covN d m c && (!usedC d c || m.testBit c)
theorem covN_iff (d : QD) (m : Nat) : ∀ n, covN d m n = true ↔ ∀ c, c < n → usedC d c = true → m.testBit c = true
  | 0 => ⟨fun _ c hc => absurd hc (by omega), fun _ => rfl⟩
  | n + 1 => by
    have ih := covN_iff d m n
    simp only [covN, Bool.and_eq_true, ih]
    constructor
    · rintro ⟨h1, h2⟩ c hc h3
      rcases Nat.lt_or_ge c n with h4 | h4
      · exact h1 c h4 h3
      · rw [show c = n by omega] at h3 ⊢
        rw [h3] at h2
        simpa using h2
    · intro h
      refine ⟨fun c hc => h c (by omega), ?_⟩
      cases hu : usedC d n
      · rfl
      · rw [h n (by omega) hu]; rfl
def covO (d : QD) (key : Nat) : Bool := covN d (kmask key) 4
section RUN
variable {g : GG} {σ : Hs} {a b : Nat → Nat} {key : Nat} {w : OS} {dr : Bool} {d : QD}
theorem rd_orunColumns (h : OrdC g σ a key w dr) (hq : QAt g σ b d) : Rd g M_X2_runColumns [.ref (a 0), .ref (b 0)] σ (nI (runM d key)) := by
  obtain ⟨A, hA, hA2⟩ := h.2.1
  have hk := kw_le key
  have loop : ∀ (r i m : Nat), i + r = kw key → m < 16 → J_X2_runColumns_4 g (kI fun x σ' => σ' = σ ∧ x = nI (runG d key i r m)) σ (a 0) (b 0) (nI m) (nI i) := by
    intro r
    induction r with
    | zero =>
      intro i m hi hm
      exact q_X2_runColumns_4 _ _ _ _ (FI.of h.1 rfl ⟨fun _ => rd_i rfl, fun c => absurd (nI_le (by omega) (by omega)) c⟩)
    | succ r ih =>
      intro i m hi hm
      have hc := kcol_lt key i
      refine q_X2_runColumns_4 _ _ _ _ (FI.of h.1 rfl ⟨fun c => absurd ((nI_leI (by omega) (by omega)).mp c) (by omega), fun _ => FR.of h.1 rfl ⟨Rc.of hA.1, (rd_atn hA (by omega)).use ?_⟩⟩)
      rw [hA2 i (by omega)]
      simp only [runG]
      refine ⟨Rc.of hq.1, (rd_qisBound hq hc).use ⟨fun c => ?_, fun c => rd_i ?_⟩⟩
      · rw [b2_n0.mp c, if_pos rfl]
        refine (rd_with (by omega) (by omega)).use ⟨Rc.of hq.1, (rd_qisFixed hq hc).use ⟨fun c2 => ?_, fun c2 => rd_i ?_⟩⟩
        · rw [b2_n0.mp c2, if_pos rfl, nI_1]
          exact ih (i + 1) _ (by omega) (Nat.or_lt_two_pow (n := 4) hm (Nat.pow_lt_pow_right (by decide) hc))
        · rw [b2_0.mp c2]
          rfl
      · rw [b2_0.mp c]
        rfl
  exact q_X2_runColumns _ _ (loop (kw key) 0 0 (by omega) (by decide))
theorem rd_osortsFor (h : OrdC g σ a key w dr) (hq : QAt g σ b d) : Rd g M_X2_sortsFor [.ref (a 0), .ref (b 0)] σ (b2 (sfO d key)) := by
  obtain ⟨A, hA, hA2⟩ := h.2.1
  have hk := kw_le key
  have loop : ∀ (r i : Nat), i + r = kw key → J_X2_sortsFor_2 g (kI fun x σ' => σ' = σ ∧ x = b2 (sfG d key i r)) σ (a 0) (b 0) (nI i) := by
    intro r
    induction r with
    | zero =>
      intro i hi
      exact q_X2_sortsFor_2 _ _ _ (FI.of h.1 rfl ⟨fun _ => rd_i rfl, fun c => absurd (nI_le (by omega) (by omega)) c⟩)
    | succ r ih =>
      intro i hi
      have hc := kcol_lt key i
      refine q_X2_sortsFor_2 _ _ _ (FI.of h.1 rfl ⟨fun c => absurd ((nI_leI (by omega) (by omega)).mp c) (by omega), fun _ => FR.of h.1 rfl ⟨Rc.of hA.1, (rd_atn hA (by omega)).use ?_⟩⟩)
      rw [hA2 i (by omega)]
      simp only [sfG]
      refine ⟨Rc.of hq.1, (rd_qisFixed hq hc).use ⟨fun c => ?_, fun c => ⟨Rc.of hq.1, (rd_qsortColumn hq).use ⟨fun c2 => rd_i ?_, fun c2 => rd_i ?_⟩⟩⟩⟩
      · rw [b2_n0.mp c, if_pos rfl, nI_1]
        exact ih (i + 1) (by omega)
      · rw [b2_0.mp c, decide_eq_false c2]; rfl
      · rw [b2_0.mp c, decide_eq_true c2]; rfl
  exact q_X2_sortsFor _ _ (loop (kw key) 0 (by omega))
theorem rd_ocovers (h : OrdC g σ a key w dr) (hq : QAt g σ b d) (hs : srtOk d) : Rd g M_X2_covers [.ref (a 0), .ref (b 0)] σ (b2 (covO d key)) := by
  have hm := kmask_lt key
  have hu := mk4_lt (usedC d)
  have hz := bs_diff (u := mk4 (usedC d)) (m := kmask key) (by omega) (by omega)
  have he : (∀ i, i < 8 → (mk4 (usedC d)).testBit i = true → (kmask key).testBit i = true) ↔ (∀ c, c < 4 → usedC d c = true → (kmask key).testBit c = true) := by
    constructor
    · intro h1 c hc h2
      exact h1 c (by omega) (by rw [mk4_bit _ c hc]; exact h2)
    · intro h1 i hi h2
      rcases Nat.lt_or_ge i 4 with h3 | h3
      · rw [mk4_bit _ i h3] at h2
        exact h1 i h3 h2
      · rw [Nat.testBit_lt_two_pow (Nat.lt_of_lt_of_le hu (Nat.pow_le_pow_right (n := 2) (by decide) h3))] at h2
        cases h2
  refine q_X2_covers _ _ ⟨Rc.of hq.1, (rd_qusedColumns hq hs).use (FI.of h.1 rfl ⟨fun c => rd_i ?_, fun c => rd_i ?_⟩)⟩
  · unfold covO
    rw [Bool.eq_false_iff.mpr (fun z => c (hz.mpr (he.mpr ((covN_iff _ _ 4).mp z))))]; rfl
  · unfold covO
    rw [(covN_iff _ _ 4).mpr (he.mp (hz.mp c))]; rfl
end RUN
