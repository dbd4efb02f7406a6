/-! Workload: the best set within space, the set got step by step. -/
def bet (wr sz : Nat → Nat) (m p : Nat) : Bool := decide (wr m < wr p) || (decide (wr m = wr p) && decide (sz m < sz p))
def bstS (wr sz : Nat → Nat) (kept sp : Nat) : Nat → Nat
  | 0 => 0
  | k + 1 => if (k &&& kept = k ∧ sz k ≤ sp) ∧ bet wr sz k (bstS wr sz kept sp k) = true then k else bstS wr sz kept sp k
theorem bet_self (wr sz : Nat → Nat) (m : Nat) : bet wr sz m m = false := by simp [bet]
theorem bstS_1 (wr sz : Nat → Nat) (kept sp : Nat) : bstS wr sz kept sp 1 = 0 := by
  unfold bstS
  rw [show bstS wr sz kept sp 0 = 0 from rfl, bet_self, if_neg (fun h => by cases h.2)]
theorem bstS_lt (wr sz : Nat → Nat) (kept sp : Nat) : ∀ k, bstS wr sz kept sp k = 0 ∨ bstS wr sz kept sp k < k
  | 0 => Or.inl rfl
  | k + 1 => by
    have ih := bstS_lt wr sz kept sp k
    simp only [bstS]
    split
    · exact Or.inr (Nat.lt_succ_self k)
    · omega
/-- the next step from m among the first so many orders (8: none), and the least work -/
def nxS (wr sz : Nat → Nat) (kp : Nat → Bool) (sp m : Nat) : Nat → Nat × Nat
  | 0 => (8, wr m)
  | o + 1 => if (m.testBit o = false ∧ kp o = true ∧ sz (m ||| 2 ^ o) ≤ sp) ∧ wr (m ||| 2 ^ o) < (nxS wr sz kp sp m o).2 then (o, wr (m ||| 2 ^ o)) else nxS wr sz kp sp m o
def nxt (wr sz : Nat → Nat) (kp : Nat → Bool) (sp m : Nat) : Nat := (nxS wr sz kp sp m 8).1
def nxI (x : Nat) : Int32 := if x < 8 then nI x else -1
theorem nxS_1 (wr sz : Nat → Nat) (kp : Nat → Bool) (sp m : Nat) : ∀ o, (nxS wr sz kp sp m o).1 = 8 ∨ (nxS wr sz kp sp m o).1 < o
  | 0 => Or.inl rfl
  | o + 1 => by
    have ih := nxS_1 wr sz kp sp m o
    simp only [nxS]
    split
    · exact Or.inr (Nat.lt_succ_self o)
    · omega
/-- the steps from m, at most so many, and the set that they lead to -/
def stpL (nx : Nat → Nat) : Nat → Nat → List Nat
  | 0, _ => []
  | e + 1, m => if nx m < 8 then nx m :: stpL nx e (m ||| 2 ^ nx m) else []
def stpE (nx : Nat → Nat) : Nat → Nat → Nat
  | 0, m => m
  | e + 1, m => if nx m < 8 then stpE nx e (m ||| 2 ^ nx m) else m
theorem stpL_s (nx : Nat → Nat) (e m : Nat) : stpL nx (e + 1) m = if nx m < 8 then nx m :: stpL nx e (m ||| 2 ^ nx m) else [] := rfl
theorem stpE_s (nx : Nat → Nat) (e m : Nat) : stpE nx (e + 1) m = if nx m < 8 then stpE nx e (m ||| 2 ^ nx m) else m := rfl
theorem stpL_len (nx : Nat → Nat) : ∀ e m, (stpL nx e m).length ≤ e
  | 0, _ => Nat.le_refl _
  | e + 1, m => by
    have ih := stpL_len nx e (m ||| 2 ^ nx m)
    simp only [stpL]
    split
    · simp only [List.length_cons]; omega
    · simp
theorem or_bit : ∀ m, m < 256 → ∀ o, o < 8 → (m ||| 2 ^ o = m ↔ m.testBit o = true) ∧ m ||| 2 ^ o < 256 := by decide +kernel
theorem or_bit2 {m o : Nat} (hm : m < 256) (ho : o < 8) : m ||| 2 ^ o < 256 := (or_bit m hm o ho).2
theorem stpE_lt (nx : Nat → Nat) : ∀ e m, m < 256 → stpE nx e m < 256
  | 0, _, h => h
  | e + 1, m, h => by
    simp only [stpE]
    split
    · rename_i h1
      exact stpE_lt nx e _ (or_bit2 h h1)
    · exact h
section CHO
variable {g : GG} {σ : Hs} {R : Nat → Nat} {f : Nat → Int32} {tk : Nat → Bool} {wd told : Nat} {B : Nat → OD} {u : WS} {V : WK} {wr : Nat → Nat}
/-- the works laid are these, and small -/
def Laid (V : WK) (wr : Nat → Nat) : Prop := ∀ m, m < 256 → V.2.2.1 m = nI (wr m) ∧ wr m < 2 ^ 31
theorem szsO_le (h : OrdsC g σ R told B) (m : Nat) : szsO B told m ≤ 4800 := by
  have h1 : sumO (fun w => szO w.2.2.1) B m told ≤ 600 * told := sumO_le told fun o ho => szO_le (by have := (h.2.2.2.2.1 o ho).l_le; have := (h.2.2.2.2.1 o ho).1; omega)
  have := h.2.2.1
  unfold szsO
  omega
theorem rd_wkworkedOut (h : KW g σ R f tk wd told B u V) (hL : Laid V wr) {m : Nat} (hm : m < 256) : Rd g M_X10_workedOut [.ref (R 16), .int (nI m)] σ (nI (wr m)) := by
  have w := h.1.2.2.2
  exact q_X10_workedOut _ _ (FR.of w.1 rfl ⟨Rc.of w.2.2.2.1.1, (rd_atn w.2.2.2.1 hm).use (rd_i (hL m hm).1)⟩)
theorem rd_wkisBetter (h : KW g σ R f tk wd told B u V) (hL : Laid V wr) {m p : Nat} (hm : m < 256) (hp : p < 256) : Rd g M_X10_isBetter [.ref (R 16), .int (nI m), .int (nI p)] σ (b2 (bet wr (szsO B told) m p)) := by
  have w := h.1.2.2.2
  have s1 := szsO_le h.1.2.1 m
  have s2 := szsO_le h.1.2.1 p
  obtain ⟨m1, m2⟩ := hL m hm
  obtain ⟨p1, p2⟩ := hL p hp
  refine q_X10_isBetter _ _ _ (FR.of w.1 rfl ⟨Rc.of w.2.2.2.1.1, (rd_atn w.2.2.2.1 hm).use (FR.of w.1 rfl ⟨Rc.of w.2.2.2.1.1, (rd_atn w.2.2.2.1 hp).use ?_⟩)⟩)
  rw [m1, p1]
  refine ⟨fun c => FR.of w.1 rfl ⟨Rc.of h.1.2.1.1, (rd_osizesOf h.1.2.1 hm).use (FR.of w.1 rfl ⟨Rc.of h.1.2.1.1, (rd_osizesOf h.1.2.1 hp).use ?_⟩)⟩, fun c => FR.of w.1 rfl ⟨Rc.of w.2.2.2.1.1, (rd_atn w.2.2.2.1 hm).use (FR.of w.1 rfl ⟨Rc.of w.2.2.2.1.1, (rd_atn w.2.2.2.1 hp).use ?_⟩)⟩⟩
  · have c := (nI_eq m2 p2).mp c
    show (nI (szsO B told p) ≤ nI (szsO B told m) → _) ∧ _
    refine ⟨fun c2 => rd_i ?_, fun c2 => rd_i ?_⟩
    · have c2 := (nI_leI (by omega) (by omega)).mp c2
      unfold bet
      rw [decide_eq_false (p := wr m < wr p) (by omega), decide_eq_false (p := szsO B told m < szsO B told p) (by omega), Bool.and_false]
      rfl
    · have c2 : szsO B told m < szsO B told p := Nat.lt_of_not_le fun z => c2 (nI_le z (by show szsO B told m < _; omega))
      unfold bet
      rw [decide_eq_true c, decide_eq_true c2, Bool.and_true, Bool.or_true]
      rfl
  · have c : wr m ≠ wr p := fun z => c (by rw [z])
    rw [m1, p1]
    refine ⟨fun c2 => rd_i ?_, fun c2 => rd_i ?_⟩
    · have c2 := (nI_leI p2 m2).mp c2
      unfold bet
      rw [decide_eq_false (p := wr m < wr p) (by omega), decide_eq_false c, Bool.false_and]
      rfl
    · have c2 : wr m < wr p := Nat.lt_of_not_le fun z => c2 (nI_le z m2)
      unfold bet
      rw [decide_eq_true c2, Bool.true_or]
      rfl
theorem kSet_256 (h : OrdsC g σ R told B) : kSet B told < 256 := Nat.lt_of_lt_of_le (kSet_lt B told) (pow_le8 h.2.2.1)
theorem wrk_Laid (h : KW g σ R f tk wd told B u V) (F G : Nat → Int32) (hF : ∀ m, m < 256 → F m = nI (wrk f tk wd told B V.2.1 V.2.2.2.2.2.2 m V.1)) : Laid (V.1, V.2.1, F, G, V.2.2.2.2) (fun m => wrk f tk wd told B V.2.1 V.2.2.2.2.2.2 m V.1) := fun m hm => ⟨hF m hm, wrk_lt h.1.2.1.2.2.2.2.1 h.1.2.1.2.2.1 h.2.2.2.2 m h.1.2.2.2.2.2.2.2.2.2 (fun j hj => (h.2.2.2.1 j hj).2.2)⟩
def wrkV (f : Nat → Int32) (tk : Nat → Bool) (wd told : Nat) (B : Nat → OD) (V : WK) : Nat → Nat := fun m => wrk f tk wd told B V.2.1 V.2.2.2.2.2.2 m V.1
def bsP (g : GG) (σ : Hs) (R : Nat → Nat) (f : Nat → Int32) (tk : Nat → Bool) (wd told : Nat) (B : Nat → OD) (V : WK) (sp : Nat) : Option Value → Hs → Prop := kI fun x σ' => ∃ u' F G, KW g σ' R f tk wd told B u' (V.1, V.2.1, F, G, V.2.2.2.2) ∧ Sm R Tk σ σ' ∧ Laid (V.1, V.2.1, F, G, V.2.2.2.2) (wrkV f tk wd told B V) ∧ x = nI (bstS (wrkV f tk wd told B V) (szsO B told) (kSet B told) sp 256)
theorem wr_bestSet (h : KW g σ R f tk wd told B u V) {sp : Nat} (hsp : sp < 10000) : Do g M_X10_bestSet 0 0 [.ref (R 16), .int (nI sp)] σ (bsP g σ R f tk wd told B V sp) := by
  refine q_X10_bestSet _ _ ⟨Rc.of h.1.2.2.2.1, DoV.use (wr_workOutAll h) ?_⟩
  rintro σ1 ⟨u1, F, G, h1, s1, hF⟩
  have hL : Laid (V.1, V.2.1, F, G, V.2.2.2.2) (wrkV f tk wd told B V) := wrk_Laid h F G hF
  have w := h1.1.2.2.2
  have hkp := kSet_256 h1.1.2.1
  have loop : ∀ (e k : Nat), k + e = 256 → J_X10_bestSet_17 g (bsP g σ R f tk wd told B V sp) σ1 (R 16) (nI sp) (nI (kSet B told)) (nI (bstS (wrkV f tk wd told B V) (szsO B told) (kSet B told) sp k)) (nI k) := by
    intro e
    induction e with
    | zero =>
      intro k hk
      refine q_X10_bestSet_17 _ _ _ _ _ ⟨fun _ => ⟨_, rfl, u1, F, G, h1, s1, hL, by rw [show k = 256 by omega]⟩, fun c => absurd (nI_le (a := 256) (by omega) (by omega)) c⟩
    | succ e ih =>
      intro k hk
      have hk2 : k < 256 := by omega
      have ih := ih (k + 1) (by omega)
      have hb : bstS (wrkV f tk wd told B V) (szsO B told) (kSet B told) sp k < 256 := by rcases bstS_lt (wrkV f tk wd told B V) (szsO B told) (kSet B told) sp k with h | h <;> omega
      simp only [bstS] at ih
      have hsz := szsO_le h1.1.2.1 k
      have hno : ¬ ((k &&& kSet B told = k ∧ szsO B told k ≤ sp) ∧ bet (wrkV f tk wd told B V) (szsO B told) k (bstS (wrkV f tk wd told B V) (szsO B told) (kSet B told) sp k) = true) → J_X10_bestSet_17 g (bsP g σ R f tk wd told B V sp) σ1 (R 16) (nI sp) (nI (kSet B told)) (nI (bstS (wrkV f tk wd told B V) (szsO B told) (kSet B told) sp k)) (nI k + 1) := fun z => by
        rw [if_neg z] at ih
        rw [nI_1]
        exact ih
      refine q_X10_bestSet_17 _ _ _ _ _ ⟨fun c => absurd ((nI_leI (a := 256) (by decide) (by omega)).mp c) (by omega), fun _ => ⟨fun c => hno ?_, fun c => FR.of w.1 rfl ⟨Rc.of h1.1.2.1.1, (rd_osizesOf h1.1.2.1 hk2).use ⟨fun c2 => hno ?_, fun c2 => ⟨Rc.of w.1, (rd_wkisBetter h1 hL hk2 hb).use ⟨fun c3 => hno ?_, fun c3 => ?_⟩⟩⟩⟩⟩⟩
      · intro z
        exact c ((bs_diff hk2 (by omega)).mpr ((and_eq_iff hk2).mp z.1.1))
      · have c2 : sp < szsO B told k := (nI_ltI (by omega) (by show szsO B told k < _; omega)).mp c2
        intro z
        omega
      · intro z
        rw [b2_0.mp c3] at z
        cases z.2
      · have c2 : szsO B told k ≤ sp := Nat.le_of_not_lt fun z => c2 (nI_lt z (by show szsO B told k < _; omega))
        rw [if_pos ⟨⟨(and_eq_iff hk2).mpr ((bs_diff hk2 (by omega)).mp c), c2⟩, b2_n0.mp c3⟩] at ih
        rw [nI_1]
        exact ih
  refine FR.of w.1 rfl ⟨Rc.of h1.1.2.1.1, (rd_okeptSet h1.1.2.1).use ?_⟩
  have h0 := loop 255 1 rfl
  rw [bstS_1] at h0
  exact h0
theorem rd_wknextStep (h : KW g σ R f tk wd told B u V) (hL : Laid V wr) {m sp : Nat} (hm : m < 256) (hsp : sp < 10000) : Rd g M_X10_nextStep [.ref (R 16), .int (nI m), .int (nI sp)] σ (nxI (nxt wr (szsO B told) (keptB told B) sp m)) := by
  have w := h.1.2.2.2
  have loop : ∀ (e o : Nat), o + e = 8 → J_X10_nextStep_15 g (kI fun x σ' => σ' = σ ∧ x = nxI (nxt wr (szsO B told) (keptB told B) sp m)) σ (R 16) (nI m) (nI sp) (nxI (nxS wr (szsO B told) (keptB told B) sp m o).1) (nI (nxS wr (szsO B told) (keptB told B) sp m o).2) (nI o) := by
    intro e
    induction e with
    | zero =>
      intro o ho
      refine q_X10_nextStep_15 _ _ _ _ _ _ ⟨fun _ => rd_i (by rw [show o = 8 by omega]; rfl), fun c => absurd (nI_le (a := 8) (by omega) (by omega)) c⟩
    | succ e ih =>
      intro o ho
      have ho8 : o < 8 := by omega
      have ih := ih (o + 1) (by omega)
      obtain ⟨b1, b2'⟩ := or_bit m hm o ho8
      obtain ⟨l1, l2⟩ := hL (m ||| 2 ^ o) b2'
      have hlt : (nxS wr (szsO B told) (keptB told B) sp m o).2 < 2 ^ 31 := by
        clear ih
        have : ∀ k, k ≤ 8 → (nxS wr (szsO B told) (keptB told B) sp m k).2 < 2 ^ 31 := by
          intro k
          induction k with
          | zero => exact fun _ => (hL m hm).2
          | succ k ih =>
            intro hk
            simp only [nxS]
            split
            · exact (hL _ (or_bit2 hm (by omega))).2
            · exact ih (by omega)
        exact this o (by omega)
      have hsz := szsO_le h.1.2.1 (m ||| 2 ^ o)
      simp only [nxS] at ih
      have hno : ¬ ((m.testBit o = false ∧ keptB told B o = true ∧ szsO B told (m ||| 2 ^ o) ≤ sp) ∧ wr (m ||| 2 ^ o) < (nxS wr (szsO B told) (keptB told B) sp m o).2) → J_X10_nextStep_15 g (kI fun x σ' => σ' = σ ∧ x = nxI (nxt wr (szsO B told) (keptB told B) sp m)) σ (R 16) (nI m) (nI sp) (nxI (nxS wr (szsO B told) (keptB told B) sp m o).1) (nI (nxS wr (szsO B told) (keptB told B) sp m o).2) (nI o + 1) := fun z => by
        rw [if_neg z] at ih
        rw [nI_1]
        exact ih
      have j0 : ¬ (m.testBit o = false ∧ keptB told B o = true ∧ szsO B told (m ||| 2 ^ o) ≤ sp) → J_X10_nextStep_66 g (kI fun x σ' => σ' = σ ∧ x = nxI (nxt wr (szsO B told) (keptB told B) sp m)) σ (R 16) (nI m) (nI sp) (nxI (nxS wr (szsO B told) (keptB told B) sp m o).1) (nI (nxS wr (szsO B told) (keptB told B) sp m o).2) (nI o) (nI (m ||| 2 ^ o)) 0 := fun z => q_X10_nextStep_66 _ _ _ _ _ _ _ _ ⟨fun _ => hno fun y => z y.1, fun c => absurd rfl c⟩
      refine q_X10_nextStep_15 _ _ _ _ _ _ ⟨fun c => absurd ((nI_leI (a := 8) (by decide) (by omega)).mp c) (by omega), fun _ => (rd_with hm ho8).use ⟨fun c => j0 ?_, fun c => FR.of w.1 rfl ⟨Rc.of h.1.2.1.1, ?_⟩⟩⟩
      · have c := (nI_eq (by omega) (by omega)).mp c
        rw [b1.mp c]
        intro z
        cases z.1
      · have c : m.testBit o = false := by
          have h2 : ¬ m.testBit o = true := fun z => c (by rw [b1.mpr z])
          simpa using h2
        by_cases hk : keptB told B o = true
        · refine (rd_keptY h.1.2.1 ho8 hk).some (FR.of w.1 rfl ⟨Rc.of h.1.2.1.1, (rd_osizesOf h.1.2.1 b2').use ⟨fun c2 => j0 ?_, fun c2 => ?_⟩⟩)
          · have c2 : sp < szsO B told (m ||| 2 ^ o) := (nI_ltI (by omega) (by show szsO B told _ < _; omega)).mp c2
            intro z
            omega
          · have c2 : szsO B told (m ||| 2 ^ o) ≤ sp := Nat.le_of_not_lt fun z => c2 (nI_lt z (by show szsO B told _ < _; omega))
            refine q_X10_nextStep_66 _ _ _ _ _ _ _ _ ⟨fun c => absurd c (by decide), fun _ => FR.of w.1 rfl ⟨Rc.of w.2.2.2.1.1, (rd_atn w.2.2.2.1 b2').use ?_⟩⟩
            rw [l1]
            refine ⟨fun c3 => hno ?_, fun c3 => FR.of w.1 rfl ⟨Rc.of w.2.2.2.1.1, (rd_atn w.2.2.2.1 b2').use ?_⟩⟩
            · have c3 := (nI_leI hlt l2).mp c3
              intro z
              omega
            · have c3 : wr (m ||| 2 ^ o) < (nxS wr (szsO B told) (keptB told B) sp m o).2 := Nat.lt_of_not_le fun z => c3 (nI_le z l2)
              rw [if_pos ⟨⟨c, hk, c2⟩, c3⟩] at ih
              rw [l1, nI_1]
              rw [show nxI o = nI o from if_pos ho8] at ih
              exact ih
        · have hk : keptB told B o = false := by simpa using hk
          refine (rd_keptN h.1.2.1 ho8 hk).none (j0 ?_)
          rw [hk]
          intro z
          cases z.2.1
  refine q_X10_nextStep _ _ _ (FR.of w.1 rfl ⟨Rc.of w.2.2.2.1.1, (rd_atn w.2.2.2.1 hm).use ?_⟩)
  rw [(hL m hm).1]
  exact loop 8 0 rfl
def nxV (f : Nat → Int32) (tk : Nat → Bool) (wd told : Nat) (B : Nat → OD) (V : WK) (sp : Nat) : Nat → Nat := nxt (wrkV f tk wd told B V) (szsO B told) (keptB told B) sp
def ssP (g : GG) (σ : Hs) (R : Nat → Nat) (f : Nat → Int32) (tk : Nat → Bool) (wd told : Nat) (B : Nat → OD) (V : WK) (sp : Nat) : Option Value → Hs → Prop := kI fun x σ' => ∃ u' F G S, KW g σ' R f tk wd told B u' (V.1, V.2.1, F, G, S, (stpL (nxV f tk wd told B V sp) 8 0).length, V.2.2.2.2.2.2) ∧ Sm R Tk σ σ' ∧ Laid (V.1, V.2.1, F, G, S, (stpL (nxV f tk wd told B V sp) 8 0).length, V.2.2.2.2.2.2) (wrkV f tk wd told B V) ∧ (∀ j, j < (stpL (nxV f tk wd told B V sp) 8 0).length → S j = nI ((stpL (nxV f tk wd told B V sp) 8 0).getD j 0)) ∧ x = nI (stpE (nxV f tk wd told B V sp) 8 0)
theorem wr_stepByStep (h : KW g σ R f tk wd told B u V) {sp : Nat} (hsp : sp < 10000) : Do g M_X10_stepByStep 0 0 [.ref (R 16), .int (nI sp)] σ (ssP g σ R f tk wd told B V sp) := by
  refine q_X10_stepByStep _ _ ⟨Rc.of h.1.2.2.2.1, DoV.use (wr_workOutAll h) ?_⟩
  rintro σ1 ⟨u1, F, G, h1, s1, hF⟩
  have hL : Laid (V.1, V.2.1, F, G, V.2.2.2.2) (wrkV f tk wd told B V) := wrk_Laid h F G hF
  have loop : ∀ (e k m : Nat) (σ2 : Hs) (S : Nat → Int32) (P : List Nat), k + e = 8 → m < 256 → KW g σ2 R f tk wd told B u1 (V.1, V.2.1, F, G, S, k, V.2.2.2.2.2.2) → Sm R Tk σ σ2 → P.length = k → (∀ j, j < k → S j = nI (P.getD j 0)) → stpL (nxV f tk wd told B V sp) 8 0 = P ++ stpL (nxV f tk wd told B V sp) e m → stpE (nxV f tk wd told B V sp) 8 0 = stpE (nxV f tk wd told B V sp) e m → J_X10_stepByStep_13 g (ssP g σ R f tk wd told B V sp) σ2 (R 16) (nI sp) (nI m) (nI k) := by
    intro e
    induction e with
    | zero =>
      intro k m σ2 S P hk hm h2 s2 hP hS e1 e2
      refine q_X10_stepByStep_13 _ _ _ _ ⟨fun _ => ?_, fun c => absurd (nI_le (a := 8) (by omega) (by omega)) c⟩
      have e3 : stpL (nxV f tk wd told B V sp) 8 0 = P := by rw [e1]; exact List.append_nil P
      refine ⟨_, rfl, u1, F, G, S, ?_, s2, hL, ?_, ?_⟩
      · rw [e3, hP]; exact h2
      · rw [e3, hP]; exact hS
      · rw [e2]; rfl
    | succ e ih =>
      intro k m σ2 S P hk hm h2 s2 hP hS e1 e2
      have hL2 : Laid (V.1, V.2.1, F, G, S, k, V.2.2.2.2.2.2) (wrkV f tk wd told B V) := hL
      have hn : nxt (wrkV f tk wd told B V) (szsO B told) (keptB told B) sp m = nxV f tk wd told B V sp m := rfl
      refine q_X10_stepByStep_13 _ _ _ _ ⟨fun c => absurd ((nI_leI (a := 8) (by decide) (by omega)).mp c) (by omega), fun _ => ⟨Rc.of h2.1.2.2.2.1, (rd_wknextStep h2 hL2 hm hsp).use ?_⟩⟩
      rw [hn]
      rw [stpL_s _ e m] at e1
      rw [stpE_s _ e m] at e2
      generalize hN : nxV f tk wd told B V sp m = N at *
      by_cases hN8 : N < 8
      · rw [if_pos hN8] at e1 e2
        rw [show nxI N = nI N from if_pos hN8]
        have w := h2.1.2.2.2
        refine ⟨fun _ => FR.of w.1 rfl (FI.of w.1 rfl ⟨Rc.of w.2.2.2.2.2.1.1, (wr_put w.2.2.2.2.2.1 (k := k) (by omega) (nI N)).use ?_⟩), fun c => absurd c (nI_neg (by omega))⟩
        have h3 := h2.stp (upd S k (nI N))
        refine FI.of h3.1.2.2.2.1 rfl ?_
        show PF _ _ 10 7 (.int (nI k + 1)) _
        rw [nI_1]
        refine h3.pstn _ ((rd_with hm hN8).use ?_)
        have h4 := h3.obj (k + 1) V.2.2.2.2.2.2 h2.2.2.2.2
        refine ih (k + 1) (m ||| 2 ^ N) _ (upd S k (nI N)) (P ++ [N]) (by omega) (or_bit2 hm hN8) h4 ((s2.trans (Sm.hup (show Tk 23 from ⟨by omega, by omega⟩) _)).trans (Sm.hup (show Tk 16 from ⟨by omega, by omega⟩) _)) (by rw [List.length_append, hP]; rfl) (fun j hj => ?_) (by rw [e1, List.append_assoc]; rfl) e2
        by_cases hjk : j = k
        · subst hjk
          rw [upd_same]
          simp [List.getD, ← hP]
        · rw [upd_ne _ _ hjk, hS j (by omega)]
          simp only [List.getD]
          rw [List.getElem?_append_left (by omega)]
      · rw [if_neg hN8] at e1 e2
        rw [show nxI N = -1 from if_neg hN8]
        refine ⟨fun c => absurd rfl c, fun _ => ?_⟩
        have e3 : stpL (nxV f tk wd told B V sp) 8 0 = P := by rw [e1]; exact List.append_nil P
        refine ⟨_, rfl, u1, F, G, S, ?_, s2, hL, ?_, ?_⟩
        · rw [e3, hP]; exact h2
        · rw [e3, hP]; exact hS
        · rw [e2]
  refine h1.pstn 0 ?_
  exact loop 8 0 0 _ V.2.2.2.2.1 [] rfl (by omega) (h1.obj 0 V.2.2.2.2.2.2 h1.2.2.2.2) (s1.trans (Sm.hup (show Tk 16 from ⟨by omega, by omega⟩) _)) rfl (fun j hj => absurd hj (by omega)) rfl rfl
theorem rd_wkstepAt {n p : Nat} {Q : Nat → QD} {F G S : Nat → Int32} (h : KW g σ R f tk wd told B u (V.1, Q, F, G, S, n, p)) (hn : n ≤ 8) {k : Nat} (hk : k < 8) : Rd g M_X10_stepAt [.ref (R 16), .int (nI k)] σ (if k < n then S k else -1) := by
  have w := h.1.2.2.2
  refine q_X10_stepAt _ _ ⟨fun c => absurd ((lt_n (n := 0) (by decide)).mp c) (by rw [I_n (by omega)]; omega), fun _ => FI.of w.1 rfl ⟨fun c => rd_i ?_, fun c => FR.of w.1 rfl ⟨Rc.of w.2.2.2.2.2.1.1, (rd_atn w.2.2.2.2.2.1 (by omega)).use (rd_i ?_)⟩⟩⟩
  · have c := (nI_leI (by show n < _; omega) (by omega)).mp c
    rw [if_neg (by have : n ≤ k := c; omega)]
  · have c : ¬ n ≤ k := fun z => c (nI_le z (by omega))
    rw [if_pos (by omega)]
end CHO
