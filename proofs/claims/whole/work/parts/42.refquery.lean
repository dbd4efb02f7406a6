/-! The reference: questions, columns, runs. -/
section RQA
variable {g : GG} {σ : Hs} {R : Nat → Nat} {S : SS} {X : Nat → Int32} {A : Nat → Nat → Int32} {hh : Int64}
theorem RQ.tab (h : RQ g σ R S X A hh) : tabR (zf S) (zt S) (zw S) (X 2) (X 3) (A 0) (A 1) := h.2.1
theorem RQ.ord (h : RQ g σ R S X A hh) : ordR (zo S) (zB S) (X 4) (A 5) (A 6) (A 7) (A 8) (A 9) (A 10) (A 11) := h.2.2.1
theorem RQ.pag (h : RQ g σ R S X A hh) : pagR (zn S) (zC S) (X 12) (A 13) := h.2.2.2.1
theorem RQ.que (h : RQ g σ R S X A hh) : queR (zq S) (zQ S) (X 14) (A 15) (A 16) (A 17) (A 18) := h.2.2.2.2.1
theorem RQ.num (h : RQ g σ R S X A hh) : X 19 = nI (zu S) ∧ X 20 = nI (zc S) ∧ X 21 = nI (zs S) := h.2.2.2.2.2.1
theorem RQ.pic (h : RQ g σ R S X A hh) : picR (zr S) (zP S) (X 24) (A 22) (A 23) := h.2.2.2.2.2.2.1
theorem RQ.mar (h : RQ g σ R S X A hh) : marR (zm S) (zM S) (X 25) (A 26) (A 27) := h.2.2.2.2.2.2.2
theorem Iv.o8 (v : Iv S) : zo S ≤ 8 := v.1.1.2.2
theorem Iv.q8 (v : Iv S) : zq S ≤ 8 := v.1.2.1.2
theorem Iv.ok (v : Iv S) {o : Nat} (ho : o < zo S) : kok (zB S o).1 := (v.1.1.1 o ho).1
theorem Iv.os (v : Iv S) {o : Nat} (ho : o < zo S) : OSok (zB S o).2.1 := (v.1.1.1 o ho).2.1
theorem Iv.oi (v : Iv S) {o : Nat} (ho : o < zo S) (hd : (zB S o).2.2 = false) : OIn (zf S) (zt S) (zB S o).1 (zB S o).2.1 := (v.1.1.1 o ho).2.2 hd
theorem Iv.cl (v : Iv S) : Cells (zf S) (zt S) := v.1.1.2.1
theorem Iv.srt (v : Iv S) {q : Nat} (hq : q < zq S) : srtOk (zQ S q) := (v.2.2.1 q hq).1
theorem b_eq (d : QD) (c : Nat) : b_lo d c = b_hi d c ↔ d.1 c = d.2.1 c := by
  unfold b_lo b_hi
  by_cases h : d.2.1 c < d.1 c
  · rw [if_pos h, if_pos h]
    exact ⟨fun z => absurd z (by decide), fun z => by rw [z] at h; exact (Int32.lt_irrefl h).elim⟩
  · rw [if_neg h, if_neg h]
theorem b_bd (d : QD) (c : Nat) : (¬ b_lo d c = 0 ∨ ¬ b_hi d c = 99) ↔ (¬ d.1 c = 0 ∨ ¬ d.2.1 c = 99) := by
  unfold b_lo b_hi
  by_cases h : d.2.1 c < d.1 c
  · rw [if_pos h, if_pos h]
    refine ⟨fun _ => ?_, fun _ => Or.inr (by decide)⟩
    by_cases z : d.1 c = 0
    · right; intro z2; rw [z, z2] at h; exact absurd h (by decide)
    · exact Or.inl z
  · rw [if_neg h, if_neg h]
theorem b_wi (d : QD) (c : Nat) (x : Int32) : (b_lo d c ≤ x ∧ x ≤ b_hi d c) ↔ (d.1 c ≤ x ∧ x ≤ d.2.1 c) := by
  unfold b_lo b_hi
  by_cases h : d.2.1 c < d.1 c
  · rw [if_pos h, if_pos h]
    rw [I_lt] at h
    rw [I_le, I_le, I_le, I_le, show (0 : Int32).toInt = 0 from rfl, show (-1 : Int32).toInt = -1 from by decide]
    omega
  · rw [if_neg h, if_neg h]
theorem rd_inG (x a b : Int32) : Rd g M_X12_in [.int x, .int a, .int b] σ (b2 (decide (a ≤ x ∧ x ≤ b))) := by
  refine q_X12_in _ _ _ ⟨fun c => rd_i ?_, fun c => ⟨fun c2 => rd_i ?_, fun c2 => rd_i ?_⟩⟩
  · rw [decide_eq_false (fun z => by rw [I_lt] at c; have := I_le.mp z.1; omega)]; rfl
  · rw [decide_eq_false (fun z => by rw [I_lt] at c2; have := I_le.mp z.2; omega)]; rfl
  · rw [decide_eq_true ⟨by rw [I_le]; rw [I_lt] at c; omega, by rw [I_le]; rw [I_lt] at c2; omega⟩]; rfl
theorem rr_leastOf (h : RQ g σ R S X A hh) (v : Iv S) {q c : Nat} (hq : q < zq S) (hc : c < 4) : Rd g M_X12_leastOf [.ref (R 300), .int (nI q), .int (nI c)] σ (b_lo (zQ S q) c) := by
  have h8 := v.q8
  exact q_X12_leastOf _ _ _ (h.1.r 15 (fun _ _ _ => rfl) (h.1.a 15 rfl rfl (i82 q c) (show _ < 64 by omega) (rd_i (((h.que.2 q hq).1 c hc).1))))
theorem rr_mostOf (h : RQ g σ R S X A hh) (v : Iv S) {q c : Nat} (hq : q < zq S) (hc : c < 4) : Rd g M_X12_mostOf [.ref (R 300), .int (nI q), .int (nI c)] σ (b_hi (zQ S q) c) := by
  have h8 := v.q8
  exact q_X12_mostOf _ _ _ (h.1.r 15 (fun _ _ _ => rfl) (h.1.a 15 rfl rfl (by rw [i82 q c, nI_1]) (show _ < 64 by omega) (rd_i (((h.que.2 q hq).1 c hc).2))))
theorem rr_isFixed (h : RQ g σ R S X A hh) (v : Iv S) {q c : Nat} (hq : q < zq S) (hc : c < 4) : Rd g M_X12_isFixed [.ref (R 300), .int (nI q), .int (nI c)] σ (b2 (isF (zQ S q) c)) := by
  refine q_X12_isFixed _ _ _ ⟨h.1.rc, (rr_leastOf h v hq hc).use ⟨h.1.rc, (rr_mostOf h v hq hc).use ⟨fun z => rd_i ?_, fun z => rd_i ?_⟩⟩⟩
  · unfold isF; rw [decide_eq_false (fun y => z ((b_eq _ _).mpr y))]; rfl
  · unfold isF; rw [decide_eq_true ((b_eq _ _).mp z)]; rfl
theorem rr_isBound (h : RQ g σ R S X A hh) (v : Iv S) {q c : Nat} (hq : q < zq S) (hc : c < 4) : Rd g M_X12_isBound [.ref (R 300), .int (nI q), .int (nI c)] σ (b2 (isB (zQ S q) c)) := by
  refine q_X12_isBound _ _ _ ⟨h.1.rc, (rr_leastOf h v hq hc).use ⟨fun z => rd_i ?_, fun z => ⟨h.1.rc, (rr_mostOf h v hq hc).use ⟨fun z2 => rd_i ?_, fun z2 => rd_i ?_⟩⟩⟩⟩
  · unfold isB; rw [decide_eq_true ((b_bd _ _).mp (Or.inl z))]; rfl
  · unfold isB; rw [decide_eq_false (fun y => ((b_bd _ _).mpr y).elim (fun w => w z) (fun w => w z2))]; rfl
  · unfold isB; rw [decide_eq_true ((b_bd _ _).mp (Or.inr z2))]; rfl
theorem rr_isWithin (h : RQ g σ R S X A hh) (v : Iv S) {q c s : Nat} (hq : q < zq S) (hc : c < 4) (hs : s < 64) : Rd g M_X12_isWithin [.ref (R 300), .int (nI q), .int (nI c), .int (nI s)] σ (b2 (wi1 (zf S) (zQ S q) c s)) := by
  have e : wi1 (zf S) (zQ S q) c s = decide (b_lo (zQ S q) c ≤ zf S (4 * s + c) ∧ zf S (4 * s + c) ≤ b_hi (zQ S q) c) := by
    unfold wi1
    rw [← Bool.decide_and]
    exact decide_eq_decide.mpr (b_wi _ _ _).symm
  rw [e]
  refine q_X12_isWithin _ _ _ _ (h.1.r 1 (fun _ _ _ => rfl) (h.1.a 1 rfl rfl (i4 s c) (show _ < 256 by omega) ⟨h.1.rc, (rr_leastOf h v hq hc).use ⟨h.1.rc, (rr_mostOf h v hq hc).use ?_⟩⟩))
  rw [h.tab.2.2.2 _ (by omega)]
  exact (rd_inG _ _ _).use ⟨b2_nar _, rd_i rfl⟩
theorem wiN_iff (f : Nat → Int32) (d : QD) (P : Nat → Bool) (s : Nat) : ∀ n, wiN f d P s n = true ↔ ∀ c, c < n → P c = true → isB d c = true → wi1 f d c s = true
  | 0 => ⟨fun _ _ hc => absurd hc (by omega), fun _ => rfl⟩
  | n + 1 => by
    have ih := wiN_iff f d P s n
    simp only [wiN]
    rw [Bool.and_eq_true, ih]
    constructor
    · rintro ⟨h1, h2⟩ c hc hp hb
      by_cases e : c = n
      · subst e
        rw [hp, hb] at h2
        exact h2
      · exact h1 c (by omega) hp hb
    · intro h1
      refine ⟨fun c hc => h1 c (by omega), ?_⟩
      rcases Bool.eq_false_or_eq_true (P n && isB d n) with z | z
      · rw [z]
        rw [Bool.and_eq_true] at z
        exact h1 n (by omega) z.1 z.2
      · rw [z]; rfl
theorem wi_free {f : Nat → Int32} {tk : Nat → Bool} {d : QD} (cl : Cells f tk) {s c : Nat} (hs : s < 64) (hc : c < 4) (ht : tk s = true) (hb : isB d c = false) : wi1 f d c s = true := by
  have hb := of_decide_eq_false hb
  have h1 : d.1 c = 0 := Classical.byContradiction fun z => hb (Or.inl z)
  have h2 : d.2.1 c = 99 := Classical.byContradiction fun z => hb (Or.inr z)
  have h3 := cl s hs ht c hc
  unfold wi1
  rw [h1, h2, decide_eq_true (show (0 : Int32) ≤ f (4 * s + c) by rw [I_le]; exact h3.1), decide_eq_true (show f (4 * s + c) ≤ (99 : Int32) by rw [I_le]; exact h3.2)]
  rfl
theorem rowsW_iff {f : Nat → Int32} {tk : Nat → Bool} {d : QD} (cl : Cells f tk) (P : Nat → Bool) {s : Nat} (hs : s < 64) : rowsW f tk d P s = true ↔ tk s = true ∧ ∀ c, c < 4 → P c = true → wi1 f d c s = true := by
  unfold rowsW
  rw [Bool.and_eq_true, wiN_iff]
  constructor
  · rintro ⟨h1, h2⟩
    refine ⟨h1, fun c hc hp => ?_⟩
    rcases Bool.eq_false_or_eq_true (isB d c) with z | z
    · exact h2 c hc hp z
    · exact wi_free cl hs hc h1 z
  · rintro ⟨h1, h2⟩
    exact ⟨h1, fun c hc hp _ => h2 c hc hp⟩
theorem Bool.ex {a b : Bool} (h : a = true ↔ b = true) : a = b := by
  cases a <;> cases b <;> simp_all
theorem rr_isAnswer (h : RQ g σ R S X A hh) (v : Iv S) {q s : Nat} (hq : q < zq S) (hs : s < 64) : Rd g M_X12_isAnswer [.ref (R 300), .int (nI q), .int (nI s)] σ (b2 (q_ans S q s)) := by
  have e := rowsW_iff (d := zQ S q) v.cl (15 : Nat).testBit hs
  have no : (∃ c, c < 4 ∧ wi1 (zf S) (zQ S q) c s = false) → q_ans S q s = false := by
    rintro ⟨c, hc, z⟩
    rcases Bool.eq_false_or_eq_true (q_ans S q s) with y | y
    · have := (e.mp y).2 c hc (by rcases (show c = 0 ∨ c = 1 ∨ c = 2 ∨ c = 3 by omega) with rfl | rfl | rfl | rfl <;> rfl)
      rw [z] at this; cases this
    · exact y
  refine q_X12_isAnswer _ _ _ (h.1.r 0 (fun _ _ _ => rfl) (h.1.a 0 rfl rfl rfl (show s < 64 from hs) ?_))
  rw [h.tab.2.2.1 s hs]
  refine ⟨fun c => rd_i ?_, fun c => ⟨h.1.rc, (rr_isWithin h v hq (c := 0) (by omega) hs).use ⟨fun c0 => rd_i ?_, fun c0 => ⟨h.1.rc, (rr_isWithin h v hq (c := 1) (by omega) hs).use ⟨fun c1 => rd_i ?_, fun c1 => ⟨h.1.rc, (rr_isWithin h v hq (c := 2) (by omega) hs).use ⟨fun c2 => rd_i ?_, fun c2 => ⟨h.1.rc, (rr_isWithin h v hq (c := 3) (by omega) hs).use ⟨fun c3 => rd_i ?_, fun c3 => rd_i ?_⟩⟩⟩⟩⟩⟩⟩⟩⟩
  · have : q_ans S q s = false := by unfold q_ans rowsW; rw [b2_0.mp c]; rfl
    rw [this]; rfl
  · rw [no ⟨0, by omega, b2_0.mp c0⟩]; rfl
  · rw [no ⟨1, by omega, b2_0.mp c1⟩]; rfl
  · rw [no ⟨2, by omega, b2_0.mp c2⟩]; rfl
  · rw [no ⟨3, by omega, b2_0.mp c3⟩]; rfl
  · have : q_ans S q s = true := e.mpr ⟨b2_n0.mp c, fun c hc _ => by
      rcases (show c = 0 ∨ c = 1 ∨ c = 2 ∨ c = 3 by omega) with rfl | rfl | rfl | rfl
      · exact b2_n0.mp c0
      · exact b2_n0.mp c1
      · exact b2_n0.mp c2
      · exact b2_n0.mp c3⟩
    rw [this]; rfl
theorem nI_p0 (k : Nat) : nI k + 0 = nI k := by have := nI_add k 0; exact this
theorem rr_answersOf (h : RQ g σ R S X A hh) (v : Iv S) {q : Nat} (hq : q < zq S) : Rd g M_X12_answersOf [.ref (R 300), .int (nI q)] σ (nI (fa_cnt (q_ans S q) 64)) := by
  have loop : ∀ (d s : Nat), s + d = 64 → J_X12_answersOf_4 g (kI fun x σ' => σ' = σ ∧ x = nI (fa_cnt (q_ans S q) 64)) σ (R 300) (nI q) (nI (fa_cnt (q_ans S q) s)) (nI s) := by
    intro d
    induction d with
    | zero =>
      intro s hs
      exact q_X12_answersOf_4 _ _ _ _ ⟨fun _ => rd_i (by rw [show s = 64 by omega]), fun c => absurd (nI_le (a := 64) (by omega) (by omega)) c⟩
    | succ d ih =>
      intro s hs
      have ih := ih (s + 1) (by omega)
      refine q_X12_answersOf_4 _ _ _ _ ⟨fun c => absurd ((nI_leI (a := 64) (by decide) (by omega)).mp c) (by omega), fun _ => ⟨h.1.rc, (rr_isAnswer h v hq (by omega)).use ⟨fun c => ?_, fun c => ?_⟩⟩⟩
      · rw [nI_p0, nI_1]
        rw [fa_cnt_no (b2_0.mp c)] at ih
        exact ih
      · rw [nI_1, nI_1]
        rw [fa_cnt_yes (b2_n0.mp c)] at ih
        exact ih
  exact q_X12_answersOf _ _ (loop 64 0 rfl)
theorem rr_answers (h : RQ g σ R S X A hh) (v : Iv S) (x : Int32) : Rd g M_X12_answers [.ref (R 300), .int x] σ (v_answers S x) := by
  have h8 := v.q8
  unfold v_answers
  refine q_X12_answers _ _ ⟨h.1.rc, (rr_isQuestion h h8 x).use ⟨fun c => rd_i ?_, fun c => ⟨h.1.rc, ?_⟩⟩⟩
  · rw [if_f (b2_0.mp c)]
  · have c := b2_n0.mp c
    obtain ⟨q, hq, rfl⟩ := inR_of c (by omega)
    rw [if_t c, nn_i (by omega)]
    exact (rr_answersOf h v hq).use (rd_i rfl)
theorem rr_bound (h : RQ g σ R S X A hh) (v : Iv S) (x y z : Int32) : Rd g M_X12_bound [.ref (R 300), .int x, .int y, .int z] σ (v_bound S x y z) := by
  have h8 := v.q8
  unfold v_bound
  refine q_X12_bound _ _ _ _ ⟨h.1.rc, (rr_isQuestion h h8 x).use ⟨fun c => rd_i ?_, fun c => (rd_inR y 3 (by decide)).use ⟨fun c2 => (rd_inR z 1 (by decide)).use ⟨fun c3 => rd_i ?_, fun c3 => ?_⟩, fun c2 => rd_i ?_⟩⟩⟩
  · rw [if_f (b2_0.mp c)]
  · have c3 := b2_0.mp c3
    rw [if_t (b2_n0.mp c), if_t (b2_n0.mp c2)]
    unfold v_bd
    rw [if_neg (fun y => by rw [y] at c3; cases c3), if_neg (fun y => by rw [y] at c3; cases c3)]
  · have c := b2_n0.mp c
    have c2 := b2_n0.mp c2
    obtain ⟨q, hq, rfl⟩ := inR_of c (by omega)
    obtain ⟨j, hj, rfl⟩ := inR_of c2 (by decide)
    obtain ⟨k, hk, rfl⟩ := inR_of (b2_n0.mp c3) (by decide)
    rw [if_t c, if_t c2, nn_i (by omega), nn_i (by omega)]
    refine h.1.r 15 (fun _ _ _ => rfl) (h.1.a 15 rfl rfl (by rw [i82, nI_add]) (show _ < 64 by omega) (rd_i ?_))
    rcases (show k = 0 ∨ k = 1 by omega) with rfl | rfl
    · rw [Nat.add_zero, ((h.que.2 q hq).1 j hj).1]; rfl
    · rw [((h.que.2 q hq).1 j hj).2]; rfl
  · rw [if_t (b2_n0.mp c), if_f (b2_0.mp c2)]
theorem nI_subI {a b : Int32} (ha : 0 ≤ a.toInt ∧ a.toInt ≤ 99) (hb : 0 ≤ b.toInt ∧ b.toInt ≤ 99) : (a - b < 0 ↔ a < b) ∧ (a - b = 0 ↔ a = b) := by
  obtain ⟨m, hm, rfl⟩ := I_of (x := a) (n := 100) ha.1 (by omega) (by decide)
  obtain ⟨n, hn, rfl⟩ := I_of (x := b) (n := 100) hb.1 (by omega) (by decide)
  have key : ∀ m, m < 100 → ∀ n, n < 100 → (nI m - nI n < 0 ↔ nI m < nI n) ∧ (nI m - nI n = 0 ↔ nI m = nI n) := by decide +kernel
  exact key m hm n hn
theorem fa_first_s (p : Nat → Bool) (n s : Nat) (hs : s < n) (hno : ∀ j, j < s → p j = false) (hp : p s = true) : fa_first p n = s := fa_first_is hs hp hno
theorem rr_answer (h : RQ g σ R S X A hh) (v : Iv S) (x y : Int32) : Rd g M_X12_answer [.ref (R 300), .int x, .int y] σ (v_answer S x y) := by
  have h8 := v.q8
  unfold v_answer
  refine q_X12_answer _ _ _ ⟨h.1.rc, (rr_isQuestion h h8 x).use ⟨fun c => h.1.r 17 (fun _ _ _ => rfl) ?_, fun c => rd_i ?_⟩⟩
  · have c := b2_n0.mp c
    obtain ⟨q, hq, rfl⟩ := inR_of c (by omega)
    rw [if_t c, nn_i (by omega)]
    refine h.1.a 17 rfl rfl rfl (show q < 8 by omega) ?_
    obtain ⟨-, -, e17, -⟩ := h.que.2 q hq
    rw [e17]
    generalize hd : zQ S q = d
    generalize hP : q_ans S q = P
    have hso : srtOk d := hd ▸ v.srt hq
    have hPt : ∀ t, t < 64 → P t = true → zt S t = true := fun t ht z => by
      rw [← hP] at z
      exact ((rowsW_iff v.cl _ ht).mp z).1
    have ev : v_plc S q y = if plcd (zf S) d P y < 64 then nI (plcd (zf S) d P y) else -1 := by unfold v_plc; rw [hd, hP]
    rw [ev]
    have outer : ∀ (e s : Nat), s + e = 64 → (∀ j, j < s → (P j && decide (nI (fa_cnt (aheadA (zf S) d P j) 64) = y)) = false) → J_X12_answer_21 g (kI fun v σ' => σ' = σ ∧ v = if plcd (zf S) d P y < 64 then nI (plcd (zf S) d P y) else -1) σ (R 300) (nI q) y d.2.2.2.1 (nI s) := by
      intro e
      induction e with
      | zero =>
        intro s hs hno
        refine q_X12_answer_21 _ _ _ _ _ ⟨fun _ => rd_i ?_, fun c => absurd (nI_le (a := 64) (by omega) (by omega)) c⟩
        unfold plcd
        rw [fa_first_all (fun j hj => hno j (by omega)), if_neg (by decide)]
      | succ e ih =>
        intro s hs hno
        have ih := ih (s + 1) (by omega)
        refine q_X12_answer_21 _ _ _ _ _ ⟨fun c => absurd ((nI_leI (a := 64) (by decide) (by omega)).mp c) (by omega), fun _ => ⟨h.1.rc, (rr_isAnswer h v hq (by omega)).use ⟨fun c => ?_, fun c => ?_⟩⟩⟩
        · have c := b2_0.mp c
          rw [hP] at c
          rw [nI_1]
          refine ih fun j hj => ?_
          by_cases z : j = s
          · rw [z, c]; rfl
          · exact hno j (by omega)
        · have c := b2_n0.mp c
          rw [hP] at c
          have inner : ∀ (k t : Nat), t + k = 64 → J_X12_answer_44 g (kI fun v σ' => σ' = σ ∧ v = if plcd (zf S) d P y < 64 then nI (plcd (zf S) d P y) else -1) σ (R 300) (nI q) y d.2.2.2.1 (nI s) (nI (fa_cnt (aheadA (zf S) d P s) t)) (nI t) := by
            intro k
            induction k with
            | zero =>
              intro t ht
              refine q_X12_answer_44 _ _ _ _ _ _ _ ⟨fun _ => ⟨fun c2 => ?_, fun c2 => rd_i ?_⟩, fun c => absurd (nI_le (a := 64) (by omega) (by omega)) c⟩
              · rw [show t = 64 by omega] at c2
                rw [nI_1]
                refine ih fun j hj => ?_
                by_cases z : j = s
                · rw [z, c, decide_eq_false c2]; rfl
                · exact hno j (by omega)
              · rw [show t = 64 by omega] at c2
                have e1 : plcd (zf S) d P y = s := fa_first_is (by omega) (by rw [c, decide_eq_true c2]; rfl) hno
                rw [e1, if_pos (by omega)]
            | succ k ihk =>
              intro t ht
              have ihk := ihk (t + 1) (by omega)
              have j83 : ∀ t0 : Int32, (P t = true → (t0 < 0 ↔ srtV (zf S) d t < srtV (zf S) d s) ∧ (t0 = 0 ↔ srtV (zf S) d t = srtV (zf S) d s)) → J_X12_answer_83 g (kI fun v σ' => σ' = σ ∧ v = if plcd (zf S) d P y < 64 then nI (plcd (zf S) d P y) else -1) σ (R 300) (nI q) y d.2.2.2.1 (nI s) (nI (fa_cnt (aheadA (zf S) d P s) t)) (nI t) t0 := by
                intro t0 h0
                refine q_X12_answer_83 _ _ _ _ _ _ _ _ ⟨h.1.rc, (rr_isAnswer h v hq (by omega)).use ?_⟩
                rw [hP]
                have yes : aheadA (zf S) d P s t = true → J_X12_answer_44 g (kI fun v σ' => σ' = σ ∧ v = if plcd (zf S) d P y < 64 then nI (plcd (zf S) d P y) else -1) σ (R 300) (nI q) y d.2.2.2.1 (nI s) (nI (fa_cnt (aheadA (zf S) d P s) t) + 1) (nI t + 1) := by
                  intro z
                  rw [fa_cnt_yes z] at ihk
                  rw [nI_1, nI_1]
                  exact ihk
                have no : aheadA (zf S) d P s t = false → J_X12_answer_44 g (kI fun v σ' => σ' = σ ∧ v = if plcd (zf S) d P y < 64 then nI (plcd (zf S) d P y) else -1) σ (R 300) (nI q) y d.2.2.2.1 (nI s) (nI (fa_cnt (aheadA (zf S) d P s) t) + 0) (nI t + 1) := by
                  intro z
                  rw [fa_cnt_no z] at ihk
                  rw [nI_p0, nI_1]
                  exact ihk
                refine ⟨fun c1 => no ?_, fun c1 => ?_⟩
                · unfold aheadA; rw [b2_0.mp c1]; rfl
                · have c1 := b2_n0.mp c1
                  have h0 := h0 c1
                  refine ⟨fun c2 => yes ?_, fun c2 => ⟨fun c3 => no ?_, fun c3 => ⟨fun c4 => no ?_, fun c4 => yes ?_⟩⟩⟩
                  · unfold aheadA; rw [c1, decide_eq_true (h0.1.mp c2)]; rfl
                  · unfold aheadA; rw [c1, decide_eq_false (fun z => c2 (h0.1.mpr z)), decide_eq_false (fun z => c3 (h0.2.mpr z))]; rfl
                  · have c4 := (nI_leI (by omega) (by omega)).mp c4
                    unfold aheadA; rw [c1, decide_eq_false (fun z => c2 (h0.1.mpr z)), decide_eq_false (show ¬ t < s by omega), Bool.and_false]; rfl
                  · have c4 : t < s := Nat.lt_of_not_le fun z => c4 (nI_le z (by omega))
                    unfold aheadA; rw [c1, decide_eq_true (h0.2.mp c3), decide_eq_true c4]; simp
              refine q_X12_answer_44 _ _ _ _ _ _ _ ⟨fun c => absurd ((nI_leI (a := 64) (by decide) (by omega)).mp c) (by omega), fun _ => ⟨fun c2 => ?_, fun c2 => ?_⟩⟩
              · rcases hso with z | ⟨cc, hcc, z⟩
                · exact absurd z c2
                · rw [z]
                  refine h.1.r 1 (fun _ _ _ => rfl) (h.1.a 1 rfl rfl (i4 t cc) (show _ < 256 by omega) (h.1.r 1 (fun _ _ _ => rfl) (h.1.a 1 rfl rfl (i4 s cc) (show _ < 256 by omega) ?_)))
                  rw [h.tab.2.2.2 _ (by omega), h.tab.2.2.2 _ (by omega), ← z]
                  refine j83 _ fun hp => ?_
                  have e1 : ∀ s, srtV (zf S) d s = zf S (4 * s + cc) := fun s => by unfold srtV; rw [if_neg c2, z, nn_i (by omega)]
                  rw [e1, e1]
                  exact nI_subI (v.cl t (by omega) (hPt t (by omega) hp) cc hcc) (v.cl s (by omega) (hPt s (by omega) c) cc hcc)
              · refine j83 _ fun hp => ?_
                have e1 : ∀ s, srtV (zf S) d s = 0 := fun s => by unfold srtV; rw [if_pos c2]
                rw [e1, e1]
                exact ⟨Iff.rfl, Iff.rfl⟩
          exact inner 64 0 rfl
    exact outer 64 0 rfl (fun j hj => absurd hj (by omega))
  · rw [if_f (b2_0.mp c)]
end RQA
