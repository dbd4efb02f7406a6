/-! ===== the class Question: b 0 itself, b 1 and b 3 its Numbers (leasts, greatests) over b 2, b 4 ===== -/
def m4 (p0 p1 p2 p3 : Bool) : Nat := (if p0 then 1 else 0) + (if p1 then 2 else 0) + (if p2 then 4 else 0) + (if p3 then 8 else 0)
theorem m4_lt : ∀ p0 p1 p2 p3, m4 p0 p1 p2 p3 < 16 := by decide
theorem m4_bit : ∀ p0 p1 p2 p3, (m4 p0 p1 p2 p3).testBit 0 = p0 ∧ (m4 p0 p1 p2 p3).testBit 1 = p1 ∧ (m4 p0 p1 p2 p3).testBit 2 = p2 ∧ (m4 p0 p1 p2 p3).testBit 3 = p3 := by decide
theorem m4_set : ∀ p0 p1 p2 p3 c, c < 4 → m4 p0 p1 p2 p3 ||| 2 ^ c = m4 (p0 || decide (0 = c)) (p1 || decide (1 = c)) (p2 || decide (2 = c)) (p3 || decide (3 = c)) := by
  intro p0 p1 p2 p3 c hc
  rcases (show c = 0 ∨ c = 1 ∨ c = 2 ∨ c = 3 by omega) with rfl | rfl | rfl | rfl <;> (revert p0 p1 p2 p3; decide)
theorem m4_del : ∀ p0 p1 p2 p3 c, c < 4 → (if (m4 p0 p1 p2 p3).testBit c then m4 p0 p1 p2 p3 - 2 ^ c else m4 p0 p1 p2 p3) = m4 (p0 && !decide (0 = c)) (p1 && !decide (1 = c)) (p2 && !decide (2 = c)) (p3 && !decide (3 = c)) := by
  intro p0 p1 p2 p3 c hc
  rcases (show c = 0 ∨ c = 1 ∨ c = 2 ∨ c = 3 by omega) with rfl | rfl | rfl | rfl <;> (revert p0 p1 p2 p3; decide)
theorem m4_or : ∀ p0 p1 p2 p3 q0 q1 q2 q3, m4 p0 p1 p2 p3 ||| m4 q0 q1 q2 q3 = m4 (p0 || q0) (p1 || q1) (p2 || q2) (p3 || q3) := by decide
theorem m4_and : ∀ p0 p1 p2 p3 q0 q1 q2 q3, m4 p0 p1 p2 p3 &&& m4 q0 q1 q2 q3 = m4 (p0 && q0) (p1 && q1) (p2 && q2) (p3 && q3) := by decide
def mk4 (P : Nat → Bool) : Nat := m4 (P 0) (P 1) (P 2) (P 3)
theorem mk4_lt (P : Nat → Bool) : mk4 P < 16 := m4_lt _ _ _ _
theorem mk4_bit (P : Nat → Bool) : ∀ c, c < 4 → (mk4 P).testBit c = P c := by
  intro c hc
  obtain ⟨h0, h1, h2, h3⟩ := m4_bit (P 0) (P 1) (P 2) (P 3)
  rcases (show c = 0 ∨ c = 1 ∨ c = 2 ∨ c = 3 by omega) with rfl | rfl | rfl | rfl
  · exact h0
  · exact h1
  · exact h2
  · exact h3
theorem mk4_cong {P Q : Nat → Bool} (h : ∀ c, c < 4 → P c = Q c) : mk4 P = mk4 Q := by
  unfold mk4
  rw [h 0 (by omega), h 1 (by omega), h 2 (by omega), h 3 (by omega)]
theorem mk4_set (P : Nat → Bool) : ∀ c, c < 4 → mk4 P ||| 2 ^ c = mk4 (fun j => P j || decide (j = c)) := fun c hc => m4_set _ _ _ _ c hc
theorem mk4_del (P : Nat → Bool) : ∀ c, c < 4 → (if (mk4 P).testBit c then mk4 P - 2 ^ c else mk4 P) = mk4 (fun j => P j && !decide (j = c)) := fun c hc => m4_del _ _ _ _ c hc
theorem mk4_or (P Q : Nat → Bool) : mk4 P ||| mk4 Q = mk4 (fun j => P j || Q j) := m4_or _ _ _ _ _ _ _ _
theorem mk4_and (P Q : Nat → Bool) : mk4 P &&& mk4 Q = mk4 (fun j => P j && Q j) := m4_and _ _ _ _ _ _ _ _
/-- what a question says: least and greatest of each column, what is shown, by what it is sorted, its weight -/
abbrev QD : Type := (Nat → Int32) × (Nat → Int32) × (Nat → Bool) × Int32 × Int32
def isB (d : QD) (c : Nat) : Bool := decide (¬ d.1 c = 0 ∨ ¬ d.2.1 c = 99)
def isF (d : QD) (c : Nat) : Bool := decide (d.1 c = d.2.1 c)
def srtOk (d : QD) : Prop := d.2.2.2.1 = -1 ∨ ∃ c, c < 4 ∧ d.2.2.2.1 = nI c
def qc (b : Nat → Nat) (d : QD) : va_E := .inr (6, [.ref (b 1), .ref (b 3), .int (nI (mk4 (isB d))), .int (nI (mk4 (isF d))), .int (nI (mk4 d.2.2.1)), .int d.2.2.2.1, .int d.2.2.2.2])
def QAt (g : GG) (σ : Hs) (b : Nat → Nat) (d : QD) : Prop := Ce σ (b 0) (qc b d) ∧ NumAt g σ (b 1) (b 2) 4 d.1 ∧ NumAt g σ (b 3) (b 4) 4 d.2.1 ∧ b 2 ≠ b 4
def qup (g : GG) (σ : Hs) (b : Nat → Nat) (d : QD) : Hs := hup (hup (hup σ (b 2) (aI g 4 d.1)) (b 4) (aI g 4 d.2.1)) (b 0) (qc b d)
section QUE
variable {g : GG} {σ : Hs} {b : Nat → Nat} {d : QD}
theorem QAt.keep (h : QAt g σ b d) (d' : QD) : QAt g (qup g σ b d') b d' := by
  obtain ⟨h0, h1, h3, h24⟩ := h
  refine ⟨((h0.upo (ne_oa h0 h1.2.1)).upo (ne_oa h0 h3.2.1)).up _, ?_, ?_, h24⟩
  · exact ⟨((h1.1.upo (ne_oa h1.1 h1.2.1)).upo (ne_oa h1.1 h3.2.1)).upo (ne_cl h1.1 h0 (by decide)), ((h1.2.1.up _).upo h24).upo (ne_oa h0 h1.2.1).symm, h1.2.2⟩
  · exact ⟨((h3.1.upo (ne_oa h3.1 h1.2.1)).upo (ne_oa h3.1 h3.2.1)).upo (ne_cl h3.1 h0 (by decide)), ((h3.2.1.upo h24.symm).up _).upo (ne_oa h0 h3.2.1).symm, h3.2.2⟩
theorem qup_qup (d1 d2 : QD) : qup g (qup g σ b d1) b d2 = qup g σ b d2 := by
  unfold qup hup
  congr 1
  funext j
  simp only [va_up]
  by_cases h1 : j = b 0
  · simp [h1]
  · by_cases h2 : j = b 4
    · simp [h1, h2]
    · by_cases h3 : j = b 2
      · simp [h1, h2, h3]
      · simp [h1, h2, h3]
theorem QAt.self (h : QAt g σ b d) : qup g σ b d = σ := by
  unfold qup
  rw [hup_self h.2.1.2.1, hup_self h.2.2.1.2.1, hup_self h.1]
theorem rd_qleast (h : QAt g σ b d) {c : Nat} (hc : c < 4) : Rd g M_X6_least [.ref (b 0), .int (nI c)] σ (d.1 c) := q_X6_least _ _ (FR.of h.1 rfl ⟨Rc.of h.2.1.1, (rd_atn h.2.1 hc).use (rd_i rfl)⟩)
theorem rd_qgreatest (h : QAt g σ b d) {c : Nat} (hc : c < 4) : Rd g M_X6_greatest [.ref (b 0), .int (nI c)] σ (d.2.1 c) := q_X6_greatest _ _ (FR.of h.1 rfl ⟨Rc.of h.2.2.1.1, (rd_atn h.2.2.1 hc).use (rd_i rfl)⟩)
theorem rd_qletsNone (h : QAt g σ b d) {c : Nat} (hc : c < 4) : Rd g M_X6_letsNone [.ref (b 0), .int (nI c)] σ (b2 (decide (d.2.1 c < d.1 c))) := by
  refine q_X6_letsNone _ _ ⟨Rc.of h.1, (rd_qleast h hc).use ⟨Rc.of h.1, (rd_qgreatest h hc).use ⟨fun k => rd_i ?_, fun k => rd_i ?_⟩⟩⟩
  · rw [decide_eq_false (fun z => (fa_of_lt z).2.1 k)]; rfl
  · rw [decide_eq_true (fa_of_nle k)]; rfl
theorem rd_qisBound (h : QAt g σ b d) {c : Nat} (hc : c < 4) : Rd g M_X6_isBound [.ref (b 0), .int (nI c)] σ (b2 (isB d c)) := by
  have hm := mk4_lt (isB d)
  refine q_X6_isBound _ _ (FI.of h.1 rfl ((rd_has (by omega) (by omega)).use ?_))
  rw [mk4_bit _ c hc]
  exact ⟨b2_nar _, rd_i rfl⟩
theorem rd_qisFixed (h : QAt g σ b d) {c : Nat} (hc : c < 4) : Rd g M_X6_isFixed [.ref (b 0), .int (nI c)] σ (b2 (isF d c)) := by
  have hm := mk4_lt (isF d)
  refine q_X6_isFixed _ _ (FI.of h.1 rfl ((rd_has (by omega) (by omega)).use ?_))
  rw [mk4_bit _ c hc]
  exact ⟨b2_nar _, rd_i rfl⟩
theorem rd_qshows (h : QAt g σ b d) {c : Nat} (hc : c < 4) : Rd g M_X6_shows [.ref (b 0), .int (nI c)] σ (b2 (d.2.2.1 c)) := by
  have hm := mk4_lt d.2.2.1
  refine q_X6_shows _ _ (FI.of h.1 rfl ((rd_has (by omega) (by omega)).use ?_))
  rw [mk4_bit _ c hc]
  exact ⟨b2_nar _, rd_i rfl⟩
theorem rd_qsortColumn (h : QAt g σ b d) : Rd g M_X6_sortColumn [.ref (b 0)] σ d.2.2.2.1 := q_X6_sortColumn _ (FI.of h.1 rfl (rd_i rfl))
theorem rd_qheft (h : QAt g σ b d) : Rd g M_X6_heft [.ref (b 0)] σ d.2.2.2.2 := q_X6_heft _ (FI.of h.1 rfl (rd_i rfl))
theorem QAt.setC (h : QAt g σ b d) (d' : QD) (e1 : d'.1 = d.1) (e2 : d'.2.1 = d.2.1) : hup σ (b 0) (qc b d') = qup g σ b d' := by
  unfold qup
  rw [e1, e2, hup_self h.2.1.2.1, hup_self h.2.2.1.2.1]
theorem wr_qweigh (h : QAt g σ b d) (x : Int32) : Wr g M_X6_weigh [.ref (b 0), .int x] σ (qup g σ b (d.1, d.2.1, d.2.2.1, d.2.2.2.1, x)) := by
  refine q_X6_weigh _ _ (PF.of h.1 (by show 6 < 7; decide) rfl ?_)
  have e := h.setC (d.1, d.2.1, d.2.2.1, d.2.2.2.1, x) rfl rfl
  show kV _ none (hup σ (b 0) (qc b (d.1, d.2.1, d.2.2.1, d.2.2.2.1, x)))
  rw [e]
  exact wr_v
theorem wr_qsortBy (h : QAt g σ b d) (x : Int32) : Wr g M_X6_sortBy [.ref (b 0), .int x] σ (qup g σ b (d.1, d.2.1, d.2.2.1, x, d.2.2.2.2)) := by
  refine q_X6_sortBy _ _ (PF.of h.1 (by show 5 < 7; decide) rfl ?_)
  have e := h.setC (d.1, d.2.1, d.2.2.1, x, d.2.2.2.2) rfl rfl
  show kV _ none (hup σ (b 0) (qc b (d.1, d.2.1, d.2.2.1, x, d.2.2.2.2)))
  rw [e]
  exact wr_v
theorem wr_qshow (h : QAt g σ b d) {c : Nat} (hc : c < 4) : Wr g M_X6_show [.ref (b 0), .int (nI c)] σ (qup g σ b (d.1, d.2.1, (fun j => d.2.2.1 j || decide (j = c)), d.2.2.2)) := by
  have hm := mk4_lt d.2.2.1
  refine q_X6_show _ _ (FI.of h.1 rfl ((rd_with (by omega) (by omega)).use (PF.of h.1 (by show 4 < 7; decide) rfl ?_)))
  have e := h.setC (d.1, d.2.1, (fun j => d.2.2.1 j || decide (j = c)), d.2.2.2) rfl rfl
  rw [mk4_set _ c hc]
  show kV _ none (hup σ (b 0) (qc b (d.1, d.2.1, (fun j => d.2.2.1 j || decide (j = c)), d.2.2.2)))
  rw [e]
  exact wr_v
theorem rd_qmustSort (h : QAt g σ b d) (hs : srtOk d) : Rd g M_X6_mustSort [.ref (b 0)] σ (b2 (decide (¬ d.2.2.2.1 = -1) && !isF d d.2.2.2.1.toInt.toNat)) := by
  refine q_X6_mustSort _ (FI.of h.1 rfl ⟨fun c => rd_i ?_, fun c => FI.of h.1 rfl ⟨Rc.of h.1, ?_⟩⟩)
  · rw [decide_eq_false (fun z => z c)]; rfl
  · rcases hs with hs | ⟨k, hk, hs⟩
    · exact absurd hs c
    · rw [decide_eq_true c]
      rw [show (Value.int d.2.2.2.1) = .int (nI k) from by rw [hs]]
      refine (rd_qisFixed h hk).use ?_
      rw [hs, I_n (by omega), show ((k : Int).toNat) = k by omega]
      refine ⟨fun c2 => rd_i ?_, fun c2 => rd_i ?_⟩
      · rw [b2_n0.mp c2]; rfl
      · rw [b2_0.mp c2]; rfl
/-- columns that a way must see -/
def usedC (d : QD) (c : Nat) : Bool := (isB d c || d.2.2.1 c) || decide (d.2.2.2.1 = nI c)
theorem nI_neg {k : Nat} (h : k < 2 ^ 31) : ¬ nI k = -1 := by
  intro e
  have := congrArg Int32.toInt e
  rw [I_n h] at this
  exact absurd this (by show ¬ ((k : Int) = -1); omega)
theorem rd_qusedColumns (h : QAt g σ b d) (hs : srtOk d) : Rd g M_X6_usedColumns [.ref (b 0)] σ (nI (mk4 (usedC d))) := by
  have ho : nI (mk4 (isB d)) ||| nI (mk4 d.2.2.1) = nI (mk4 (fun j => isB d j || d.2.2.1 j)) := by rw [fa_or, mk4_or]
  refine q_X6_usedColumns _ (FI.of h.1 rfl (FI.of h.1 rfl (FI.of h.1 rfl ⟨fun c => FI.of h.1 rfl ?_, fun c => rd_i ?_⟩)))
  · rcases hs with hs | ⟨k, hk, hs⟩
    · exact absurd hs c
    · rw [ho, show (Value.int d.2.2.2.1) = .int (nI k) from by rw [hs]]
      have hm := mk4_lt (fun j => isB d j || d.2.2.1 j)
      refine (rd_with (by omega) (by omega)).use (rd_i ?_)
      rw [mk4_set _ k hk]
      refine congrArg nI (mk4_cong fun j hj => ?_)
      unfold usedC
      rw [hs]
      congr 1
      exact decide_eq_decide.mpr ⟨fun e => by rw [e], fun e => ((nI_eq (by omega) (by omega)).mp e).symm⟩
  · rw [ho]
    refine congrArg nI (mk4_cong fun j hj => ?_)
    unfold usedC
    rw [decide_eq_false (p := d.2.2.2.1 = nI j) (by rw [c]; exact fun e => nI_neg (by omega) e.symm), Bool.or_false]
/-! rows within bounds -/
def wi1 (f : Nat → Int32) (d : QD) (c s : Nat) : Bool := decide (d.1 c ≤ f (4 * s + c)) && decide (f (4 * s + c) ≤ d.2.1 c)
/-- within the bounds of those columns below n that are in P and bound -/
def wiN (f : Nat → Int32) (d : QD) (P : Nat → Bool) (s : Nat) : Nat → Bool
  | 0 => true
  | c + 1 => wiN f d P s c && (!(P c && isB d c) || wi1 f d c s)
def rowsW (f : Nat → Int32) (tk : Nat → Bool) (d : QD) (P : Nat → Bool) : Nat → Bool := fun s => tk s && wiN f d P s 4
theorem and_lt {m n k : Nat} (h : m < 2 ^ k) : m &&& n < 2 ^ k := Nat.lt_of_le_of_lt Nat.and_le_left h
theorem rd_qrowsWithin {t q tq wd : Nat} {f : Nat → Int32} {tk : Nat → Bool} (h : QAt g σ b d) (ht : TabAt g σ t q tq f tk wd) {m : Nat} (hm : m < 16) : RdL g M_X6_rowsWithin [.ref (b 0), .ref t, .int (nI m)] σ (mk64 (rowsW f tk d m.testBit)) := by
  refine q_X6_rowsWithin _ _ _ ⟨Rc.of ht.1, (rd_taken ht).use ?_⟩
  have loop : ∀ (e k : Nat), k + e = 4 → J_X6_rowsWithin_8 g (kL fun x σ' => σ' = σ ∧ x = mk64 (rowsW f tk d m.testBit)) σ (b 0) t (nI m) (mk64 fun s => tk s && wiN f d m.testBit s k) (nI k) := by
    intro e
    induction e with
    | zero =>
      intro k hk
      exact q_X6_rowsWithin_8 _ _ _ _ _ ⟨fun _ => rd_l (by rw [show k = 4 by omega]; rfl), fun c => absurd ((n_le (n := 4) (by decide)).mpr (by rw [I_n (by omega)]; omega)) c⟩
    | succ e ih =>
      intro k hk
      have ih := ih (k + 1) (by omega)
      refine q_X6_rowsWithin_8 _ _ _ _ _ ⟨fun c => absurd ((n_le (n := 4) (by decide)).mp c) (by rw [I_n (by omega)]; omega), fun _ => FI.of h.1 rfl ?_⟩
      rw [fa_and]
      have hlt : m &&& mk4 (isB d) < 2 ^ 4 := and_lt hm
      refine (rd_has (by omega) (by omega)).use ?_
      rw [Nat.testBit_and, mk4_bit _ k (by omega)]
      refine ⟨fun c => ?_, fun c => ⟨Rc.of h.1, (rd_qleast h (by omega)).use ⟨Rc.of h.1, (rd_qgreatest h (by omega)).use ⟨Rc.of ht.1, (rd_rowsWithin8 ht (by omega) _ _).use ?_⟩⟩⟩⟩
      · rw [nI_1]
        have c := b2_0.mp c
        rw [show (mk64 fun s => tk s && wiN f d m.testBit s k) = mk64 fun s => tk s && wiN f d m.testBit s (k + 1) from mk_cong fun s _ => by simp only [wiN]; rw [c]; simp]
        exact ih
      · rw [nI_1, mk_and]
        have c := b2_n0.mp c
        rw [show (mk64 fun s => (tk s && wiN f d m.testBit s k) && (tk s && (decide (d.1 k ≤ f (4 * s + k)) && decide (f (4 * s + k) ≤ d.2.1 k)))) = mk64 fun s => tk s && wiN f d m.testBit s (k + 1) from mk_cong fun s _ => by
          simp only [wiN, wi1]
          rw [c]
          cases tk s <;> simp]
        exact ih
  have h0 := loop 4 0 rfl
  rw [show (mk64 fun s => tk s && wiN f d m.testBit s 0) = mk64 tk from mk_cong fun s _ => by simp [wiN]] at h0
  exact h0
/-- the number by which a row is sorted -/
def srtV (f : Nat → Int32) (d : QD) (s : Nat) : Int32 := if d.2.2.2.1 = -1 then 0 else f (4 * s + d.2.2.2.1.toInt.toNat)
theorem rd_qsortNumber {t q tq wd : Nat} {f : Nat → Int32} {tk : Nat → Bool} (h : QAt g σ b d) (ht : TabAt g σ t q tq f tk wd) (hs : srtOk d) {s : Nat} (hs2 : s < 64) : Rd g M_X6_sortNumber [.ref (b 0), .ref t, .int (nI s)] σ (srtV f d s) := by
  refine q_X6_sortNumber _ _ _ (FI.of h.1 rfl ⟨fun c => FI.of h.1 rfl ⟨Rc.of ht.1, ?_⟩, fun c => rd_i ?_⟩)
  · rcases hs with hs | ⟨k, hk, hs⟩
    · exact absurd hs c
    · rw [show (Value.int d.2.2.2.1) = .int (nI k) from by rw [hs]]
      refine (rd_number ht hs2 hk).use (rd_i ?_)
      unfold srtV
      rw [if_neg c, hs, I_n (by omega), show ((k : Int).toNat) = k by omega]
  · unfold srtV
    rw [if_pos c]
/-- is the row of slot t ahead of the row of slot s in an answer P? -/
def aheadA (f : Nat → Int32) (d : QD) (P : Nat → Bool) (s t : Nat) : Bool := P t && (decide (srtV f d t < srtV f d s) || (decide (srtV f d t = srtV f d s) && decide (t < s)))
theorem rd_qrowsAhead {t q tq wd : Nat} {f : Nat → Int32} {tk : Nat → Bool} (h : QAt g σ b d) (ht : TabAt g σ t q tq f tk wd) (hs : srtOk d) (P : Nat → Bool) {s : Nat} (hs2 : s < 64) : Rd g M_X6_rowsAhead [.ref (b 0), .ref t, .long (mk64 P), .int (nI s)] σ (nI (fa_cnt (aheadA f d P s) 64)) := by
  refine q_X6_rowsAhead _ _ _ _ ⟨Rc.of h.1, (rd_qsortNumber h ht hs hs2).use ?_⟩
  have loop : ∀ (e k : Nat), k + e = 64 → J_X6_rowsAhead_15 g (kI fun x σ' => σ' = σ ∧ x = nI (fa_cnt (aheadA f d P s) 64)) σ (b 0) t (mk64 P) (nI s) (srtV f d s) (nI (fa_cnt (aheadA f d P s) k)) (nI k) := by
    intro e
    induction e with
    | zero =>
      intro k hk
      exact q_X6_rowsAhead_15 _ _ _ _ _ _ _ ⟨fun _ => rd_i (by rw [show k = 64 by omega]), fun c => absurd ((n_le (n := 64) (by decide)).mpr (by rw [I_n (by omega)]; omega)) c⟩
    | succ e ih =>
      intro k hk
      have ih := ih (k + 1) (by omega)
      have hno : aheadA f d P s k = false → J_X6_rowsAhead_15 g (kI fun x σ' => σ' = σ ∧ x = nI (fa_cnt (aheadA f d P s) 64)) σ (b 0) t (mk64 P) (nI s) (srtV f d s) (nI (fa_cnt (aheadA f d P s) k)) (nI (k + 1)) := fun z => by
        rw [fa_cnt_no z] at ih; exact ih
      have hyes : aheadA f d P s k = true → J_X6_rowsAhead_15 g (kI fun x σ' => σ' = σ ∧ x = nI (fa_cnt (aheadA f d P s) 64)) σ (b 0) t (mk64 P) (nI s) (srtV f d s) (nI (fa_cnt (aheadA f d P s) k + 1)) (nI (k + 1)) := fun z => by
        rw [fa_cnt_yes z] at ih; exact ih
      refine q_X6_rowsAhead_15 _ _ _ _ _ _ _ ⟨fun c => absurd ((n_le (n := 64) (by decide)).mp c) (by rw [I_n (by omega)]; omega), fun _ => ⟨Rc.of h.1, (rd_qsortNumber h ht hs (by omega)).use ((rd_hasSlot P (by omega)).use ⟨fun c => ?_, fun c => ⟨fun c2 => ?_, fun c2 => ⟨fun c3 => ?_, fun c3 => ⟨fun c4 => ?_, fun c4 => ?_⟩⟩⟩⟩)⟩⟩ <;> rw [nI_1]
      · exact hno (by unfold aheadA; rw [b2_0.mp c, Bool.false_and])
      · rw [nI_1]
        exact hyes (by unfold aheadA; rw [b2_n0.mp c, decide_eq_true c2]; rfl)
      · exact hno (by unfold aheadA; rw [decide_eq_false c2, decide_eq_false c3]; simp)
      · have c4 := (nI_leI (by omega) (by omega)).mp c4
        exact hno (by unfold aheadA; rw [decide_eq_false c2, decide_eq_false (p := k < s) (by omega)]; simp)
      · have c4 : ¬ s ≤ k := fun z => c4 (nI_le z (by omega))
        rw [nI_1]
        exact hyes (by unfold aheadA; rw [b2_n0.mp c, decide_eq_true c3, decide_eq_true (p := k < s) (by omega)]; simp)
  exact loop 64 0 rfl
/-- the slot of the i-th row of an answer P -/
def plcd (f : Nat → Int32) (d : QD) (P : Nat → Bool) (x : Int32) : Nat := fa_first (fun s => P s && decide (nI (fa_cnt (aheadA f d P s) 64) = x)) 64
theorem fa_first_is {p : Nat → Bool} {n k : Nat} (hk : k < n) (hp : p k = true) (hj : ∀ j, j < k → p j = false) : fa_first p n = k := by
  rcases Nat.lt_trichotomy (fa_first p n) k with h2 | h2 | h2
  · have h3 := fa_first_yes p n (by omega)
    rw [hj _ h2] at h3
    cases h3
  · exact h2
  · have h3 := fa_first_no p n k h2
    rw [hp] at h3
    cases h3
theorem fa_first_all {p : Nat → Bool} {n : Nat} (hj : ∀ j, j < n → p j = false) : fa_first p n = n := by
  have h1 := fa_first_le p n
  rcases Nat.lt_or_ge (fa_first p n) n with h2 | h2
  · have h3 := fa_first_yes p n h2
    rw [hj _ h2] at h3
    cases h3
  · omega
theorem rd_qplaced {t q tq wd : Nat} {f : Nat → Int32} {tk : Nat → Bool} (h : QAt g σ b d) (ht : TabAt g σ t q tq f tk wd) (hs : srtOk d) (x : Int32) : Rd g M_X6_placed [.ref (b 0), .ref t, .int x] σ (if plcd f d (rowsW f tk d (15 : Nat).testBit) x < 64 then nI (plcd f d (rowsW f tk d (15 : Nat).testBit) x) else -1) := by
  refine q_X6_placed _ _ _ ⟨Rc.of h.1, ?_⟩
  show Do g M_X6_rowsWithin 0 0 [_, _, .int (nI 15)] σ _
  refine (rd_qrowsWithin h ht (by omega)).use ?_
  generalize hP : rowsW f tk d (15 : Nat).testBit = P
  have loop : ∀ (e k : Nat), k + e = 64 → (∀ j, j < k → (P j && decide (nI (fa_cnt (aheadA f d P j) 64) = x)) = false) → J_X6_placed_11 g (kI fun y σ' => σ' = σ ∧ y = (if plcd f d P x < 64 then nI (plcd f d P x) else -1)) σ (b 0) t x (mk64 P) (nI k) := by
    intro e
    induction e with
    | zero =>
      intro k hk hj
      refine q_X6_placed_11 _ _ _ _ _ ⟨fun _ => rd_i ?_, fun c => absurd ((n_le (n := 64) (by decide)).mpr (by rw [I_n (by omega)]; omega)) c⟩
      unfold plcd
      rw [fa_first_all (fun j hj2 => hj j (by omega)), if_neg (by omega)]
    | succ e ih =>
      intro k hk hj
      have next : (P k && decide (nI (fa_cnt (aheadA f d P k) 64) = x)) = false → J_X6_placed_11 g (kI fun y σ' => σ' = σ ∧ y = (if plcd f d P x < 64 then nI (plcd f d P x) else -1)) σ (b 0) t x (mk64 P) (nI (k + 1)) := fun z => ih (k + 1) (by omega) (fun j hj2 => by
        rcases Nat.lt_or_ge j k with h1 | h1
        · exact hj j h1
        · rw [show j = k by omega]; exact z)
      refine q_X6_placed_11 _ _ _ _ _ ⟨fun c => absurd ((n_le (n := 64) (by decide)).mp c) (by rw [I_n (by omega)]; omega), fun _ => (rd_hasSlot P (by omega)).use ⟨fun c => ?_, fun c => ⟨Rc.of h.1, (rd_qrowsAhead h ht hs P (by omega)).use ⟨fun c2 => ?_, fun c2 => rd_i ?_⟩⟩⟩⟩
      · rw [nI_1]; exact next (by rw [b2_0.mp c]; rfl)
      · rw [nI_1]; exact next (by rw [decide_eq_false c2]; simp)
      · have h1 : plcd f d P x = k := fa_first_is (by omega) (by rw [b2_n0.mp c, decide_eq_true c2]; rfl) hj
        rw [h1, if_pos (by omega)]
  exact loop 64 0 rfl (fun j hj => absurd hj (by omega))
end QUE
