/-! Pictures: the numbers sorted in, what pictures foretell. -/
/-- the place of v in the first n of F: behind all that aren't greater -/
def plF (F : Nat → Int32) (n : Nat) (v : Int32) : Nat := fa_first (fun j => decide (v < F j)) n
/-- how many rows so far, and their numbers of a column, sorted -/
def tkI (f : Nat → Int32) (tk : Nat → Bool) (c : Nat) (F : Nat → Int32) : Nat → Nat × (Nat → Int32)
  | 0 => (0, F)
  | s + 1 => if tk s then ((tkI f tk c F s).1 + 1, insF (tkI f tk c F s).2 (plF (tkI f tk c F s).2 (tkI f tk c F s).1 (f (4 * s + c))) (tkI f tk c F s).1 (f (4 * s + c))) else tkI f tk c F s
theorem tkI_s (f : Nat → Int32) (tk : Nat → Bool) (c : Nat) (F : Nat → Int32) (s : Nat) : tkI f tk c F (s + 1) = if tk s then ((tkI f tk c F s).1 + 1, insF (tkI f tk c F s).2 (plF (tkI f tk c F s).2 (tkI f tk c F s).1 (f (4 * s + c))) (tkI f tk c F s).1 (f (4 * s + c))) else tkI f tk c F s := rfl
theorem tkI_le (f : Nat → Int32) (tk : Nat → Bool) (c : Nat) (F : Nat → Int32) : ∀ s, (tkI f tk c F s).1 ≤ s
  | 0 => Nat.le_refl _
  | s + 1 => by
    have := tkI_le f tk c F s
    rw [tkI_s f tk c F s]
    split
    · show _ + 1 ≤ s + 1; omega
    · omega
theorem plF_le (F : Nat → Int32) (n : Nat) (v : Int32) : plF F n v ≤ n := fa_first_le _ _
/-- the first n of F: sorted, and each is a number of a row of the table -/
def srtF (F : Nat → Int32) (n : Nat) (Q : Int32 → Prop) : Prop := (∀ i j, i < j → j < n → F i ≤ F j) ∧ ∀ i, i < n → Q (F i)
theorem I_le_tr {x y z : Int32} (h1 : x ≤ y) (h2 : y ≤ z) : x ≤ z := by rw [I_le] at *; omega
theorem I_le_of_lt {x y : Int32} (h1 : x < y) : x ≤ y := by rw [I_le]; rw [I_lt] at h1; omega
theorem I_le_of_nlt {x y : Int32} (h1 : ¬ x < y) : y ≤ x := by rw [I_le]; rw [I_lt] at h1; omega
theorem I_nlt_of_le {x y : Int32} (h1 : x ≤ y) : ¬ y < x := by rw [I_lt]; rw [I_le] at h1; omega
theorem srtF.ins {F : Nat → Int32} {n : Nat} {Q : Int32 → Prop} (h : srtF F n Q) {v : Int32} (hv : Q v) : srtF (insF F (plF F n v) n v) (n + 1) Q := by
  have hp := plF_le F n v
  have h1 : ∀ i, i < plF F n v → F i ≤ v := fun i hi => I_le_of_nlt (of_decide_eq_false (fa_first_no (fun j => decide (v < F j)) n i hi))
  have h2 : ∀ i, plF F n v ≤ i → i < n → v ≤ F i := fun i hi hin => by
    have h3 : v < F (plF F n v) := of_decide_eq_true (fa_first_yes (fun j => decide (v < F j)) n (by unfold plF at hi; omega))
    rcases Nat.lt_or_ge (plF F n v) i with h4 | h4
    · exact I_le_tr (I_le_of_lt h3) (h.1 _ _ h4 hin)
    · rw [show i = plF F n v by omega]; exact I_le_of_lt h3
  generalize plF F n v = p at *
  constructor
  · intro i j hij hj
    unfold insF
    by_cases a1 : i < p
    · rw [if_pos a1]
      by_cases b1 : j < p
      · rw [if_pos b1]; exact h.1 i j hij (by omega)
      · rw [if_neg b1]
        by_cases b2 : j = p
        · rw [if_pos b2]; exact h1 i a1
        · rw [if_neg b2, if_pos (by omega)]; exact I_le_tr (h1 i a1) (h2 _ (by omega) (by omega))
    · rw [if_neg a1]
      by_cases a2 : i = p
      · rw [if_pos a2, if_neg (by omega), if_neg (by omega), if_pos (by omega)]; exact h2 _ (by omega) (by omega)
      · rw [if_neg a2, if_pos (by omega), if_neg (by omega), if_neg (by omega), if_pos (by omega)]; exact h.1 _ _ (by omega) (by omega)
  · intro i hi
    unfold insF
    by_cases a1 : i < p
    · rw [if_pos a1]; exact h.2 i (by omega)
    · rw [if_neg a1]
      by_cases a2 : i = p
      · rw [if_pos a2]; exact hv
      · rw [if_neg a2, if_pos (by omega)]; exact h.2 _ (by omega)
theorem tkI_srt {f : Nat → Int32} {tk : Nat → Bool} {c : Nat} {F : Nat → Int32} {Q : Int32 → Prop} : ∀ s, (∀ t, t < s → tk t = true → Q (f (4 * t + c))) → srtF (tkI f tk c F s).2 (tkI f tk c F s).1 Q
  | 0, _ => ⟨fun i j _ h => absurd h (Nat.not_lt_zero _), fun i h => absurd h (Nat.not_lt_zero _)⟩
  | s + 1, hQ => by
    have ih := tkI_srt s (F := F) (fun t ht => hQ t (by omega))
    rw [tkI_s f tk c F s]
    by_cases ht : tk s = true
    · rw [if_pos ht]; exact ih.ins (hQ s (by omega) ht)
    · rw [if_neg ht]; exact ih
/-- what the parts of sorted numbers are -/
theorem tkP_ok {n : Nat} {S : Nat → Int32} {P : PD} (hP : PicOk P) (hn : n ≤ 64) (hS : srtF S n (fun v => 0 ≤ v.toInt ∧ v.toInt ≤ 99)) : ∀ i, i ≤ 4 → PicOk (tkP n S P i)
  | 0, _ => hP
  | i + 1, hi => by
    have ih := tkP_ok hP hn hS i (by omega)
    have e1 : (i + 1) * n = i * n + n := Nat.succ_mul i n
    have hin : i * n ≤ 3 * n := Nat.mul_le_mul_right n (by omega)
    intro j hj
    obtain ⟨a1, a2, a3, a4⟩ := ih j hj
    show setN (tkP n S P i).2.1 i ((i + 1) * n / 4 - i * n / 4) j ≤ 16 ∧ 0 ≤ ((if i * n / 4 < (i + 1) * n / 4 then upd (tkP n S P i).2.2.1 i (S (i * n / 4)) else (tkP n S P i).2.2.1) j).toInt ∧ ((if i * n / 4 < (i + 1) * n / 4 then upd (tkP n S P i).2.2.1 i (S (i * n / 4)) else (tkP n S P i).2.2.1) j).toInt ≤ ((if i * n / 4 < (i + 1) * n / 4 then upd (tkP n S P i).2.2.2 i (S ((i + 1) * n / 4 - 1)) else (tkP n S P i).2.2.2) j).toInt ∧ ((if i * n / 4 < (i + 1) * n / 4 then upd (tkP n S P i).2.2.2 i (S ((i + 1) * n / 4 - 1)) else (tkP n S P i).2.2.2) j).toInt ≤ 99
    refine ⟨?_, ?_⟩
    · unfold setN
      split
      · omega
      · exact a1
    · by_cases c : i * n / 4 < (i + 1) * n / 4
      · rw [if_pos c, if_pos c]
        by_cases e : j = i
        · subst e
          rw [upd_same, upd_same]
          obtain ⟨b1, b2⟩ := hS.2 (j * n / 4) (by omega)
          obtain ⟨b3, b4⟩ := hS.2 ((j + 1) * n / 4 - 1) (by omega)
          refine ⟨b1, ?_, b4⟩
          rcases Nat.lt_or_ge (j * n / 4) ((j + 1) * n / 4 - 1) with h | h
          · exact I_le.mp (hS.1 _ _ h (by omega))
          · rw [show (j + 1) * n / 4 - 1 = j * n / 4 by omega]; exact Int.le_refl _
        · rw [upd_ne _ _ e, upd_ne _ _ e]
          exact ⟨a2, a3, a4⟩
      · rw [if_neg c, if_neg c]
        exact ⟨a2, a3, a4⟩
def PicsC (g : GG) (σ : Hs) (R : Nat → Nat) (pr : Nat) (F : Nat → Int32) (P : Nat → PD) : Prop := Ce σ (R 27) (.inr (5, [.ref (R 1), .ref (R 4), .ref (R 28), .ref (R 29), .int (nI pr)])) ∧ Ce σ (R 28) (aQ g 5 4 (pQ R)) ∧ NumAt g σ (R 29) (R 30) 64 F ∧ ∀ c, c < 4 → PicC g σ (pad R c) (P c)
theorem rd_quot {g : GG} {σ : Hs} {a b : Nat} (ha : a < 2 ^ 31) (hb : b < 2 ^ 31) : Rd g M_X11_quotient [.int (nI a), .int (nI b)] σ (nI (a / b)) := by
  rcases Nat.eq_zero_or_pos b with h | h
  · subst h
    rw [Nat.div_zero]
    exact q_X11_quotient _ _ ⟨fun _ => rd_i rfl, fun c => absurd (nI_le (a := 0) (b := 0) (by omega) (by omega)) c⟩
  · exact rd_quotient ha h hb
section PICS
variable {g : GG} {σ : Hs} {R : Nat → Nat} {T : Nat → Prop} {σ' : Hs} {told qn pr : Nat} {F : Nat → Int32} {P : Nat → PD} {f : Nat → Int32} {tk : Nat → Bool} {wd : Nat} {b : Nat → Nat} {d : QD}
theorem PicsC.sf (h : PicsC g σ R pr F P) (s : Sf R (Lv told qn) T σ σ') (hT : ∀ i, T i → ¬ ((27 ≤ i ∧ i < 31) ∨ (50 ≤ i ∧ i < 78))) : PicsC g σ' R pr F P := by
  obtain ⟨h1, h2, h3, h4⟩ := h
  have o : ∀ i, 27 ≤ i → i < 31 → Lv told qn i ∧ ¬ T i := fun i a1 a2 => ⟨lvs33 (by omega), fun z => hT i z (Or.inl ⟨a1, a2⟩)⟩
  exact ⟨h1.sf s (o 27 (by omega) (by omega)), h2.sf s (o 28 (by omega) (by omega)), h3.sf s (o 29 (by omega) (by omega)) (o 30 (by omega) (by omega)), fun c hc => (h4 c hc).sm s.1 fun k hk => s.off ⟨lvp hc hk, fun z => hT _ z (Or.inr (by omega))⟩⟩
/-- likely rows of a question, by its bounds of the columns in m -/
def lkN (P : Nat → PD) (pr : Nat) (d : QD) (m : Nat) : Nat → Nat
  | 0 => pr
  | c + 1 => if ((P c).1 && m.testBit c && isB d c) = true then lkN P pr d m c * likeW (P c) (d.1 c) (d.2.1 c) 4 / pr else lkN P pr d m c
theorem lkN_s (P : Nat → PD) (pr : Nat) (d : QD) (m c : Nat) : lkN P pr d m (c + 1) = if ((P c).1 && m.testBit c && isB d c) = true then lkN P pr d m c * likeW (P c) (d.1 c) (d.2.1 c) 4 / pr else lkN P pr d m c := rfl
def QSm (d : QD) : Prop := ∀ c, c < 4 → small (d.1 c) ∧ small (d.2.1 c)
theorem lkN_le (hP : ∀ c, c < 4 → PicOk (P c)) (hpr : pr ≤ 64) (d : QD) (m : Nat) : ∀ c, c ≤ 4 → lkN P pr d m c ≤ 64 ^ (c + 1)
  | 0, _ => hpr
  | c + 1, hc => by
    have ih := lkN_le hP hpr d m c (by omega)
    have h1 := likeW_le (hP c (by omega)) (d.1 c) (d.2.1 c) 4 (by omega)
    have h2 : lkN P pr d m c * likeW (P c) (d.1 c) (d.2.1 c) 4 ≤ 64 ^ (c + 1) * 64 := Nat.mul_le_mul ih h1
    have h3 : 64 ^ (c + 1) ≤ 64 ^ (c + 1 + 1) := Nat.pow_le_pow_right (by decide) (by omega)
    have h4 : 64 ^ (c + 1 + 1) = 64 ^ (c + 1) * 64 := Nat.pow_succ ..
    rw [lkN_s]
    split
    · have := Nat.div_le_self (lkN P pr d m c * likeW (P c) (d.1 c) (d.2.1 c) 4) pr
      omega
    · omega
theorem lkN_lt (hP : ∀ c, c < 4 → PicOk (P c)) (hpr : pr ≤ 64) (d : QD) (m : Nat) {c : Nat} (hc : c ≤ 4) : lkN P pr d m c ≤ 64 ^ 5 := Nat.le_trans (lkN_le hP hpr d m c hc) (Nat.pow_le_pow_right (by decide) (by omega))
def lkS (P : Nat → PD) (pr : Nat) (d : QD) : Nat := if msrt d then lkN P pr d 15 4 else 0
def lkT (tk : Nat → Bool) (wd : Nat) (P : Nat → PD) (pr : Nat) (d : QD) : Nat := pgc wd tk 64 + lkS P pr d
def lkO (tk : Nat → Bool) (wd : Nat) (P : Nat → PD) (pr : Nat) (d : QD) (o : OD) : Nat := hgt o.2.1.2.2.1 + (if 1 < (lkN P pr d (runM d o.1) 4 + rmk o.1 - 1) / rmk o.1 then (lkN P pr d (runM d o.1) 4 + rmk o.1 - 1) / rmk o.1 else 1) + (if covO d o.1 then 0 else if lkN P pr d (kmask o.1) 4 < pgc wd tk 64 then lkN P pr d (kmask o.1) 4 else pgc wd tk 64) + (if sfO d o.1 then 0 else lkS P pr d)
/-- the way chosen among the first so many orders, and its looks as foretold -/
def chW (tk : Nat → Bool) (wd told : Nat) (B : Nat → OD) (P : Nat → PD) (pr : Nat) (d : QD) : Nat → Nat × Nat
  | 0 => (0, lkT tk wd P pr d)
  | o + 1 => if keptB told B o = true ∧ lkO tk wd P pr d (B o) < (chW tk wd told B P pr d o).2 then (1 + o, lkO tk wd P pr d (B o)) else chW tk wd told B P pr d o
theorem chW_s (told : Nat) (B : Nat → OD) (o : Nat) : chW tk wd told B P pr d (o + 1) = if keptB told B o = true ∧ lkO tk wd P pr d (B o) < (chW tk wd told B P pr d o).2 then (1 + o, lkO tk wd P pr d (B o)) else chW tk wd told B P pr d o := rfl
theorem lkS_le (hP : ∀ c, c < 4 → PicOk (P c)) (hpr : pr ≤ 64) (d : QD) : lkS P pr d ≤ 64 ^ 5 := by
  unfold lkS
  split
  · exact lkN_lt hP hpr d 15 (by omega)
  · omega
theorem lkT_le (hP : ∀ c, c < 4 → PicOk (P c)) (hpr : pr ≤ 64) : lkT tk wd P pr d < 2 ^ 31 := by
  have h1 := lkS_le hP hpr d
  have e0 : (64 : Nat) ^ 5 = 1073741824 := by decide
  have hpg := pgc_le wd tk 64
  unfold lkT
  omega
theorem lkO_lt (hP : ∀ c, c < 4 → PicOk (P c)) (hpr : pr ≤ 64) (o : OD) : lkO tk wd P pr d o < 2 ^ 31 := by
  have h1 := lkS_le hP hpr d
  have h2 := lkN_lt hP hpr d (runM d o.1) (c := 4) (by omega)
  have h3 := hgt_le o.2.1.2.2.1
  have hr := rmk_le o.1
  have e0 : (64 : Nat) ^ 5 = 1073741824 := by decide
  have hpg := pgc_le wd tk 64
  have h4 : (lkN P pr d (runM d o.1) 4 + rmk o.1 - 1) / rmk o.1 ≤ (lkN P pr d (runM d o.1) 4 + rmk o.1 - 1) / 3 := Nat.div_le_div_left hr.1 (by decide)
  unfold lkO
  split <;> split <;> split <;> (try split) <;> omega
def chR (tk : Nat → Bool) (wd told : Nat) (B : Nat → OD) (P : Nat → PD) (pr : Nat) (d : QD) : Nat := (chW tk wd told B P pr d 8).1
theorem chW_lt (hP : ∀ c, c < 4 → PicOk (P c)) (hpr : pr ≤ 64) (told : Nat) (B : Nat → OD) : ∀ o, (chW tk wd told B P pr d o).1 ≤ o ∧ (chW tk wd told B P pr d o).2 < 2 ^ 31
  | 0 => ⟨Nat.le_refl _, lkT_le hP hpr⟩
  | o + 1 => by
    have ih := chW_lt hP hpr told B o
    have := lkO_lt (tk := tk) (wd := wd) (d := d) hP hpr (B o)
    rw [chW_s]
    split
    · exact ⟨by show 1 + o ≤ o + 1; omega, this⟩
    · omega
/-! taking a picture -/
theorem PicsC.srt (h : PicsC g σ R pr F P) (I : Ij R (Lv told qn)) (F' : Nat → Int32) : PicsC g (hup σ (R 30) (aI g 64 F')) R pr F' P := by
  have s := sf1 (σ := σ) I (show 30 < 33 by omega) (aI g 64 F')
  obtain ⟨h1, h2, h3, h4⟩ := h
  exact ⟨h1.sf s (l33 (by omega) (by omega)), h2.sf s (l33 (by omega) (by omega)), h3.put F', fun c hc => (h4 c hc).sm s.1 fun k hk => s.off ⟨lvp hc hk, by unfold Tr; omega⟩⟩
theorem PicsC.prr (h : PicsC g σ R pr F P) (I : Ij R (Lv told qn)) (n : Nat) : PicsC g (hup σ (R 27) (.inr (5, [.ref (R 1), .ref (R 4), .ref (R 28), .ref (R 29), .int (nI n)]))) R n F P := by
  have s := sf1 (σ := σ) I (show 27 < 33 by omega) (.inr (5, [.ref (R 1), .ref (R 4), .ref (R 28), .ref (R 29), .int (nI n)]))
  obtain ⟨h1, h2, h3, h4⟩ := h
  exact ⟨h1.up _, h2.sf s (l33 (by omega) (by omega)), h3.sf s (l33 (by omega) (by omega)) (l33 (by omega) (by omega)), fun c hc => (h4 c hc).sm s.1 fun k hk => s.off ⟨lvp hc hk, by unfold Tr; omega⟩⟩
def setP (P : Nat → PD) (c : Nat) (x : PD) : Nat → PD := fun j => if j = c then x else P j
def stP (g : GG) (σ : Hs) (R : Nat → Nat) (f : Nat → Int32) (tk : Nat → Bool) (c : Nat) (F : Nat → Int32) (P : Nat → PD) : Option Value → Hs → Prop := kI fun x σ' => PicsC g σ' R (tkI f tk c F 64).1 (tkI f tk c F 64).2 (setP P c (tkP (tkI f tk c F 64).1 (tkI f tk c F 64).2 (P c) 4)) ∧ Sm R Tpc σ σ' ∧ x = nI (tkN (tkI f tk c F 64).1 4)
end PICS
