/-! Pictures: the numbers sorted in, what pictures foretell. -/
/-- the place of v in the first n of F: behind all that aren't greater -/
def plF (F : Nat → Int32) (n : Nat) (v : Int32) : Nat := fa_first (fun j => decide (v < F j)) n
/-- how many rows so far, and their numbers of a column, sorted -/
def tkI (f : Nat → Int32) (tk : Nat → Bool) (c : Nat) (F : Nat → Int32) : Nat → Nat × (Nat → Int32)
  | 0 => (0, F)
  | s + 1 => if tk s then ((tkI f tk c F s).1 + 1, insF (tkI f tk c F s).2 (plF (tkI f tk c F s).2 (tkI f tk c F s).1 (f (4 * s + c))) (tkI f tk c F s).1 (f (4 * s + c))) else tkI f tk c F s
theorem tkI_s (f : Nat → Int32) (tk : Nat → Bool) (c : Nat) (F : Nat → Int32) (s : Nat) : tkI f tk c F (s + 1) = if tk s then ((tkI f tk c F s).1 + 1, insF (tkI f tk c F s).2 (plF (tkI f tk c F s).2 (tkI f tk c F s).1 (f (4 * s + c))) (tkI f tk c F s).1 (f (4 * s + c))) else tkI f tk c F s := rfl
theorem tkI_le (f : Nat → Int32) (tk : Nat → Bool) (c : Nat) (F : Nat → Int32) : ∀ s, (tkI f tk c F s).1 ≤ s
  | 0 => Nat.le_refl _
  | s + 1 => by
    have := tkI_le f tk c F s
    rw [tkI_s f tk c F s]
    split
    · show _ + 1 ≤ s + 1; omega
    · omega
theorem plF_le (F : Nat → Int32) (n : Nat) (v : Int32) : plF F n v ≤ n := fa_first_le _ _
/-- the first n of F: sorted, and each is a number of a row of the table -/
def srtF (F : Nat → Int32) (n : Nat) (Q : Int32 → Prop) : Prop := (∀ i j, i < j → j < n → F i ≤ F j) ∧ ∀ i, i < n → Q (F i)
theorem I_le_tr {x y z : Int32} (h1 : x ≤ y) (h2 : y ≤ z) : x ≤ z := by rw [I_le] at *; omega
theorem I_le_of_lt {x y : Int32} (h1 : x < y) : x ≤ y := by rw [I_le]; rw [I_lt] at h1; omega
theorem I_le_of_nlt {x y : Int32} (h1 : ¬ x < y) : y ≤ x := by rw [I_le]; rw [I_lt] at h1; omega
theorem I_nlt_of_le {x y : Int32} (h1 : x ≤ y) : ¬ y < x := by rw [I_lt]; rw [I_le] at h1; omega
theorem srtF.ins {F : Nat → Int32} {n : Nat} {Q : Int32 → Prop} (h : srtF F n Q) {v : Int32} (hv : Q v) : srtF (insF F (plF F n v) n v) (n + 1) Q := by
  have hp := plF_le F n v
  have h1 : ∀ i, i < plF F n v → F i ≤ v := fun i hi => I_le_of_nlt (of_decide_eq_false (fa_first_no (fun j => decide (v < F j)) n i hi))
  have h2 : ∀ i, plF F n v ≤ i → i < n → v ≤ F i := fun i hi hin => by
    have h3 : v < F (plF F n v) := of_decide_eq_true (fa_first_yes (fun j => decide (v < F j)) n (by unfold plF at hi; omega))
    rcases Nat.lt_or_ge (plF F n v) i with h4 | h4
    · exact I_le_tr (I_le_of_lt h3) (h.1 _ _ h4 hin)
    · rw [show i = plF F n v by omega]; exact I_le_of_lt h3
  generalize plF F n v = p at *
  constructor
  · intro i j hij hj
    unfold insF
    by_cases a1 : i < p
    · rw [if_pos a1]
      by_cases b1 : j < p
      · rw [if_pos b1]; exact h.1 i j hij (by omega)
      · rw [if_neg b1]
        by_cases b2 : j = p
        · rw [if_pos b2]; exact h1 i a1
        · rw [if_neg b2, if_pos (by omega)]; exact I_le_tr (h1 i a1) (h2 _ (by omega) (by omega))
    · rw [if_neg a1]
      by_cases a2 : i = p
      · rw [if_pos a2, if_neg (by omega), if_neg (by omega), if_pos (by omega)]; exact h2 _ (by omega) (by omega)
      · rw [if_neg a2, if_pos (by omega), if_neg (by omega), if_neg (by omega), if_pos (by omega)]; exact h.1 _ _ (by omega) (by omega)
  · intro i hi
    unfold insF
    by_cases a1 : i < p
    · rw [if_pos a1]; exact h.2 i (by omega)
    · rw [if_neg a1]
      by_cases a2 : i = p
      · rw [if_pos a2]; exact hv
      · rw [if_neg a2, if_pos (by omega)]; exact h.2 _ (by omega)
theorem tkI_srt {f : Nat → Int32} {tk : Nat → Bool} {c : Nat} {F : Nat → Int32} {Q : Int32 → Prop} : ∀ s, (∀ t, t < s → tk t = true → Q (f (4 * t + c))) → srtF (tkI f tk c F s).2 (tkI f tk c F s).1 Q
  | 0, _ => ⟨fun i j _ h => absurd h (Nat.not_lt_zero _), fun i h => absurd h (Nat.not_lt_zero _)⟩
  | s + 1, hQ => by
    have ih := tkI_srt s (F := F) (fun t ht => hQ t (by omega))
    rw [tkI_s f tk c F s]
    by_cases ht : tk s = true
    · rw [if_pos ht]; exact ih.ins (hQ s (by omega) ht)
    · rw [if_neg ht]; exact ih
/-- what the parts of sorted numbers are -/
theorem tkP_ok {n : Nat} {S : Nat → Int32} {P : PD} (hP : PicOk P) (hn : n ≤ 64) (hS : srtF S n (fun v => 0 ≤ v.toInt ∧ v.toInt ≤ 99)) : ∀ i, i ≤ 4 → PicOk (tkP n S P i)
  | 0, _ => hP
  | i + 1, hi => by
    have ih := tkP_ok hP hn hS i (by omega)
    have e1 : (i + 1) * n = i * n + n := Nat.succ_mul i n
    have hin : i * n ≤ 3 * n := Nat.mul_le_mul_right n (by omega)
    intro j hj
    obtain ⟨a1, a2, a3, a4⟩ := ih j hj
    show setN (tkP n S P i).2.1 i ((i + 1) * n / 4 - i * n / 4) j ≤ 16 ∧ 0 ≤ ((if i * n / 4 < (i + 1) * n / 4 then upd (tkP n S P i).2.2.1 i (S (i * n / 4)) else (tkP n S P i).2.2.1) j).toInt ∧ ((if i * n / 4 < (i + 1) * n / 4 then upd (tkP n S P i).2.2.1 i (S (i * n / 4)) else (tkP n S P i).2.2.1) j).toInt ≤ ((if i * n / 4 < (i + 1) * n / 4 then upd (tkP n S P i).2.2.2 i (S ((i + 1) * n / 4 - 1)) else (tkP n S P i).2.2.2) j).toInt ∧ ((if i * n / 4 < (i + 1) * n / 4 then upd (tkP n S P i).2.2.2 i (S ((i + 1) * n / 4 - 1)) else (tkP n S P i).2.2.2) j).toInt ≤ 99
    refine ⟨?_, ?_⟩
    · unfold setN
      split
      · omega
      · exact a1
    · by_cases c : i * n / 4 < (i + 1) * n / 4
      · rw [if_pos c, if_pos c]
        by_cases e : j = i
        · subst e
          rw [upd_same, upd_same]
          obtain ⟨b1, b2⟩ := hS.2 (j * n / 4) (by omega)
          obtain ⟨b3, b4⟩ := hS.2 ((j + 1) * n / 4 - 1) (by omega)
          refine ⟨b1, ?_, b4⟩
          rcases Nat.lt_or_ge (j * n / 4) ((j + 1) * n / 4 - 1) with h | h
          · exact I_le.mp (hS.1 _ _ h (by omega))
          · rw [show (j + 1) * n / 4 - 1 = j * n / 4 by omega]; exact Int.le_refl _
        · rw [upd_ne _ _ e, upd_ne _ _ e]
          exact ⟨a2, a3, a4⟩
      · rw [if_neg c, if_neg c]
        exact ⟨a2, a3, a4⟩
def PicsC (g : GG) (σ : Hs) (R : Nat → Nat) (pr : Nat) (F : Nat → Int32) (P : Nat → PD) : Prop := Ce σ (R 27) (.inr (5, [.ref (R 1), .ref (R 4), .ref (R 28), .ref (R 29), .int (nI pr)])) ∧ Ce σ (R 28) (aQ g 5 4 (pQ R)) ∧ NumAt g σ (R 29) (R 30) 64 F ∧ ∀ c, c < 4 → PicC g σ (pad R c) (P c)
theorem rd_quot {g : GG} {σ : Hs} {a b : Nat} (ha : a < 2 ^ 31) (hb : b < 2 ^ 31) : Rd g M_X11_quotient [.int (nI a), .int (nI b)] σ (nI (a / b)) := by
  rcases Nat.eq_zero_or_pos b with h | h
  · subst h
    rw [Nat.div_zero]
    exact q_X11_quotient _ _ ⟨fun _ => rd_i rfl, fun c => absurd (nI_le (a := 0) (b := 0) (by omega) (by omega)) c⟩
  · exact rd_quotient ha h hb
section PICS
variable {g : GG} {σ : Hs} {R : Nat → Nat} {T : Nat → Prop} {σ' : Hs} {told qn pr : Nat} {F : Nat → Int32} {P : Nat → PD} {f : Nat → Int32} {tk : Nat → Bool} {wd : Nat} {b : Nat → Nat} {d : QD}
theorem PicsC.sf (h : PicsC g σ R pr F P) (s : Sf R (Lv told qn) T σ σ') (hT : ∀ i, T i → ¬ ((27 ≤ i ∧ i < 31) ∨ (50 ≤ i ∧ i < 78))) : PicsC g σ' R pr F P := by
  obtain ⟨h1, h2, h3, h4⟩ := h
  have o : ∀ i, 27 ≤ i → i < 31 → Lv told qn i ∧ ¬ T i := fun i a1 a2 => ⟨lvs33 (by omega), fun z => hT i z (Or.inl ⟨a1, a2⟩)⟩
  exact ⟨h1.sf s (o 27 (by omega) (by omega)), h2.sf s (o 28 (by omega) (by omega)), h3.sf s (o 29 (by omega) (by omega)) (o 30 (by omega) (by omega)), fun c hc => (h4 c hc).sm s.1 fun k hk => s.off ⟨lvp hc hk, fun z => hT _ z (Or.inr (by omega))⟩⟩
theorem rd_sof (h : PicsC g σ R pr F P) (x : Int32) : RdA g M_X5_of [.ref (R 27), .int x] σ (if inR x 4 then some (R (50 + 7 * x.toInt.toNat)) else none) := by
  refine q_X5_of _ _ ⟨fun c => ?_, fun c => FR.of h.1 rfl (AN.of h.2.1 ⟨fun c2 => ?_, fun c2 => FR.of h.1 rfl ?_⟩)⟩
  · have c := (lt_n (n := 0) (by decide)).mp c
    rw [show inR x 4 = false from decide_eq_false (by omega), if_neg (by decide)]
    exact rdA_null
  · have c2 := (n_le (n := 4) (by decide)).mp c2
    rw [show inR x 4 = false from decide_eq_false (by omega), if_neg (by decide)]
    exact rdA_null
  · have c := nlt_n (n := 0) (by decide) c
    have c2 := n_nle (n := 4) (by decide) c2
    obtain ⟨k, hk, rfl⟩ := I_of (x := x) (n := 4) (by omega) (by omega) (by decide)
    rw [inR_n (by omega), I_n (by omega), show ((k : Int).toNat) = k by omega, decide_eq_true hk, if_pos rfl]
    exact AR.some h.2.1 rfl hk (by decide) (if_pos hk) rdA_ref
theorem rd_sofN (h : PicsC g σ R pr F P) {c : Nat} (hc : c < 4) : RdA g M_X5_of [.ref (R 27), .int (nI c)] σ (some (R (50 + 7 * c))) := by
  have h1 := rd_sof h (nI c)
  rw [inR_n (by omega), decide_eq_true hc, if_pos rfl, I_n (by omega), show ((c : Int).toNat) = c by omega] at h1
  exact h1
/-- likely rows of a question, by its bounds of the columns in m -/
def lkN (P : Nat → PD) (pr : Nat) (d : QD) (m : Nat) : Nat → Nat
  | 0 => pr
  | c + 1 => if ((P c).1 && m.testBit c && isB d c) = true then lkN P pr d m c * likeW (P c) (d.1 c) (d.2.1 c) 4 / pr else lkN P pr d m c
theorem lkN_s (P : Nat → PD) (pr : Nat) (d : QD) (m c : Nat) : lkN P pr d m (c + 1) = if ((P c).1 && m.testBit c && isB d c) = true then lkN P pr d m c * likeW (P c) (d.1 c) (d.2.1 c) 4 / pr else lkN P pr d m c := rfl
def QSm (d : QD) : Prop := ∀ c, c < 4 → small (d.1 c) ∧ small (d.2.1 c)
theorem lkN_le (hP : ∀ c, c < 4 → PicOk (P c)) (hpr : pr ≤ 64) (d : QD) (m : Nat) : ∀ c, c ≤ 4 → lkN P pr d m c ≤ 64 ^ (c + 1)
  | 0, _ => hpr
  | c + 1, hc => by
    have ih := lkN_le hP hpr d m c (by omega)
    have h1 := likeW_le (hP c (by omega)) (d.1 c) (d.2.1 c) 4 (by omega)
    have h2 : lkN P pr d m c * likeW (P c) (d.1 c) (d.2.1 c) 4 ≤ 64 ^ (c + 1) * 64 := Nat.mul_le_mul ih h1
    have h3 : 64 ^ (c + 1) ≤ 64 ^ (c + 1 + 1) := Nat.pow_le_pow_right (by decide) (by omega)
    have h4 : 64 ^ (c + 1 + 1) = 64 ^ (c + 1) * 64 := Nat.pow_succ ..
    rw [lkN_s]
    split
    · have := Nat.div_le_self (lkN P pr d m c * likeW (P c) (d.1 c) (d.2.1 c) 4) pr
      omega
    · omega
theorem lkN_lt (hP : ∀ c, c < 4 → PicOk (P c)) (hpr : pr ≤ 64) (d : QD) (m : Nat) {c : Nat} (hc : c ≤ 4) : lkN P pr d m c ≤ 64 ^ 5 := Nat.le_trans (lkN_le hP hpr d m c hc) (Nat.pow_le_pow_right (by decide) (by omega))
theorem rd_slikely (h : PicsC g σ R pr F P) (hP : ∀ c, c < 4 → PicOk (P c)) (hpr : pr ≤ 64) (hq : QAt g σ b d) (hs : QSm d) {m : Nat} (hm : m < 16) : Rd g M_X5_likelyRows [.ref (R 27), .ref (b 0), .int (nI m)] σ (nI (lkN P pr d m 4)) := by
  have loop : ∀ (e k : Nat), k + e = 4 → J_X5_likelyRows_8 g (kI fun x σ' => σ' = σ ∧ x = nI (lkN P pr d m 4)) σ (R 27) (b 0) (nI m) (nI (lkN P pr d m k)) (nI k) := by
    intro e
    induction e with
    | zero =>
      intro k hk
      exact q_X5_likelyRows_8 _ _ _ _ _ ⟨fun _ => rd_i (by rw [show k = 4 by omega]), fun c => absurd (nI_le (a := 4) (by omega) (by omega)) c⟩
    | succ e ih =>
      intro k hk
      have hk4 : k < 4 := by omega
      have ih := ih (k + 1) (by omega)
      have hp := h.2.2.2 k hk4
      have hno : ((P k).1 && m.testBit k && isB d k) = false → J_X5_likelyRows_8 g (kI fun x σ' => σ' = σ ∧ x = nI (lkN P pr d m 4)) σ (R 27) (b 0) (nI m) (nI (lkN P pr d m k)) (nI k + 1) := fun z => by
        rw [lkN_s P pr d m k, z, if_neg (by decide)] at ih
        rw [nI_1]
        exact ih
      refine q_X5_likelyRows_8 _ _ _ _ _ ⟨fun c => absurd ((nI_leI (a := 4) (by decide) (by omega)).mp c) (by omega), fun _ => ⟨Rc.of h.1, (rd_sofN h hk4).some ⟨Rc.of hp.1, (rd_pisTaken hp).use ⟨fun c => hno (by rw [b2_0.mp c]; rfl), fun c => (rd_has (by omega) (by omega)).use ⟨fun c2 => hno (by rw [b2_0.mp c2, Bool.and_false]; rfl), fun c2 => ⟨Rc.of hq.1, (rd_qisBound hq hk4).use ⟨fun c3 => hno (by rw [b2_0.mp c3, Bool.and_false]), fun c3 => ⟨Rc.of hq.1, (rd_qleast hq hk4).use ⟨Rc.of hq.1, (rd_qgreatest hq hk4).use ⟨Rc.of hp.1, (rd_plikely hp (hP k hk4) (hs k hk4).1 (hs k hk4).2).use (FI.of h.1 rfl ?_)⟩⟩⟩⟩⟩⟩⟩⟩⟩⟩
      have h1 := likeW_le (hP k hk4) (d.1 k) (d.2.1 k) 4 (by omega)
      have h2 : lkN P pr d m k * likeW (P k) (d.1 k) (d.2.1 k) 4 ≤ 64 ^ 4 * 64 := Nat.mul_le_mul (Nat.le_trans (lkN_le hP hpr d m k (by omega)) (Nat.pow_le_pow_right (by decide) (by omega))) h1
      show Do g M_X11_quotient 0 0 [.int (nI (lkN P pr d m k) * nI (likeW (P k) (d.1 k) (d.2.1 k) 4)), .int (nI pr)] σ _
      rw [pk_mul]
      refine (rd_quot (Nat.lt_of_le_of_lt h2 (by decide)) (by omega)).use ?_
      rw [nI_1]
      rw [lkN_s P pr d m k, if_pos (by rw [b2_n0.mp c, b2_n0.mp c2, b2_n0.mp c3]; rfl)] at ih
      exact ih
  exact q_X5_likelyRows _ _ _ (FI.of h.1 rfl (loop 4 0 rfl))
def lkS (P : Nat → PD) (pr : Nat) (d : QD) : Nat := if msrt d then lkN P pr d 15 4 else 0
def lkT (tk : Nat → Bool) (wd : Nat) (P : Nat → PD) (pr : Nat) (d : QD) : Nat := pgc wd tk 64 + lkS P pr d
def lkO (tk : Nat → Bool) (wd : Nat) (P : Nat → PD) (pr : Nat) (d : QD) (o : OD) : Nat := hgt o.2.1.2.2.1 + (if 1 < (lkN P pr d (runM d o.1) 4 + rmk o.1 - 1) / rmk o.1 then (lkN P pr d (runM d o.1) 4 + rmk o.1 - 1) / rmk o.1 else 1) + (if covO d o.1 then 0 else if lkN P pr d (kmask o.1) 4 < pgc wd tk 64 then lkN P pr d (kmask o.1) 4 else pgc wd tk 64) + (if sfO d o.1 then 0 else lkS P pr d)
/-- the way chosen among the first so many orders, and its looks as foretold -/
def chW (tk : Nat → Bool) (wd told : Nat) (B : Nat → OD) (P : Nat → PD) (pr : Nat) (d : QD) : Nat → Nat × Nat
  | 0 => (0, lkT tk wd P pr d)
  | o + 1 => if keptB told B o = true ∧ lkO tk wd P pr d (B o) < (chW tk wd told B P pr d o).2 then (1 + o, lkO tk wd P pr d (B o)) else chW tk wd told B P pr d o
theorem chW_s (told : Nat) (B : Nat → OD) (o : Nat) : chW tk wd told B P pr d (o + 1) = if keptB told B o = true ∧ lkO tk wd P pr d (B o) < (chW tk wd told B P pr d o).2 then (1 + o, lkO tk wd P pr d (B o)) else chW tk wd told B P pr d o := rfl
theorem lkS_le (hP : ∀ c, c < 4 → PicOk (P c)) (hpr : pr ≤ 64) (d : QD) : lkS P pr d ≤ 64 ^ 5 := by
  unfold lkS
  split
  · exact lkN_lt hP hpr d 15 (by omega)
  · omega
theorem rd_slooksForSorting (h : PicsC g σ R pr F P) (hP : ∀ c, c < 4 → PicOk (P c)) (hpr : pr ≤ 64) (hq : QAt g σ b d) (hs : QSm d) (ho : srtOk d) : Rd g M_X5_looksForSorting [.ref (R 27), .ref (b 0)] σ (nI (lkS P pr d)) := by
  refine q_X5_looksForSorting _ _ ⟨Rc.of hq.1, (rd_qmustSort hq ho).use ⟨fun c => rd_i ?_, fun c => ⟨Rc.of h.1, (rd_slikely h hP hpr hq hs (m := 15) (by decide)).use (rd_i ?_)⟩⟩⟩
  · have c : msrt d = false := b2_0.mp c
    unfold lkS
    rw [c, if_neg (by decide)]
    rfl
  · have c : msrt d = true := b2_n0.mp c
    unfold lkS
    rw [c, if_pos rfl]
theorem rd_slooksByTable (h : PicsC g σ R pr F P) (ht : TabAt g σ (R 1) (R 2) (R 3) f tk wd) (hw : 2 ≤ wd ∧ wd ≤ 8) (hP : ∀ c, c < 4 → PicOk (P c)) (hpr : pr ≤ 64) (hq : QAt g σ b d) (hs : QSm d) (ho : srtOk d) : Rd g M_X5_looksByTable [.ref (R 27), .ref (b 0)] σ (nI (lkT tk wd P pr d)) :=
  q_X5_looksByTable _ _ (FR.of h.1 rfl ⟨Rc.of ht.1, (rd_fullPages ht hw).use ⟨Rc.of h.1, (rd_slooksForSorting h hP hpr hq hs ho).use (rd_i (nI_add _ _))⟩⟩)
theorem rd_slooksByOrder {a : Nat → Nat} {o : OD} (h : PicsC g σ R pr F P) (ht : TabAt g σ (R 1) (R 2) (R 3) f tk wd) (hw : 2 ≤ wd ∧ wd ≤ 8) (hP : ∀ c, c < 4 → PicOk (P c)) (hpr : pr ≤ 64) (hq : QAt g σ b d) (hs : QSm d) (ho : srtOk d) (hO : OrdC g σ a o.1 o.2.1 o.2.2) (hO2 : OSok o.2.1) : Rd g M_X5_looksByOrder [.ref (R 27), .ref (b 0), .ref (a 0)] σ (nI (lkO tk wd P pr d o)) := by
  have hl := hO2.l_le
  have hl2 := hO2.1
  have hr := rmk_le o.1
  have hk := lkN_lt hP hpr d (runM d o.1) (c := 4) (by omega)
  have hk2 := lkN_lt hP hpr d (kmask o.1) (c := 4) (by omega)
  have hpg := pgc_le wd tk 64
  have e0 : (64 : Nat) ^ 5 = 1073741824 := by decide
  have hd : (lkN P pr d (runM d o.1) 4 + rmk o.1 - 1) / rmk o.1 ≤ lkN P pr d (runM d o.1) 4 + rmk o.1 - 1 := Nat.div_le_self _ _
  have e1 : (if 1 < nI ((lkN P pr d (runM d o.1) 4 + rmk o.1 - 1) / rmk o.1) then nI ((lkN P pr d (runM d o.1) 4 + rmk o.1 - 1) / rmk o.1) else 1) = nI (if 1 < (lkN P pr d (runM d o.1) 4 + rmk o.1 - 1) / rmk o.1 then (lkN P pr d (runM d o.1) 4 + rmk o.1 - 1) / rmk o.1 else 1) := by
    by_cases c : 1 < (lkN P pr d (runM d o.1) 4 + rmk o.1 - 1) / rmk o.1
    · have z : (1 : Int32) < nI ((lkN P pr d (runM d o.1) 4 + rmk o.1 - 1) / rmk o.1) := (n_lt (n := 1) (by decide)).mpr (by rw [I_n (by omega)]; omega)
      rw [if_pos c, if_pos z]
    · rw [if_neg c, if_neg (fun z => by have := (n_lt (n := 1) (by decide)).mp z; rw [I_n (by omega)] at this; omega)]
      rfl
  refine q_X5_looksByOrder _ _ _ ⟨Rc.of hO.1, (rd_orunColumns hO hq).use ⟨Rc.of h.1, (rd_slikely h hP hpr hq hs (runM_lt d o.1)).use ⟨Rc.of hO.1, (rd_oheight hO (by omega)).use ⟨Rc.of hO.1, (rd_oroom hO).use ((rd_roundedUp (by omega) (by omega)).use ⟨Rc.of hO.1, (rd_ocovers hO hq ho).use ⟨fun c => ⟨Rc.of hO.1, (rd_osortsFor hO hq).use ⟨fun c2 => ⟨Rc.of h.1, (rd_slooksForSorting h hP hpr hq hs ho).use (rd_i ?_)⟩, fun c2 => rd_i ?_⟩⟩, fun c => FR.of h.1 rfl ⟨Rc.of ht.1, (rd_fullPages ht hw).use ⟨Rc.of hO.1, (rd_ocolumns hO).use ⟨Rc.of h.1, (rd_slikely h hP hpr hq hs (kmask_lt o.1)).use ⟨Rc.of hO.1, (rd_osortsFor hO hq).use ⟨fun c2 => ⟨Rc.of h.1, (rd_slooksForSorting h hP hpr hq hs ho).use (rd_i ?_)⟩, fun c2 => rd_i ?_⟩⟩⟩⟩⟩⟩⟩)⟩⟩⟩⟩
  · unfold lkO
    rw [b2_n0.mp c, b2_0.mp c2, e1, nI_add, nI_add, if_pos (rfl : true = true), if_neg (by decide : ¬ false = true), Nat.add_zero]
  · unfold lkO
    rw [b2_n0.mp c, b2_n0.mp c2, e1, nI_add, if_pos (rfl : true = true), if_pos (rfl : true = true), Nat.add_zero]
    exact nI_add _ 0
  · unfold lkO
    rw [b2_0.mp c, b2_0.mp c2, e1, nI_add, nI_if (by omega) (by omega), nI_add, nI_add, if_neg (by decide : ¬ false = true), if_neg (by decide : ¬ false = true)]
  · unfold lkO
    rw [b2_0.mp c, b2_n0.mp c2, e1, nI_add, nI_if (by omega) (by omega), nI_add, if_neg (by decide : ¬ false = true), if_pos (rfl : true = true), Nat.add_zero]
    exact nI_add _ 0
theorem lkT_le (hP : ∀ c, c < 4 → PicOk (P c)) (hpr : pr ≤ 64) : lkT tk wd P pr d < 2 ^ 31 := by
  have h1 := lkS_le hP hpr d
  have e0 : (64 : Nat) ^ 5 = 1073741824 := by decide
  have hpg := pgc_le wd tk 64
  unfold lkT
  omega
theorem lkO_lt (hP : ∀ c, c < 4 → PicOk (P c)) (hpr : pr ≤ 64) (o : OD) : lkO tk wd P pr d o < 2 ^ 31 := by
  have h1 := lkS_le hP hpr d
  have h2 := lkN_lt hP hpr d (runM d o.1) (c := 4) (by omega)
  have h3 := hgt_le o.2.1.2.2.1
  have hr := rmk_le o.1
  have e0 : (64 : Nat) ^ 5 = 1073741824 := by decide
  have hpg := pgc_le wd tk 64
  have h4 : (lkN P pr d (runM d o.1) 4 + rmk o.1 - 1) / rmk o.1 ≤ (lkN P pr d (runM d o.1) 4 + rmk o.1 - 1) / 3 := Nat.div_le_div_left hr.1 (by decide)
  unfold lkO
  split <;> split <;> split <;> (try split) <;> omega
def chR (tk : Nat → Bool) (wd told : Nat) (B : Nat → OD) (P : Nat → PD) (pr : Nat) (d : QD) : Nat := (chW tk wd told B P pr d 8).1
theorem chW_lt (hP : ∀ c, c < 4 → PicOk (P c)) (hpr : pr ≤ 64) (told : Nat) (B : Nat → OD) : ∀ o, (chW tk wd told B P pr d o).1 ≤ o ∧ (chW tk wd told B P pr d o).2 < 2 ^ 31
  | 0 => ⟨Nat.le_refl _, lkT_le hP hpr⟩
  | o + 1 => by
    have ih := chW_lt hP hpr told B o
    have := lkO_lt (tk := tk) (wd := wd) (d := d) hP hpr (B o)
    rw [chW_s]
    split
    · exact ⟨by show 1 + o ≤ o + 1; omega, this⟩
    · omega
theorem rd_schosenWay {told : Nat} {B : Nat → OD} (h : PicsC g σ R pr F P) (ht : TabAt g σ (R 1) (R 2) (R 3) f tk wd) (hw : 2 ≤ wd ∧ wd ≤ 8) (hO : OrdsC g σ R told B) (hP : ∀ c, c < 4 → PicOk (P c)) (hpr : pr ≤ 64) (hq : QAt g σ b d) (hs : QSm d) (ho : srtOk d) : Rd g M_X5_chosenWay [.ref (R 27), .ref (b 0)] σ (nI (chR tk wd told B P pr d)) := by
  have loop : ∀ (e k : Nat), k + e = 8 → J_X5_chosenWay_11 g (kI fun x σ' => σ' = σ ∧ x = nI (chR tk wd told B P pr d)) σ (R 27) (b 0) (nI (chW tk wd told B P pr d k).1) (nI (chW tk wd told B P pr d k).2) (nI k) := by
    intro e
    induction e with
    | zero =>
      intro k hk
      exact q_X5_chosenWay_11 _ _ _ _ _ ⟨fun _ => rd_i (by rw [show k = 8 by omega]; rfl), fun c => absurd (nI_le (a := 8) (by omega) (by omega)) c⟩
    | succ e ih =>
      intro k hk
      have hk8 : k < 8 := by omega
      have ih := ih (k + 1) (by omega)
      obtain ⟨-, hb⟩ := chW_lt (tk := tk) (wd := wd) (d := d) hP hpr told B k
      rw [chW_s told B k] at ih
      refine q_X5_chosenWay_11 _ _ _ _ _ ⟨fun c => absurd ((nI_leI (a := 8) (by decide) (by omega)).mp c) (by omega), fun _ => FR.of h.1 rfl ⟨Rc.of hO.1, ?_⟩⟩
      rcases Bool.eq_false_or_eq_true (keptB told B k) with hkp | hkp
      · have hko := hO.2.2.2.1 k (keptB_lt hkp)
        have hkw := hO.2.2.2.2.1 k (keptB_lt hkp)
        have hl := lkO_lt (tk := tk) (wd := wd) (d := d) hP hpr (B k)
        refine (rd_keptY hO hk8 hkp).some ⟨Rc.of h.1, (rd_slooksByOrder h ht hw hP hpr hq hs ho hko hkw).use (q_X5_chosenWay_45 _ _ _ _ _ _ ⟨fun c => ?_, fun c => ?_⟩)⟩
        · have c := (nI_leI (by omega) (by omega)).mp c
          rw [if_neg (by omega)] at ih
          rw [nI_1]
          exact ih
        · have c : ¬ (chW tk wd told B P pr d k).2 ≤ lkO tk wd P pr d (B k) := fun z => c (nI_le z (by omega))
          rw [if_pos ⟨hkp, by omega⟩] at ih
          rw [nI_1, show (1 : Int32) + nI k = nI (1 + k) from nI_add 1 k]
          exact ih
      · refine (rd_keptN hO hk8 hkp).none (q_X5_chosenWay_45 _ _ _ _ _ _ ⟨fun c => ?_, fun c => absurd (nI_le (Nat.le_refl _) (by omega)) c⟩)
        rw [if_neg (fun z => by rw [hkp] at z; exact absurd z.1 (by decide))] at ih
        rw [nI_1]
        exact ih
  exact q_X5_chosenWay _ _ ⟨Rc.of h.1, (rd_slooksByTable h ht hw hP hpr hq hs ho).use (loop 8 0 rfl)⟩
/-! taking a picture -/
theorem PicsC.srt (h : PicsC g σ R pr F P) (I : Ij R (Lv told qn)) (F' : Nat → Int32) : PicsC g (hup σ (R 30) (aI g 64 F')) R pr F' P := by
  have s := sf1 (σ := σ) I (show 30 < 33 by omega) (aI g 64 F')
  obtain ⟨h1, h2, h3, h4⟩ := h
  exact ⟨h1.sf s (l33 (by omega) (by omega)), h2.sf s (l33 (by omega) (by omega)), h3.put F', fun c hc => (h4 c hc).sm s.1 fun k hk => s.off ⟨lvp hc hk, by unfold Tr; omega⟩⟩
theorem PicsC.prr (h : PicsC g σ R pr F P) (I : Ij R (Lv told qn)) (n : Nat) : PicsC g (hup σ (R 27) (.inr (5, [.ref (R 1), .ref (R 4), .ref (R 28), .ref (R 29), .int (nI n)]))) R n F P := by
  have s := sf1 (σ := σ) I (show 27 < 33 by omega) (.inr (5, [.ref (R 1), .ref (R 4), .ref (R 28), .ref (R 29), .int (nI n)]))
  obtain ⟨h1, h2, h3, h4⟩ := h
  exact ⟨h1.up _, h2.sf s (l33 (by omega) (by omega)), h3.sf s (l33 (by omega) (by omega)) (l33 (by omega) (by omega)), fun c hc => (h4 c hc).sm s.1 fun k hk => s.off ⟨lvp hc hk, by unfold Tr; omega⟩⟩
theorem rd_splaceFor (h : PicsC g σ R pr F P) {n : Nat} (hn : n ≤ 64) (v : Int32) : Rd g M_X5_placeFor [.ref (R 27), .int v, .int (nI n)] σ (nI (plF F n v)) := by
  have loop : ∀ (e k : Nat), k + e = n → (∀ j, j < k → ¬ v < F j) → J_X5_placeFor_2 g (kI fun x σ' => σ' = σ ∧ x = nI (plF F n v)) σ (R 27) v (nI n) (nI k) := by
    intro e
    induction e with
    | zero =>
      intro k hk hj
      refine q_X5_placeFor_2 _ _ _ _ ⟨fun _ => rd_i ?_, fun c => absurd (nI_le (by omega) (by omega)) c⟩
      have h1 : plF F n v = n := fa_first_all (fun j hj2 => decide_eq_false (hj j (by omega)))
      rw [h1, show k = n by omega]
    | succ e ih =>
      intro k hk hj
      refine q_X5_placeFor_2 _ _ _ _ ⟨fun c => absurd ((nI_leI (by omega) (by omega)).mp c) (by omega), fun _ => FR.of h.1 rfl ⟨Rc.of h.2.2.1.1, (rd_atn h.2.2.1 (by omega)).use ⟨fun c => rd_i ?_, fun c => ?_⟩⟩⟩
      · have h1 : plF F n v = k := fa_first_is (by omega) (decide_eq_true c) (fun j hj2 => decide_eq_false (hj j hj2))
        rw [h1]
      · rw [nI_1]
        exact ih (k + 1) (by omega) fun j hj2 => by
          rcases Nat.lt_or_ge j k with h1 | h1
          · exact hj j h1
          · rw [show j = k by omega]; exact c
  exact q_X5_placeFor _ _ _ (loop n 0 (by omega) (fun j hj => absurd hj (by omega)))
def setP (P : Nat → PD) (c : Nat) (x : PD) : Nat → PD := fun j => if j = c then x else P j
def stP (g : GG) (σ : Hs) (R : Nat → Nat) (f : Nat → Int32) (tk : Nat → Bool) (c : Nat) (F : Nat → Int32) (P : Nat → PD) : Option Value → Hs → Prop := kI fun x σ' => PicsC g σ' R (tkI f tk c F 64).1 (tkI f tk c F 64).2 (setP P c (tkP (tkI f tk c F 64).1 (tkI f tk c F 64).2 (P c) 4)) ∧ Sm R Tpc σ σ' ∧ x = nI (tkN (tkI f tk c F 64).1 4)
theorem wr_stake (h : PicsC g σ R pr F P) (ht : TabAt g σ (R 1) (R 2) (R 3) f tk wd) (I : Ij R (Lv told qn)) {c : Nat} (hc : c < 4) : Do g M_X5_take 0 0 [.ref (R 27), .int (nI c)] σ (stP g σ R f tk c F P) := by
  have fin : ∀ (n : Nat) (S : Nat → Int32), n ≤ 64 → PicsC g (hup σ (R 30) (aI g 64 S)) R pr S P → PF (hup σ (R 30) (aI g 64 S)) (R 27) 5 4 (.int (nI n)) (fun s5 => FR s5 (R 27) 5 3 (fun r6 => Rc s5 (R (50 + 7 * c)) 4 ∧ Do g M_X4_take 0 0 [.ref (R (50 + 7 * c)), .ref r6, .int (nI n)] s5 (kI (fun i8 s7 => kI (fun x σ' => PicsC g σ' R n S (setP P c (tkP n S (P c) 4)) ∧ Sm R Tpc σ σ' ∧ x = nI (tkN n 4)) (some (.int i8)) s7)))) := by
    intro n S hn h1
    refine PF.of h1.1 (by show 4 < 5; decide) rfl ?_
    have h2 := h1.prr I n
    have s2 : Sm R Tpc σ (hup (hup σ (R 30) (aI g 64 S)) (R 27) (.inr (5, [.ref (R 1), .ref (R 4), .ref (R 28), .ref (R 29), .int (nI n)]))) := (Sm.hup (by unfold Tpc; omega) _).trans (Sm.hup (by unfold Tpc; omega) _)
    refine FR.of h2.1 rfl ⟨Rc.of (h2.2.2.2 c hc).1, ?_⟩
    refine DoI.use (wr_ptake (h2.2.2.2 c hc) h2.2.2.1 I hc hn) ?_
    rintro x σ3 ⟨e1, e2, e3⟩
    have sf : Sf R (Lv told qn) (Tr (50 + 7 * c) (57 + 7 * c)) _ σ3 := ⟨e2, I, fun i hi => by unfold Tr at hi; unfold Lv; omega⟩
    obtain ⟨k1, k2, k3, k4⟩ := h2
    have o : ∀ i, i < 33 → Lv told qn i ∧ ¬ Tr (50 + 7 * c) (57 + 7 * c) i := fun i hi => ⟨lvs33 hi, by unfold Tr; omega⟩
    refine ⟨x, rfl, ⟨k1.sf sf (o 27 (by omega)), k2.sf sf (o 28 (by omega)), k3.sf sf (o 29 (by omega)) (o 30 (by omega)), fun j hj => ?_⟩, s2.trans (e2.mono fun i hi => by unfold Tr at hi; unfold Tpc; omega), e3⟩
    unfold setP
    by_cases e : j = c
    · subst e
      rw [if_pos rfl]
      exact e1
    · rw [if_neg e]
      exact (k4 j hj).sm sf.1 fun k hk => sf.off ⟨lvp hj hk, by unfold Tr; omega⟩
  have loop : ∀ (e k : Nat), k + e = 64 → J_X5_take_18 g (stP g σ R f tk c F P) (hup σ (R 30) (aI g 64 (tkI f tk c F k).2)) (R 27) (nI c) (R (50 + 7 * c)) (nI (tkI f tk c F k).1) (nI k) := by
    intro e
    induction e with
    | zero =>
      intro k hk
      have hk : k = 64 := by omega
      subst hk
      exact q_X5_take_18 _ _ _ _ _ ⟨fun _ => fin _ _ (tkI_le f tk c F 64) (h.srt I _), fun c => absurd (nI_le (a := 64) (by omega) (by omega)) c⟩
    | succ e ih =>
      intro k hk
      have hk8 : k < 64 := by omega
      have ih := ih (k + 1) (by omega)
      have h1 := h.srt I (tkI f tk c F k).2
      have s1 := sf1 (σ := σ) I (show 30 < 33 by omega) (aI g 64 (tkI f tk c F k).2)
      have ht1 := ht.sf s1 (l33 (by omega) (by omega)) (l33 (by omega) (by omega)) (l33 (by omega) (by omega))
      have hle := tkI_le f tk c F k
      rw [tkI_s f tk c F k] at ih
      refine q_X5_take_18 _ _ _ _ _ ⟨fun c => absurd ((nI_leI (a := 64) (by decide) (by omega)).mp c) (by omega), fun _ => FR.of h1.1 rfl ⟨Rc.of ht1.1, (rd_holds ht1 (nI k)).use ⟨fun c1 => ?_, fun c1 => FR.of h1.1 rfl ⟨Rc.of ht1.1, (rd_number ht1 hk8 hc).use (FR.of h1.1 rfl ⟨Rc.of h1.1, (rd_splaceFor h1 (by omega) _).use ⟨Rc.of h1.2.2.1.1, (wr_insert h1.2.2.1 (plF_le _ _ _) (by omega) _).use ?_⟩⟩)⟩⟩⟩⟩
      · have c1 := b2_0.mp c1
        rw [inR_n (by omega), decide_eq_true hk8, I_n (by omega), show ((k : Int).toNat) = k by omega, Bool.true_and] at c1
        rw [if_neg (by rw [c1]; decide)] at ih
        rw [nI_1]
        exact ih
      · have c1 := b2_n0.mp c1
        rw [inR_n (by omega), decide_eq_true hk8, I_n (by omega), show ((k : Int).toNat) = k by omega, Bool.true_and] at c1
        rw [if_pos c1] at ih
        rw [nI_1, nI_1, hup_hup]
        exact ih
  refine q_X5_take _ _ ⟨Rc.of h.1, (rd_sofN h hc).some ?_⟩
  have h0 := loop 64 0 rfl
  rw [show (tkI f tk c F 0).2 = F from rfl, hup_self h.2.2.1.2.1] at h0
  exact h0
end PICS
