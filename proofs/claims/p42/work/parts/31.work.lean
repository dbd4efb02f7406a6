/-! ===== the class Workload: R 16 itself, R 17 its questions, R 18 works over R 19, R 20 fewest over R 21, R 22 stepped over R 23; question i: R (200 + 5 i + k) ===== -/
/-- how many questions, these, works, fewest, steps, how many steps, upkeep -/
abbrev WK : Type := Nat × (Nat → QD) × (Nat → Int32) × (Nat → Int32) × (Nat → Int32) × Nat × Nat
def qad (R : Nat → Nat) (i : Nat) : Nat → Nat := fun k => R (200 + 5 * i + k)
def qQ (R : Nat → Nat) (qn : Nat) : Nat → Option Nat := fun i => if i < qn then some (R (200 + 5 * i)) else none
def wkc (R : Nat → Nat) (n s p : Nat) : va_E := .inr (10, [.ref (R 4), .ref (R 6), .ref (R 17), .ref (R 18), .ref (R 20), .ref (R 22), .int (nI n), .int (nI s), .int (nI p)])
def WorkC (g : GG) (σ : Hs) (R : Nat → Nat) (V : WK) : Prop := Ce σ (R 16) (wkc R V.1 V.2.2.2.2.2.1 V.2.2.2.2.2.2) ∧ Ce σ (R 17) (aQ g 6 8 (qQ R V.1)) ∧ (∀ i, i < V.1 → QAt g σ (qad R i) (V.2.1 i)) ∧ NumAt g σ (R 18) (R 19) 256 V.2.2.1 ∧ NumAt g σ (R 20) (R 21) 256 V.2.2.2.1 ∧ NumAt g σ (R 22) (R 23) 8 V.2.2.2.2.1 ∧ V.1 ≤ 8
def hf (d : QD) : Nat := d.2.2.2.2.toInt.toNat
def QOk (d : QD) : Prop := srtOk d ∧ d.2.2.2.2 = nI (hf d) ∧ hf d < 100
/-- roles from a up to b -/
def Tr (a b i : Nat) : Prop := a ≤ i ∧ i < b
theorem sf1 {R : Nat → Nat} {told qn : Nat} {σ : Hs} (I : Ij R (Lv told qn)) {j : Nat} (hj : j < 33) (e : va_E) : Sf R (Lv told qn) (Tr j (j + 1)) σ (hup σ (R j) e) := ⟨Sm.hup ⟨Nat.le_refl _, Nat.lt_succ_self _⟩ _, I, fun i hi => by unfold Tr at hi; unfold Lv; omega⟩
theorem l33 {told qn j i : Nat} (hi : i < 33) (h : i ≠ j) : Lv told qn i ∧ ¬ Tr j (j + 1) i := ⟨by unfold Lv; omega, by unfold Tr; omega⟩
section WRK
variable {g : GG} {σ σ' : Hs} {R : Nat → Nat} {L T : Nat → Prop} {V : WK}
theorem WorkC.sf (h : WorkC g σ R V) (s : Sf R L T σ σ') (hi : ∀ i, ((16 ≤ i ∧ i < 24) ∨ (200 ≤ i ∧ i < 200 + 5 * V.1)) → L i ∧ ¬ T i) : WorkC g σ' R V := by
  obtain ⟨h1, h2, h3, h4, h5, h6, h7⟩ := h
  exact ⟨h1.sf s (hi 16 (by omega)), h2.sf s (hi 17 (by omega)), fun i hiq => (h3 i hiq).sm s.1 fun k hk => s.off (hi (200 + 5 * i + k) (by omega)), h4.sf s (hi 18 (by omega)) (hi 19 (by omega)), h5.sf s (hi 20 (by omega)) (hi 21 (by omega)), h6.sf s (hi 22 (by omega)) (hi 23 (by omega)), h7⟩
end WRK
/-- table, orders, ways and workload together -/
def KW (g : GG) (σ : Hs) (R : Nat → Nat) (f : Nat → Int32) (tk : Nat → Bool) (wd told : Nat) (B : Nat → OD) (u : WS) (V : WK) : Prop := (TabAt g σ (R 1) (R 2) (R 3) f tk wd ∧ OrdsC g σ R told B ∧ WayC g σ R u ∧ WorkC g σ R V) ∧ Ij R (Lv told V.1) ∧ (2 ≤ wd ∧ wd ≤ 8) ∧ (∀ i, i < V.1 → QOk (V.2.1 i)) ∧ V.2.2.2.2.2.2 < 100
section KWS
variable {g : GG} {σ : Hs} {R : Nat → Nat} {f : Nat → Int32} {tk : Nat → Bool} {wd told : Nat} {B : Nat → OD} {u : WS} {V : WK}
theorem KW.ways (h : KW g σ R f tk wd told B u V) (u' : WS) : KW g (wup g σ R u') R f tk wd told B u' V := by
  obtain ⟨⟨ht, ho, hu, hk⟩, I, r⟩ := h
  refine ⟨⟨way_tab ht hu u', way_ords ho hu u', hu.keep u', hk.sf (L := Lv told V.1) (T := Tr 6 16) ⟨Sm.ofw (fun i h1 h2 => ⟨h1, h2⟩), I, fun i hi => ?_⟩ fun i hi => ⟨?_, ?_⟩⟩, I, r⟩
  · unfold Tr at hi; unfold Lv; omega
  · unfold Lv; omega
  · unfold Tr; omega
theorem KW.at (h : KW g σ R f tk wd told B u V) {j : Nat} (hj : 16 ≤ j ∧ j < 24) (e : va_E) {V' : WK} (e1 : V'.1 = V.1) (e2 : V'.2.1 = V.2.1) (e3 : V'.2.2.2.2.2.2 < 100) (hV : Sf R (Lv told V.1) (Tr j (j + 1)) σ (hup σ (R j) e) → WorkC g (hup σ (R j) e) R V') : KW g (hup σ (R j) e) R f tk wd told B u V' := by
  obtain ⟨⟨ht, ho, hu, hk⟩, I, r1, r2, r3⟩ := h
  have s := sf1 (σ := σ) I (show j < 33 by omega) e
  refine ⟨⟨ht.sf s (l33 (by omega) (by omega)) (l33 (by omega) (by omega)) (l33 (by omega) (by omega)), ho.sf s fun i hi => ⟨?_, ?_⟩, hu.sf s fun i h1 h2 => l33 (by omega) (by omega), hV s⟩, by rw [e1]; exact I, r1, by rw [e1, e2]; exact r2, e3⟩
  · unfold Lv; omega
  · unfold Tr; omega
theorem KW.wks (h : KW g σ R f tk wd told B u V) (F : Nat → Int32) : KW g (hup σ (R 19) (aI g 256 F)) R f tk wd told B u (V.1, V.2.1, F, V.2.2.2) := by
  obtain ⟨h1, h2, h3, h4, h5, h6, h7⟩ := h.1.2.2.2
  refine h.at (by omega) _ rfl rfl h.2.2.2.2 fun s => ⟨h1.sf s (l33 (by omega) (by omega)), h2.sf s (l33 (by omega) (by omega)), fun i hi => (h3 i hi).sm s.1 fun k hk => s.off ⟨?_, ?_⟩, h4.put F, h5.sf s (l33 (by omega) (by omega)) (l33 (by omega) (by omega)), h6.sf s (l33 (by omega) (by omega)) (l33 (by omega) (by omega)), h7⟩
  · unfold Lv; have hi : i < V.1 := hi; omega
  · unfold Tr; omega
theorem KW.few (h : KW g σ R f tk wd told B u V) (F : Nat → Int32) : KW g (hup σ (R 21) (aI g 256 F)) R f tk wd told B u (V.1, V.2.1, V.2.2.1, F, V.2.2.2.2) := by
  obtain ⟨h1, h2, h3, h4, h5, h6, h7⟩ := h.1.2.2.2
  refine h.at (by omega) _ rfl rfl h.2.2.2.2 fun s => ⟨h1.sf s (l33 (by omega) (by omega)), h2.sf s (l33 (by omega) (by omega)), fun i hi => (h3 i hi).sm s.1 fun k hk => s.off ⟨?_, ?_⟩, h4.sf s (l33 (by omega) (by omega)) (l33 (by omega) (by omega)), h5.put F, h6.sf s (l33 (by omega) (by omega)) (l33 (by omega) (by omega)), h7⟩
  · unfold Lv; have hi : i < V.1 := hi; omega
  · unfold Tr; omega
theorem KW.stp (h : KW g σ R f tk wd told B u V) (F : Nat → Int32) : KW g (hup σ (R 23) (aI g 8 F)) R f tk wd told B u (V.1, V.2.1, V.2.2.1, V.2.2.2.1, F, V.2.2.2.2.2) := by
  obtain ⟨h1, h2, h3, h4, h5, h6, h7⟩ := h.1.2.2.2
  refine h.at (by omega) _ rfl rfl h.2.2.2.2 fun s => ⟨h1.sf s (l33 (by omega) (by omega)), h2.sf s (l33 (by omega) (by omega)), fun i hi => (h3 i hi).sm s.1 fun k hk => s.off ⟨?_, ?_⟩, h4.sf s (l33 (by omega) (by omega)) (l33 (by omega) (by omega)), h5.sf s (l33 (by omega) (by omega)) (l33 (by omega) (by omega)), h6.put F, h7⟩
  · unfold Lv; have hi : i < V.1 := hi; omega
  · unfold Tr; omega
theorem KW.obj (h : KW g σ R f tk wd told B u V) (s p : Nat) (hp : p < 100) : KW g (hup σ (R 16) (wkc R V.1 s p)) R f tk wd told B u (V.1, V.2.1, V.2.2.1, V.2.2.2.1, V.2.2.2.2.1, s, p) := by
  obtain ⟨h1, h2, h3, h4, h5, h6, h7⟩ := h.1.2.2.2
  refine h.at (by omega) _ rfl rfl hp fun s => ⟨h1.up _, h2.sf s (l33 (by omega) (by omega)), fun i hi => (h3 i hi).sm s.1 fun k hk => s.off ⟨?_, ?_⟩, h4.sf s (l33 (by omega) (by omega)) (l33 (by omega) (by omega)), h5.sf s (l33 (by omega) (by omega)) (l33 (by omega) (by omega)), h6.sf s (l33 (by omega) (by omega)) (l33 (by omega) (by omega)), h7⟩
  · unfold Lv; have hi : i < V.1 := hi; omega
  · unfold Tr; omega
theorem KW.pstn (h : KW g σ R f tk wd told B u V) (s : Nat) {φ : Hs → Prop} (k : φ (hup σ (R 16) (wkc R V.1 s V.2.2.2.2.2.2))) : PF σ (R 16) 10 7 (.int (nI s)) φ := PF.of h.1.2.2.2.1 (by show 7 < 9; decide) rfl k
theorem rd_wkasked (h : KW g σ R f tk wd told B u V) : Rd g M_X10_asked [.ref (R 16)] σ (nI V.1) := q_X10_asked _ (FI.of h.1.2.2.2.1 rfl (rd_i rfl))
theorem rd_wkupkeep (h : KW g σ R f tk wd told B u V) : Rd g M_X10_upkeepNow [.ref (R 16)] σ (nI V.2.2.2.2.2.2) := q_X10_upkeepNow _ (FI.of h.1.2.2.2.1 rfl (rd_i rfl))
theorem wr_wksetUpkeep (h : KW g σ R f tk wd told B u V) (p : Nat) : Wr g M_X10_setUpkeep [.ref (R 16), .int (nI p)] σ (hup σ (R 16) (wkc R V.1 V.2.2.2.2.2.1 p)) := q_X10_setUpkeep _ _ (PF.of h.1.2.2.2.1 (by show 8 < 9; decide) rfl wr_v)
theorem rd_wkquestion (h : KW g σ R f tk wd told B u V) (x : Int32) : RdA g M_X10_question [.ref (R 16), .int x] σ (if inR x V.1 then some (R (200 + 5 * x.toInt.toNat)) else none) := by
  obtain ⟨h1, h2, h3, h4, h5, h6, h7⟩ := h.1.2.2.2
  refine q_X10_question _ _ ⟨fun c => ?_, fun c => FR.of h1 rfl (AN.of h2 ⟨fun c2 => ?_, fun c2 => FR.of h1 rfl ?_⟩)⟩
  · have c := (lt_n (n := 0) (by decide)).mp c
    rw [show inR x V.1 = false from decide_eq_false (by omega), if_neg (by decide)]
    exact rdA_null
  · have c2 := (n_le (n := 8) (by decide)).mp c2
    rw [show inR x V.1 = false from decide_eq_false (by omega), if_neg (by decide)]
    exact rdA_null
  · have c := nlt_n (n := 0) (by decide) c
    have c2 := n_nle (n := 8) (by decide) c2
    obtain ⟨k, hk, rfl⟩ := I_of (x := x) (n := 8) (by omega) (by omega) (by decide)
    rw [inR_n (by omega), I_n (by omega), show ((k : Int).toNat) = k by omega]
    by_cases hkq : k < V.1
    · rw [decide_eq_true hkq, if_pos rfl]
      exact AR.some h2 rfl hk (by decide) (if_pos hkq) rdA_ref
    · rw [decide_eq_false hkq, if_neg (by decide)]
      exact AR.none h2 rfl hk (by decide) (if_neg hkq) rdA_null
theorem rd_wkquestionN (h : KW g σ R f tk wd told B u V) {i : Nat} (hi : i < V.1) : RdA g M_X10_question [.ref (R 16), .int (nI i)] σ (some (R (200 + 5 * i))) := by
  have h7 := h.1.2.2.2.2.2.2.2.2.2
  have h1 := rd_wkquestion h (nI i)
  rw [inR_n (by omega), decide_eq_true hi, if_pos rfl, I_n (by omega), show ((i : Int).toNat) = i by omega] at h1
  exact h1
end KWS
/-! works -/
def mnQ (f : Nat → Int32) (tk : Nat → Bool) (wd told : Nat) (B : Nat → OD) (d : QD) (m : Nat) : Nat := mnW (allW f tk wd told B d 8) m (allW f tk wd told B d 8).length
def brdO (B : Nat → OD) (told m : Nat) : Nat := sumO (fun w => hgt w.2.2.1 + 2) B m told
def szsO (B : Nat → OD) (told m : Nat) : Nat := sumO (fun w => szO w.2.2.1) B m told
/-- the work of a set, by the first so many questions -/
def wrk (f : Nat → Int32) (tk : Nat → Bool) (wd told : Nat) (B : Nat → OD) (Q : Nat → QD) (upk m : Nat) : Nat → Nat
  | 0 => upk * brdO B told m
  | i + 1 => wrk f tk wd told B Q upk m i + hf (Q i) * mnQ f tk wd told B (Q i) m
/-- roles that working out may change -/
def Tk (i : Nat) : Prop := 6 ≤ i ∧ i < 24
section WOF
variable {g : GG} {σ : Hs} {R : Nat → Nat} {f : Nat → Int32} {tk : Nat → Bool} {wd told : Nat} {B : Nat → OD} {u : WS} {V : WK}
theorem mnQ_lt (h : ∀ o, o < told → OSok (B o).2.1) (d : QD) (m : Nat) : mnQ f tk wd told B d m < 2 ^ 20 := by
  obtain ⟨⟨hl, h1, h0, hk⟩, -⟩ := allW_ok f tk wd told B d h
  unfold mnQ
  rw [mnW_bst]
  refine (hk _ ?_).2
  rcases bstW_lt (allW f tk wd told B d 8) m (allW f tk wd told B d 8).length with h | h <;> omega
theorem brdO_le (B : Nat → OD) {told : Nat} (ht : told ≤ 8) (m : Nat) : brdO B told m ≤ 80 := by
  have h1 : sumO (fun w => hgt w.2.2.1 + 2) B m told ≤ 10 * told := sumO_le told fun o _ => by have := hgt_le (B o).2.1.2.2.1; show _ + 2 ≤ 10; omega
  unfold brdO
  omega
theorem wrk_le (h : ∀ o, o < told → OSok (B o).2.1) (ht : told ≤ 8) {Q : Nat → QD} {upk : Nat} (hu : upk < 100) (m : Nat) : ∀ (i : Nat), (∀ j, j < i → hf (Q j) < 100) → wrk f tk wd told B Q upk m i ≤ 7920 + 103809024 * i
  | 0, _ => by
    have := brdO_le B ht m
    have h2 : upk * brdO B told m ≤ 99 * 80 := Nat.mul_le_mul (by omega) this
    unfold wrk
    omega
  | i + 1, hq => by
    have ih := wrk_le h ht (Q := Q) hu m i (fun j hj => hq j (by omega))
    have h1 := hq i (by omega)
    have h2 := mnQ_lt (f := f) (tk := tk) (wd := wd) h (Q i) m
    have h3 : hf (Q i) * mnQ f tk wd told B (Q i) m ≤ 99 * 1048575 := Nat.mul_le_mul (by omega) (by omega)
    unfold wrk
    omega
theorem wrk_lt (h : ∀ o, o < told → OSok (B o).2.1) (ht : told ≤ 8) {Q : Nat → QD} {upk : Nat} (hu : upk < 100) (m : Nat) {i : Nat} (hi : i ≤ 8) (hq : ∀ j, j < i → hf (Q j) < 100) : wrk f tk wd told B Q upk m i < 2 ^ 31 := by
  have := wrk_le (f := f) (tk := tk) (wd := wd) h ht hu m i hq
  omega
def wofP (g : GG) (σ : Hs) (R : Nat → Nat) (f : Nat → Int32) (tk : Nat → Bool) (wd told : Nat) (B : Nat → OD) (V : WK) (m : Nat) : Option Value → Hs → Prop := kI fun x σ' => (∃ u', KW g σ' R f tk wd told B u' V) ∧ Sm R Tk σ σ' ∧ x = nI (wrk f tk wd told B V.2.1 V.2.2.2.2.2.2 m V.1)
theorem wr_workOf (h : KW g σ R f tk wd told B u V) {m : Nat} (hm : m < 256) : Do g M_X10_workOf 0 0 [.ref (R 16), .int (nI m)] σ (wofP g σ R f tk wd told B V m) := by
  have h7 := h.1.2.2.2.2.2.2.2.2.2
  have hok := h.1.2.1.2.2.2.2.1
  have loop : ∀ (e i : Nat) (σ1 : Hs) (u1 : WS), i + e = V.1 → KW g σ1 R f tk wd told B u1 V → Sm R Tk σ σ1 → J_X10_workOf_16 g (wofP g σ R f tk wd told B V m) σ1 (R 16) (nI m) (nI (wrk f tk wd told B V.2.1 V.2.2.2.2.2.2 m i)) (nI i) := by
    intro e
    induction e with
    | zero =>
      intro i σ1 u1 hi h1 s1
      refine q_X10_workOf_16 _ _ _ _ (FI.of h1.1.2.2.2.1 rfl ⟨fun _ => ⟨_, rfl, ⟨u1, h1⟩, s1, by rw [show i = V.1 by omega]⟩, fun c => absurd (nI_le (by omega) (by omega)) c⟩)
    | succ e ih =>
      intro i σ1 u1 hi h1 s1
      have hiq : i < V.1 := by omega
      obtain ⟨q1, q2, q3⟩ := h1.2.2.2.1 i hiq
      have hQ := h1.1.2.2.2.2.2.1 i hiq
      refine q_X10_workOf_16 _ _ _ _ (FI.of h1.1.2.2.2.1 rfl ⟨fun c => absurd ((nI_leI (by omega) (by omega)).mp c) (by omega), fun _ => ⟨Rc.of h1.1.2.2.2.1, (rd_wkquestionN h1 hiq).some (FR.of h1.1.2.2.2.1 rfl ⟨Rc.of h1.1.2.2.1.1, ?_⟩)⟩⟩)
      refine DoV.use (wr_list h1.1.2.2.1 h1.1.2.1 h1.1.1 hQ q1 h1.2.2.1) ?_
      rintro σ2 ⟨u2, rfl, hW⟩
      have h2 := h1.ways u2
      have hQ2 := h2.1.2.2.2.2.2.1 i hiq
      obtain ⟨ho1, ho2⟩ := allW_ok f tk wd told B (V.2.1 i) hok
      have hb : bstW (allW f tk wd told B (V.2.1 i) 8) m (allW f tk wd told B (V.2.1 i) 8).length < (allW f tk wd told B (V.2.1 i) 8).length := by
        have := ho1.2.1
        rcases bstW_lt (allW f tk wd told B (V.2.1 i) 8) m (allW f tk wd told B (V.2.1 i) 8).length with h | h <;> omega
      refine ⟨Rc.of hQ2.1, (rd_qheft hQ2).use (FR.of h2.1.2.2.2.1 rfl (FR.of h2.1.2.2.2.1 rfl ⟨Rc.of h2.1.2.2.1.1, (rd_wbestPlace h2.1.2.2.1 hW ho1 hm).use ⟨Rc.of h2.1.2.2.1.1, (rd_wcostAt h2.1.2.2.1 hW ho1.1 hb).use ?_⟩⟩))⟩
      have e1 : ((allW f tk wd told B (V.2.1 i) 8).getD (bstW (allW f tk wd told B (V.2.1 i) 8) m (allW f tk wd told B (V.2.1 i) 8).length) (0, 0, 0)).2.2 = mnQ f tk wd told B (V.2.1 i) m := by
        unfold mnQ
        rw [mnW_bst]
        rfl
      rw [e1, q2, show nI (hf (V.2.1 i)) * nI (mnQ f tk wd told B (V.2.1 i) m) = nI (hf (V.2.1 i) * mnQ f tk wd told B (V.2.1 i) m) from pk_mul _ _, nI_add, nI_1]
      exact ih (i + 1) _ u2 (by omega) h2 (s1.trans (Sm.ofw fun j a b => ⟨by omega, by omega⟩))
  refine q_X10_workOf _ _ (FI.of h.1.2.2.2.1 rfl (FR.of h.1.2.2.2.1 rfl ⟨Rc.of h.1.2.1.1, (rd_oburdenOf h.1.2.1 hm).use ?_⟩))
  rw [show nI V.2.2.2.2.2.2 * nI (sumO (fun w => hgt w.2.2.1 + 2) B m told) = nI (V.2.2.2.2.2.2 * brdO B told m) from pk_mul _ _]
  exact loop V.1 0 σ u (by omega) h Sm.refl
/-- all works worked out -/
def allP (g : GG) (σ : Hs) (R : Nat → Nat) (f : Nat → Int32) (tk : Nat → Bool) (wd told : Nat) (B : Nat → OD) (V : WK) (σ' : Hs) : Prop := ∃ u' F G, KW g σ' R f tk wd told B u' (V.1, V.2.1, F, G, V.2.2.2.2) ∧ Sm R Tk σ σ' ∧ ∀ m, m < 256 → F m = nI (wrk f tk wd told B V.2.1 V.2.2.2.2.2.2 m V.1)
theorem wr_workOutAll (h : KW g σ R f tk wd told B u V) : Do g M_X10_workOutAll 0 0 [.ref (R 16)] σ (kV (allP g σ R f tk wd told B V)) := by
  have h7 := h.1.2.2.2.2.2.2.2.2.2
  have hok := h.1.2.1.2.2.2.2.1
  have l80 : ∀ (i : Nat), i < V.1 → (∀ (σ1 : Hs) (u1 : WS) (F G : Nat → Int32), KW g σ1 R f tk wd told B u1 (V.1, V.2.1, F, G, V.2.2.2.2) → Sm R Tk σ σ1 → (∀ m, m < 256 → F m = nI (wrk f tk wd told B V.2.1 V.2.2.2.2.2.2 m (i + 1))) → J_X10_workOutAll_38 g (kV (allP g σ R f tk wd told B V)) σ1 (R 16) (nI (i + 1))) → ∀ (e k : Nat) (σ1 : Hs) (u1 : WS) (F G : Nat → Int32), k + e = 256 → KW g σ1 R f tk wd told B u1 (V.1, V.2.1, F, G, V.2.2.2.2) → Sm R Tk σ σ1 → (∀ m, m < 256 → G m = nI (mnQ f tk wd told B (V.2.1 i) m)) → (∀ m, m < 256 → F m = nI (wrk f tk wd told B V.2.1 V.2.2.2.2.2.2 m (if m < k then i + 1 else i))) → J_X10_workOutAll_80 g (kV (allP g σ R f tk wd told B V)) σ1 (R 16) (nI i) (R (200 + 5 * i)) (nI k) := by
    intro i hi hnext e
    induction e with
    | zero =>
      intro k σ1 u1 F G hk h1 s1 hG hF
      refine q_X10_workOutAll_80 _ _ _ _ ⟨fun _ => ?_, fun c => absurd (nI_le (a := 256) (by omega) (by omega)) c⟩
      rw [nI_1]
      refine hnext σ1 u1 F G h1 s1 fun m hm => ?_
      have := hF m hm
      rw [if_pos (by omega)] at this
      exact this
    | succ e ih =>
      intro k σ1 u1 F G hk h1 s1 hG hF
      have hk2 : k < 256 := by omega
      obtain ⟨q1, q2, q3⟩ := h1.2.2.2.1 i hi
      have hQ := h1.1.2.2.2.2.2.1 i hi
      have w := h1.1.2.2.2
      refine q_X10_workOutAll_80 _ _ _ _ ⟨fun c => absurd ((nI_leI (a := 256) (by decide) (by omega)).mp c) (by omega), fun _ => FR.of w.1 rfl ⟨Rc.of hQ.1, (rd_qheft hQ).use (FR.of w.1 rfl ⟨Rc.of w.2.2.2.2.1.1, (rd_atn w.2.2.2.2.1 hk2).use ⟨Rc.of w.2.2.2.1.1, (wr_raise w.2.2.2.1 hk2 _).use ?_⟩⟩)⟩⟩
      have q2 : (V.2.1 i).2.2.2.2 = nI (hf (V.2.1 i)) := q2
      show J_X10_workOutAll_80 g _ (hup σ1 (R 19) (aI g 256 (upd F k (F k + (V.2.1 i).2.2.2.2 * G k)))) _ _ _ _
      have e1 : F k + (V.2.1 i).2.2.2.2 * G k = nI (wrk f tk wd told B V.2.1 V.2.2.2.2.2.2 k (i + 1)) := by
        rw [hF k hk2, if_neg (Nat.lt_irrefl k), hG k hk2, q2, show nI (hf (V.2.1 i)) * nI (mnQ f tk wd told B (V.2.1 i) k) = nI (hf (V.2.1 i) * mnQ f tk wd told B (V.2.1 i) k) from pk_mul _ _, nI_add]
        rfl
      rw [e1, nI_1]
      refine ih (k + 1) _ u1 _ G (by omega) (h1.wks _) (s1.trans (Sm.hup (show Tk 19 from ⟨by omega, by omega⟩) _)) hG fun m hm => ?_
      by_cases hmk : m = k
      · subst hmk
        rw [upd_same, if_pos (Nat.lt_succ_self _)]
      · rw [upd_ne _ _ hmk, hF m hm]
        by_cases h3 : m < k
        · rw [if_pos h3, if_pos (by omega)]
        · rw [if_neg h3, if_neg (by omega)]
  have l38 : ∀ (e i : Nat) (σ1 : Hs) (u1 : WS) (F G : Nat → Int32), i + e = V.1 → KW g σ1 R f tk wd told B u1 (V.1, V.2.1, F, G, V.2.2.2.2) → Sm R Tk σ σ1 → (∀ m, m < 256 → F m = nI (wrk f tk wd told B V.2.1 V.2.2.2.2.2.2 m i)) → J_X10_workOutAll_38 g (kV (allP g σ R f tk wd told B V)) σ1 (R 16) (nI i) := by
    intro e
    induction e with
    | zero =>
      intro i σ1 u1 F G hi h1 s1 hF
      refine q_X10_workOutAll_38 _ _ (FI.of h1.1.2.2.2.1 rfl ⟨fun _ => ⟨rfl, u1, F, G, h1, s1, by rw [← show i = V.1 by omega]; exact hF⟩, fun c => absurd (nI_le (by show V.1 ≤ i; omega) (by omega)) c⟩)
    | succ e ih =>
      intro i σ1 u1 F G hi h1 s1 hF
      have hiq : i < V.1 := by omega
      obtain ⟨q1, q2, q3⟩ := h1.2.2.2.1 i hiq
      have hQ := h1.1.2.2.2.2.2.1 i hiq
      refine q_X10_workOutAll_38 _ _ (FI.of h1.1.2.2.2.1 rfl ⟨fun c => absurd ((nI_leI (by show V.1 < _; omega) (by omega)).mp c) (by show ¬ V.1 ≤ i; omega), fun _ => ⟨Rc.of h1.1.2.2.2.1, (rd_wkquestionN h1 hiq).some (FR.of h1.1.2.2.2.1 rfl ⟨Rc.of h1.1.2.2.1.1, ?_⟩)⟩⟩)
      refine DoV.use (wr_list h1.1.2.2.1 h1.1.2.1 h1.1.1 hQ q1 h1.2.2.1) ?_
      rintro σ2 ⟨u2, rfl, hW⟩
      have h2 := h1.ways u2
      obtain ⟨ho1, ho2⟩ := allW_ok f tk wd told B (V.2.1 i) hok
      refine FR.of h2.1.2.2.2.1 rfl (FR.of h2.1.2.2.2.1 rfl ⟨Rc.of h2.1.2.2.1.1, ?_⟩)
      refine DoV.use (wr_fewestOfAll h2.1.2.2.1 hW ho1 ho2 h2.1.2.2.2.2.2.2.2.1) ?_
      rintro σ3 ⟨G', rfl, hG⟩
      refine l80 i hiq (fun σ1 u1 F G a b c => ih (i + 1) σ1 u1 F G (by omega) a b c) 256 0 _ u2 F G' rfl (h2.few G') ((s1.trans (Sm.ofw fun j a b => ⟨by omega, by omega⟩)).trans (Sm.hup (show Tk 21 from ⟨by omega, by omega⟩) _)) hG fun m hm => ?_
      rw [if_neg (by omega)]
      exact hF m hm
  have l2 : ∀ (e k : Nat) (σ1 : Hs) (F : Nat → Int32), k + e = 256 → KW g σ1 R f tk wd told B u (V.1, V.2.1, F, V.2.2.2.1, V.2.2.2.2) → Sm R Tk σ σ1 → (∀ m, m < k → F m = nI (wrk f tk wd told B V.2.1 V.2.2.2.2.2.2 m 0)) → J_X10_workOutAll_2 g (kV (allP g σ R f tk wd told B V)) σ1 (R 16) (nI k) := by
    intro e
    induction e with
    | zero =>
      intro k σ1 F hk h1 s1 hF
      refine q_X10_workOutAll_2 _ _ ⟨fun _ => l38 V.1 0 σ1 u F V.2.2.2.1 (by omega) h1 s1 (fun m hm => hF m (by omega)), fun c => absurd (nI_le (a := 256) (by omega) (by omega)) c⟩
    | succ e ih =>
      intro k σ1 F hk h1 s1 hF
      have hk2 : k < 256 := by omega
      have w := h1.1.2.2.2
      refine q_X10_workOutAll_2 _ _ ⟨fun c => absurd ((nI_leI (a := 256) (by decide) (by omega)).mp c) (by omega), fun _ => FR.of w.1 rfl (FI.of w.1 rfl (FR.of w.1 rfl ⟨Rc.of h1.1.2.1.1, (rd_oburdenOf h1.1.2.1 hk2).use ⟨Rc.of w.2.2.2.1.1, (wr_put w.2.2.2.1 hk2 _).use ?_⟩⟩))⟩
      show J_X10_workOutAll_2 g _ (hup σ1 (R 19) (aI g 256 (upd F k (nI V.2.2.2.2.2.2 * nI (sumO (fun w => hgt w.2.2.1 + 2) B k told))))) _ _
      rw [show nI V.2.2.2.2.2.2 * nI (sumO (fun w => hgt w.2.2.1 + 2) B k told) = nI (V.2.2.2.2.2.2 * brdO B told k) from pk_mul _ _, nI_1]
      refine ih (k + 1) _ _ (by omega) (h1.wks _) (s1.trans (Sm.hup (show Tk 19 from ⟨by omega, by omega⟩) _)) fun m hm => ?_
      by_cases hmk : m = k
      · subst hmk; rw [upd_same]; rfl
      · rw [upd_ne _ _ hmk]; exact hF m (by omega)
  exact q_X10_workOutAll _ (l2 256 0 σ V.2.2.1 rfl h Sm.refl (fun m hm => absurd hm (by omega)))
end WOF
