/-! Frames: when only the cells of some roles change. -/
/-- R: the address of each role. Only cells of roles in T changed. -/
def Sm (R : Nat → Nat) (T : Nat → Prop) (σ σ' : Hs) : Prop := (∀ a, a ∈ σ.1 → a ∈ σ'.1) ∧ ∀ a e, Ce σ a e → (∀ i, T i → a ≠ R i) → Ce σ' a e
theorem Sm.refl {R : Nat → Nat} {T : Nat → Prop} {σ : Hs} : Sm R T σ σ := ⟨fun _ h => h, fun _ _ h _ => h⟩
theorem Sm.trans {R : Nat → Nat} {T : Nat → Prop} {σ σ1 σ2 : Hs} (h1 : Sm R T σ σ1) (h2 : Sm R T σ1 σ2) : Sm R T σ σ2 := ⟨fun a h => h2.1 a (h1.1 a h), fun a e h n => h2.2 a e (h1.2 a e h n) n⟩
theorem Sm.mono {R : Nat → Nat} {T T' : Nat → Prop} {σ σ' : Hs} (h : Sm R T σ σ') (k : ∀ i, T i → T' i) : Sm R T' σ σ' := ⟨h.1, fun a e c n => h.2 a e c (fun i hi => n i (k i hi))⟩
theorem Sm.hup {R : Nat → Nat} {T : Nat → Prop} {σ : Hs} {i : Nat} (hi : T i) (e : va_E) : Sm R T σ (hup σ (R i) e) := ⟨fun _ h => h, fun _ _ c n => c.upo (n i hi)⟩
def Ij (R : Nat → Nat) (L : Nat → Prop) : Prop := ∀ i j, L i → L j → R i = R j → i = j
/-- of the roles in L only those in T changed -/
def Sf (R : Nat → Nat) (L T : Nat → Prop) (σ σ' : Hs) : Prop := Sm R T σ σ' ∧ Ij R L ∧ ∀ i, T i → L i
section SF
variable {g : GG} {R : Nat → Nat} {L T : Nat → Prop} {σ σ' : Hs}
theorem Sf.off (s : Sf R L T σ σ') {j : Nat} (hj : L j ∧ ¬ T j) : ∀ i, T i → R j ≠ R i := fun i hi e => hj.2 (by rw [s.2.1 j i hj.1 (s.2.2 i hi) e]; exact hi)
theorem Ce.sf {e : va_E} {j : Nat} (h : Ce σ (R j) e) (s : Sf R L T σ σ') (hj : L j ∧ ¬ T j) : Ce σ' (R j) e := s.1.2 _ _ h (s.off hj)
theorem NumAt.sm {a q n : Nat} {f : Nat → Int32} (h : NumAt g σ a q n f) (s : Sm R T σ σ') (ha : ∀ i, T i → a ≠ R i) (hq : ∀ i, T i → q ≠ R i) : NumAt g σ' a q n f := ⟨s.2 _ _ h.1 ha, s.2 _ _ h.2.1 hq, h.2.2⟩
theorem NumAt.sf {i j n : Nat} {f : Nat → Int32} (h : NumAt g σ (R i) (R j) n f) (s : Sf R L T σ σ') (hi : L i ∧ ¬ T i) (hj : L j ∧ ¬ T j) : NumAt g σ' (R i) (R j) n f := h.sm s.1 (s.off hi) (s.off hj)
theorem TabAt.sf {i j k wd : Nat} {f : Nat → Int32} {tk : Nat → Bool} (h : TabAt g σ (R i) (R j) (R k) f tk wd) (s : Sf R L T σ σ') (hi : L i ∧ ¬ T i) (hj : L j ∧ ¬ T j) (hk : L k ∧ ¬ T k) : TabAt g σ' (R i) (R j) (R k) f tk wd := ⟨h.1.sf s hi, h.2.sf s hj hk⟩
theorem OrdC.sm {a : Nat → Nat} {key : Nat} {w : OS} {dr : Bool} (h : OrdC g σ a key w dr) (s : Sm R T σ σ') (ha : ∀ k, k < 8 → k ≠ 1 → ∀ i, T i → a k ≠ R i) : OrdC g σ' a key w dr := by
  obtain ⟨h0, ⟨A, hA, hA2⟩, h3, h4, h67⟩ := h
  exact ⟨s.2 _ _ h0 (ha 0 (by omega) (by omega)), ⟨A, hA.sm s (ha 2 (by omega) (by omega)) (ha 5 (by omega) (by omega)), hA2⟩, h3.sm s (ha 3 (by omega) (by omega)) (ha 6 (by omega) (by omega)), h4.sm s (ha 4 (by omega) (by omega)) (ha 7 (by omega) (by omega)), h67⟩
theorem OrdsC.sf {told : Nat} {B : Nat → OD} (h : OrdsC g σ R told B) (s : Sf R L T σ σ') (hi : ∀ i, (i = 4 ∨ i = 5 ∨ (100 ≤ i ∧ i < 100 + 8 * told ∧ i % 8 ≠ 5)) → L i ∧ ¬ T i) : OrdsC g σ' R told B := by
  obtain ⟨h1, h2, h3, h4, h5, h6⟩ := h
  refine ⟨h1.sf s (hi 4 (by omega)), h2.sf s (hi 5 (by omega)), h3, fun o ho => (h4 o ho).sm s.1 fun k hk hk1 => ?_, h5, h6⟩
  unfold oad
  rw [if_neg hk1]
  exact s.off (hi (100 + 8 * o + k) (by omega))
theorem QAt.sm {b : Nat → Nat} {d : QD} (h : QAt g σ b d) (s : Sm R T σ σ') (hb : ∀ k, k < 5 → ∀ i, T i → b k ≠ R i) : QAt g σ' b d := ⟨s.2 _ _ h.1 (hb 0 (by omega)), h.2.1.sm s (hb 1 (by omega)) (hb 2 (by omega)), h.2.2.1.sm s (hb 3 (by omega)) (hb 4 (by omega)), h.2.2.2⟩
theorem QRaw.sm {b : Nat → Nat} {lo hi : Nat → Int32} {bd fx sh srt hf : Int32} (h : QRaw g σ b lo hi bd fx sh srt hf) (s : Sm R T σ σ') (hb : ∀ k, k < 5 → ∀ i, T i → b k ≠ R i) : QRaw g σ' b lo hi bd fx sh srt hf := ⟨s.2 _ _ h.1 (hb 0 (by omega)), h.2.1.sm s (hb 1 (by omega)) (hb 2 (by omega)), h.2.2.1.sm s (hb 3 (by omega)) (hb 4 (by omega)), h.2.2.2⟩
theorem WayC.sf {u : WS} (h : WayC g σ R u) (s : Sf R L T σ σ') (hi : ∀ i, 6 ≤ i → i < 16 → L i ∧ ¬ T i) : WayC g σ' R u := by
  obtain ⟨w0, w1, w2, w3, w4, w5, dd⟩ := h
  exact ⟨w0.sf s (hi 6 (by omega) (by omega)), w1.sf s (hi 7 (by omega) (by omega)) (hi 8 (by omega) (by omega)), w2.sf s (hi 9 (by omega) (by omega)) (hi 10 (by omega) (by omega)), w3.sf s (hi 11 (by omega) (by omega)) (hi 12 (by omega) (by omega)), w4.sf s (hi 13 (by omega) (by omega)) (hi 14 (by omega) (by omega)), w5.sf s (hi 15 (by omega) (by omega)), dd⟩
theorem Sm.ofw {u' : WS} (hT : ∀ i, 6 ≤ i → i < 16 → T i) : Sm R T σ (wup g σ R u') := by
  unfold wup
  exact (((((Sm.hup (hT 8 (by omega) (by omega)) _).trans (Sm.hup (hT 10 (by omega) (by omega)) _)).trans (Sm.hup (hT 12 (by omega) (by omega)) _)).trans (Sm.hup (hT 14 (by omega) (by omega)) _)).trans (Sm.hup (hT 15 (by omega) (by omega)) _)).trans (Sm.hup (hT 6 (by omega) (by omega)) _)
theorem Sm.ofo {a : Nat → Nat} {key : Nat} {w : OS} {dr : Bool} (ha : ∀ k, k < 8 → k ≠ 1 → ∃ i, T i ∧ a k = R i) : Sm R T σ (oup g σ a key w dr) := by
  unfold oup
  obtain ⟨i0, t0, e0⟩ := ha 0 (by omega) (by omega)
  obtain ⟨i6, t6, e6⟩ := ha 6 (by omega) (by omega)
  obtain ⟨i7, t7, e7⟩ := ha 7 (by omega) (by omega)
  rw [e0, e6, e7]
  exact ((Sm.hup t6 _).trans (Sm.hup t7 _)).trans (Sm.hup t0 _)
theorem oad_of {o k : Nat} (hk : k ≠ 1) : oad R o k = R (100 + 8 * o + k) := by unfold oad; rw [if_neg hk]
theorem Sm.ofos {B : Nat → OD} : ∀ (k : Nat), (∀ i, 100 ≤ i → i < 100 + 8 * k → i % 8 ≠ 5 → T i) → Sm R T σ (oups g σ R B k)
  | 0, _ => Sm.refl
  | k + 1, hT => (Sm.ofos k (fun i h1 h2 h3 => hT i h1 (by omega) h3)).trans (Sm.ofo fun j hj hj1 => ⟨100 + 8 * k + j, hT _ (by omega) (by omega) (by omega), oad_of hj1⟩)
theorem Sm.ofq {b : Nat → Nat} {d : QD} (hb : ∀ k, k < 5 → ∃ i, T i ∧ b k = R i) : Sm R T σ (qup g σ b d) := by
  unfold qup
  obtain ⟨i0, t0, e0⟩ := hb 0 (by omega)
  obtain ⟨i2, t2, e2⟩ := hb 2 (by omega)
  obtain ⟨i4, t4, e4⟩ := hb 4 (by omega)
  rw [e0, e2, e4]
  exact ((Sm.hup t2 _).trans (Sm.hup t4 _)).trans (Sm.hup t0 _)
end SF
/-- roles that are alive: so many orders told, so many questions asked; the reference's own from 300 -/
def Lv (told qn i : Nat) : Prop := i < 33 ∨ (40 ≤ i ∧ i < 49) ∨ (50 ≤ i ∧ i < 78) ∨ (100 ≤ i ∧ i < 100 + 8 * told ∧ i % 8 ≠ 5) ∨ (190 ≤ i ∧ i < 195) ∨ (200 ≤ i ∧ i < 200 + 5 * qn)
/-! What the list of all ways is: sets all different, numbers in bounds. -/
section ALLW
variable (f : Nat → Int32) (tk : Nat → Bool) (wd told : Nat) (B : Nat → OD) (d : QD)
def inW1 (o : Nat) (x : Nat × Nat × Nat) : Prop := x = (0, 0, tabL f tk wd d) ∨ ∃ j, j < o ∧ keptB told B j = true ∧ x = (1 + j, 2 ^ j, oneO f tk wd d (B j))
def inW2 (o k : Nat) (x : Nat × Nat × Nat) : Prop := ∃ j p, j < p ∧ p < 8 ∧ (j < o ∨ (j = o ∧ p < o + 1 + k)) ∧ keptB told B j = true ∧ keptB told B p = true ∧ x = (100 + 10 * j + p, 2 ^ j ||| 2 ^ p, twoO f tk wd d (B j) (B p))
theorem singW_in : ∀ o x, x ∈ singW f tk wd told B d o ↔ inW1 f tk wd told B d o x
  | 0, x => by
    unfold singW inW1
    constructor
    · intro h; exact Or.inl (by simpa using h)
    · rintro (h | ⟨j, hj, -⟩)
      · simp [h]
      · omega
  | o + 1, x => by
    have ih := singW_in o x
    have e : inW1 f tk wd told B d (o + 1) x ↔ inW1 f tk wd told B d o x ∨ (keptB told B o = true ∧ x = (1 + o, 2 ^ o, oneO f tk wd d (B o))) := by
      unfold inW1
      constructor
      · rintro (h | ⟨j, hj, h1, h2⟩)
        · exact Or.inl (Or.inl h)
        · rcases Nat.lt_or_ge j o with h3 | h3
          · exact Or.inl (Or.inr ⟨j, h3, h1, h2⟩)
          · rw [show j = o by omega] at h1 h2
            exact Or.inr ⟨h1, h2⟩
      · rintro ((h | ⟨j, hj, h1, h2⟩) | ⟨h1, h2⟩)
        · exact Or.inl h
        · exact Or.inr ⟨j, by omega, h1, h2⟩
        · exact Or.inr ⟨o, by omega, h1, h2⟩
    rw [e]
    simp only [singW]
    by_cases hk : keptB told B o = true
    · rw [if_pos hk, List.mem_append, ih]
      simp [hk]
    · rw [if_neg hk, ih]
      simp [hk]
theorem pairW_in {o : Nat} {W : WL} (ho : o < 8) (hW : ∀ x, x ∈ W ↔ (inW1 f tk wd told B d 8 x ∨ inW2 f tk wd told B d o 0 x)) : ∀ k, k ≤ 7 - o → ∀ x, x ∈ pairW f tk wd told B d o W k ↔ (inW1 f tk wd told B d 8 x ∨ inW2 f tk wd told B d o k x)
  | 0, _, x => hW x
  | k + 1, hk, x => by
    have ih := pairW_in ho hW k (by omega) x
    have e : inW2 f tk wd told B d o (k + 1) x ↔ inW2 f tk wd told B d o k x ∨ (keptB told B o = true ∧ keptB told B (o + 1 + k) = true ∧ x = (100 + 10 * o + (o + 1 + k), 2 ^ o ||| 2 ^ (o + 1 + k), twoO f tk wd d (B o) (B (o + 1 + k)))) := by
      unfold inW2
      constructor
      · rintro ⟨j, p, h1, h2, h3, h4, h5, h6⟩
        by_cases h7 : j < o ∨ (j = o ∧ p < o + 1 + k)
        · exact Or.inl ⟨j, p, h1, h2, h7, h4, h5, h6⟩
        · have e1 : j = o := by omega
          have e2 : p = o + 1 + k := by omega
          subst e1
          subst e2
          exact Or.inr ⟨h4, h5, h6⟩
      · rintro (⟨j, p, h1, h2, h3, h4, h5, h6⟩ | ⟨h4, h5, h6⟩)
        · exact ⟨j, p, h1, h2, by omega, h4, h5, h6⟩
        · exact ⟨o, o + 1 + k, by omega, by omega, Or.inr ⟨rfl, by omega⟩, h4, h5, h6⟩
    rw [e]
    simp only [pairW]
    by_cases hk : keptB told B o && keptB told B (o + 1 + k)
    · rw [if_pos hk, List.mem_append, ih]
      rw [Bool.and_eq_true] at hk
      simp [hk.1, hk.2, or_assoc]
    · rw [if_neg hk, ih]
      rw [Bool.and_eq_true] at hk
      constructor
      · rintro (h | h)
        · exact Or.inl h
        · exact Or.inr (Or.inl h)
      · rintro (h | h | h)
        · exact Or.inl h
        · exact Or.inr h
        · exact absurd ⟨h.1, h.2.1⟩ hk
theorem allW_in : ∀ o, o ≤ 8 → ∀ x, x ∈ allW f tk wd told B d o ↔ (inW1 f tk wd told B d 8 x ∨ inW2 f tk wd told B d o 0 x)
  | 0, _, x => by
    unfold allW
    rw [singW_in]
    constructor
    · exact Or.inl
    · rintro (h | ⟨j, p, h1, h2, h3, -⟩)
      · exact h
      · omega
  | o + 1, ho, x => by
    have ih := pairW_in f tk wd told B d (o := o) (by omega) (allW_in o (by omega)) (7 - o) (Nat.le_refl _) x
    simp only [allW]
    rw [ih]
    have e : inW2 f tk wd told B d o (7 - o) x ↔ inW2 f tk wd told B d (o + 1) 0 x := by
      unfold inW2
      constructor
      · rintro ⟨j, p, h1, h2, h3, h4⟩
        exact ⟨j, p, h1, h2, by omega, h4⟩
      · rintro ⟨j, p, h1, h2, h3, h4⟩
        exact ⟨j, p, h1, h2, by omega, h4⟩
    rw [e]
def apW : WL → Prop := List.Pairwise (fun a b => a.2.1 ≠ b.2.1)
end ALLW
theorem two_ne0 : ∀ j, j < 8 → ∀ p, p < 8 → ∀ i, i < 8 → (¬ j < p ∨ (2 ^ j ||| 2 ^ p ≠ 2 ^ i ∧ 2 ^ j ||| 2 ^ p ≠ 0)) := by decide +kernel
theorem two_ne (j : Nat) (hj : j < 8) (p : Nat) (hp : p < 8) (i : Nat) (hi : i < 8) (h : j < p) : 2 ^ j ||| 2 ^ p ≠ 2 ^ i ∧ 2 ^ j ||| 2 ^ p ≠ 0 := (two_ne0 j hj p hp i hi).resolve_left (fun z => z h)
theorem two_two0 : ∀ a, a < 64 → ∀ b, b < 64 → (¬ a / 8 < a % 8 ∨ ¬ b / 8 < b % 8 ∨ ¬ 2 ^ (a / 8) ||| 2 ^ (a % 8) = 2 ^ (b / 8) ||| 2 ^ (b % 8) ∨ a = b) := by decide +kernel
theorem two_two (j : Nat) (hj : j < 8) (p : Nat) (hp : p < 8) (i : Nat) (hi : i < 8) (q : Nat) (hq : q < 8) (h : j < p) (h2 : i < q) (e : 2 ^ j ||| 2 ^ p = 2 ^ i ||| 2 ^ q) : j = i ∧ p = q := by
  have h3 := two_two0 (8 * j + p) (by omega) (8 * i + q) (by omega)
  rw [show (8 * j + p) / 8 = j by omega, show (8 * j + p) % 8 = p by omega, show (8 * i + q) / 8 = i by omega, show (8 * i + q) % 8 = q by omega] at h3
  have := ((h3.resolve_left (fun z => z h)).resolve_left (fun z => z h2)).resolve_left (fun z => z e)
  omega
theorem one_one : ∀ j, j < 8 → ∀ i, i < 8 → 2 ^ j = 2 ^ i → j = i := by decide
theorem one_0 : ∀ j, j < 8 → 2 ^ j ≠ 0 := by decide
section ALLW2
variable (f : Nat → Int32) (tk : Nat → Bool) (wd told : Nat) (B : Nat → OD) (d : QD)
theorem apW_add {W : WL} {x : Nat × Nat × Nat} (h : apW W) (hx : ∀ y, y ∈ W → y.2.1 ≠ x.2.1) : apW (W ++ [x]) := List.pairwise_append.mpr ⟨h, List.pairwise_singleton _ _, fun a ha b hb => by rw [List.mem_singleton] at hb; subst hb; exact hx a ha⟩
theorem singW_ap : ∀ o, o ≤ 8 → apW (singW f tk wd told B d o)
  | 0, _ => List.pairwise_singleton _ _
  | o + 1, ho => by
    have ih := singW_ap o (by omega)
    simp only [singW]
    split
    · refine apW_add ih fun y hy => ?_
      rw [singW_in] at hy
      rcases hy with rfl | ⟨j, hj, -, rfl⟩
      · exact (one_0 o (by omega)).symm
      · exact fun e => absurd (one_one j (by omega) o (by omega) e) (by omega)
    · exact ih
theorem pairW_ap {o : Nat} {W : WL} (ho : o < 8) (hW : ∀ x, x ∈ W ↔ (inW1 f tk wd told B d 8 x ∨ inW2 f tk wd told B d o 0 x)) (hA : apW W) : ∀ k, k ≤ 7 - o → apW (pairW f tk wd told B d o W k)
  | 0, _ => hA
  | k + 1, hk => by
    have ih := pairW_ap ho hW hA k (by omega)
    simp only [pairW]
    split
    · refine apW_add ih fun y hy => ?_
      rw [pairW_in f tk wd told B d ho hW k (by omega)] at hy
      rcases hy with (rfl | ⟨j, hj, -, rfl⟩) | ⟨j, p, h1, h2, h3, -, -, rfl⟩
      · exact (two_ne o (by omega) (o + 1 + k) (by omega) 0 (by omega) (by omega)).2.symm
      · exact (two_ne o (by omega) (o + 1 + k) (by omega) j (by omega) (by omega)).1.symm
      · intro e
        have := two_two j (by omega) p (by omega) o (by omega) (o + 1 + k) (by omega) h1 (by omega) e
        omega
    · exact ih
theorem allW_ap : ∀ o, o ≤ 8 → apW (allW f tk wd told B d o)
  | 0, _ => singW_ap f tk wd told B d 8 (Nat.le_refl _)
  | o + 1, ho => pairW_ap f tk wd told B d (o := o) (by omega) (allW_in f tk wd told B d o (by omega)) (allW_ap o (by omega)) (7 - o) (Nat.le_refl _)
theorem getD_at {W : WL} {i : Nat} (hi : i < W.length) : W.getD i (0, 0, 0) = W[i] := by simp [List.getD, List.getElem?_eq_getElem hi]
theorem wDif_of {W : WL} (h : apW W) : wDif W := by
  intro i j hi hj e
  unfold wS at e
  rw [getD_at hi, getD_at hj] at e
  have h1 := List.pairwise_iff_getElem.mp h
  rcases Nat.lt_trichotomy i j with h2 | h2 | h2
  · exact absurd e (h1 i j hi hj h2)
  · exact h2
  · exact absurd e.symm (h1 j i hj hi h2)
theorem singW_0 : ∀ o, (singW f tk wd told B d o)[0]? = some (0, 0, tabL f tk wd d)
  | 0 => rfl
  | o + 1 => by
    have ih := singW_0 o
    have hl : 0 < (singW f tk wd told B d o).length := by
      rcases Nat.eq_zero_or_pos (singW f tk wd told B d o).length with h | h
      · rw [List.getElem?_eq_none (by omega)] at ih; cases ih
      · exact h
    simp only [singW]
    split
    · rw [List.getElem?_append_left hl]; exact ih
    · exact ih
theorem pairW_0 (o : Nat) {W : WL} {x : Nat × Nat × Nat} (hW : W[0]? = some x) : ∀ k, (pairW f tk wd told B d o W k)[0]? = some x
  | 0 => hW
  | k + 1 => by
    have ih := pairW_0 o hW k
    have hl : 0 < (pairW f tk wd told B d o W k).length := by
      rcases Nat.eq_zero_or_pos (pairW f tk wd told B d o W k).length with h | h
      · rw [List.getElem?_eq_none (by omega)] at ih; cases ih
      · exact h
    simp only [pairW]
    split
    · rw [List.getElem?_append_left hl]; exact ih
    · exact ih
theorem allW_0 : ∀ o, (allW f tk wd told B d o)[0]? = some (0, 0, tabL f tk wd d)
  | 0 => singW_0 f tk wd told B d 8
  | o + 1 => pairW_0 f tk wd told B d o (allW_0 o) _
theorem pgc64 (P : Nat → Bool) : pgc wd P 64 ≤ 64 := pgc_le wd P 64
theorem tabL_le : tabL f tk wd d ≤ 200 := by
  have := pgc64 wd tk
  have := srtN_le f tk d
  unfold tabL
  omega
theorem oneO_le {o : OD} (h : OSok o.2.1) : oneO f tk wd d o ≤ 400 := by
  have h1 := rchO_le (f := f) (tk := tk) (d := d) h
  have h2 := srtN_le f tk d
  have h3 := pgc64 wd (lftO f tk d o)
  unfold oneO
  split <;> split <;> omega
theorem twoO_le {o p : OD} (h : OSok o.2.1) (h' : OSok p.2.1) : twoO f tk wd d o p ≤ 400 := by
  have h1 := rchO_le (f := f) (tk := tk) (d := d) h
  have h1' := rchO_le (f := f) (tk := tk) (d := d) h'
  have h2 := srtN_le f tk d
  have h3 := pgc64 wd (fun s => lftO f tk d o s && lftO f tk d p s)
  unfold twoO
  omega
theorem two_lt : ∀ j, j < 8 → 2 ^ j < 256 := by decide
theorem or_lt : ∀ j, j < 8 → ∀ p, p < 8 → 2 ^ j ||| 2 ^ p < 256 := by decide
theorem allW_ok (h : ∀ o, o < told → OSok (B o).2.1) : wOk (allW f tk wd told B d 8) ∧ wDif (allW f tk wd told B d 8) := by
  have h0 := allW_0 f tk wd told B d 8
  have hl : 0 < (allW f tk wd told B d 8).length := by
    rcases Nat.eq_zero_or_pos (allW f tk wd told B d 8).length with h | h
    · rw [List.getElem?_eq_none (by omega)] at h0; cases h0
    · exact h
  refine ⟨⟨Nat.le_trans (allW_len f tk wd told B d 8) (triW_le 8 (by omega)), hl, ?_, fun i hi => ?_⟩, wDif_of (allW_ap f tk wd told B d 8 (Nat.le_refl _))⟩
  · unfold List.getD
    rw [h0]
    rfl
  · rw [getD_at hi]
    have hm := List.getElem_mem hi
    rw [allW_in f tk wd told B d 8 (Nat.le_refl _)] at hm
    generalize (allW f tk wd told B d 8)[i] = x at hm
    rcases hm with (rfl | ⟨j, hj, hk, rfl⟩) | ⟨j, p, h1, h2, h3, hk, hk2, rfl⟩
    · have := tabL_le f tk wd d
      exact ⟨by show 0 < 256; omega, by show tabL f tk wd d < _; omega⟩
    · have := oneO_le f tk wd d (h j (keptB_lt hk))
      exact ⟨two_lt j hj, by show oneO f tk wd d (B j) < _; omega⟩
    · have := twoO_le f tk wd d (h j (keptB_lt hk)) (h p (keptB_lt hk2))
      exact ⟨or_lt j (by omega) p h2, by show twoO f tk wd d (B j) (B p) < _; omega⟩
end ALLW2
