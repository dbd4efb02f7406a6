/-! Ways.fewestOfAll: for each set the looks of its best way. -/
def wS (W : WL) (i : Nat) : Nat := (W.getD i (0, 0, 0)).2.1
def wC (W : WL) (i : Nat) : Nat := (W.getD i (0, 0, 0)).2.2
/-- fewest looks among the first k ways whose orders lie in m -/
def mnW (W : WL) (m : Nat) : Nat → Nat
  | 0 => wC W 0
  | k + 1 => if wS W k &&& m = wS W k ∧ wC W k < mnW W m k then wC W k else mnW W m k
theorem mnW_bst (W : WL) (m : Nat) : ∀ k, mnW W m k = wC W (bstW W m k)
  | 0 => rfl
  | k + 1 => by
    have ih := mnW_bst W m k
    simp only [mnW, bstW]
    rw [ih]
    show _ = wC W (if wS W k &&& m = wS W k ∧ wC W k < wC W (bstW W m k) then k else bstW W m k)
    by_cases h : wS W k &&& m = wS W k ∧ wC W k < wC W (bstW W m k)
    · rw [if_pos h, if_pos h]
    · rw [if_neg h, if_neg h]
def isMin (W : WL) (P : Nat → Prop) (x : Nat) : Prop := (∃ i, i < W.length ∧ P i ∧ wC W i = x) ∧ ∀ i, i < W.length → P i → x ≤ wC W i
theorem isMin.uniq {W : WL} {P : Nat → Prop} {x y : Nat} (h1 : isMin W P x) (h2 : isMin W P y) : x = y := by
  obtain ⟨⟨i, hi, hp, e⟩, l1⟩ := h1
  obtain ⟨⟨j, hj, hq, e2⟩, l2⟩ := h2
  have := l1 j hj hq
  have := l2 i hi hp
  omega
theorem isMin.cong {W : WL} {P Q : Nat → Prop} {x : Nat} (h1 : isMin W P x) (h : ∀ i, i < W.length → (P i ↔ Q i)) : isMin W Q x := by
  obtain ⟨⟨i, hi, hp, e⟩, l1⟩ := h1
  exact ⟨⟨i, hi, (h i hi).mp hp, e⟩, fun j hj hq => l1 j hj ((h j hj).mpr hq)⟩
theorem isMin.or {W : WL} {P Q : Nat → Prop} {x y : Nat} (h1 : isMin W P x) (h2 : isMin W Q y) : isMin W (fun i => P i ∨ Q i) (if y < x then y else x) := by
  obtain ⟨⟨i, hi, hp, e⟩, l1⟩ := h1
  obtain ⟨⟨j, hj, hq, e2⟩, l2⟩ := h2
  split
  · refine ⟨⟨j, hj, Or.inr hq, e2⟩, fun k hk h => ?_⟩
    rcases h with h | h
    · have := l1 k hk h; omega
    · exact l2 k hk h
  · refine ⟨⟨i, hi, Or.inl hp, e⟩, fun k hk h => ?_⟩
    rcases h with h | h
    · exact l1 k hk h
    · have := l2 k hk h; omega
theorem mnW_min {W : WL} {m : Nat} (h1 : 1 ≤ W.length) (h0 : wS W 0 = 0) : isMin W (fun i => wS W i &&& m = wS W i) (mnW W m W.length) := by
  have key : ∀ k, k ≤ W.length → isMin W (fun i => i = 0 ∨ (i < k ∧ wS W i &&& m = wS W i)) (mnW W m k) := by
    intro k
    induction k with
    | zero => exact fun _ => ⟨⟨0, h1, Or.inl rfl, rfl⟩, fun i _ h => by rcases h with h | h; subst h; exact Nat.le_refl _; omega⟩
    | succ k ih =>
      intro hk
      have ih := ih (by omega)
      simp only [mnW]
      by_cases hm : wS W k &&& m = wS W k
      · have h2 : isMin W (fun i => i = k) (wC W k) := ⟨⟨k, by omega, rfl, rfl⟩, fun i _ h => by subst h; exact Nat.le_refl _⟩
        have h3 := ih.or h2
        have e : (if wS W k &&& m = wS W k ∧ wC W k < mnW W m k then wC W k else mnW W m k) = (if wC W k < mnW W m k then wC W k else mnW W m k) := by
          congr 1
          exact propext ⟨fun h => h.2, fun h => ⟨hm, h⟩⟩
        rw [e]
        refine h3.cong fun i hi => ?_
        constructor
        · rintro ((h | ⟨h, h'⟩) | h)
          · exact Or.inl h
          · exact Or.inr ⟨by omega, h'⟩
          · subst h; exact Or.inr ⟨by omega, hm⟩
        · rintro (h | ⟨h, h'⟩)
          · exact Or.inl (Or.inl h)
          · rcases Nat.lt_or_ge i k with h4 | h4
            · exact Or.inl (Or.inr ⟨h4, h'⟩)
            · exact Or.inr (by omega)
      · rw [if_neg (fun h => hm h.1)]
        refine ih.cong fun i hi => ?_
        constructor
        · rintro (h | ⟨h, h'⟩)
          · exact Or.inl h
          · exact Or.inr ⟨by omega, h'⟩
        · rintro (h | ⟨h, h'⟩)
          · exact Or.inl h
          · refine Or.inr ⟨?_, h'⟩
            rcases Nat.lt_or_ge i k with h4 | h4
            · exact h4
            · exact absurd (by rw [show k = i by omega]; exact h') hm
  refine (key W.length (Nat.le_refl _)).cong fun i hi => ?_
  constructor
  · rintro (h | h)
    · subst h; rw [h0]; exact Nat.zero_and m
    · exact h.2
  · exact fun h => Or.inr ⟨hi, h⟩
/-- which ways count for m once the first o orders were gone through -/
def wCnd (W : WL) (o m i : Nat) : Prop := i = 0 ∨ ∀ j, j < 8 → if j < o then (wS W i).testBit j = true → m.testBit j = true else (wS W i).testBit j = m.testBit j
theorem wo_bit : ∀ m, m < 256 → ∀ o, o < 8 → ∀ j, j < 8 → (if m.testBit o then m - 2 ^ o else m).testBit j = (m.testBit j && !decide (j = o)) := by decide +kernel
theorem wo_le : ∀ m, ∀ o, (if m.testBit o then m - 2 ^ o else m) ≤ m := by intro m o; split; exact Nat.sub_le _ _; exact Nat.le_refl _
theorem wCnd_step {W : WL} {o m i : Nat} (ho : o < 8) (hm : m < 256) : wCnd W (o + 1) m i ↔ wCnd W o m i ∨ wCnd W o (if m.testBit o then m - 2 ^ o else m) i := by
  unfold wCnd
  constructor
  · rintro (h | h)
    · exact Or.inl (Or.inl h)
    · by_cases hb : (wS W i).testBit o = m.testBit o
      · refine Or.inl (Or.inr fun j hj => ?_)
        have h1 := h j hj
        by_cases hjo : j = o
        · subst hjo
          rw [if_neg (by omega)]
          exact hb
        · by_cases hlt : j < o
          · rw [if_pos hlt]; rw [if_pos (by omega)] at h1; exact h1
          · rw [if_neg hlt]; rw [if_neg (by omega)] at h1; exact h1
      · refine Or.inr (Or.inr fun j hj => ?_)
        have h1 := h j hj
        rw [wo_bit m hm o ho j hj]
        by_cases hjo : j = o
        · subst hjo
          rw [if_neg (by omega)]
          rw [if_pos (by omega)] at h1
          revert h1 hb
          cases (wS W i).testBit j <;> cases m.testBit j <;> simp
        · rw [show (m.testBit j && !decide (j = o)) = m.testBit j from by simp [hjo]]
          by_cases hlt : j < o
          · rw [if_pos hlt]; rw [if_pos (by omega)] at h1; exact h1
          · rw [if_neg hlt]; rw [if_neg (by omega)] at h1; exact h1
  · rintro ((h | h) | (h | h))
    · exact Or.inl h
    · refine Or.inr fun j hj => ?_
      have h1 := h j hj
      by_cases hlt : j < o
      · rw [if_pos (by omega)]; rw [if_pos hlt] at h1; exact h1
      · rw [if_neg hlt] at h1
        split
        · rw [h1]; exact id
        · exact h1
    · exact Or.inl h
    · refine Or.inr fun j hj => ?_
      have h1 := h j hj
      rw [wo_bit m hm o ho j hj] at h1
      by_cases hjo : j = o
      · subst hjo
        rw [if_neg (by omega)] at h1
        rw [if_pos (by omega), h1]
        simp
      · rw [show (m.testBit j && !decide (j = o)) = m.testBit j from by simp [hjo]] at h1
        by_cases hlt : j < o
        · rw [if_pos (by omega)]; rw [if_pos hlt] at h1; exact h1
        · rw [if_neg hlt] at h1
          rw [if_neg (by omega)]
          exact h1
theorem NumAt.noW {g : GG} {σ : Hs} {R : Nat → Nat} {u : WS} {a q n : Nat} {f : Nat → Int32} (hN : NumAt g σ a q n f) (hu : WayC g σ R u) (h37 : n ≠ 37) (h8 : n ≠ 8) (F : Nat → Int32) : WayC g (hup σ q (aI g n F)) R u := by
  obtain ⟨w0, w1, w2, w3, w4, w5, dd⟩ := hu
  exact ⟨w0.upo (ne_oa w0 hN.2.1), w1.upo _ (ne_oa w1.1 hN.2.1) (ne_len w1.2.1 hN.2.1 (Ne.symm h37)), w2.upo _ (ne_oa w2.1 hN.2.1) (ne_len w2.2.1 hN.2.1 (Ne.symm h37)), w3.upo _ (ne_oa w3.1 hN.2.1) (ne_len w3.2.1 hN.2.1 (Ne.symm h37)), w4.upo _ (ne_oa w4.1 hN.2.1) (ne_len w4.2.1 hN.2.1 (Ne.symm h8)), w5.upo (ne_aJ w5 hN.2.1), dd⟩
/-- different ways have different sets -/
def wDif (W : WL) : Prop := ∀ i j, i < W.length → j < W.length → wS W i = wS W j → i = j
theorem bits8_eq {u m : Nat} (hu : u < 256) (hm : m < 256) (h : ∀ j, j < 8 → u.testBit j = m.testBit j) : u = m := Nat.eq_of_testBit_eq fun i => by
  by_cases hi : i < 8
  · exact h i hi
  · have hp := Nat.pow_le_pow_right (n := 2) (by decide) (show 8 ≤ i by omega)
    rw [Nat.testBit_lt_two_pow (Nat.lt_of_lt_of_le hu hp), Nat.testBit_lt_two_pow (Nat.lt_of_lt_of_le hm hp)]
theorem nI_if {x y : Nat} (hx : x < 2 ^ 31) (hy : y < 2 ^ 31) : (if nI y < nI x then nI y else nI x) = nI (if y < x then y else x) := by
  by_cases h : y < x
  · rw [if_pos h, if_pos ((lt_n hx).mpr (by rw [I_n hy]; omega))]
  · rw [if_neg h, if_neg (fun c => by have := (lt_n hx).mp c; rw [I_n hy] at this; omega)]
theorem if_lt' {x y n : Nat} (hx : x < n) (hy : y < n) : (if y < x then y else x) < n := by split <;> assumption
theorem upd_same (F : Nat → Int32) (k : Nat) (v : Int32) : upd F k v k = v := by simp [upd]
theorem upd_ne (F : Nat → Int32) {k j : Nat} (v : Int32) (h : j ≠ k) : upd F k v j = F j := by simp [upd, h]
section FEW
variable {g : GG} {σ : Hs} {R : Nat → Nat} {u : WS} {W : WL}
def fewP (g : GG) (σ : Hs) (q : Nat) (W : WL) : Option Value → Hs → Prop := kV fun σ' => ∃ F', σ' = hup σ q (aI g 256 F') ∧ ∀ m, m < 256 → F' m = nI (mnW W m W.length)
theorem wr_fewestOfAll {a q : Nat} {F : Nat → Int32} (hu : WayC g σ R u) (hW : WHold u W) (hk : wOk W) (hd : wDif W) (hN : NumAt g σ a q 256 F) : Do g M_X9_fewestOfAll 0 0 [.ref (R 6), .ref a] σ (fewP g σ q W) := by
  obtain ⟨hl, h1, hs0, hk⟩ := hk
  have hlt : ∀ {x}, x < 2 ^ 20 → x < 2 ^ 31 := fun h => Nat.lt_trans h (by decide)
  have l85 : ∀ (o : Nat), o < 8 → (∀ F' G : Nat → _, (∀ m, m < 256 → F' m = nI (G m) ∧ G m < 2 ^ 20 ∧ isMin W (wCnd W (o + 1) m) (G m)) → J_X9_fewestOfAll_77 g (fewP g σ q W) (hup σ q (aI g 256 F')) a (nI (o + 1))) → ∀ (e k : Nat) (F' : Nat → Int32) (G : Nat → Nat), k + e = 256 → (∀ m, m < 256 → F' m = nI (G m) ∧ G m < 2 ^ 20 ∧ isMin W (if m < k then wCnd W (o + 1) m else wCnd W o m) (G m)) → J_X9_fewestOfAll_85 g (fewP g σ q W) (hup σ q (aI g 256 F')) a (nI o) (nI k) := by
    intro o ho hnext e
    induction e with
    | zero =>
      intro k F' G hk2 hF
      refine q_X9_fewestOfAll_85 _ _ _ ⟨fun _ => ?_, fun c => absurd (nI_le (a := 256) (by omega) (by omega)) c⟩
      rw [nI_1]
      refine hnext F' G fun m hm => ?_
      have h := hF m hm
      rw [if_pos (by omega)] at h
      exact h
    | succ e ih =>
      intro k F' G hk2 hF
      have hk3 : k < 256 := by omega
      have hN' := hN.put F'
      have hwo : (if k.testBit o then k - 2 ^ o else k) < 256 := Nat.lt_of_le_of_lt (wo_le k o) hk3
      obtain ⟨f1, f2, f3⟩ := hF k hk3
      obtain ⟨g1, g2, g3⟩ := hF _ hwo
      refine q_X9_fewestOfAll_85 _ _ _ ⟨fun c => absurd ((nI_leI (a := 256) (by decide) (by omega)).mp c) (by omega), fun _ => ⟨Rc.of hN'.1, (rd_atn hN' hk3).use ((rd_without hk3 ho).use ⟨Rc.of hN'.1, (rd_atn hN' hwo).use ⟨Rc.of hN'.1, (wr_put hN' hk3 _).use ?_⟩⟩)⟩⟩
      rw [hup_hup, nI_1]
      refine ih (k + 1) _ (fun j => if j = k then (if G (if k.testBit o then k - 2 ^ o else k) < G k then G (if k.testBit o then k - 2 ^ o else k) else G k) else G j) (by omega) fun m hm => ?_
      by_cases hmk : m = k
      · subst hmk
        rw [upd_same, f1, g1, nI_if (hlt f2) (hlt g2), if_pos (Nat.lt_succ_self m)]
        rw [if_pos (show m = m from rfl)]
        refine ⟨rfl, if_lt' f2 g2, ?_⟩
        rw [if_neg (Nat.lt_irrefl _)] at f3
        refine (f3.or (Q := wCnd W o (if m.testBit o then m - 2 ^ o else m)) ?_).cong fun i _ => (wCnd_step ho hm).symm
        by_cases hb : m.testBit o = true
        · rw [if_pos hb] at g3 ⊢
          have h2 : 2 ^ o ≤ m := Nat.ge_two_pow_of_testBit hb
          have h3 : 0 < 2 ^ o := Nat.two_pow_pos o
          rw [if_pos (by omega)] at g3
          refine g3.cong fun i _ => ?_
          have hb2 : (m - 2 ^ o).testBit o = false := by
            have := wo_bit m hm o ho o ho
            rw [if_pos hb] at this
            rw [this]; simp
          rw [wCnd_step ho (by omega), hb2]
          simp
        · rw [if_neg hb] at g3 ⊢
          rw [if_neg (Nat.lt_irrefl _)] at g3
          exact g3
      · rw [if_neg hmk, upd_ne _ _ hmk]
        obtain ⟨e1, e2, e3⟩ := hF m hm
        refine ⟨e1, e2, ?_⟩
        by_cases hlt2 : m < k
        · rw [if_pos hlt2] at e3; rw [if_pos (by omega)]; exact e3
        · rw [if_neg hlt2] at e3; rw [if_neg (by omega)]; exact e3
  have l77 : ∀ (e k : Nat) (F' : Nat → Int32) (G : Nat → Nat), k + e = 8 → (∀ m, m < 256 → F' m = nI (G m) ∧ G m < 2 ^ 20 ∧ isMin W (wCnd W k m) (G m)) → J_X9_fewestOfAll_77 g (fewP g σ q W) (hup σ q (aI g 256 F')) a (nI k) := by
    intro e
    induction e with
    | zero =>
      intro k F' G hk2 hF
      refine q_X9_fewestOfAll_77 _ _ ⟨fun _ => ⟨rfl, F', rfl, fun m hm => ?_⟩, fun c => absurd (nI_le (a := 8) (by omega) (by omega)) c⟩
      obtain ⟨e1, e2, e3⟩ := hF m hm
      rw [e1, e3.uniq ((mnW_min h1 hs0).cong fun i hi => ?_)]
      refine Iff.trans (and_eq_iff (hk i hi).1) ?_
      constructor
      · intro h
        refine Or.inr fun j hj => ?_
        rw [if_pos (by omega)]
        exact h j hj
      · rintro (h | h) j hj
        · subst h
          rw [show (wS W 0).testBit j = false from by rw [show wS W 0 = 0 from hs0]; exact Nat.zero_testBit j]
          intro c; cases c
        · have := h j hj
          rw [if_pos (by omega)] at this
          exact this
    | succ e ih =>
      intro k F' G hk2 hF
      refine q_X9_fewestOfAll_77 _ _ ⟨fun c => absurd ((nI_leI (a := 8) (by decide) (by omega)).mp c) (by omega), fun _ => ?_⟩
      refine l85 k (by omega) (fun F' G h => ih (k + 1) F' G (by omega) h) 256 0 F' G rfl fun m hm => ?_
      rw [if_neg (by omega)]
      exact hF m hm
  have l30 : ∀ (e k : Nat) (F' : Nat → Int32) (G : Nat → Nat), k + e = W.length → 1 ≤ k → (∀ m, m < 256 → F' m = nI (G m) ∧ G m < 2 ^ 20 ∧ isMin W (fun i => i = 0 ∨ (i < k ∧ wS W i = m)) (G m)) → J_X9_fewestOfAll_30 g (fewP g σ q W) (hup σ q (aI g 256 F')) (R 6) a (nI k) := by
    intro e
    induction e with
    | zero =>
      intro k F' G hk2 hk1 hF
      have hu' := hN.noW hu (by decide) (by decide) F'
      refine q_X9_fewestOfAll_30 _ _ _ (FI.of hu'.1 rfl ⟨fun _ => l77 8 0 F' G rfl fun m hm => ?_, fun c => absurd (nI_le (by rw [hW.1]; omega) (by omega)) c⟩)
      obtain ⟨e1, e2, e3⟩ := hF m hm
      refine ⟨e1, e2, e3.cong fun i hi => ?_⟩
      constructor
      · rintro (h | h)
        · exact Or.inl h
        · refine Or.inr fun j hj => ?_
          rw [if_neg (by omega), h.2]
      · rintro (h | h)
        · exact Or.inl h
        · refine Or.inr ⟨by omega, bits8_eq (hk i hi).1 hm fun j hj => ?_⟩
          have := h j hj
          rw [if_neg (by omega)] at this
          exact this
    | succ e ih =>
      intro k F' G hk2 hk1 hF
      have hu' := hN.noW hu (by decide) (by decide) F'
      have hN' := hN.put F'
      have hkl : k < W.length := by omega
      obtain ⟨e1, e2, e3⟩ := hW.get hkl
      obtain ⟨z1, z2, z3⟩ := hW.get h1
      refine q_X9_fewestOfAll_30 _ _ _ (FI.of hu'.1 rfl ⟨fun c => absurd ((nI_leI (by rw [hW.1]; omega) (by omega)).mp c) (by rw [hW.1]; omega), fun _ => FR.of hu'.1 rfl ⟨Rc.of hu'.2.2.1.1, (rd_atn hu'.2.2.1 (by omega)).use (FR.of hu'.1 rfl ⟨Rc.of hu'.2.2.2.1.1, (rd_atn hu'.2.2.2.1 (show 0 < 37 by decide)).use (FR.of hu'.1 rfl ⟨Rc.of hu'.2.2.2.1.1, (rd_atn hu'.2.2.2.1 (by omega)).use ?_⟩)⟩)⟩⟩)
      rw [e2, e3, z3, nI_if (hlt (hk 0 h1).2) (hlt (hk k hkl).2)]
      refine ⟨Rc.of hN'.1, (wr_put hN' (hk k hkl).1 _).use ?_⟩
      rw [hup_hup, nI_1]
      refine ih (k + 1) _ (fun j => if j = wS W k then (if wC W k < wC W 0 then wC W k else wC W 0) else G j) (by omega) (by omega) fun m hm => ?_
      by_cases hmk : m = wS W k
      · subst hmk
        rw [if_pos rfl]
        refine ⟨upd_same _ _ _, by split; exact (hk k hkl).2; exact (hk 0 h1).2, ?_⟩
        refine (isMin.or (P := fun i => i = 0) (Q := fun i => i = k) ⟨⟨0, h1, rfl, rfl⟩, fun i _ h => by subst h; exact Nat.le_refl _⟩ ⟨⟨k, hkl, rfl, rfl⟩, fun i _ h => by subst h; exact Nat.le_refl _⟩).cong fun i hi => ?_
        constructor
        · rintro (h | h)
          · exact Or.inl h
          · subst h; exact Or.inr ⟨by omega, rfl⟩
        · rintro (h | h)
          · exact Or.inl h
          · exact Or.inr (hd i k hi hkl h.2)
      · rw [if_neg hmk]
        obtain ⟨f1, f2, f3⟩ := hF m hm
        refine ⟨(upd_ne _ _ hmk).trans f1, f2, f3.cong fun i hi => ?_⟩
        constructor
        · rintro (h | h)
          · exact Or.inl h
          · exact Or.inr ⟨by omega, h.2⟩
        · rintro (h | h)
          · exact Or.inl h
          · refine Or.inr ⟨?_, h.2⟩
            rcases Nat.lt_or_ge i k with h4 | h4
            · exact h4
            · exact absurd (by rw [← h.2, show i = k by omega]) hmk
  have l2 : ∀ (e k : Nat) (F' : Nat → Int32), k + e = 256 → (∀ m, m < k → F' m = nI (wC W 0)) → J_X9_fewestOfAll_2 g (fewP g σ q W) (hup σ q (aI g 256 F')) (R 6) a (nI k) := by
    intro e
    induction e with
    | zero =>
      intro k F' hk2 hF
      refine q_X9_fewestOfAll_2 _ _ _ ⟨fun _ => l30 (W.length - 1) 1 F' (fun _ => wC W 0) (by omega) (by omega) fun m hm => ?_, fun c => absurd (nI_le (a := 256) (by omega) (by omega)) c⟩
      refine ⟨hF m (by omega), (hk 0 h1).2, ⟨⟨0, h1, Or.inl rfl, rfl⟩, fun i _ h => ?_⟩⟩
      rcases h with h | h
      · subst h; exact Nat.le_refl _
      · rw [show i = 0 by omega]; exact Nat.le_refl _
    | succ e ih =>
      intro k F' hk2 hF
      have hu' := hN.noW hu (by decide) (by decide) F'
      have hN' := hN.put F'
      obtain ⟨z1, z2, z3⟩ := hW.get h1
      refine q_X9_fewestOfAll_2 _ _ _ ⟨fun c => absurd ((nI_leI (a := 256) (by decide) (by omega)).mp c) (by omega), fun _ => FR.of hu'.1 rfl ⟨Rc.of hu'.2.2.2.1.1, (rd_atn hu'.2.2.2.1 (show 0 < 37 by decide)).use ⟨Rc.of hN'.1, (wr_put hN' (by omega) _).use ?_⟩⟩⟩
      rw [hup_hup, nI_1]
      refine ih (k + 1) _ (by omega) fun m hm => ?_
      by_cases hmk : m = k
      · subst hmk; rw [upd_same, z3]; rfl
      · rw [upd_ne _ _ hmk]; exact hF m (by omega)
  refine q_X9_fewestOfAll _ _ ?_
  have h0 := l2 256 0 F rfl (fun m hm => absurd hm (by omega))
  rw [hup_self hN.2.1] at h0
  exact h0
end FEW
