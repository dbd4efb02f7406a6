/-! An order is told. -/
theorem OrdC.re {g : GG} {σ : Hs} {a a' : Nat → Nat} {key : Nat} {w : OS} {dr : Bool} (h : OrdC g σ a key w dr) (e : ∀ k, k < 8 → a' k = a k) : OrdC g σ a' key w dr := by
  unfold OrdC oc at *
  rw [e 0 (by omega), e 1 (by omega), e 2 (by omega), e 3 (by omega), e 4 (by omega), e 5 (by omega), e 6 (by omega), e 7 (by omega)]
  exact h
theorem Gr.ord {g : GG} {σ σ' : Hs} {a : Nat → Nat} {key : Nat} {w : OS} {dr : Bool} (s : Gr gN σ σ') (h : OrdC g σ a key w dr) : OrdC g σ' a key w dr := h.sm (R := fun _ => 0) (T := fun _ => False) (s.sm fun _ z => z.elim) fun _ _ _ _ z => z.elim
theorem Gr.tab {g : GG} {σ σ' : Hs} {t q tq wd : Nat} {f : Nat → Int32} {tk : Nat → Bool} (s : Gr gN σ σ') (h : TabAt g σ t q tq f tk wd) : TabAt g σ' t q tq f tk wd := ⟨s.2 _ _ h.1 (fun z => z), s.num h.2 (fun z => z) (fun z => z)⟩
theorem SR.of {g : GG} {σ : Hs} {a t ci k v n : Nat} {i : Int32} {f : Nat → Option Nat} {φ : Hs → Prop} (h : Ce σ a (aQ g t n f)) (hi : i = nI k) (hk : k < n) (hn : n < 2 ^ 31) (hr : Rc σ v ci) (hφ : φ (hup σ a (aQ g t n (va_up f k (some v))))) : SR g σ a t ci i v φ := by
  subst hi
  exact ⟨n, f, h, vp_in_nI hk hn, hr, by rw [nI_clamp (by omega)]; exact hφ⟩
/-- the roles with a new order's parts -/
def Rnew (R : Nat → Nat) (told : Nat) (a : Nat → Nat) : Nat → Nat := fun i => if 100 + 8 * told ≤ i ∧ i < 108 + 8 * told then a (i - (100 + 8 * told)) else R i
theorem Rnew_old {R : Nat → Nat} {told : Nat} {a : Nat → Nat} {i : Nat} (h : i < 100 + 8 * told ∨ 108 + 8 * told ≤ i) : Rnew R told a i = R i := if_neg (by omega)
theorem Rnew_new {R : Nat → Nat} {told : Nat} {a : Nat → Nat} {k : Nat} (h : k < 8) : Rnew R told a (100 + 8 * told + k) = a k := by
  unfold Rnew
  rw [if_pos (by omega), Nat.add_sub_cancel_left]
def tellP (g : GG) (σ : Hs) (R : Nat → Nat) (told qn : Nat) (B : Nat → OD) (f : Nat → Int32) (tk : Nat → Bool) (key : Nat) : Option Value → Hs → Prop := kI fun x σ' => x = nI told ∧ ∃ a, (∀ k, k < 8 → k ≠ 1 → a k ∉ σ.1) ∧ (∀ i, Lv (told + 1) qn i → Rnew R told a i ∈ σ'.1) ∧ Ij (Rnew R told a) (Lv (told + 1) qn) ∧ Sm R (fun i => i = 4 ∨ i = 5) σ σ' ∧ OrdsC g σ' (Rnew R told a) (told + 1) (fun o => if o = told then (key, rebS f key tk w0, false) else B o)
theorem wr_tell {g : GG} {σ : Hs} {R : Nat → Nat} {told qn tq q wd : Nat} {B : Nat → OD} {f : Nat → Int32} {tk : Nat → Bool} (h : OrdsC g σ R told B) (ht : TabAt g σ (R 1) q tq f tk wd) (I : Ij R (Lv told qn)) (al : ∀ i, Lv told qn i → R i ∈ σ.1) (h8 : told < 8) {key : Nat} (hk : kok key) : Do g M_X3_tell 7 146 [.ref (R 4), .int (nI key)] σ (tellP g σ R told qn B f tk key) := by
  have l33 : ∀ {i : Nat}, i < 33 → Lv told qn i := fun hi => lvs33 hi
  have lord : ∀ {i : Nat}, 100 ≤ i → i < 100 + 8 * told → i % 8 ≠ 5 → Lv told qn i := fun a1 a2 a3 => by unfold Lv; omega
  refine q_X3_tell 7 146 _ _ (FI.of h.1 rfl ⟨fun c => absurd ((lt_n (n := 0) (by decide)).mp c) (by rw [I_n (by omega)]; omega), fun _ => FR.of h.1 rfl (AN.of h.2.1 ⟨fun _ => ⟨by omega, fun r hr => ?_⟩, fun c => absurd (nI_lt h8 (by decide)) c⟩)⟩)
  have gp := Gr.push (oi .null .null .null .null 0 0 0 0) hr
  have p1 := gp.2 _ _ h.1 (fun z => z)
  refine FR.of p1 rfl ⟨6, 134, by omega, DoV.use (wr_oinit Ce.psh hk) ?_⟩
  rintro s7 ⟨a, rfl, ha1, hC, hG, hF, hI, hM⟩
  have fr : ∀ k, k < 8 → k ≠ 1 → a k ∉ σ.1 := fun k h1 h2 z => by
    rcases Nat.eq_zero_or_pos k with e | e
    · subst e; exact hr z
    · exact hF k (by omega) h1 (gp.1 _ z)
  have g7 : Gr gN σ s7 := ⟨fun b hb => hG.1 b (gp.1 b hb), fun b e c _ => hG.2 b e (gp.2 b e c (fun z => z)) (fun z => hr (z ▸ c.1))⟩
  have t7 := g7.tab ht
  rw [← ha1] at t7
  have n4 : ∀ k, k < 8 → k ≠ 1 → a k ≠ R 4 := fun k h1 h2 z => fr k h1 h2 (z ▸ h.1.1)
  have n5 : ∀ k, k < 8 → k ≠ 1 → a k ≠ R 5 := fun k h1 h2 z => fr k h1 h2 (z ▸ h.2.1.1)
  refine ⟨by omega, Rc.of hC.1, (wr_orebuild hC t7).use ?_⟩
  have k10 := hC.keep (rebS f key tk w0) false
  have sa : Sm a (fun k => k < 8 ∧ k ≠ 1) s7 (oup g s7 a key (rebS f key tk w0) false) := Sm.ofo fun k h1 h2 => ⟨k, ⟨h1, h2⟩, rfl⟩
  have c4 := sa.2 _ _ (g7.2 _ _ h.1 (fun z => z)) (fun i hi => (n4 i hi.1 hi.2).symm)
  have c5 := sa.2 _ _ (g7.2 _ _ h.2.1 (fun z => z)) (fun i hi => (n5 i hi.1 hi.2).symm)
  have o10 : ∀ o, o < told → OrdC g (oup g s7 a key (rebS f key tk w0) false) (oad R o) (B o).1 (B o).2.1 (B o).2.2 := fun o ho => (g7.ord (h.2.2.2.1 o ho)).sm sa fun k h1 h2 i hi z => by
    rw [oad_of h2] at z
    exact fr i hi.1 hi.2 (z ▸ al _ (lord (by omega) (by omega) (by omega)))
  have w10 := rebS_in f key tk w0
  generalize hs10 : oup g s7 a key (rebS f key tk w0) false = s10 at *
  refine FR.of c4 rfl (SR.of c5 rfl h8 (by decide) (Rc.of k10.1) ?_)
  have n45 : R 4 ≠ R 5 := fun z => absurd (I 4 5 (l33 (by omega)) (l33 (by omega)) z) (by omega)
  have c4b := c4.upo (e := aQ g 4 8 (va_up (oQ R told) told (some (a 0)))) n45
  refine FI.of c4b rfl (PF.of c4b (by show 2 < 3; decide) rfl ⟨by omega, _, rfl, rfl, a, ?_⟩)
  rw [nI_1]
  have sT : Sm R (fun i => i = 4 ∨ i = 5) s10 (hup (hup s10 (R 5) (aQ g 4 8 (va_up (oQ R told) told (some (a 0))))) (R 4) (.inr (3, [.ref (R 1), .ref (R 5), .int (nI (told + 1))]))) := (Sm.hup (Or.inr rfl) _).trans (Sm.hup (Or.inl rfl) _)
  have m10 : ∀ b, b ∈ s7.1 → b ∈ s10.1 := sa.1
  have rn : ∀ i, i < 100 + 8 * told ∨ 108 + 8 * told ≤ i → Rnew R told a i = R i := fun i hi => Rnew_old hi
  have lvc : ∀ i, Lv (told + 1) qn i → Lv told qn i ∧ Rnew R told a i = R i ∨ ∃ k, k < 8 ∧ k ≠ 1 ∧ i = 100 + 8 * told + k := fun i hi => by
    by_cases c : 100 + 8 * told ≤ i ∧ i < 108 + 8 * told
    · refine Or.inr ⟨i - (100 + 8 * told), by omega, ?_, by omega⟩
      unfold Lv at hi
      omega
    · refine Or.inl ⟨?_, rn i (by omega)⟩
      unfold Lv at hi ⊢
      omega
  refine ⟨fr, fun i hi => ?_, fun i j hi hj e => ?_, ?_, ?_⟩
  · rcases lvc i hi with ⟨a1, a2⟩ | ⟨k, a1, a2, rfl⟩
    · rw [a2]
      exact sT.1 _ (m10 _ (g7.1 _ (al i a1)))
    · rw [Rnew_new a1]
      exact sT.1 _ (m10 _ (hM k a1 a2))
  · rcases lvc i hi with ⟨a1, a2⟩ | ⟨k, a1, a2, rfl⟩
    · rcases lvc j hj with ⟨b1, b2⟩ | ⟨l, b1, b2, rfl⟩
      · rw [a2, b2] at e
        exact I i j a1 b1 e
      · rw [a2, Rnew_new b1] at e
        exact absurd (e ▸ al i a1) (fr l b1 b2)
    · rcases lvc j hj with ⟨b1, b2⟩ | ⟨l, b1, b2, rfl⟩
      · rw [b2, Rnew_new a1] at e
        exact absurd (e.symm ▸ al j b1) (fr k a1 a2)
      · rw [Rnew_new a1, Rnew_new b1] at e
        rw [hI k l a1 b1 a2 b2 e]
  · refine Sm.trans (σ1 := s10) ?_ sT
    refine ⟨fun b hb => m10 _ (g7.1 b hb), fun b e c _ => ?_⟩
    exact sa.2 _ _ (g7.2 _ _ c (fun z => z)) (fun i hi z => fr i hi.1 hi.2 (z ▸ c.1))
  · have e1 : Rnew R told a 1 = R 1 := rn 1 (by omega)
    have e4 : Rnew R told a 4 = R 4 := rn 4 (by omega)
    have e5 : Rnew R told a 5 = R 5 := rn 5 (by omega)
    refine ⟨?_, ?_, by omega, fun o ho => ?_, fun o ho => ?_, ?_⟩
    · rw [e1, e4, e5]
      exact c4b.up _
    · rw [e5]
      have hq : va_up (oQ R told) told (some (a 0)) = oQ (Rnew R told a) (told + 1) := by
        funext o
        simp only [va_up, oQ]
        by_cases c : o = told
        · subst c
          rw [if_pos rfl, if_pos (by omega)]
          exact congrArg some (Rnew_new (k := 0) (by omega)).symm
        · rw [if_neg c]
          by_cases c2 : o < told
          · rw [if_pos c2, if_pos (by omega), rn _ (by omega)]
          · rw [if_neg c2, if_neg (by omega)]
      rw [← hq]
      exact (c5.up _).upo n45.symm
    · by_cases c : o = told
      · subst c
        simp only [if_true]
        refine OrdC.re (a := a) ((k10.sm sT fun k h1 h2 i hi z => ?_)) fun k hk8 => ?_
        · rcases hi with rfl | rfl
          · exact n4 k h1 h2 z
          · exact n5 k h1 h2 z
        · unfold oad
          by_cases k1 : k = 1
          · rw [if_pos k1, k1, ha1, e1]
          · rw [if_neg k1, Rnew_new hk8]
      · simp only [if_neg c]
        refine OrdC.re (a := oad R o) ((o10 o (by omega)).sm sT fun k h1 h2 i hi z => ?_) fun k hk8 => ?_
        · rw [oad_of h2] at z
          rcases hi with rfl | rfl
          · exact absurd (I _ 4 (lord (by omega) (by omega) (by omega)) (l33 (by omega)) z) (by omega)
          · exact absurd (I _ 5 (lord (by omega) (by omega) (by omega)) (l33 (by omega)) z) (by omega)
        · unfold oad
          by_cases k1 : k = 1
          · rw [if_pos k1, if_pos k1, e1]
          · rw [if_neg k1, if_neg k1, rn _ (by omega)]
    · by_cases c : o = told
      · subst c
        simp only [if_true]
        exact w10.1
      · simp only [if_neg c]
        exact h.2.2.2.2.1 o (by omega)
    · intro i j a1 a2 a3 b1 b2 b3 e
      have li : Lv (told + 1) qn i := by unfold Lv; omega
      have lj : Lv (told + 1) qn j := by unfold Lv; omega
      rcases lvc i li with ⟨u1, u2⟩ | ⟨k, u1, u2, rfl⟩
      · rcases lvc j lj with ⟨v1, v2⟩ | ⟨l, v1, v2, rfl⟩
        · rw [u2, v2] at e
          exact I i j u1 v1 e
        · rw [u2, Rnew_new v1] at e
          exact absurd (e ▸ al i u1) (fr l v1 v2)
      · rcases lvc j lj with ⟨v1, v2⟩ | ⟨l, v1, v2, rfl⟩
        · rw [v2, Rnew_new u1] at e
          exact absurd (e.symm ▸ al j v1) (fr k u1 u2)
        · rw [Rnew_new u1, Rnew_new v1] at e
          rw [hI k l u1 v1 u2 v2 e]
