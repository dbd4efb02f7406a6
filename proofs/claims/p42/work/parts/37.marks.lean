/-! ===== the class Marks: R 31 itself, R 32 its list; mark i's table: R (40 + 3 i + k) ===== -/
def mQ (R : Nat → Nat) : Nat → Option Nat := fun i => if i < 3 then some (R (40 + 3 * i)) else none
def mkc (R : Nat → Nat) (mk : Nat) : va_E := .inr (0, [.ref (R 32), .int (nI mk)])
abbrev MT : Type := (Nat → Int32) × (Nat → Bool)
def MarksC (g : GG) (σ : Hs) (R : Nat → Nat) (mk : Nat) (M : Nat → MT) : Prop := Ce σ (R 31) (mkc R mk) ∧ Ce σ (R 32) (aQ g 7 3 (mQ R)) ∧ ∀ i, i < 3 → TabAt g σ (R (40 + 3 * i)) (R (40 + 3 * i + 1)) (R (40 + 3 * i + 2)) (M i).1 (M i).2 4
def cpT (f0 : Nat → Int32) (T : MT) : MT := (cpF 256 f0 T.1 256, T.2)
def setM (M : Nat → MT) (i : Nat) (T : MT) : Nat → MT := fun j => if j = i then T else M j
theorem cpT_f {f0 : Nat → Int32} {T : MT} {k : Nat} (h : k < 256) : (cpT f0 T).1 k = T.1 k := by
  show (if k < 256 then atN 256 T.1 (nI k) else f0 k) = _
  rw [if_pos h, atN_n h (by decide)]
section MAR
variable {g : GG} {σ σ' : Hs} {R : Nat → Nat} {T : Nat → Prop} {told qn mk : Nat} {M : Nat → MT}
theorem lmk (i k : Nat) (hi : i < 3) (hk : k < 3) : Lv told qn (40 + 3 * i + k) := by unfold Lv; omega
theorem MarksC.sf (h : MarksC g σ R mk M) (s : Sf R (Lv told qn) T σ σ') (hT : ∀ i, T i → ¬ (i = 31 ∨ i = 32 ∨ (40 ≤ i ∧ i < 49))) : MarksC g σ' R mk M := by
  obtain ⟨h1, h2, h3⟩ := h
  exact ⟨h1.sf s ⟨lvs33 (by omega), fun z => hT 31 z (by omega)⟩, h2.sf s ⟨lvs33 (by omega), fun z => hT 32 z (by omega)⟩, fun i hi => (h3 i hi).sf s (i := 40 + 3 * i) (j := 40 + 3 * i + 1) (k := 40 + 3 * i + 2) ⟨lmk i 0 hi (by omega), fun z => hT _ z (by omega)⟩ ⟨lmk i 1 hi (by omega), fun z => hT _ z (by omega)⟩ ⟨lmk i 2 hi (by omega), fun z => hT _ z (by omega)⟩⟩
theorem rd_marked (h : MarksC g σ R mk M) : Rd g M_X0_marked [.ref (R 31)] σ (nI mk) := q_X0_marked _ (FI.of h.1 rfl (rd_i rfl))
theorem MarksC.num (h : MarksC g σ R mk M) (I : Ij R (Lv told qn)) (n : Nat) : MarksC g (hup σ (R 31) (mkc R n)) R n M := by
  obtain ⟨h1, h2, h3⟩ := h
  have s := sf1 (σ := σ) I (show 31 < 33 by omega) (mkc R n)
  refine ⟨h1.up _, h2.sf s (l33 (by omega) (by omega)), fun i hi => (h3 i hi).sf s (i := 40 + 3 * i) (j := 40 + 3 * i + 1) (k := 40 + 3 * i + 2) ⟨lmk i 0 hi (by omega), ?_⟩ ⟨lmk i 1 hi (by omega), ?_⟩ ⟨lmk i 2 hi (by omega), ?_⟩⟩ <;> (unfold Tr; omega)
def Tmk (i : Nat) : Prop := i = 31 ∨ (40 ≤ i ∧ i < 49)
theorem MarksC.put (h : MarksC g σ R mk M) (I : Ij R (Lv told qn)) {i : Nat} (hi : i < 3) (X : MT) : MarksC g (hup (hup σ (R (40 + 3 * i + 2)) (aI g 256 X.1)) (R (40 + 3 * i)) (.inr (8, [.ref (R (40 + 3 * i + 1)), .long (mk64 X.2), .int (nI 4)]))) R mk (setM M i X) := by
  obtain ⟨h1, h2, h3⟩ := h
  have s : Sf R (Lv told qn) (Tr (40 + 3 * i) (43 + 3 * i)) σ (hup (hup σ (R (40 + 3 * i + 2)) (aI g 256 X.1)) (R (40 + 3 * i)) (.inr (8, [.ref (R (40 + 3 * i + 1)), .long (mk64 X.2), .int (nI 4)]))) := ⟨(Sm.hup (by unfold Tr; omega) _).trans (Sm.hup (by unfold Tr; omega) _), I, fun j hj => by unfold Tr at hj; unfold Lv; omega⟩
  refine ⟨h1.sf s ⟨lvs33 (by omega), by unfold Tr; omega⟩, h2.sf s ⟨lvs33 (by omega), by unfold Tr; omega⟩, fun j hj => ?_⟩
  unfold setM
  by_cases e : j = i
  · subst e
    rw [if_pos rfl]
    exact ((h3 j hj).put X.1).tk X.2 4
  · rw [if_neg e]
    refine (h3 j hj).sf s (i := 40 + 3 * j) (j := 40 + 3 * j + 1) (k := 40 + 3 * j + 2) ⟨lmk j 0 hj (by omega), ?_⟩ ⟨lmk j 1 hj (by omega), ?_⟩ ⟨lmk j 2 hj (by omega), ?_⟩ <;> (unfold Tr; omega)
/-- one mark more -/
def keeP (g : GG) (σ : Hs) (R : Nat → Nat) (mk : Nat) (M : Nat → MT) (f : Nat → Int32) (tk : Nat → Bool) : Option Value → Hs → Prop := kI fun x σ' => Sm R Tmk σ σ' ∧ if mk < 3 then MarksC g σ' R (mk + 1) (setM M mk (cpT (M mk).1 (f, tk))) ∧ x = nI (mk + 1) else MarksC g σ' R mk M ∧ x = -104
end MAR
section SHF
variable {g : GG} {σ σ' : Hs} {R : Nat → Nat} {T : Nat → Prop} {told qn n : Nat} {C : Nat → Nat}
theorem ShC.sf (h : ShC g σ R n C) (s : Sf R (Lv told qn) T σ σ') (hT : ∀ i, T i → ¬ ((24 ≤ i ∧ i < 27) ∨ (190 ≤ i ∧ i < 195))) : ShC g σ' R n C := by
  obtain ⟨⟨st, col, sg, nm, b, h1⟩, h2, lo, hi, bd, fx, sh, srt, hf, h3, h9⟩ := h
  exact ⟨⟨st, col, sg, nm, b, h1.sf s ⟨lvs33 (by omega), fun z => hT _ z (by omega)⟩⟩, h2.sf s ⟨lvs33 (by omega), fun z => hT _ z (by omega)⟩ ⟨lvs33 (by omega), fun z => hT _ z (by omega)⟩, lo, hi, bd, fx, sh, srt, hf, h3.sm s.1 (fun k hk => s.off ⟨lsh k hk, fun z => hT _ z (by omega)⟩), h9⟩
theorem wr_swrite (h : ShC g σ R n C) (I : Ij R (Lv told qn)) (hn : n < 60) (k : Nat) : Do g M_X7_write 0 0 [.ref (R 24), .int (nI k)] σ (kV fun σ' => ShC g σ' R (n + 1) (setN C n k) ∧ Sm R (Tr 24 27) σ σ') := by
  obtain ⟨⟨st, col, sg, nm, b, h1⟩, h2, lo, hi, bd, fx, sh, srt, hf, h3, h9⟩ := h
  have z1 := sf1 (σ := σ) I (show 26 < 33 by omega) (aI g 60 (nF (setN C n k)))
  have e1 := h1.sf z1 (l33 (by omega) (by omega))
  refine q_X7_write _ _ (FR.of h1 rfl (FI.of h1 rfl ⟨Rc.of h2.1, (wr_put h2 hn _).use ?_⟩))
  rw [nF_set]
  refine FI.of e1 rfl (PF.of e1 (by show 1 < 7; decide) rfl ?_)
  rw [nI_1]
  have z2 := sf1 (σ := hup σ (R 26) (aI g 60 (nF (setN C n k)))) I (show 24 < 33 by omega) (shc R (n + 1) st col sg nm)
  refine ⟨rfl, ⟨⟨st, col, sg, nm, b, e1.up _⟩, (h2.put _).sf z2 (l33 (by omega) (by omega)) (l33 (by omega) (by omega)), lo, hi, bd, fx, sh, srt, hf, (h3.sm z1.1 fun k hk => z1.off ⟨lsh k hk, by unfold Tr; omega⟩).sm z2.1 (fun k hk => z2.off ⟨lsh k hk, by unfold Tr; omega⟩), h9⟩, (Sm.hup (by unfold Tr; omega) _).trans (Sm.hup (by unfold Tr; omega) _)⟩
theorem wr_sclear (h : ShC g σ R n C) (I : Ij R (Lv told qn)) : Do g M_X7_clear 0 0 [.ref (R 24)] σ (kV fun σ' => ShC g σ' R 0 C ∧ Sm R (Tr 24 25) σ σ') := by
  obtain ⟨⟨st, col, sg, nm, b, h1⟩, h2, lo, hi, bd, fx, sh, srt, hf, h3, h9⟩ := h
  have z1 := sf1 (σ := σ) I (show 24 < 33 by omega) (shc R 0 st col sg nm)
  exact q_X7_clear _ (PF.of h1 (by show 1 < 7; decide) rfl ⟨rfl, ⟨⟨st, col, sg, nm, b, h1.up _⟩, h2.sf z1 (l33 (by omega) (by omega)) (l33 (by omega) (by omega)), lo, hi, bd, fx, sh, srt, hf, h3.sm z1.1 (fun k hk => z1.off ⟨lsh k hk, by unfold Tr; omega⟩), h9⟩, Sm.hup (by unfold Tr; omega) _⟩)
end SHF
