/-! ===== the class Pictures: R 27 itself, R 28 its list, R 29 sorted over R 30; picture c: R (50 + 7 c + k) ===== -/
theorem sfj {R : Nat → Nat} {told qn : Nat} {σ : Hs} (I : Ij R (Lv told qn)) {j : Nat} (hj : Lv told qn j) (e : va_E) : Sf R (Lv told qn) (Tr j (j + 1)) σ (hup σ (R j) e) := ⟨Sm.hup ⟨Nat.le_refl _, Nat.lt_succ_self _⟩ _, I, fun i hi => by unfold Tr at hi; rw [show i = j by omega]; exact hj⟩
theorem lne {told qn i j : Nat} (hi : Lv told qn i) (h : i ≠ j) : Lv told qn i ∧ ¬ Tr j (j + 1) i := ⟨hi, by unfold Tr; omega⟩
def pad (R : Nat → Nat) (c : Nat) : Nat → Nat := fun k => R (50 + 7 * c + k)
def pQ (R : Nat → Nat) : Nat → Option Nat := fun c => if c < 4 then some (R (50 + 7 * c)) else none
theorem lvp {told qn c k : Nat} (hc : c < 4) (hk : k < 7) : Lv told qn (50 + 7 * c + k) := by unfold Lv; omega
theorem lvs33 {told qn i : Nat} (h : i < 33) : Lv told qn i := by unfold Lv; omega
theorem PicC.sm {g : GG} {R : Nat → Nat} {T : Nat → Prop} {σ σ' : Hs} {p : Nat → Nat} {P : PD} (h : PicC g σ p P) (s : Sm R T σ σ') (hp : ∀ k, k < 7 → ∀ i, T i → p k ≠ R i) : PicC g σ' p P := ⟨s.2 _ _ h.1 (hp 0 (by omega)), h.2.1.sm s (hp 1 (by omega)) (hp 2 (by omega)), h.2.2.1.sm s (hp 3 (by omega)) (hp 4 (by omega)), h.2.2.2.sm s (hp 5 (by omega)) (hp 6 (by omega))⟩
section PIC2
variable {g : GG} {σ : Hs} {R : Nat → Nat} {told qn c : Nat} {P : PD}
theorem PicC.cnt (h : PicC g σ (pad R c) P) (I : Ij R (Lv told qn)) (hc : c < 4) (z : Nat → Nat) : PicC g (hup σ (R (50 + 7 * c + 2)) (aI g 4 (nF z))) (pad R c) (P.1, z, P.2.2) := by
  have s := sfj (σ := σ) I (lvp hc (show 2 < 7 by omega)) (aI g 4 (nF z))
  obtain ⟨h0, h1, h2, h3⟩ := h
  exact ⟨h0.sf (j := 50 + 7 * c + 0) s (lne (lvp hc (by omega)) (by omega)), h1.put _, NumAt.sf (i := 50 + 7 * c + 3) (j := 50 + 7 * c + 4) h2 s (lne (lvp hc (by omega)) (by omega)) (lne (lvp hc (by omega)) (by omega)), NumAt.sf (i := 50 + 7 * c + 5) (j := 50 + 7 * c + 6) h3 s (lne (lvp hc (by omega)) (by omega)) (lne (lvp hc (by omega)) (by omega))⟩
theorem PicC.lst (h : PicC g σ (pad R c) P) (I : Ij R (Lv told qn)) (hc : c < 4) (z : Nat → Int32) : PicC g (hup σ (R (50 + 7 * c + 4)) (aI g 4 z)) (pad R c) (P.1, P.2.1, z, P.2.2.2) := by
  have s := sfj (σ := σ) I (lvp hc (show 4 < 7 by omega)) (aI g 4 z)
  obtain ⟨h0, h1, h2, h3⟩ := h
  exact ⟨h0.sf (j := 50 + 7 * c + 0) s (lne (lvp hc (by omega)) (by omega)), NumAt.sf (i := 50 + 7 * c + 1) (j := 50 + 7 * c + 2) h1 s (lne (lvp hc (by omega)) (by omega)) (lne (lvp hc (by omega)) (by omega)), h2.put _, NumAt.sf (i := 50 + 7 * c + 5) (j := 50 + 7 * c + 6) h3 s (lne (lvp hc (by omega)) (by omega)) (lne (lvp hc (by omega)) (by omega))⟩
theorem PicC.grt (h : PicC g σ (pad R c) P) (I : Ij R (Lv told qn)) (hc : c < 4) (z : Nat → Int32) : PicC g (hup σ (R (50 + 7 * c + 6)) (aI g 4 z)) (pad R c) (P.1, P.2.1, P.2.2.1, z) := by
  have s := sfj (σ := σ) I (lvp hc (show 6 < 7 by omega)) (aI g 4 z)
  obtain ⟨h0, h1, h2, h3⟩ := h
  exact ⟨h0.sf (j := 50 + 7 * c + 0) s (lne (lvp hc (by omega)) (by omega)), NumAt.sf (i := 50 + 7 * c + 1) (j := 50 + 7 * c + 2) h1 s (lne (lvp hc (by omega)) (by omega)) (lne (lvp hc (by omega)) (by omega)), NumAt.sf (i := 50 + 7 * c + 3) (j := 50 + 7 * c + 4) h2 s (lne (lvp hc (by omega)) (by omega)) (lne (lvp hc (by omega)) (by omega)), h3.put _⟩
theorem PicC.tkn (h : PicC g σ (pad R c) P) (I : Ij R (Lv told qn)) (hc : c < 4) (b : Bool) : PicC g (hup σ (R (50 + 7 * c + 0)) (.inr (4, [.ref (pad R c 1), .ref (pad R c 3), .ref (pad R c 5), .int (b2 b)]))) (pad R c) (b, P.2) := by
  have s := sfj (σ := σ) I (lvp hc (show 0 < 7 by omega)) (.inr (4, [.ref (pad R c 1), .ref (pad R c 3), .ref (pad R c 5), .int (b2 b)]))
  obtain ⟨h0, h1, h2, h3⟩ := h
  exact ⟨h0.up _, NumAt.sf (i := 50 + 7 * c + 1) (j := 50 + 7 * c + 2) h1 s (lne (lvp hc (by omega)) (by omega)) (lne (lvp hc (by omega)) (by omega)), NumAt.sf (i := 50 + 7 * c + 3) (j := 50 + 7 * c + 4) h2 s (lne (lvp hc (by omega)) (by omega)) (lne (lvp hc (by omega)) (by omega)), NumAt.sf (i := 50 + 7 * c + 5) (j := 50 + 7 * c + 6) h3 s (lne (lvp hc (by omega)) (by omega)) (lne (lvp hc (by omega)) (by omega))⟩
end PIC2
/-- the parts of n sorted numbers S, the first so many of them done -/
def tkP (n : Nat) (S : Nat → Int32) (P : PD) : Nat → PD
  | 0 => (true, P.2)
  | i + 1 => (true, setN (tkP n S P i).2.1 i ((i + 1) * n / 4 - i * n / 4), if i * n / 4 < (i + 1) * n / 4 then upd (tkP n S P i).2.2.1 i (S (i * n / 4)) else (tkP n S P i).2.2.1, if i * n / 4 < (i + 1) * n / 4 then upd (tkP n S P i).2.2.2 i (S ((i + 1) * n / 4 - 1)) else (tkP n S P i).2.2.2)
def tkN (n : Nat) : Nat → Nat
  | 0 => 0
  | i + 1 => tkN n i + (if i * n / 4 < (i + 1) * n / 4 then 1 else 0)
theorem tkP_1 (n : Nat) (S : Nat → Int32) (P : PD) : ∀ i, (tkP n S P i).1 = true
  | 0 => rfl
  | _ + 1 => rfl
/-- roles that a picture's taking may change -/
def Tpc (i : Nat) : Prop := (27 ≤ i ∧ i < 31) ∨ (50 ≤ i ∧ i < 78)
section PIC3
variable {g : GG} {σ : Hs} {R : Nat → Nat} {told qn c n : Nat} {P : PD} {S : Nat → Int32}
def ptP (g : GG) (σ : Hs) (R : Nat → Nat) (c n : Nat) (S : Nat → Int32) (P : PD) : Option Value → Hs → Prop := kI fun x σ' => PicC g σ' (pad R c) (tkP n S P 4) ∧ Sm R (Tr (50 + 7 * c) (57 + 7 * c)) σ σ' ∧ x = nI (tkN n 4)
end PIC3
