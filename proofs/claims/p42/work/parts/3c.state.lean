/-! ===== the whole state: table, orders, questions, pictures, page, marks, how often chosen and stepped ===== -/
abbrev SS : Type := ((Nat → Int32) × (Nat → Bool) × Nat) × (Nat × (Nat → OD)) × (Nat × (Nat → QD) × Nat) × (Nat × (Nat → PD)) × (Nat × (Nat → Nat)) × (Nat × (Nat → MT)) × Nat × Nat
abbrev zf (S : SS) : Nat → Int32 := S.1.1
abbrev zt (S : SS) : Nat → Bool := S.1.2.1
abbrev zw (S : SS) : Nat := S.1.2.2
abbrev zo (S : SS) : Nat := S.2.1.1
abbrev zB (S : SS) : Nat → OD := S.2.1.2
abbrev zq (S : SS) : Nat := S.2.2.1.1
abbrev zQ (S : SS) : Nat → QD := S.2.2.1.2.1
abbrev zu (S : SS) : Nat := S.2.2.1.2.2
abbrev zr (S : SS) : Nat := S.2.2.2.1.1
abbrev zP (S : SS) : Nat → PD := S.2.2.2.1.2
abbrev zn (S : SS) : Nat := S.2.2.2.2.1.1
abbrev zC (S : SS) : Nat → Nat := S.2.2.2.2.1.2
abbrev zm (S : SS) : Nat := S.2.2.2.2.2.1.1
abbrev zM (S : SS) : Nat → MT := S.2.2.2.2.2.1.2
abbrev zc (S : SS) : Nat := S.2.2.2.2.2.2.1
abbrev zs (S : SS) : Nat := S.2.2.2.2.2.2.2
def koc (R : Nat → Nat) (ch sp : Nat) : va_E := .inr (11, [.ref (R 1), .ref (R 4), .ref (R 6), .ref (R 16), .ref (R 27), .ref (R 24), .ref (R 31), .int (nI ch), .int (nI sp)])
def KO (g : GG) (σ : Hs) (R : Nat → Nat) (S : SS) : Prop := Ce σ (R 0) (koc R (zc S) (zs S)) ∧ (∃ u F G T s, KW g σ R (zf S) (zt S) (zw S) (zo S) (zB S) u (zq S, zQ S, F, G, T, s, zu S)) ∧ (∃ F, PicsC g σ R (zr S) F (zP S)) ∧ ShC g σ R (zn S) (zC S) ∧ MarksC g σ R (zm S) (zM S) ∧ ∀ i, Lv (zo S) (zq S) i → R i ∈ σ.1
/-- a table's numbers -/
def Cells (f : Nat → Int32) (tk : Nat → Bool) : Prop := ∀ s, s < 64 → tk s = true → ∀ c, c < 4 → 0 ≤ (f (4 * s + c)).toInt ∧ (f (4 * s + c)).toInt ≤ 99
def Inv (S : SS) : Prop := (BIn (zf S) (zt S) (zo S) (zB S) ∧ Cells (zf S) (zt S) ∧ zo S ≤ 8) ∧ ((∀ i, i < zq S → QSm (zQ S i)) ∧ zq S ≤ 8) ∧ ((∀ c, c < 4 → PicOk (zP S c)) ∧ zr S ≤ 64) ∧ (zn S ≤ 60 ∧ ∀ k, k < zn S → zC S k < 127) ∧ (zm S ≤ 3 ∧ ∀ i, i < zm S → Cells (zM S i).1 (zM S i).2) ∧ zc S ≤ 20 ∧ zs S ≤ 20
/-- what the class's own calls may change -/
def Tc (S : SS) (i : Nat) : Prop := Lv (zo S) (zq S) i ∧ i < 300
def KPb (g : GG) (σ : Hs) (R : Nat → Nat) (S S' : SS) (σ' : Hs) : Prop := ∃ R', KO g σ' R' S' ∧ R' 0 = R 0 ∧ Sm R (Tc S) σ σ' ∧ ∀ a, a ∈ σ.1 → (∀ i, Tc S i → a ≠ R i) → ∀ i, Tc S' i → a ≠ R' i
def KP (g : GG) (σ : Hs) (R : Nat → Nat) (S : SS) (p : Int32 × SS) : Option Value → Hs → Prop := kI fun x σ' => x = p.1 ∧ KPb g σ R S p.2 σ'
section KOS
variable {g : GG} {σ σ' : Hs} {R : Nat → Nat} {S : SS}
theorem KO.ij (h : KO g σ R S) : Ij R (Lv (zo S) (zq S)) := by
  obtain ⟨-, ⟨u, F, G, T, s, hk⟩, -⟩ := h
  exact hk.2.1
theorem KO.tab (h : KO g σ R S) : TabAt g σ (R 1) (R 2) (R 3) (zf S) (zt S) (zw S) := by
  obtain ⟨-, ⟨u, F, G, T, s, hk⟩, -⟩ := h
  exact hk.1.1
theorem KO.ords (h : KO g σ R S) : OrdsC g σ R (zo S) (zB S) := by
  obtain ⟨-, ⟨u, F, G, T, s, hk⟩, -⟩ := h
  exact hk.1.2.1
theorem KO.wide (h : KO g σ R S) : 2 ≤ zw S ∧ zw S ≤ 8 := by
  obtain ⟨-, ⟨u, F, G, T, s, hk⟩, -⟩ := h
  exact hk.2.2.1
theorem KO.qok (h : KO g σ R S) : ∀ i, i < zq S → QOk (zQ S i) := by
  obtain ⟨-, ⟨u, F, G, T, s, hk⟩, -⟩ := h
  exact hk.2.2.2.1
theorem KO.upk (h : KO g σ R S) : zu S < 100 := by
  obtain ⟨-, ⟨u, F, G, T, s, hk⟩, -⟩ := h
  exact hk.2.2.2.2
theorem KO.q8 (h : KO g σ R S) : zq S ≤ 8 := by
  obtain ⟨-, ⟨u, F, G, T, s, hk⟩, -⟩ := h
  exact hk.1.2.2.2.2.2.2.2.2.2
theorem KO.que (h : KO g σ R S) {i : Nat} (hi : i < zq S) : QAt g σ (qad R i) (zQ S i) := by
  obtain ⟨-, ⟨u, F, G, T, s, hk⟩, -⟩ := h
  exact hk.1.2.2.2.2.2.1 i hi
theorem KO.wk (h : KO g σ R S) : Rc σ (R 16) 10 := by
  obtain ⟨-, ⟨u, F, G, T, s, hk⟩, -⟩ := h
  exact Rc.of hk.1.2.2.2.1
theorem KO.wy (h : KO g σ R S) : Rc σ (R 6) 9 := by
  obtain ⟨-, ⟨u, F, G, T, s, hk⟩, -⟩ := h
  exact Rc.of hk.1.2.2.1.1
theorem KO.sh (h : KO g σ R S) : Rc σ (R 24) 7 := by
  obtain ⟨-, -, -, ⟨⟨st, col, sg, nm, -, h1⟩, -⟩, -⟩ := h
  exact Rc.of h1
theorem KO.pc (h : KO g σ R S) : Rc σ (R 27) 5 := by
  obtain ⟨-, -, ⟨F, h1⟩, -⟩ := h
  exact Rc.of h1.1
theorem KO.mr (h : KO g σ R S) : Rc σ (R 31) 0 := Rc.of h.2.2.2.2.1.1
theorem KO.g0 (h : KO g σ R S) {φ : Nat → Prop} (k : φ (R 1)) : FR σ (R 0) 11 0 φ := FR.of h.1 rfl k
theorem KO.g1 (h : KO g σ R S) {φ : Nat → Prop} (k : φ (R 4)) : FR σ (R 0) 11 1 φ := FR.of h.1 rfl k
theorem KO.g2 (h : KO g σ R S) {φ : Nat → Prop} (k : φ (R 6)) : FR σ (R 0) 11 2 φ := FR.of h.1 rfl k
theorem KO.g3 (h : KO g σ R S) {φ : Nat → Prop} (k : φ (R 16)) : FR σ (R 0) 11 3 φ := FR.of h.1 rfl k
theorem KO.g4 (h : KO g σ R S) {φ : Nat → Prop} (k : φ (R 27)) : FR σ (R 0) 11 4 φ := FR.of h.1 rfl k
theorem KO.g5 (h : KO g σ R S) {φ : Nat → Prop} (k : φ (R 24)) : FR σ (R 0) 11 5 φ := FR.of h.1 rfl k
theorem KO.g6 (h : KO g σ R S) {φ : Nat → Prop} (k : φ (R 31)) : FR σ (R 0) 11 6 φ := FR.of h.1 rfl k
theorem KO.rq (h : KO g σ R S) (x : Int32) : RdA g M_X10_question [.ref (R 16), .int x] σ (if inR x (zq S) then some (R (200 + 5 * x.toInt.toNat)) else none) := by
  obtain ⟨-, ⟨u, F, G, T, s, hk⟩, -⟩ := h
  exact rd_wkquestion hk x
/-- a question's number: what is done without one, and with one -/
theorem KO.qs (h : KO g σ R S) (x : Int32) {φ0 : Hs → Prop} {φ1 : Nat → Hs → Prop} (k0 : inR x (zq S) = false → φ0 σ) (k1 : ∀ i, i < zq S → x = nI i → φ1 (R (200 + 5 * i)) σ) : Do g M_X10_question 0 0 [.ref (R 16), .int x] σ (kA φ0 φ1) := by
  have h1 := h.rq x
  rcases Bool.eq_false_or_eq_true (inR x (zq S)) with c | c
  · obtain ⟨i, hi, rfl⟩ := inR_of c (by have := h.q8; omega)
    have := h.q8
    rw [c, if_pos rfl, I_n (by omega), show ((i : Int).toNat) = i by omega] at h1
    exact h1.some (k1 i hi rfl)
  · rw [c, if_neg (by decide)] at h1
    exact h1.none (k0 c)
/-- an order's number likewise -/
theorem KO.os (h : KO g σ R S) (x : Int32) {φ0 : Hs → Prop} {φ1 : Nat → Hs → Prop} (k0 : isO (zo S) (zB S) x = false → φ0 σ) (k1 : ∀ o, o < zo S → o < 8 → (zB S o).2.2 = false → x = nI o → φ1 (R (100 + 8 * o)) σ) : Do g M_X3_kept 0 0 [.ref (R 4), .int x] σ (kA φ0 φ1) := by
  have h1 := rd_okept h.ords x
  have h8 := h.ords.2.2.1
  rcases Bool.eq_false_or_eq_true (isO (zo S) (zB S) x) with c | c
  · have c1 : inR x (zo S) = true := by unfold isO at c; rw [Bool.and_eq_true] at c; exact c.1
    obtain ⟨o, ho, rfl⟩ := inR_of c1 (by omega)
    have c2 := c
    rw [isO_n (by omega), decide_eq_true ho, Bool.true_and] at c2
    rw [if_pos c, I_n (by omega), show ((o : Int).toNat) = o by omega] at h1
    exact h1.some (k1 o ho (by omega) (by simpa using c2) rfl)
  · rw [c, if_neg (by decide)] at h1
    exact h1.none (k0 c)
theorem KO.od (h : KO g σ R S) {o : Nat} (ho : o < zo S) : OrdC g σ (oad R o) (zB S o).1 (zB S o).2.1 (zB S o).2.2 := h.ords.2.2.2.1 o ho
theorem KP.rd {M : MI} {as : List Value} {v : Int32} (h : KO g σ R S) (r : Rd g M as σ v) : Do g M 0 0 as σ (KP g σ R S (v, S)) := Do.mono r (by rintro _ σ' ⟨x, rfl, rfl, rfl⟩; exact ⟨_, rfl, rfl, R, h, rfl, Sm.refl, fun _ _ n => n⟩)
theorem KP.no {v : Int32} (h : KO g σ R S) : KP g σ R S (v, S) (some (.int v)) σ := ⟨_, rfl, rfl, R, h, rfl, Sm.refl, fun _ _ n => n⟩
/-- table and orders changed, nothing else -/
theorem KO.tos {T : Nat → Prop} {f' : Nat → Int32} {tk' : Nat → Bool} {wd' : Nat} {B' : Nat → OD} (h : KO g σ R S) (s : Sf R (Lv (zo S) (zq S)) T σ σ') (hT : ∀ i, T i → i = 1 ∨ i = 3 ∨ (100 ≤ i ∧ i < 180)) (ht : TabAt g σ' (R 1) (R 2) (R 3) f' tk' wd') (ho : OrdsC g σ' R (zo S) B') (hw : 2 ≤ wd' ∧ wd' ≤ 8) : KO g σ' R ((f', tk', wd'), (zo S, B'), S.2.2) ∧ Sm R (Tc S) σ σ' := by
  obtain ⟨h0, ⟨u, F, G, T1, s1, hk⟩, ⟨F2, hp⟩, hs, hm, al⟩ := h
  have nT : ∀ i, (i < 33 ∧ i ≠ 1 ∧ i ≠ 3) ∨ (180 ≤ i) ∨ (33 ≤ i ∧ i < 100) → ¬ T i := fun i hi z => by have := hT i z; omega
  have nL : ∀ i, i < 33 → i ≠ 1 → i ≠ 3 → Lv (zo S) (zq S) i ∧ ¬ T i := fun i a b c => ⟨lvs33 a, nT i (by omega)⟩
  refine ⟨⟨h0.sf s (nL 0 (by omega) (by omega) (by omega)), ⟨u, F, G, T1, s1, ⟨ht, ho, hk.1.2.2.1.sf s fun i a b => nL i (by omega) (by omega) (by omega), hk.1.2.2.2.sf s fun i hi => ?_⟩, hk.2.1, hw, hk.2.2.2⟩, ⟨F2, hp.sf s fun i hi z => nT i (by omega) hi⟩, hs.sf s fun i hi z => nT i (by omega) hi, hm.sf s fun i hi z => nT i (by omega) hi, fun i hi => s.1.1 _ (al i hi)⟩, s.1.mono fun i hi => ⟨s.2.2 i hi, ?_⟩⟩
  · rcases hi with a | a
    · exact nL i (by omega) (by omega) (by omega)
    · exact ⟨by have a2 : i < 200 + 5 * zq S := a.2; unfold Lv; omega, nT i (by omega)⟩
  · have := hT i hi; omega
end KOS
