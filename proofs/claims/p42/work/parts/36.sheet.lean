/-! ===== the class Sheet: R 24 itself, R 25 its codes over R 26; the draft: R (190 + k) ===== -/
/-- state, column, sign, number, what is drafted -/
abbrev AM : Type := Nat × Nat × Nat × Nat × QD
def lett (k : Nat) : Bool := decide (97 ≤ k) && decide (k ≤ 100)
def digi (k : Nat) : Bool := decide (48 ≤ k) && decide (k ≤ 57)
def endD (col sg nm : Nat) (d : QD) : QD := if sg = 60 then qnar d col 0 (nI nm - 1) else if sg = 62 then qnar d col (nI (nm + 1)) 99 else qnar d col (nI nm) (nI nm)
def shwD (d : QD) (c : Nat) : QD := (d.1, d.2.1, (fun j => d.2.2.1 j || decide (j = c)), d.2.2.2)
def srtD (d : QD) (c : Nat) : QD := (d.1, d.2.1, d.2.2.1, nI c, d.2.2.2.2)
def colA (k sg nm : Nat) (d : QD) : Option AM := if lett k then some (2, k - 97, sg, nm, d) else none
def endA (k col sg nm : Nat) (d : QD) : Option AM := if k = 38 then some (1, col, sg, nm, endD col sg nm d) else if k = 58 then some (6, col, sg, nm, endD col sg nm d) else none
def shwA (k col sg nm : Nat) (d : QD) : Option AM := if lett k && !d.2.2.1 (k - 97) then some (7, col, sg, nm, shwD d (k - 97)) else none
def digA (k to bg col sg : Nat) (d : QD) : Option AM := if digi k then some (to, col, sg, bg + k - 48, d) else none
def sgnA (k col nm : Nat) (d : QD) : Option AM := if k = 60 ∨ k = 61 ∨ k = 62 then some (3, col, k, nm, d) else none
def sorA (k col sg nm : Nat) (d : QD) : Option AM := if lett k then some (9, col, sg, nm, srtD d (k - 97)) else none
/-- what a letter k does: none where it is not taken -/
def stpA (k : Nat) : AM → Option AM
  | (0, col, sg, nm, d) => if k = 58 then some (6, col, sg, nm, d) else colA k sg nm d
  | (1, _, sg, nm, d) => colA k sg nm d
  | (2, col, _, nm, d) => sgnA k col nm d
  | (3, col, sg, _, d) => digA k 4 0 col sg d
  | (4, col, sg, nm, d) => if digi k then digA k 5 (10 * nm) col sg d else endA k col sg nm d
  | (5, col, sg, nm, d) => endA k col sg nm d
  | (6, col, sg, nm, d) => shwA k col sg nm d
  | (7, col, sg, nm, d) => if k = 47 then some (8, col, sg, nm, d) else shwA k col sg nm d
  | (8, col, sg, nm, d) => sorA k col sg nm d
  | (_ + 9, _, _, _, _) => none
def AOk (s : AM) : Prop := s.1 < 10 ∧ s.2.1 < 4 ∧ s.2.2.1 < 128 ∧ s.2.2.2.1 < 100 ∧ (s.1 = 4 → s.2.2.2.1 < 10) ∧ srtOk s.2.2.2.2
def runA (C : Nat → Nat) : Nat → Nat → AM → Nat × AM
  | 0, k, s => (k, s)
  | e + 1, k, s => match stpA (C k) s with
    | none => (k, s)
    | some s' => runA C e (k + 1) s'
theorem runA_none {C : Nat → Nat} {e k : Nat} {s : AM} (h : stpA (C k) s = none) : runA C (e + 1) k s = (k, s) := by
  unfold runA
  rw [h]
theorem runA_some {C : Nat → Nat} {e k : Nat} {s s' : AM} (h : stpA (C k) s = some s') : runA C (e + 1) k s = runA C e (k + 1) s' := by
  show (match stpA (C k) s with | none => (k, s) | some s' => runA C e (k + 1) s') = _
  rw [h]
theorem lett_iff {k : Nat} : lett k = true ↔ 97 ≤ k ∧ k ≤ 100 := by unfold lett; rw [Bool.and_eq_true, decide_eq_true_eq, decide_eq_true_eq]
theorem digi_iff {k : Nat} : digi k = true ↔ 48 ≤ k ∧ k ≤ 57 := by unfold digi; rw [Bool.and_eq_true, decide_eq_true_eq, decide_eq_true_eq]
theorem qnar_srt {d : QD} {c : Nat} {x y : Int32} (h : srtOk d) : srtOk (qnar d c x y) := h
theorem endD_srt {col sg nm : Nat} {d : QD} (h : srtOk d) : srtOk (endD col sg nm d) := by
  unfold endD
  split
  · exact h
  · split <;> exact h
theorem stpA_ok {k : Nat} (hk : k < 128) : ∀ {s s' : AM}, AOk s → stpA k s = some s' → AOk s' := by
  have hcol : ∀ {sg nm : Nat} {d : QD} {s' : AM}, sg < 128 → nm < 100 → srtOk d → colA k sg nm d = some s' → AOk s' := by
    intro sg nm d s' h1 h2 h3 h
    unfold colA at h
    split at h
    · rename_i hl
      rw [lett_iff] at hl
      cases h
      exact ⟨by show 2 < 10; omega, by show k - 97 < 4; omega, h1, h2, fun z => absurd z (by show ¬ 2 = 4; omega), h3⟩
    · cases h
  have hend : ∀ {col sg nm : Nat} {d : QD} {s' : AM}, col < 4 → sg < 128 → nm < 100 → srtOk d → endA k col sg nm d = some s' → AOk s' := by
    intro col sg nm d s' h0 h1 h2 h3 h
    unfold endA at h
    split at h
    · cases h
      exact ⟨by show 1 < 10; omega, h0, h1, h2, fun z => absurd z (by show ¬ 1 = 4; omega), endD_srt h3⟩
    · split at h
      · cases h
        exact ⟨by show 6 < 10; omega, h0, h1, h2, fun z => absurd z (by show ¬ 6 = 4; omega), endD_srt h3⟩
      · cases h
  have hshw : ∀ {col sg nm : Nat} {d : QD} {s' : AM}, col < 4 → sg < 128 → nm < 100 → srtOk d → shwA k col sg nm d = some s' → AOk s' := by
    intro col sg nm d s' h0 h1 h2 h3 h
    unfold shwA at h
    split at h
    · cases h
      exact ⟨by show 7 < 10; omega, h0, h1, h2, fun z => absurd z (by show ¬ 7 = 4; omega), h3⟩
    · cases h
  have hdig : ∀ {to bg col sg : Nat} {d : QD} {s' : AM}, to < 10 → bg < 91 → (to = 4 → bg = 0) → col < 4 → sg < 128 → srtOk d → digA k to bg col sg d = some s' → AOk s' := by
    intro to bg col sg d s' ht hb hz h0 h1 h3 h
    unfold digA at h
    split at h
    · rename_i hl
      rw [digi_iff] at hl
      cases h
      exact ⟨ht, h0, h1, by show bg + k - 48 < 100; omega, fun z => by have := hz z; show bg + k - 48 < 10; omega, h3⟩
    · cases h
  rintro ⟨st, col, sg, nm, d⟩ s' ⟨h0, h1, h2, h3, h4, h5⟩ h
  match st, h0, h4, h with
  | 0, _, _, h =>
    simp only [stpA] at h
    split at h
    · cases h
      exact ⟨by show 6 < 10; omega, h1, h2, h3, fun z => absurd z (by show ¬ 6 = 4; omega), h5⟩
    · exact hcol h2 h3 h5 h
  | 1, _, _, h => exact hcol h2 h3 h5 h
  | 2, _, _, h =>
    simp only [stpA, sgnA] at h
    split at h
    · cases h
      exact ⟨by show 3 < 10; omega, h1, hk, h3, fun z => absurd z (by show ¬ 3 = 4; omega), h5⟩
    · cases h
  | 3, _, _, h => exact hdig (to := 4) (bg := 0) (by omega) (by omega) (fun _ => rfl) h1 h2 h5 h
  | 4, _, h4, h =>
    have h4 : nm < 10 := h4 rfl
    simp only [stpA] at h
    split at h
    · exact hdig (to := 5) (bg := 10 * nm) (by omega) (by omega) (fun z => absurd z (by omega)) h1 h2 h5 h
    · exact hend h1 h2 h3 h5 h
  | 5, _, _, h => exact hend h1 h2 h3 h5 h
  | 6, _, _, h => exact hshw h1 h2 h3 h5 h
  | 7, _, _, h =>
    simp only [stpA] at h
    split at h
    · cases h
      exact ⟨by show 8 < 10; omega, h1, h2, h3, fun z => absurd z (by show ¬ 8 = 4; omega), h5⟩
    · exact hshw h1 h2 h3 h5 h
  | 8, _, _, h =>
    simp only [stpA, sorA] at h
    split at h
    · rename_i hl
      rw [lett_iff] at hl
      cases h
      exact ⟨by show 9 < 10; omega, h1, h2, h3, fun z => absurd z (by show ¬ 9 = 4; omega), Or.inr ⟨k - 97, by omega, rfl⟩⟩
    · cases h
  | n + 9, _, _, h => cases h
/-- a draft as it always is -/
def DOk (d : QD) : Prop := (∀ j, 4 ≤ j → d.1 j = 0 ∧ d.2.1 j = 0) ∧ (∀ c, c < 4 → (0 ≤ (d.1 c).toInt ∧ (d.1 c).toInt ≤ 100) ∧ -1 ≤ (d.2.1 c).toInt ∧ (d.2.1 c).toInt ≤ 99) ∧ d.2.2.2.2 = 1
def dq0 : QD := (fun _ => 0, fun j => if j < 4 then 99 else 0, (fun _ => false), -1, 1)
theorem dq0_ok : DOk dq0 := ⟨fun j hj => ⟨rfl, if_neg (by omega)⟩, fun c hc => by
  have e1 : dq0.1 c = 0 := rfl
  have e2 : dq0.2.1 c = 99 := if_pos hc
  rw [e1, e2]
  decide, rfl⟩
theorem qnar_dok {d : QD} {c : Nat} {x y : Int32} (h : DOk d) (hc : c < 4) (hx : x.toInt ≤ 100) (hy : -1 ≤ y.toInt) : DOk (qnar d c x y) := by
  refine ⟨fun j hj => ?_, fun j hj => ?_, h.2.2⟩
  · have := h.1 j hj
    show upd d.1 c _ j = 0 ∧ upd d.2.1 c _ j = 0
    rw [upd_ne _ _ (by omega), upd_ne _ _ (by omega)]
    exact this
  · obtain ⟨⟨b1, b2⟩, b3, b4⟩ := h.2.1 j hj
    show (0 ≤ (upd d.1 c (mxI (d.1 c) x) j).toInt ∧ (upd d.1 c (mxI (d.1 c) x) j).toInt ≤ 100) ∧ -1 ≤ (upd d.2.1 c (mnI (d.2.1 c) y) j).toInt ∧ (upd d.2.1 c (mnI (d.2.1 c) y) j).toInt ≤ 99
    by_cases e : j = c
    · subst e
      rw [upd_same, upd_same]
      unfold mxI mnI
      refine ⟨?_, ?_⟩
      · split
        · rename_i z
          rw [I_lt] at z
          omega
        · omega
      · split
        · rename_i z
          rw [I_lt] at z
          omega
        · omega
    · rw [upd_ne _ _ e, upd_ne _ _ e]
      exact ⟨⟨b1, b2⟩, b3, b4⟩
theorem endD_dok {col sg nm : Nat} {d : QD} (h : DOk d) (hc : col < 4) (hn : nm < 100) : DOk (endD col sg nm d) := by
  have hs : (nI nm - 1).toInt = (nm : Int) - 1 := by
    rw [I_sub (by rw [I_n (by omega)]; omega) (by rw [I_n (by omega)]; omega) (by decide) (by decide), I_n (by omega)]
    rfl
  unfold endD
  split
  · exact qnar_dok h hc (by decide) (by rw [hs]; omega)
  · split
    · exact qnar_dok h hc (by rw [I_n (by omega)]; omega) (by decide)
    · exact qnar_dok h hc (by rw [I_n (by omega)]; omega) (by rw [I_n (by omega)]; omega)
theorem stpA_dok {k : Nat} : ∀ {s s' : AM}, AOk s → DOk s.2.2.2.2 → stpA k s = some s' → DOk s'.2.2.2.2 := by
  have hcol : ∀ {sg nm : Nat} {d : QD} {s' : AM}, DOk d → colA k sg nm d = some s' → DOk s'.2.2.2.2 := by
    intro sg nm d s' hd h
    unfold colA at h
    split at h
    · cases h; exact hd
    · cases h
  have hend : ∀ {col sg nm : Nat} {d : QD} {s' : AM}, DOk d → col < 4 → nm < 100 → endA k col sg nm d = some s' → DOk s'.2.2.2.2 := by
    intro col sg nm d s' hd h1 h2 h
    unfold endA at h
    split at h
    · cases h; exact endD_dok hd h1 h2
    · split at h
      · cases h; exact endD_dok hd h1 h2
      · cases h
  have hshw : ∀ {col sg nm : Nat} {d : QD} {s' : AM}, DOk d → shwA k col sg nm d = some s' → DOk s'.2.2.2.2 := by
    intro col sg nm d s' hd h
    unfold shwA at h
    split at h
    · cases h; exact hd
    · cases h
  have hdig : ∀ {to bg col sg : Nat} {d : QD} {s' : AM}, DOk d → digA k to bg col sg d = some s' → DOk s'.2.2.2.2 := by
    intro to bg col sg d s' hd h
    unfold digA at h
    split at h
    · cases h; exact hd
    · cases h
  rintro ⟨st, col, sg, nm, d⟩ s' ⟨h0, h1, h2, h3, h4, h5⟩ hd h
  have hd : DOk d := hd
  match st, h with
  | 0, h =>
    simp only [stpA] at h
    split at h
    · cases h; exact hd
    · exact hcol hd h
  | 1, h => exact hcol hd h
  | 2, h =>
    simp only [stpA, sgnA] at h
    split at h
    · cases h; exact hd
    · cases h
  | 3, h => exact hdig hd h
  | 4, h =>
    simp only [stpA] at h
    split at h
    · exact hdig hd h
    · exact hend hd h1 h3 h
  | 5, h => exact hend hd h1 h3 h
  | 6, h => exact hshw hd h
  | 7, h =>
    simp only [stpA] at h
    split at h
    · cases h; exact hd
    · exact hshw hd h
  | 8, h =>
    simp only [stpA, sorA] at h
    split at h
    · cases h; exact hd
    · cases h
  | n + 9, h => cases h
def dad (R : Nat → Nat) : Nat → Nat := fun k => R (190 + k)
def shc (R : Nat → Nat) (n : Nat) (st col sg nm : Nat) : va_E := .inr (7, [.ref (R 25), .int (nI n), .ref (R 190), .int (nI st), .int (nI col), .int (nI sg), .int (nI nm)])
/-- the sheet with its automaton's state -/
def ShA (g : GG) (σ : Hs) (R : Nat → Nat) (n : Nat) (C : Nat → Nat) (s : AM) : Prop := Ce σ (R 24) (shc R n s.1 s.2.1 s.2.2.1 s.2.2.2.1) ∧ NumAt g σ (R 25) (R 26) 60 (nF C) ∧ QAt g σ (dad R) s.2.2.2.2
/-- the sheet at rest -/
def ShC (g : GG) (σ : Hs) (R : Nat → Nat) (n : Nat) (C : Nat → Nat) : Prop := (∃ st col sg nm, (st < 10 ∧ col < 4 ∧ sg < 128 ∧ nm < 100) ∧ Ce σ (R 24) (shc R n st col sg nm)) ∧ NumAt g σ (R 25) (R 26) 60 (nF C) ∧ ∃ lo hi bd fx sh srt hf, QRaw g σ (dad R) lo hi bd fx sh srt hf ∧ ∀ j, 4 ≤ j → lo j = 0 ∧ hi j = 0
def Tsh (i : Nat) : Prop := i = 24 ∨ (190 ≤ i ∧ i < 195)
def takP (g : GG) (σ : Hs) (R : Nat → Nat) (n : Nat) (C : Nat → Nat) (s : AM) (o : Option AM) : Option Value → Hs → Prop := kI fun x σ' => ShA g σ' R n C (o.getD s) ∧ Sm R Tsh σ σ' ∧ x = b2 o.isSome
section SHE
variable {g : GG} {σ σ1 : Hs} {R : Nat → Nat} {told qn n : Nat} {C : Nat → Nat} {s s1 : AM} {o : Option AM}
theorem ShA.rest (h : ShA g σ R n C s) (a : AOk s) (z : DOk s.2.2.2.2) : ShC g σ R n C := ⟨⟨_, _, _, _, ⟨a.1, a.2.1, a.2.2.1, a.2.2.2.1⟩, h.1⟩, h.2.1, _, _, _, _, _, _, _, h.2.2.raw, z.1⟩
theorem lsh (k : Nat) (hk : k < 5) : Lv told qn (190 + k) := by unfold Lv; omega
theorem ShA.obj (h : ShA g σ R n C s) (I : Ij R (Lv told qn)) (st col sg nm : Nat) : ShA g (hup σ (R 24) (shc R n st col sg nm)) R n C (st, col, sg, nm, s.2.2.2.2) := by
  have z := sf1 (σ := σ) I (show 24 < 33 by omega) (shc R n st col sg nm)
  exact ⟨h.1.up _, h.2.1.sf z (l33 (by omega) (by omega)) (l33 (by omega) (by omega)), h.2.2.sm z.1 fun k hk => z.off ⟨lsh k hk, by unfold Tr; omega⟩⟩
theorem sfq (I : Ij R (Lv told qn)) (d : QD) : Sf R (Lv told qn) (Tr 190 195) σ (qup g σ (dad R) d) := ⟨Sm.ofq fun k hk => ⟨190 + k, by unfold Tr; omega, rfl⟩, I, fun i hi => by unfold Tr at hi; unfold Lv; omega⟩
theorem ShA.drf (h : ShA g σ R n C s) (I : Ij R (Lv told qn)) (d : QD) : ShA g (qup g σ (dad R) d) R n C (s.1, s.2.1, s.2.2.1, s.2.2.2.1, d) := by
  have z := sfq (g := g) (σ := σ) I d
  have off : ∀ i, i < 33 → Lv told qn i ∧ ¬ Tr 190 195 i := fun i hi => ⟨lvs33 hi, by unfold Tr; omega⟩
  exact ⟨h.1.sf z (off 24 (by omega)), h.2.1.sf z (off 25 (by omega)) (off 26 (by omega)), h.2.2.keep d⟩
theorem sm_sho {st col sg nm : Nat} (h : Sm R Tsh σ σ1) : Sm R Tsh σ (hup σ1 (R 24) (shc R n st col sg nm)) := h.trans (Sm.hup (Or.inl rfl) _)
theorem sm_shd {d : QD} (h : Sm R Tsh σ σ1) : Sm R Tsh σ (qup g σ1 (dad R) d) := h.trans (Sm.ofq fun k hk => ⟨190 + k, Or.inr (by omega), rfl⟩)
theorem takP.no (h : ShA g σ R n C s) : takP g σ R n C s none (some (.int 0)) σ := ⟨0, rfl, h, Sm.refl, rfl⟩
theorem takP.nar {M : MI} {as : List Value} (h : Do g M 0 0 as σ1 (takP g σ R n C s o)) : Do g M 0 0 as σ1 (kI (fun i z => narrow .boolean (.int i) = .int i ∧ takP g σ R n C s o (some (.int i)) z)) := Do.mono h (by rintro _ σ' ⟨x, rfl, h1, h2, rfl⟩; exact ⟨_, rfl, b2_nar _, _, rfl, h1, h2, rfl⟩)
theorem wr_moves (h : ShA g σ1 R n C s1) (I : Ij R (Lv told qn)) (to : Nat) (z : Sm R Tsh σ σ1) (ho : o = some (to, s1.2)) : Do g M_X7_moves 0 0 [.ref (R 24), .int (nI to)] σ1 (takP g σ R n C s o) := by
  subst ho
  exact q_X7_moves _ _ (PF.of h.1 (by show 3 < 7; decide) rfl ⟨1, rfl, h.obj I to s1.2.1 s1.2.2.1 s1.2.2.2.1, sm_sho z, rfl⟩)
theorem rd_isLetter {k : Nat} (hk : k < 128) : Rd g M_X7_isLetter [.int (nI k)] σ (b2 (lett k)) := by
  refine q_X7_isLetter _ ⟨fun c => rd_i ?_, fun c => ⟨fun c2 => rd_i ?_, fun c2 => rd_i ?_⟩⟩
  · have c := (lt_n (n := 97) (by decide)).mp c
    rw [I_n (by omega)] at c
    rw [show lett k = false from Bool.eq_false_iff.mpr fun z => by rw [lett_iff] at z; omega]
    rfl
  · have c2 := (n_lt (n := 100) (by decide)).mp c2
    rw [I_n (by omega)] at c2
    rw [show lett k = false from Bool.eq_false_iff.mpr fun z => by rw [lett_iff] at z; omega]
    rfl
  · have c := nlt_n (n := 97) (by decide) c
    have c2 := n_nlt (n := 100) (by decide) c2
    rw [I_n (by omega)] at c c2
    rw [show lett k = true from lett_iff.mpr (by omega)]
    rfl
theorem wr_takesColumn (h : ShA g σ R n C s) (I : Ij R (Lv told qn)) {k : Nat} (hk : k < 128) : Do g M_X7_takesColumn 0 0 [.ref (R 24), .int (nI k)] σ (takP g σ R n C s (colA k s.2.2.1 s.2.2.2.1 s.2.2.2.2)) := by
  refine q_X7_takesColumn _ _ ((rd_isLetter hk).use ⟨fun c => ?_, fun c => ?_⟩)
  · have c := b2_n0.mp c
    have c2 := lett_iff.mp c
    rw [show nI k - 97 = nI (k - 97) from pk_sub c2.1]
    have h1 := h.obj I s.1 (k - 97) s.2.2.1 s.2.2.2.1
    refine PF.of h.1 (by show 4 < 7; decide) rfl ⟨Rc.of h1.1, takP.nar (wr_moves h1 I 2 (sm_sho Sm.refl) ?_)⟩
    unfold colA
    rw [if_pos c]
  · have c := b2_0.mp c
    unfold colA
    rw [if_neg (by rw [c]; decide)]
    exact takP.no h
theorem wr_takesSign (h : ShA g σ R n C s) (I : Ij R (Lv told qn)) {k : Nat} (hk : k < 128) : Do g M_X7_takesSign 0 0 [.ref (R 24), .int (nI k)] σ (takP g σ R n C s (sgnA k s.2.1 s.2.2.2.1 s.2.2.2.2)) := by
  have h1 := h.obj I s.1 s.2.1 k s.2.2.2.1
  have yes : (k = 60 ∨ k = 61 ∨ k = 62) → PF σ (R 24) 7 5 (.int (nI k)) (fun s1 => Rc s1 (R 24) 7 ∧ Do g M_X7_moves 0 0 [.ref (R 24), .int 3] s1 (kI (fun i3 s2 => (narrow .boolean (.int i3) = .int i3 ∧ takP g σ R n C s (sgnA k s.2.1 s.2.2.2.1 s.2.2.2.2) (some (.int i3)) s2)))) := fun z => by
    refine PF.of h.1 (by show 5 < 7; decide) rfl ⟨Rc.of h1.1, takP.nar (wr_moves h1 I 3 (sm_sho Sm.refl) ?_)⟩
    unfold sgnA
    rw [if_pos z]
  have e : ∀ j, j < 128 → (nI k = nI j ↔ k = j) := fun j hj => ⟨fun z => by have := (eq_n (by omega)).mp z; rw [I_n (by omega)] at this; omega, fun z => by rw [z]⟩
  refine q_X7_takesSign _ _ ⟨fun c => yes (Or.inl ((e 60 (by decide)).mp c)), fun c => ⟨fun c2 => yes (Or.inr (Or.inl ((e 61 (by decide)).mp c2))), fun c2 => ⟨fun c3 => yes (Or.inr (Or.inr ((e 62 (by decide)).mp c3))), fun c3 => ?_⟩⟩⟩
  unfold sgnA
  rw [if_neg]
  · exact takP.no h
  · rintro (z | z | z)
    · exact c ((e 60 (by decide)).mpr z)
    · exact c2 ((e 61 (by decide)).mpr z)
    · exact c3 ((e 62 (by decide)).mpr z)
theorem wr_takesDigit (h : ShA g σ R n C s) (I : Ij R (Lv told qn)) {k to bg : Nat} (hk : k < 128) : Do g M_X7_takesDigit 0 0 [.ref (R 24), .int (nI k), .int (nI bg), .int (nI to)] σ (takP g σ R n C s (digA k to bg s.2.1 s.2.2.1 s.2.2.2.2)) := by
  refine q_X7_takesDigit _ _ _ _ ⟨fun c => ?_, fun c => ⟨fun c2 => ?_, fun c2 => ?_⟩⟩
  · have c := (lt_n (n := 48) (by decide)).mp c
    rw [I_n (by omega)] at c
    unfold digA
    rw [if_neg (by rw [digi_iff]; omega)]
    exact takP.no h
  · have c := nlt_n (n := 48) (by decide) c
    have c2 := (le_n (n := 57) (by decide)).mp c2
    rw [I_n (by omega)] at c c2
    rw [nI_add, show nI (bg + k) - 48 = nI (bg + k - 48) from pk_sub (show 48 ≤ bg + k by omega)]
    have h1 := h.obj I s.1 s.2.1 s.2.2.1 (bg + k - 48)
    refine PF.of h.1 (by show 6 < 7; decide) rfl ⟨Rc.of h1.1, takP.nar (wr_moves h1 I to (sm_sho Sm.refl) ?_)⟩
    unfold digA
    rw [if_pos (by rw [digi_iff]; omega)]
  · have c2 := nle_n (n := 57) (by decide) c2
    rw [I_n (by omega)] at c2
    unfold digA
    rw [if_neg (by rw [digi_iff]; omega)]
    exact takP.no h
theorem wr_takesShown (h : ShA g σ R n C s) (I : Ij R (Lv told qn)) {k : Nat} (hk : k < 128) : Do g M_X7_takesShown 0 0 [.ref (R 24), .int (nI k)] σ (takP g σ R n C s (shwA k s.2.1 s.2.2.1 s.2.2.2.1 s.2.2.2.2)) := by
  refine q_X7_takesShown _ _ ((rd_isLetter hk).use ⟨fun c => ?_, fun c => ?_⟩)
  · have c := b2_0.mp c
    unfold shwA
    rw [c, Bool.false_and, if_neg (by decide)]
    exact takP.no h
  · have c := b2_n0.mp c
    have c2 := lett_iff.mp c
    rw [show nI k - 97 = nI (k - 97) from pk_sub c2.1]
    refine FR.of h.1 rfl ⟨Rc.of h.2.2.1, (rd_qshows h.2.2 (by omega)).use ⟨fun c3 => FR.of h.1 rfl ⟨Rc.of h.2.2.1, (wr_qshow h.2.2 (by omega)).use ?_⟩, fun c3 => ?_⟩⟩
    · have h1 := h.drf I (shwD s.2.2.2.2 (k - 97))
      refine ⟨Rc.of h1.1, takP.nar (wr_moves h1 I 7 (sm_shd Sm.refl) ?_)⟩
      unfold shwA
      rw [c, b2_0.mp c3, if_pos (by decide)]
    · unfold shwA
      rw [c, b2_n0.mp c3, if_neg (by decide)]
      exact takP.no h
theorem wr_takesSort (h : ShA g σ R n C s) (I : Ij R (Lv told qn)) {k : Nat} (hk : k < 128) : Do g M_X7_takesSort 0 0 [.ref (R 24), .int (nI k)] σ (takP g σ R n C s (sorA k s.2.1 s.2.2.1 s.2.2.2.1 s.2.2.2.2)) := by
  refine q_X7_takesSort _ _ ((rd_isLetter hk).use ⟨fun c => ?_, fun c => ?_⟩)
  · have c := b2_n0.mp c
    have c2 := lett_iff.mp c
    rw [show nI k - 97 = nI (k - 97) from pk_sub c2.1]
    refine FR.of h.1 rfl ⟨Rc.of h.2.2.1, (wr_qsortBy h.2.2 _).use ?_⟩
    have h1 := h.drf I (srtD s.2.2.2.2 (k - 97))
    refine ⟨Rc.of h1.1, takP.nar (wr_moves h1 I 9 (sm_shd Sm.refl) ?_)⟩
    unfold sorA
    rw [if_pos c]
  · have c := b2_0.mp c
    unfold sorA
    rw [if_neg (by rw [c]; decide)]
    exact takP.no h
theorem wr_endsCondition (h : ShA g σ R n C s) (I : Ij R (Lv told qn)) (a : AOk s) {k : Nat} (hk : k < 128) : Do g M_X7_endsCondition 0 0 [.ref (R 24), .int (nI k)] σ (takP g σ R n C s (endA k s.2.1 s.2.2.1 s.2.2.2.1 s.2.2.2.2)) := by
  obtain ⟨-, a1, a2, a3, -⟩ := a
  have e : ∀ j, j < 128 → (nI k = nI j ↔ k = j) := fun j hj => ⟨fun z => by have := (eq_n (by omega)).mp z; rw [I_n (by omega)] at this; omega, fun z => by rw [z]⟩
  have e2 : ∀ j, j < 128 → (nI s.2.2.1 = nI j ↔ s.2.2.1 = j) := fun j hj => ⟨fun z => by have := (eq_n (by omega)).mp z; rw [I_n (by omega)] at this; omega, fun z => by rw [z]⟩
  have fin : (k = 38 ∨ k = 58) → ∀ σ1, σ1 = qup g σ (dad R) (endD s.2.1 s.2.2.1 s.2.2.2.1 s.2.2.2.2) → (¬ nI k = 38 → Rc σ1 (R 24) 7 ∧ Do g M_X7_moves 0 0 [.ref (R 24), .int 6] σ1 (kI (fun i9 s8 => (narrow .boolean (.int i9) = .int i9 ∧ takP g σ R n C s (endA k s.2.1 s.2.2.1 s.2.2.2.1 s.2.2.2.2) (some (.int i9)) s8)))) ∧ (nI k = 38 → Rc σ1 (R 24) 7 ∧ Do g M_X7_moves 0 0 [.ref (R 24), .int 1] σ1 (kI (fun i13 s12 => (narrow .boolean (.int i13) = .int i13 ∧ takP g σ R n C s (endA k s.2.1 s.2.2.1 s.2.2.2.1 s.2.2.2.2) (some (.int i13)) s12)))) := by
    rintro z σ1 rfl
    have h1 := h.drf I (endD s.2.1 s.2.2.1 s.2.2.2.1 s.2.2.2.2)
    refine ⟨fun c => ⟨Rc.of h1.1, takP.nar (wr_moves h1 I 6 (sm_shd Sm.refl) ?_)⟩, fun c => ⟨Rc.of h1.1, takP.nar (wr_moves h1 I 1 (sm_shd Sm.refl) ?_)⟩⟩
    · have c := fun z => c ((e 38 (by decide)).mpr z)
      unfold endA
      rw [if_neg c, if_pos (z.resolve_left c)]
    · have c := (e 38 (by decide)).mp c
      unfold endA
      rw [if_pos c]
  have mid : (k = 38 ∨ k = 58) → J_X7_endsCondition_14 g (takP g σ R n C s (endA k s.2.1 s.2.2.1 s.2.2.2.1 s.2.2.2.2)) σ (R 24) (nI k) := fun z => by
    refine q_X7_endsCondition_14 _ _ (FI.of h.1 rfl ⟨fun c => FI.of h.1 rfl ⟨fun c2 => FR.of h.1 rfl (FI.of h.1 rfl (FI.of h.1 rfl (FI.of h.1 rfl ⟨Rc.of h.2.2.1, (wr_qnarrow h.2.2 a1 _ _).use (fin z _ ?_)⟩))), fun c2 => FR.of h.1 rfl (FI.of h.1 rfl (FI.of h.1 rfl ⟨Rc.of h.2.2.1, ?_⟩))⟩, fun c => FR.of h.1 rfl (FI.of h.1 rfl (FI.of h.1 rfl ⟨Rc.of h.2.2.1, (wr_qnarrow h.2.2 a1 _ _).use (fin z _ ?_)⟩))⟩)
    · unfold endD
      rw [if_neg (fun z => c ((e2 60 (by decide)).mpr z)), if_neg (fun z => c2 ((e2 62 (by decide)).mpr z))]
    · rw [nI_1]
      refine (wr_qnarrow h.2.2 a1 _ _).use (fin z _ ?_)
      unfold endD
      rw [if_neg (fun z => c ((e2 60 (by decide)).mpr z)), if_pos ((e2 62 (by decide)).mp c2)]
    · unfold endD
      rw [if_pos ((e2 60 (by decide)).mp c)]
  refine q_X7_endsCondition _ _ ⟨fun c => mid (Or.inl ((e 38 (by decide)).mp c)), fun c => ⟨fun c2 => mid (Or.inr ((e 58 (by decide)).mp c2)), fun c2 => ?_⟩⟩
  unfold endA
  rw [if_neg (fun z => c ((e 38 (by decide)).mpr z)), if_neg (fun z => c2 ((e 58 (by decide)).mpr z))]
  exact takP.no h
theorem st_of {st j : Nat} (h : st < 10) (hj : j < 10) (c : nI st = nI j) : st = j := by
  have c := (eq_n (by omega)).mp c
  rw [I_n (by omega)] at c
  omega
theorem wr_takes (h : ShA g σ R n C s) (I : Ij R (Lv told qn)) (a : AOk s) {k : Nat} (hk : k < 128) : Do g M_X7_takes 0 0 [.ref (R 24), .int (nI k)] σ (takP g σ R n C s (stpA k s)) := by
  have e : ∀ j, j < 128 → (nI k = nI j ↔ k = j) := fun j hj => ⟨fun z => by have := (eq_n (by omega)).mp z; rw [I_n (by omega)] at this; omega, fun z => by rw [z]⟩
  obtain ⟨st, col, sg, nm, d⟩ := s
  have a0 : st < 10 := a.1
  refine q_X7_takes _ _ (FI.of h.1 rfl ⟨fun c => ?_, fun c => ?_, fun c => ?_, fun c => ?_, fun c => ?_, fun c => ?_, fun c => ?_, fun c => ?_, fun c => ?_, fun c0 c1 c2 c3 c4 c5 c6 c7 c8 => ?_⟩)
  · have c := st_of (j := 0) a0 (by decide) c
    subst c
    refine ⟨fun c2 => ⟨Rc.of h.1, takP.nar ?_⟩, fun c2 => ⟨Rc.of h.1, takP.nar (wr_moves h I 6 Sm.refl ?_)⟩⟩
    · have c2 := fun z => c2 ((e 58 (by decide)).mpr z)
      have z := wr_takesColumn h I hk
      simp only [stpA]
      rw [if_neg c2]
      exact z
    · have c2 := (e 58 (by decide)).mp c2
      simp only [stpA]
      rw [if_pos c2]
  · have c := st_of (j := 1) a0 (by decide) c
    subst c
    exact ⟨Rc.of h.1, takP.nar (wr_takesColumn h I hk)⟩
  · have c := st_of (j := 2) a0 (by decide) c
    subst c
    exact ⟨Rc.of h.1, takP.nar (wr_takesSign h I hk)⟩
  · have c := st_of (j := 3) a0 (by decide) c
    subst c
    exact ⟨Rc.of h.1, takP.nar (wr_takesDigit h I (to := 4) (bg := 0) hk)⟩
  · have c := st_of (j := 4) a0 (by decide) c
    subst c
    refine FI.of h.1 rfl ⟨Rc.of h.1, ?_⟩
    show Do g M_X7_takesDigit 0 0 [.ref (R 24), .int (nI k), .int (nI 10 * nI nm), .int 5] σ _
    rw [pk_mul]
    refine DoI.use (wr_takesDigit h I (to := 5) (bg := 10 * nm) hk) ?_
    rintro x σ' ⟨z1, z2, rfl⟩
    by_cases hd : digi k = true
    · have e1 : stpA k (4, col, sg, nm, d) = some (5, col, sg, 10 * nm + k - 48, d) := by
        simp only [stpA, digA]
        rw [if_pos hd, if_pos hd]
      have e2 : digA k 5 (10 * nm) col sg d = some (5, col, sg, 10 * nm + k - 48, d) := if_pos hd
      rw [e1]
      rw [show digA k 5 (10 * nm) (4, col, sg, nm, d).2.1 (4, col, sg, nm, d).2.2.1 (4, col, sg, nm, d).2.2.2.2 = some (5, col, sg, 10 * nm + k - 48, d) from e2] at z1 ⊢
      exact ⟨fun _ => ⟨1, rfl, z1, z2, rfl⟩, fun c => absurd c (show ¬ b2 true = 0 by decide)⟩
    · have e1 : stpA k (4, col, sg, nm, d) = endA k col sg nm d := by
        simp only [stpA]
        rw [if_neg hd]
      have e2 : digA k 5 (10 * nm) col sg d = none := if_neg hd
      rw [e1]
      rw [show digA k 5 (10 * nm) (4, col, sg, nm, d).2.1 (4, col, sg, nm, d).2.2.1 (4, col, sg, nm, d).2.2.2.2 = none from e2] at z1 ⊢
      refine ⟨fun c => absurd rfl c, fun c => ⟨Rc.of z1.1, DoI.use (wr_endsCondition z1 I a hk) ?_⟩⟩
      rintro x σ2 ⟨w1, w2, rfl⟩
      refine ⟨fun c => ⟨0, rfl, w1, z2.trans w2, ?_⟩, fun c => ⟨1, rfl, w1, z2.trans w2, ?_⟩⟩
      · rw [show (endA k col sg nm d).isSome = false from b2_0.mp c]; rfl
      · rw [show (endA k col sg nm d).isSome = true from b2_n0.mp c]; rfl
  · have c := st_of (j := 5) a0 (by decide) c
    subst c
    exact ⟨Rc.of h.1, takP.nar (wr_endsCondition h I a hk)⟩
  · have c := st_of (j := 6) a0 (by decide) c
    subst c
    exact ⟨Rc.of h.1, takP.nar (wr_takesShown h I hk)⟩
  · have c := st_of (j := 7) a0 (by decide) c
    subst c
    refine ⟨fun c2 => ⟨Rc.of h.1, takP.nar ?_⟩, fun c2 => ⟨Rc.of h.1, takP.nar (wr_moves h I 8 Sm.refl ?_)⟩⟩
    · have c2 := fun z => c2 ((e 47 (by decide)).mpr z)
      have z := wr_takesShown h I hk
      simp only [stpA]
      rw [if_neg c2]
      exact z
    · have c2 := (e 47 (by decide)).mp c2
      simp only [stpA]
      rw [if_pos c2]
  · have c := st_of (j := 8) a0 (by decide) c
    subst c
    exact ⟨Rc.of h.1, takP.nar (wr_takesSort h I hk)⟩
  · have n0 : st ≠ 0 := fun z => c0 (by rw [z]; rfl)
    have n1 : st ≠ 1 := fun z => c1 (by rw [z]; rfl)
    have n2 : st ≠ 2 := fun z => c2 (by rw [z]; rfl)
    have n3 : st ≠ 3 := fun z => c3 (by rw [z]; rfl)
    have n4 : st ≠ 4 := fun z => c4 (by rw [z]; rfl)
    have n5 : st ≠ 5 := fun z => c5 (by rw [z]; rfl)
    have n6 : st ≠ 6 := fun z => c6 (by rw [z]; rfl)
    have n7 : st ≠ 7 := fun z => c7 (by rw [z]; rfl)
    have n8 : st ≠ 8 := fun z => c8 (by rw [z]; rfl)
    have hz : st = 9 := by omega
    subst hz
    exact takP.no h
/-- reading -/
def reaP (g : GG) (σ : Hs) (R : Nat → Nat) (n : Nat) (C : Nat → Nat) (w : Nat × AM) : Option Value → Hs → Prop := kI fun x σ' => ShA g σ' R n C w.2 ∧ AOk w.2 ∧ DOk w.2.2.2.2.2 ∧ Sm R Tsh σ σ' ∧ x = nI w.1
theorem wr_read (h : ShC g σ R n C) (I : Ij R (Lv told qn)) (hn : n ≤ 60) (hC : ∀ k, k < n → C k < 128) : ∃ col sg nm, Do g M_X7_read 0 0 [.ref (R 24)] σ (reaP g σ R n C (runA C n 0 (0, col, sg, nm, dq0))) := by
  obtain ⟨⟨st, col, sg, nm, ⟨y0, y1, y2, y3⟩, h1⟩, h2, lo, hi, bd, fx, sh, srt, hf, h3, h9⟩ := h
  refine ⟨col, sg, nm, ?_⟩
  have e0 : qclr (lo, hi, (fun _ => false), -1, 1) = dq0 := by
    unfold qclr dq0 clrF
    refine Prod.ext ?_ (Prod.ext ?_ rfl)
    · funext j
      show (if j < 4 then 0 else lo j) = 0
      by_cases c : j < 4
      · rw [if_pos c]
      · rw [if_neg c]; exact (h9 j (by omega)).1
    · funext j
      show (if j < 4 then 99 else hi j) = if j < 4 then 99 else 0
      by_cases c : j < 4
      · rw [if_pos c, if_pos c]
      · rw [if_neg c, if_neg c]; exact (h9 j (by omega)).2
  have loop : ∀ (e k : Nat) (s : AM) (σ1 : Hs), k + e = n → ShA g σ1 R n C s → AOk s → DOk s.2.2.2.2 → Sm R Tsh σ σ1 → J_X7_read_14 g (reaP g σ R n C (runA C e k s)) σ1 (R 24) (nI k) := by
    intro e
    induction e with
    | zero =>
      intro k s σ1 hk z1 z2 z4 z3
      refine q_X7_read_14 _ _ (FI.of z1.1 rfl ⟨fun _ => ⟨_, rfl, z1, z2, z4, z3, rfl⟩, fun c => absurd (nI_le (by omega) (by omega)) c⟩)
    | succ e ih =>
      intro k s σ1 hk z1 z2 z4 z3
      refine q_X7_read_14 _ _ (FI.of z1.1 rfl ⟨fun c => absurd ((nI_leI (by omega) (by omega)).mp c) (by omega), fun _ => FR.of z1.1 rfl ⟨Rc.of z1.2.1.1, (rd_atn z1.2.1 (by omega)).use ⟨Rc.of z1.1, DoI.use (wr_takes z1 I z2 (hC k (by omega))) ?_⟩⟩⟩)
      rintro x σ2 ⟨w1, w2, rfl⟩
      cases hs : stpA (C k) s with
      | none =>
        rw [hs] at w1
        rw [runA_none hs]
        exact ⟨fun _ => ⟨_, rfl, w1, z2, z4, z3.trans w2, rfl⟩, fun c => absurd rfl c⟩
      | some s' =>
        rw [hs] at w1
        rw [runA_some hs, nI_1]
        exact ⟨fun c => absurd c (show ¬ b2 true = 0 by decide), fun _ => ih (k + 1) s' σ2 (by omega) w1 (stpA_ok (hC k (by omega)) z2 hs) (stpA_dok z2 z4 hs) (z3.trans w2)⟩
  refine q_X7_read _ (FR.of h1 rfl ⟨Rc.of h3.1, (wr_qclear h3 (lo, hi, (fun _ => false), -1, 1) ⟨rfl, rfl⟩).use ?_⟩)
  rw [e0]
  have z := sfq (g := g) (σ := σ) I (dq0)
  have off : ∀ i, i < 33 → Lv told qn i ∧ ¬ Tr 190 195 i := fun i hi => ⟨lvs33 hi, by unfold Tr; omega⟩
  have h5 : QAt g (qup g σ (dad R) (dq0)) (dad R) (dq0) := h3.keep _ _ _ _ _ _ _
  have h4 : ShA g (qup g σ (dad R) (dq0)) R n C (st, col, sg, nm, dq0) := ⟨h1.sf z (off 24 (by omega)), h2.sf z (off 25 (by omega)) (off 26 (by omega)), h5⟩
  refine PF.of h4.1 (by show 3 < 7; decide) rfl ?_
  exact loop n 0 _ _ (by omega) (h4.obj I 0 col sg nm) ⟨by show 0 < 10; omega, y1, y2, y3, fun z => absurd z (by show ¬ 0 = 4; omega), Or.inl rfl⟩ dq0_ok (sm_sho (sm_shd Sm.refl))
theorem rd_length (h : ShC g σ R n C) : Rd g M_X7_length [.ref (R 24)] σ (nI n) := by
  obtain ⟨⟨st, col, sg, nm, -, h1⟩, -⟩ := h
  exact q_X7_length _ (FI.of h1 rfl (rd_i rfl))
theorem rd_isWhole (h : ShA g σ R n C s) (a : AOk s) : Rd g M_X7_isWhole [.ref (R 24)] σ (b2 (decide (s.1 = 7 ∨ s.1 = 9))) := by
  refine q_X7_isWhole _ (FI.of h.1 rfl ⟨fun c => rd_i ?_, fun c => FI.of h.1 rfl ⟨fun c2 => rd_i ?_, fun c2 => rd_i ?_⟩⟩)
  · rw [decide_eq_true (Or.inl (st_of (j := 7) a.1 (by decide) c))]; rfl
  · rw [decide_eq_false]
    · rfl
    · rintro (z | z)
      · exact c (by rw [z]; rfl)
      · exact c2 (by rw [z]; rfl)
  · rw [decide_eq_true (Or.inr (st_of (j := 9) a.1 (by decide) c2))]; rfl
end SHE
