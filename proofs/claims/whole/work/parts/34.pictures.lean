/-! ===== the class Pictures: R 27 itself, R 28 its list, R 29 sorted over R 30; picture c: R (50 + 7 c + k) ===== -/
theorem sfj {R : Nat → Nat} {told qn : Nat} {σ : Hs} (I : Ij R (Lv told qn)) {j : Nat} (hj : Lv told qn j) (e : va_E) : Sf R (Lv told qn) (Tr j (j + 1)) σ (hup σ (R j) e) := ⟨Sm.hup ⟨Nat.le_refl _, Nat.lt_succ_self _⟩ _, I, fun i hi => by unfold Tr at hi; rw [show i = j by omega]; exact hj⟩
theorem lne {told qn i j : Nat} (hi : Lv told qn i) (h : i ≠ j) : Lv told qn i ∧ ¬ Tr j (j + 1) i := ⟨hi, by unfold Tr; omega⟩
def pad (R : Nat → Nat) (c : Nat) : Nat → Nat := fun k => R (50 + 7 * c + k)
def pQ (R : Nat → Nat) : Nat → Option Nat := fun c => if c < 4 then some (R (50 + 7 * c)) else none
theorem lvp {told qn c k : Nat} (hc : c < 4) (hk : k < 7) : Lv told qn (50 + 7 * c + k) := by unfold Lv; omega
theorem lvs33 {told qn i : Nat} (h : i < 33) : Lv told qn i := by unfold Lv; omega
theorem PicC.sm {g : GG} {R : Nat → Nat} {T : Nat → Prop} {σ σ' : Hs} {p : Nat → Nat} {P : PD} (h : PicC g σ p P) (s : Sm R T σ σ') (hp : ∀ k, k < 7 → ∀ i, T i → p k ≠ R i) : PicC g σ' p P := ⟨s.2 _ _ h.1 (hp 0 (by omega)), h.2.1.sm s (hp 1 (by omega)) (hp 2 (by omega)), h.2.2.1.sm s (hp 3 (by omega)) (hp 4 (by omega)), h.2.2.2.sm s (hp 5 (by omega)) (hp 6 (by omega))⟩
section PIC2
variable {g : GG} {σ : Hs} {R : Nat → Nat} {told qn c : Nat} {P : PD}
theorem PicC.cnt (h : PicC g σ (pad R c) P) (I : Ij R (Lv told qn)) (hc : c < 4) (z : Nat → Nat) : PicC g (hup σ (R (50 + 7 * c + 2)) (aI g 4 (nF z))) (pad R c) (P.1, z, P.2.2) := by
  have s := sfj (σ := σ) I (lvp hc (show 2 < 7 by omega)) (aI g 4 (nF z))
  obtain ⟨h0, h1, h2, h3⟩ := h
  exact ⟨h0.sf (j := 50 + 7 * c + 0) s (lne (lvp hc (by omega)) (by omega)), h1.put _, NumAt.sf (i := 50 + 7 * c + 3) (j := 50 + 7 * c + 4) h2 s (lne (lvp hc (by omega)) (by omega)) (lne (lvp hc (by omega)) (by omega)), NumAt.sf (i := 50 + 7 * c + 5) (j := 50 + 7 * c + 6) h3 s (lne (lvp hc (by omega)) (by omega)) (lne (lvp hc (by omega)) (by omega))⟩
theorem PicC.lst (h : PicC g σ (pad R c) P) (I : Ij R (Lv told qn)) (hc : c < 4) (z : Nat → Int32) : PicC g (hup σ (R (50 + 7 * c + 4)) (aI g 4 z)) (pad R c) (P.1, P.2.1, z, P.2.2.2) := by
  have s := sfj (σ := σ) I (lvp hc (show 4 < 7 by omega)) (aI g 4 z)
  obtain ⟨h0, h1, h2, h3⟩ := h
  exact ⟨h0.sf (j := 50 + 7 * c + 0) s (lne (lvp hc (by omega)) (by omega)), NumAt.sf (i := 50 + 7 * c + 1) (j := 50 + 7 * c + 2) h1 s (lne (lvp hc (by omega)) (by omega)) (lne (lvp hc (by omega)) (by omega)), h2.put _, NumAt.sf (i := 50 + 7 * c + 5) (j := 50 + 7 * c + 6) h3 s (lne (lvp hc (by omega)) (by omega)) (lne (lvp hc (by omega)) (by omega))⟩
theorem PicC.grt (h : PicC g σ (pad R c) P) (I : Ij R (Lv told qn)) (hc : c < 4) (z : Nat → Int32) : PicC g (hup σ (R (50 + 7 * c + 6)) (aI g 4 z)) (pad R c) (P.1, P.2.1, P.2.2.1, z) := by
  have s := sfj (σ := σ) I (lvp hc (show 6 < 7 by omega)) (aI g 4 z)
  obtain ⟨h0, h1, h2, h3⟩ := h
  exact ⟨h0.sf (j := 50 + 7 * c + 0) s (lne (lvp hc (by omega)) (by omega)), NumAt.sf (i := 50 + 7 * c + 1) (j := 50 + 7 * c + 2) h1 s (lne (lvp hc (by omega)) (by omega)) (lne (lvp hc (by omega)) (by omega)), NumAt.sf (i := 50 + 7 * c + 3) (j := 50 + 7 * c + 4) h2 s (lne (lvp hc (by omega)) (by omega)) (lne (lvp hc (by omega)) (by omega)), h3.put _⟩
theorem PicC.tkn (h : PicC g σ (pad R c) P) (I : Ij R (Lv told qn)) (hc : c < 4) (b : Bool) : PicC g (hup σ (R (50 + 7 * c + 0)) (.inr (4, [.ref (pad R c 1), .ref (pad R c 3), .ref (pad R c 5), .int (b2 b)]))) (pad R c) (b, P.2) := by
  have s := sfj (σ := σ) I (lvp hc (show 0 < 7 by omega)) (.inr (4, [.ref (pad R c 1), .ref (pad R c 3), .ref (pad R c 5), .int (b2 b)]))
  obtain ⟨h0, h1, h2, h3⟩ := h
  exact ⟨h0.up _, NumAt.sf (i := 50 + 7 * c + 1) (j := 50 + 7 * c + 2) h1 s (lne (lvp hc (by omega)) (by omega)) (lne (lvp hc (by omega)) (by omega)), NumAt.sf (i := 50 + 7 * c + 3) (j := 50 + 7 * c + 4) h2 s (lne (lvp hc (by omega)) (by omega)) (lne (lvp hc (by omega)) (by omega)), NumAt.sf (i := 50 + 7 * c + 5) (j := 50 + 7 * c + 6) h3 s (lne (lvp hc (by omega)) (by omega)) (lne (lvp hc (by omega)) (by omega))⟩
end PIC2
/-- the parts of n sorted numbers S, the first so many of them done -/
def tkP (n : Nat) (S : Nat → Int32) (P : PD) : Nat → PD
  | 0 => (true, P.2)
  | i + 1 => (true, setN (tkP n S P i).2.1 i ((i + 1) * n / 4 - i * n / 4), if i * n / 4 < (i + 1) * n / 4 then upd (tkP n S P i).2.2.1 i (S (i * n / 4)) else (tkP n S P i).2.2.1, if i * n / 4 < (i + 1) * n / 4 then upd (tkP n S P i).2.2.2 i (S ((i + 1) * n / 4 - 1)) else (tkP n S P i).2.2.2)
def tkN (n : Nat) : Nat → Nat
  | 0 => 0
  | i + 1 => tkN n i + (if i * n / 4 < (i + 1) * n / 4 then 1 else 0)
theorem tkP_1 (n : Nat) (S : Nat → Int32) (P : PD) : ∀ i, (tkP n S P i).1 = true
  | 0 => rfl
  | _ + 1 => rfl
/-- roles that a picture's taking may change -/
def Tpc (i : Nat) : Prop := (27 ≤ i ∧ i < 31) ∨ (50 ≤ i ∧ i < 78)
section PIC3
variable {g : GG} {σ : Hs} {R : Nat → Nat} {told qn c n : Nat} {P : PD} {S : Nat → Int32}
def ptP (g : GG) (σ : Hs) (R : Nat → Nat) (c n : Nat) (S : Nat → Int32) (P : PD) : Option Value → Hs → Prop := kI fun x σ' => PicC g σ' (pad R c) (tkP n S P 4) ∧ Sm R (Tr (50 + 7 * c) (57 + 7 * c)) σ σ' ∧ x = nI (tkN n 4)
theorem wr_ptake (h : PicC g σ (pad R c) P) (hS : NumAt g σ (R 29) (R 30) 64 S) (I : Ij R (Lv told qn)) (hc : c < 4) (hn : n ≤ 64) : Do g M_X4_take 0 0 [.ref (pad R c 0), .ref (R 29), .int (nI n)] σ (ptP g σ R c n S P) := by
  have tr : ∀ k, k < 7 → Tr (50 + 7 * c) (57 + 7 * c) (50 + 7 * c + k) := fun k hk => by unfold Tr; omega
  have sub : ∀ i, Tr (50 + 7 * c) (57 + 7 * c) i → Lv told qn i := fun i hi => by unfold Tr at hi; unfold Lv; omega
  have off : ∀ i, i < 33 → Lv told qn i ∧ ¬ Tr (50 + 7 * c) (57 + 7 * c) i := fun i hi => ⟨lvs33 hi, by unfold Tr; omega⟩
  have loop : ∀ (e i : Nat) (σ1 : Hs), i + e = 4 → PicC g σ1 (pad R c) (tkP n S P i) → Sm R (Tr (50 + 7 * c) (57 + 7 * c)) σ σ1 → J_X4_take_10 g (ptP g σ R c n S P) σ1 (pad R c 0) (R 29) (nI n) (nI (tkN n i)) (nI i) := by
    intro e
    induction e with
    | zero =>
      intro i σ1 hi h1 s1
      have hi4 : i = 4 := by omega
      subst hi4
      exact q_X4_take_10 _ _ _ _ _ ⟨fun _ => ⟨_, rfl, h1, s1, rfl⟩, fun c => absurd (nI_le (a := 4) (by omega) (by omega)) c⟩
    | succ e ih =>
      intro i σ1 hi h1 s1
      have hi4 : i < 4 := by omega
      have ih := ih (i + 1)
      have hS1 : NumAt g σ1 (R 29) (R 30) 64 S := hS.sf ⟨s1, I, sub⟩ (off 29 (by omega)) (off 30 (by omega))
      have hin : i * n ≤ 3 * 64 := Nat.mul_le_mul (by omega) hn
      have hin2 : (i + 1) * n ≤ 4 * n := Nat.mul_le_mul_right n (by omega)
      have hmono : i * n ≤ (i + 1) * n := Nat.mul_le_mul_right n (by omega)
      have hd : i * n / 4 ≤ (i + 1) * n / 4 := Nat.div_le_div_right hmono
      have hd2 : (i + 1) * n / 4 ≤ 64 := by omega
      refine q_X4_take_10 _ _ _ _ _ ⟨fun c => absurd ((nI_leI (a := 4) (by decide) (by omega)).mp c) (by omega), fun _ => ?_⟩
      rw [nI_1, pk_mul, pk_mul]
      show Do g M_X11_quotient 0 0 [.int (nI (i * n)), .int (nI 4)] σ1 (kI (fun i3 s2 => Do g M_X11_quotient 0 0 [.int (nI ((i + 1) * n)), .int (nI 4)] s2 _))
      refine (rd_quotient (by omega) (by omega) (by omega)).use ((rd_quotient (by omega) (by omega) (by omega)).use (FR.of h1.1 rfl ⟨Rc.of h1.2.1.1, ?_⟩))
      rw [pk_sub hd]
      refine (wr_put h1.2.1 hi4 _).use ?_
      have e2 := h1.cnt I hc (setN (tkP n S P i).2.1 i ((i + 1) * n / 4 - i * n / 4))
      rw [nF_set]
      have s2 := s1.trans (Sm.hup (T := Tr (50 + 7 * c) (57 + 7 * c)) (tr 2 (by omega)) (aI g 4 (nF (setN (tkP n S P i).2.1 i ((i + 1) * n / 4 - i * n / 4)))))
      show _ ∧ _
      refine ⟨fun c2 => ?_, fun c2 => FR.of e2.1 rfl ?_⟩
      · have c2 := (nI_leI (by omega) (by omega)).mp c2
        have e3 : tkP n S P (i + 1) = ((tkP n S P i).1, setN (tkP n S P i).2.1 i ((i + 1) * n / 4 - i * n / 4), (tkP n S P i).2.2) := by
          rw [tkP_1]
          show (true, _, if _ then _ else _, if _ then _ else _) = _
          rw [if_neg (by omega), if_neg (by omega)]
        have z := ih _ (by omega) (by rw [e3]; exact e2) s2
        rw [show tkN n (i + 1) = tkN n i from by show tkN n i + _ = _; rw [if_neg (by omega), Nat.add_zero]] at z
        exact z
      · have c2 : i * n / 4 < (i + 1) * n / 4 := Nat.lt_of_not_le fun z => c2 (nI_le z (by omega))
        have hS2 := hS.sf ⟨s2, I, sub⟩ (off 29 (by omega)) (off 30 (by omega))
        refine ⟨Rc.of hS2.1, (rd_atn hS2 (by omega)).use ⟨Rc.of e2.2.2.1.1, (wr_put e2.2.2.1 hi4 _).use ?_⟩⟩
        have e4 := e2.lst I hc (upd (tkP n S P i).2.2.1 i (S (i * n / 4)))
        have s4 := s2.trans (Sm.hup (T := Tr (50 + 7 * c) (57 + 7 * c)) (tr 4 (by omega)) (aI g 4 (upd (tkP n S P i).2.2.1 i (S (i * n / 4)))))
        have hS4 := hS.sf ⟨s4, I, sub⟩ (off 29 (by omega)) (off 30 (by omega))
        refine FR.of e4.1 rfl ⟨Rc.of hS4.1, ?_⟩
        rw [nI_s1 (by omega)]
        refine (rd_atn hS4 (by omega)).use ⟨Rc.of e4.2.2.2.1, (wr_put e4.2.2.2 hi4 _).use ?_⟩
        have e6 := e4.grt I hc (upd (tkP n S P i).2.2.2 i (S ((i + 1) * n / 4 - 1)))
        have s6 := s4.trans (Sm.hup (T := Tr (50 + 7 * c) (57 + 7 * c)) (tr 6 (by omega)) (aI g 4 (upd (tkP n S P i).2.2.2 i (S ((i + 1) * n / 4 - 1)))))
        have e3 : tkP n S P (i + 1) = ((tkP n S P i).1, setN (tkP n S P i).2.1 i ((i + 1) * n / 4 - i * n / 4), upd (tkP n S P i).2.2.1 i (S (i * n / 4)), upd (tkP n S P i).2.2.2 i (S ((i + 1) * n / 4 - 1))) := by
          rw [tkP_1]
          show (true, _, if _ then _ else _, if _ then _ else _) = _
          rw [if_pos c2, if_pos c2]
        have z := ih _ (by omega) (by rw [e3]; exact e6) s6
        rw [show tkN n (i + 1) = tkN n i + 1 from by show tkN n i + _ = _; rw [if_pos c2]] at z
        rw [nI_1]
        exact z
  refine q_X4_take _ _ _ (PF.of h.1 (by show 3 < 4; decide) rfl ?_)
  exact loop 4 0 _ rfl (h.tkn I hc true) (Sm.hup (tr 0 (by omega)) _)
end PIC3
