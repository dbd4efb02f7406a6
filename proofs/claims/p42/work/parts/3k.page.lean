/-! The class's page: letters, blank, good, ask. -/
def bt8 (w : Int64) (i : Nat) : Nat := uN w / 2 ^ (8 * i) % 256
def ltL (b : Nat → Nat) : Nat → Option Nat
  | 0 => some 0
  | i + 1 => (ltL b i).bind fun n => if b i = 0 then some n else if 126 < b i ∨ n < i then none else some (n + 1)
theorem ltL_s (b : Nat → Nat) (i : Nat) : ltL b (i + 1) = (ltL b i).bind fun n => if b i = 0 then some n else if 126 < b i ∨ n < i then none else some (n + 1) := rfl
def wrC (C : Nat → Nat) (n : Nat) (b : Nat → Nat) : Nat → (Nat → Nat)
  | 0 => C
  | k + 1 => setN (wrC C n b k) (n + k) (b k)
def zPg (S : SS) (n : Nat) (C : Nat → Nat) : SS := (S.1, S.2.1, S.2.2.1, S.2.2.2.1, (n, C), S.2.2.2.2.2)
def s_lt (S : SS) (b : Nat → Nat) : Option Nat → Int32 × SS
  | none => (-102, S)
  | some c => if zn S + c ≤ 60 then (nI (zn S + c), zPg S (zn S + c) (wrC (zC S) (zn S) b c)) else (-104, S)
def s_letters (S : SS) (w : Int64) : Int32 × SS := s_lt S (bt8 w) (ltL (bt8 w) 8)
def s_blank (S : SS) : Int32 × SS := (nI (zn S), zPg S 0 (zC S))
def s_read (S : SS) : Nat × AM := runA (zC S) (zn S) 0 (0, 0, 0, 0, dq0)
def s_good (S : SS) : Int32 := nI (s_read S).1
def s_askd (S : SS) : SS := (S.1, S.2.1, (zq S + 1, Q_set (zQ S) (zq S) (s_read S).2.2.2.2.2, zu S), S.2.2.2.1, (0, zC S), S.2.2.2.2.2)
def s_ask (S : SS) : Int32 × SS := if zn S ≤ (s_read S).1 then if (s_read S).2.1 = 7 ∨ (s_read S).2.1 = 9 then if zq S < 8 then (nI (zq S), s_askd S) else (-104, S) else (-103, S) else (-103, S)
theorem bt8_lt (w : Int64) (i : Nat) : bt8 w i < 256 := Nat.mod_lt _ (by decide)
theorem uN_lN {n : Nat} (h : n < 2 ^ 64) : uN (lN n) = n := u_tn h
theorem i64_lN (x : Int64) : x = lN (uN x) := uN_inj (by rw [uN_lN (uN_lt x)])
theorem i64_i (x : Int64) (h : uN x < 2 ^ 31) : x.toInt32 = nI (uN x) := by
  rw [i64_lN x, uN_lN (uN_lt x)]
  refine Int32.toInt_inj.mp ?_
  rw [Int64.toInt_toInt32, pf_lI (by omega), I_n h]
  exact Int.bmod_eq_of_le (by omega) (by omega)
theorem rd_byteOf {g : GG} {σ : Hs} (w : Int64) {i : Nat} (hi : i < 8) : Rd g M_X11_byteOf [.long w, .int (nI i)] σ (nI (bt8 w i)) := by
  refine q_X11_byteOf _ _ (rd_i ?_)
  have e : uN (((w.toUInt64 >>> ((8 * nI i).toInt64.toUInt64 &&& Int64.toUInt64 63)).toInt64) &&& 255) = bt8 w i := by
    rw [uN_and, show (8 : Int32) * nI i = nI (8 * i) from pk_mul 8 i, uN_sk w (by omega)]
    exact Nat.and_two_pow_sub_one_eq_mod _ 8
  have hb := bt8_lt w i
  rw [i64_i _ (by omega), e]
theorem ltL_none {b : Nat → Nat} {i : Nat} (h : ltL b i = none) : ∀ j, ltL b (i + j) = none
  | 0 => h
  | j + 1 => by
    show ltL b (i + j + 1) = none
    rw [ltL_s, ltL_none h j]
    rfl
theorem ltL_ok {b : Nat → Nat} : ∀ (i n : Nat), ltL b i = some n → n ≤ i ∧ (∀ k, k < n → b k ≠ 0 ∧ b k ≤ 126) ∧ ∀ k, n ≤ k → k < i → b k = 0
  | 0, n, h => by
    cases h
    exact ⟨Nat.le_refl _, fun k hk => absurd hk (Nat.not_lt_zero _), fun k _ hk => absurd hk (Nat.not_lt_zero _)⟩
  | i + 1, n, h => by
    rw [ltL_s] at h
    cases hm : ltL b i with
    | none => rw [hm] at h; cases h
    | some m =>
      rw [hm] at h
      obtain ⟨a1, a2, a3⟩ := ltL_ok i m hm
      have h : (if b i = 0 then some m else if 126 < b i ∨ m < i then none else some (m + 1)) = some n := h
      by_cases c : b i = 0
      · rw [if_pos c] at h
        cases h
        refine ⟨by omega, a2, fun k h1 h2 => ?_⟩
        by_cases e : k = i
        · rw [e]; exact c
        · exact a3 k h1 (by omega)
      · rw [if_neg c] at h
        by_cases c2 : 126 < b i ∨ m < i
        · rw [if_pos c2] at h; cases h
        · rw [if_neg c2] at h
          cases h
          refine ⟨by omega, fun k hk => ?_, fun k h1 h2 => by omega⟩
          by_cases e : k = i
          · rw [e]; exact ⟨c, by omega⟩
          · exact a2 k (by omega)
theorem rd_lettersIn {g : GG} {σ : Hs} (w : Int64) : Rd g M_X11_lettersIn [.long w] σ (match ltL (bt8 w) 8 with | none => -1 | some c => nI c) := by
  have loop : ∀ (e i n : Nat), i + e = 8 → ltL (bt8 w) i = some n → J_X11_lettersIn_4 g (kI fun x σ' => σ' = σ ∧ x = (match ltL (bt8 w) 8 with | none => -1 | some c => nI c)) σ w (nI n) (nI i) := by
    intro e
    induction e with
    | zero =>
      intro i n hi h
      refine q_X11_lettersIn_4 _ _ _ ⟨fun _ => rd_i ?_, fun c => absurd (nI_le (a := 8) (by omega) (by omega)) c⟩
      rw [show (8 : Nat) = i by omega, h]
    | succ e ih =>
      intro i n hi h
      have hb := bt8_lt w i
      have hn := (ltL_ok i n h).1
      have hs := ltL_s (bt8 w) i
      rw [h] at hs
      have hs : ltL (bt8 w) (i + 1) = if bt8 w i = 0 then some n else if 126 < bt8 w i ∨ n < i then none else some (n + 1) := hs
      have bad : ltL (bt8 w) (i + 1) = none → (-1 : Int32) = (match ltL (bt8 w) 8 with | none => -1 | some c => nI c) := fun z => by
        have := ltL_none z (7 - i)
        rw [show i + 1 + (7 - i) = 8 by omega] at this
        rw [this]
      refine q_X11_lettersIn_4 _ _ _ ⟨fun c => absurd ((nI_leI (a := 8) (by decide) (by omega)).mp c) (by omega), fun _ => (rd_byteOf w (by omega)).use ⟨fun c => ⟨fun c2 => rd_i ?_, fun c2 => ⟨fun c3 => ?_, fun c3 => rd_i ?_⟩⟩, fun c => ?_⟩⟩
      · have c : bt8 w i ≠ 0 := fun z => c (by rw [z]; rfl)
        have c2 := (nI_ltI (a := 126) (by decide) (by omega)).mp c2
        rw [if_neg c, if_pos (Or.inl c2)] at hs
        exact bad hs
      · have c : bt8 w i ≠ 0 := fun z => c (by rw [z]; rfl)
        have c2 : ¬ 126 < bt8 w i := fun z => c2 (nI_lt (a := 126) z (by omega))
        have c3 := (nI_leI (by omega) (by omega)).mp c3
        rw [if_neg c, if_neg (by omega)] at hs
        rw [nI_1, nI_1]
        exact ih (i + 1) (n + 1) (by omega) hs
      · have c : bt8 w i ≠ 0 := fun z => c (by rw [z]; rfl)
        have c3 : ¬ i ≤ n := fun z => c3 (nI_le z (by omega))
        rw [if_neg c, if_pos (Or.inr (by omega))] at hs
        exact bad hs
      · have c := (nI_eq (b := 0) (by omega) (by decide)).mp c
        rw [if_pos c] at hs
        rw [nI_1]
        exact ih (i + 1) n (by omega) hs
  exact q_X11_lettersIn _ (loop 8 0 0 rfl rfl)
theorem wrC_at {C : Nat → Nat} {n : Nat} {b : Nat → Nat} : ∀ (c k : Nat), wrC C n b c k = if n ≤ k ∧ k < n + c then b (k - n) else C k
  | 0, k => by rw [if_neg (by omega)]; rfl
  | c + 1, k => by
    have ih := wrC_at (C := C) (n := n) (b := b) c k
    show setN (wrC C n b c) (n + c) (b c) k = _
    by_cases e : k = n + c
    · subst e
      rw [setN_at, if_pos (by omega), Nat.add_sub_cancel_left]
    · rw [setN_ne _ _ e, ih]
      by_cases c2 : n ≤ k ∧ k < n + c
      · rw [if_pos c2, if_pos (by omega)]
      · rw [if_neg c2, if_neg (by omega)]
theorem Inv.letters {S : SS} (h : Inv S) (w : Int64) : Inv (s_letters S w).2 := by
  unfold s_letters
  cases hc : ltL (bt8 w) 8 with
  | none => exact h
  | some c =>
    show Inv (if zn S + c ≤ 60 then (nI (zn S + c), zPg S (zn S + c) (wrC (zC S) (zn S) (bt8 w) c)) else (-104, S) : Int32 × SS).2
    by_cases c2 : zn S + c ≤ 60
    · rw [if_pos c2]
      obtain ⟨a1, a2, -⟩ := ltL_ok 8 c hc
      refine ⟨h.1, h.2.1, h.2.2.1, ⟨c2, fun k hk => ?_⟩, h.2.2.2.2⟩
      have hk : k < zn S + c := hk
      show wrC (zC S) (zn S) (bt8 w) c k < 127
      rw [wrC_at]
      by_cases c3 : zn S ≤ k ∧ k < zn S + c
      · rw [if_pos c3]
        have := (a2 (k - zn S) (by omega)).2
        omega
      · rw [if_neg c3]
        exact h.2.2.2.1.2 k (by omega)
    · rw [if_neg c2]; exact h
theorem Inv.blank {S : SS} (h : Inv S) : Inv (s_blank S).2 := ⟨h.1, h.2.1, h.2.2.1, ⟨Nat.zero_le _, fun k hk => absurd hk (Nat.not_lt_zero _)⟩, h.2.2.2.2⟩
/-! reading doesn't hang on what column, sign and number were -/
def amq (s t : AM) : Prop := s.1 = t.1 ∧ s.2.2.2.2 = t.2.2.2.2 ∧ (2 ≤ s.1 → s.1 ≤ 5 → s.2.1 = t.2.1) ∧ (3 ≤ s.1 → s.1 ≤ 5 → s.2.2.1 = t.2.2.1) ∧ (4 ≤ s.1 → s.1 ≤ 5 → s.2.2.2.1 = t.2.2.2.1)
def amo : Option AM → Option AM → Prop
  | none, none => True
  | some a, some b => amq a b
  | _, _ => False
theorem amo_if {p : Prop} {dp : Decidable p} {x y x' y' : Option AM} (h1 : amo x y) (h2 : amo x' y') : amo (if p then x else x') (if p then y else y') := by
  by_cases c : p
  · rw [if_pos c, if_pos c]; exact h1
  · rw [if_neg c, if_neg c]; exact h2
theorem stpA_sim {k : Nat} : ∀ {s t : AM}, amq s t → amo (stpA k s) (stpA k t) := by
  rintro ⟨st, col, sg, nm, d⟩ ⟨st', col', sg', nm', d'⟩ ⟨e1, e2, e3, e4, e5⟩
  have e1 : st = st' := e1
  have e2 : d = d' := e2
  subst e1
  subst e2
  have e3 : 2 ≤ st → st ≤ 5 → col = col' := e3
  have e4 : 3 ≤ st → st ≤ 5 → sg = sg' := e4
  have e5 : 4 ≤ st → st ≤ 5 → nm = nm' := e5
  have tr : ∀ (to c1 c2 g1 g2 n1 n2 : Nat) (d : QD), (2 ≤ to → to ≤ 5 → c1 = c2) → (3 ≤ to → to ≤ 5 → g1 = g2) → (4 ≤ to → to ≤ 5 → n1 = n2) → amo (some (to, c1, g1, n1, d)) (some (to, c2, g2, n2, d)) := fun to c1 c2 g1 g2 n1 n2 d a b c => ⟨rfl, rfl, a, b, c⟩
  match st, e3, e4, e5 with
  | 0, _, _, _ => exact amo_if (tr 6 _ _ _ _ _ _ _ (fun _ z => by omega) (fun _ z => by omega) (fun _ z => by omega)) (amo_if (tr 2 _ _ _ _ _ _ _ (fun _ _ => rfl) (fun z _ => by omega) (fun z _ => by omega)) trivial)
  | 1, _, _, _ => exact amo_if (tr 2 _ _ _ _ _ _ _ (fun _ _ => rfl) (fun z _ => by omega) (fun z _ => by omega)) trivial
  | 2, e3, _, _ =>
    have := e3 (by omega) (by omega)
    exact amo_if (tr 3 _ _ _ _ _ _ _ (fun _ _ => this) (fun _ _ => rfl) (fun z _ => by omega)) trivial
  | 3, e3, e4, _ =>
    have := e3 (by omega) (by omega)
    have := e4 (by omega) (by omega)
    exact amo_if (tr 4 _ _ _ _ _ _ _ (fun _ _ => by assumption) (fun _ _ => by assumption) (fun _ _ => rfl)) trivial
  | 4, e3, e4, e5 =>
    have a1 := e3 (by omega) (by omega)
    have a2 := e4 (by omega) (by omega)
    have a3 := e5 (by omega) (by omega)
    subst a1
    subst a2
    subst a3
    exact amo_if (amo_if (tr 5 _ _ _ _ _ _ _ (fun _ _ => rfl) (fun _ _ => rfl) (fun _ _ => rfl)) trivial) (amo_if (tr 1 _ _ _ _ _ _ _ (fun z _ => by omega) (fun z _ => by omega) (fun z _ => by omega)) (amo_if (tr 6 _ _ _ _ _ _ _ (fun _ z => by omega) (fun _ z => by omega) (fun _ z => by omega)) trivial))
  | 5, e3, e4, e5 =>
    have a1 := e3 (by omega) (by omega)
    have a2 := e4 (by omega) (by omega)
    have a3 := e5 (by omega) (by omega)
    subst a1
    subst a2
    subst a3
    exact amo_if (tr 1 _ _ _ _ _ _ _ (fun z _ => by omega) (fun z _ => by omega) (fun z _ => by omega)) (amo_if (tr 6 _ _ _ _ _ _ _ (fun _ z => by omega) (fun _ z => by omega) (fun _ z => by omega)) trivial)
  | 6, _, _, _ => exact amo_if (tr 7 _ _ _ _ _ _ _ (fun _ z => by omega) (fun _ z => by omega) (fun _ z => by omega)) trivial
  | 7, _, _, _ => exact amo_if (tr 8 _ _ _ _ _ _ _ (fun _ z => by omega) (fun _ z => by omega) (fun _ z => by omega)) (amo_if (tr 7 _ _ _ _ _ _ _ (fun _ z => by omega) (fun _ z => by omega) (fun _ z => by omega)) trivial)
  | 8, _, _, _ => exact amo_if (tr 9 _ _ _ _ _ _ _ (fun _ z => by omega) (fun _ z => by omega) (fun _ z => by omega)) trivial
  | n + 9, _, _, _ => trivial
theorem runA_sim {C : Nat → Nat} : ∀ (e k : Nat) {s t : AM}, amq s t → (runA C e k s).1 = (runA C e k t).1 ∧ amq (runA C e k s).2 (runA C e k t).2
  | 0, _, _, _, h => ⟨rfl, h⟩
  | e + 1, k, s, t, h => by
    have hs := stpA_sim (k := C k) h
    cases h1 : stpA (C k) s with
    | none =>
      cases h2 : stpA (C k) t with
      | none => rw [runA_none h1, runA_none h2]; exact ⟨rfl, h⟩
      | some b => rw [h1, h2] at hs; exact hs.elim
    | some a =>
      cases h2 : stpA (C k) t with
      | none => rw [h1, h2] at hs; exact hs.elim
      | some b =>
        rw [h1, h2] at hs
        rw [runA_some h1, runA_some h2]
        exact runA_sim e (k + 1) hs
theorem runA_le {C : Nat → Nat} : ∀ (e k : Nat) (s : AM), (runA C e k s).1 ≤ k + e
  | 0, _, _ => Nat.le_refl _
  | e + 1, k, s => by
    cases h1 : stpA (C k) s with
    | none => rw [runA_none h1]; show k ≤ _; omega
    | some a =>
      rw [runA_some h1]
      have := runA_le (C := C) e (k + 1) a
      omega
theorem read_sim (S : SS) (col sg nm : Nat) : (runA (zC S) (zn S) 0 (0, col, sg, nm, dq0)).1 = (s_read S).1 ∧ (runA (zC S) (zn S) 0 (0, col, sg, nm, dq0)).2.1 = (s_read S).2.1 ∧ (runA (zC S) (zn S) 0 (0, col, sg, nm, dq0)).2.2.2.2.2 = (s_read S).2.2.2.2.2 := by
  obtain ⟨a1, a2⟩ := runA_sim (C := zC S) (zn S) 0 (s := (0, col, sg, nm, dq0)) (t := (0, 0, 0, 0, dq0)) ⟨rfl, rfl, fun z => absurd z (by show ¬ 2 ≤ 0; omega), fun z => absurd z (by show ¬ 3 ≤ 0; omega), fun z => absurd z (by show ¬ 4 ≤ 0; omega)⟩
  exact ⟨a1, a2.1, a2.2.1⟩
section PAG
variable {g : GG} {σ σ' : Hs} {R : Nat → Nat} {S : SS}
theorem do_letters (h : KO g σ R S) (iv : Inv S) (w : Int64) : Do g M_X11_letters 0 0 [.ref (R 0), .long w] σ (KP g σ R S (s_letters S w)) := by
  have hn := iv.2.2.2.1.1
  unfold s_letters
  refine q_X11_letters _ _ ((rd_lettersIn w).use ?_)
  cases hc : ltL (bt8 w) 8 with
  | none => exact ⟨fun z => absurd rfl z, fun _ => KP.no h⟩
  | some c =>
    have hc8 := (ltL_ok 8 c hc).1
    show (¬ nI c = -1 → _) ∧ (nI c = -1 → _)
    refine ⟨fun _ => h.g5 ⟨h.sh, (rd_length h.2.2.2.1).use ?_⟩, fun z => absurd z (nI_neg (by omega))⟩
    rw [nI_add]
    show (nI (zn S + c) ≤ 60 → _) ∧ _
    refine ⟨fun c2 => ?_, fun c2 => ?_⟩
    · have c2 := (nI_leI (b := 60) (by omega) (by decide)).mp c2
      rw [show s_lt S (bt8 w) (some c) = (nI (zn S + c), zPg S (zn S + c) (wrC (zC S) (zn S) (bt8 w) c)) from if_pos c2]
      have loop : ∀ (e i : Nat) (σ1 : Hs), i + e = c → KO g σ1 R (zPg S (zn S + i) (wrC (zC S) (zn S) (bt8 w) i)) → Sm R (Tc S) σ σ1 → J_X11_letters_33 g (KP g σ R S (nI (zn S + c), zPg S (zn S + c) (wrC (zC S) (zn S) (bt8 w) c))) σ1 (R 0) w (nI c) (nI i) := by
        intro e
        induction e with
        | zero =>
          intro i σ1 hi h1 s1
          have e : i = c := by omega
          subst e
          exact q_X11_letters_33 _ _ _ _ ⟨fun _ => h1.g5 ⟨h1.sh, (rd_length h1.2.2.2.1).use (KP.go h1 s1 rfl)⟩, fun z => absurd (nI_le (Nat.le_refl _) (by omega)) z⟩
        | succ e ih =>
          intro i σ1 hi h1 s1
          refine q_X11_letters_33 _ _ _ _ ⟨fun z => absurd ((nI_leI (by omega) (by omega)).mp z) (by omega), fun _ => h1.g5 ((rd_byteOf w (by omega)).use ⟨h1.sh, DoV.use (wr_swrite h1.2.2.2.1 h1.ij (by show zn S + i < 60; omega) _) ?_⟩)⟩
          rintro σ2 ⟨k1, k2⟩
          obtain ⟨h2, s2⟩ := h1.shs k2 (fun i hi => by unfold Tr at hi; omega) k1
          rw [nI_1]
          exact ih (i + 1) σ2 (by omega) h2 (s1.trans s2)
      exact loop c 0 σ (by omega) h Sm.refl
    · rw [show s_lt S (bt8 w) (some c) = (-104, S) from if_neg (fun z => c2 (nI_le (b := 60) z (by decide)))]
      exact KP.no h
theorem KO.rea (h : KO g σ R S) (iv : Inv S) {φ : Int32 → Hs → Prop} (k : ∀ σ2 s, KO g σ2 R S → Sm R (Tc S) σ σ2 → ShA g σ2 R (zn S) (zC S) s → AOk s → DOk s.2.2.2.2 → s.1 = (s_read S).2.1 → s.2.2.2.2 = (s_read S).2.2.2.2.2 → φ (nI (s_read S).1) σ2) : Do g M_X7_read 0 0 [.ref (R 24)] σ (kI φ) := by
  obtain ⟨col, sg, nm, hr⟩ := wr_read h.2.2.2.1 h.ij iv.2.2.2.1.1 (fun k hk => by have := iv.2.2.2.1.2 k hk; omega)
  obtain ⟨e1, e2, e3⟩ := read_sim S col sg nm
  refine DoI.use hr ?_
  rintro x σ2 ⟨a1, a2, a3, a4, rfl⟩
  obtain ⟨h2, s2⟩ := h.shs a4 (fun i hi => by unfold Tsh at hi; omega) (a1.rest a2 a3)
  rw [e1]
  exact k σ2 _ h2 s2 a1 a2 a3 e2 e3
theorem do_good (h : KO g σ R S) (iv : Inv S) : Do g M_X11_good 0 0 [.ref (R 0)] σ (KP g σ R S (s_good S, S)) :=
  q_X11_good _ (h.g5 ⟨h.sh, h.rea iv fun σ2 s h2 s2 _ _ _ _ _ => KP.go h2 s2 rfl⟩)
end PAG
