/-! The law's key, put and ask. -/
/-! letters, one by one -/
theorem runA_cong {C C' : Nat → Nat} : ∀ (e k : Nat) (s : AM), (∀ j, k ≤ j → j < k + e → C j = C' j) → runA C e k s = runA C' e k s
  | 0, _, _, _ => rfl
  | e + 1, k, s, h => by
    have h0 := h k (Nat.le_refl _) (by omega)
    cases h1 : stpA (C k) s with
    | none => rw [runA_none h1, runA_none (by rw [← h0]; exact h1)]
    | some t =>
      rw [runA_some h1, runA_some (by rw [← h0]; exact h1)]
      exact runA_cong e (k + 1) t fun j a b => h j (by omega) (by omega)
theorem runA_app {C : Nat → Nat} {t t' : AM} : ∀ (e k : Nat) (s : AM), runA C e k s = (k + e, t) → stpA (C (k + e)) t = some t' → runA C (e + 1) k s = (k + e + 1, t')
  | 0, k, s, h, h2 => by
    have h : (k, s) = (k + 0, t) := h
    have e1 : s = t := congrArg Prod.snd h
    subst e1
    exact runA_some (C := C) (e := 0) (k := k) (s := s) h2
  | e + 1, k, s, h, h2 => by
    cases h1 : stpA (C k) s with
    | none =>
      rw [runA_none h1] at h
      have := congrArg Prod.fst h
      exact absurd this (by show ¬ k = k + (e + 1); omega)
    | some u =>
      rw [runA_some h1] at h ⊢
      have := runA_app e (k + 1) u (t := t) (t' := t') (by rw [h]; congr 1; omega) (by rw [show k + 1 + e = k + (e + 1) by omega]; exact h2)
      rw [this]
      congr 1
      omega
/-- a letter more on the page -/
def puS (S : SS) (k : Nat) : SS := zPg S (zn S + 1) (setN (zC S) (zn S) k)
theorem ltL_one {b : Nat → Nat} (h0 : b 0 ≠ 0) (h1 : b 0 ≤ 126) (h2 : ∀ i, 1 ≤ i → b i = 0) : ∀ i, ltL b (i + 1) = some 1
  | 0 => by
    rw [ltL_s]
    show (if b 0 = 0 then some 0 else if 126 < b 0 ∨ 0 < 0 then none else some (0 + 1)) = some 1
    rw [if_neg h0, if_neg (by omega)]
  | i + 1 => by
    rw [ltL_s, ltL_one h0 h1 h2 i]
    show (if b (i + 1) = 0 then some 1 else _) = some 1
    rw [if_pos (h2 (i + 1) (by omega))]
theorem s_letters_one {S : SS} {k : Nat} (h1 : 1 ≤ k) (h2 : k ≤ 126) (hn : zn S < 60) : s_letters S (nI k).toInt64 = (nI (zn S + 1), puS S k) := by
  have e : uN (nI k).toInt64 = k := by rw [nI_l (by omega)]; exact uN_lN (by omega)
  have b0 : bt8 (nI k).toInt64 0 = k := by
    unfold bt8
    rw [e]
    show k / 2 ^ 0 % 256 = k
    omega
  have b1 : ∀ i, 1 ≤ i → bt8 (nI k).toInt64 i = 0 := fun i hi => by
    unfold bt8
    rw [e, Nat.div_eq_of_lt]
    have : 2 ^ 8 ≤ 2 ^ (8 * i) := Nat.pow_le_pow_right (by decide) (by omega)
    have e8 : 2 ^ 8 = 256 := rfl
    omega
  unfold s_letters
  rw [ltL_one (by rw [b0]; omega) (by rw [b0]; omega) b1 7]
  show (if zn S + 1 ≤ 60 then (nI (zn S + 1), zPg S (zn S + 1) (wrC (zC S) (zn S) (bt8 (nI k).toInt64) 1)) else (-104, S)) = _
  rw [if_pos (by omega)]
  show (nI (zn S + 1), zPg S (zn S + 1) (setN (zC S) (zn S) (bt8 (nI k).toInt64 0))) = _
  rw [b0]
  rfl
theorem read_put {S : SS} {k : Nat} {s s' : AM} (h : s_read S = (zn S, s)) (h2 : stpA k s = some s') : s_read (puS S k) = (zn S + 1, s') := by
  unfold s_read at h ⊢
  show runA (setN (zC S) (zn S) k) (zn S + 1) 0 (0, 0, 0, 0, dq0) = _
  have e1 : runA (setN (zC S) (zn S) k) (zn S) 0 (0, 0, 0, 0, dq0) = (0 + zn S, s) := by
    rw [runA_cong (C' := zC S) (zn S) 0 _ fun j _ hj => setN_ne _ _ (by omega), h, Nat.zero_add]
  have := runA_app (t' := s') (zn S) 0 (0, 0, 0, 0, dq0) e1 (by rw [Nat.zero_add, setN_at]; exact h2)
  rw [this, Nat.zero_add]
section LAK
variable {g : GG} {S0' : SS} {m r0 : Nat} {Q : Nat → Nat} {E2 : (Nat → Int32) × (Nat → Int32) × (Nat → Int32) × (Nat → Int32)}
/-- the class beside the arrays, its page n letters C, read so far to s; the questions' row is r -/
def Ak (g : GG) (S : SS) (m r0 : Nat) (Q : Nat → Nat) (E2 : (Nat → Int32) × (Nat → Int32) × (Nat → Int32) × (Nat → Int32)) (σ : Hs) (n : Nat) (C : Nat → Nat) (r : Nat → Int32) (s : AM) : Prop := ∃ R, R 0 = r0 ∧ Lw g σ R (zPg S n C) m Q (r, E2) ∧ Inv (zPg S n C) ∧ s_read (zPg S n C) = (n, s)
theorem Ak.ce {S : SS} {σ : Hs} {n : Nat} {C : Nat → Nat} {r : Nat → Int32} {s : AM} (h : Ak g S m r0 Q E2 σ n C r s) (hm : 0 < m) : Ce σ (Q 0) (aI g 64 r) := by
  obtain ⟨R, -, h1, -⟩ := h
  exact h1.c0 hm
theorem Ak.wr {S : SS} {σ : Hs} {n : Nat} {C : Nat → Nat} {r : Nat → Int32} {s : AM} (h : Ak g S m r0 Q E2 σ n C r s) (hm : 0 < m) (r' : Nat → Int32) : Ak g S m r0 Q E2 (hup σ (Q 0) (aI g 64 r')) n C r' s := by
  obtain ⟨R, e, h1, h2, h3⟩ := h
  refine ⟨R, e, ?_, h2, h3⟩
  have := h1.hup (j := 0) (E' := (r', E2)) hm fun k hk hk0 => by
    unfold aE
    rw [if_neg hk0, if_neg hk0]
  exact this
theorem Ak.rc {S : SS} {σ : Hs} {n : Nat} {C : Nat → Nat} {r : Nat → Int32} {s : AM} (h : Ak g S m r0 Q E2 σ n C r s) : Rc σ r0 11 := by
  obtain ⟨R, e, h1, -⟩ := h
  rw [← e]
  exact Rc.of h1.1.1
theorem Ak.put {S : SS} {σ : Hs} {n k : Nat} {C : Nat → Nat} {r : Nat → Int32} {s s' : AM} {x : Int32} {φ : Int32 → Hs → Prop} (h : Ak g S m r0 Q E2 σ n C r s) (hx : x = nI k) (h1 : 1 ≤ k) (h2 : k ≤ 126) (hn : n < 60) (hs : stpA k s = some s') (K : ∀ σ', Ak g S m r0 Q E2 σ' (n + 1) (setN C n k) r s' → φ 1 σ') : Do g M_L_put 0 0 [.ref r0, .int x] σ (kI φ) := by
  obtain ⟨R, e, hl, iv, hr⟩ := h
  subst hx
  subst e
  refine q_L_put _ _ ⟨Rc.of hl.1.1, DoI.use (do_letters hl.1 iv _) ?_⟩
  rintro x σ2 ⟨rfl, kb⟩
  have e1 := s_letters_one (S := zPg S n C) h1 h2 hn
  rw [e1] at kb ⊢
  obtain ⟨R', e', hl'⟩ := hl.call kb
  have iv' := iv.letters (nI k).toInt64
  rw [e1] at iv'
  refine ⟨fun c => absurd ((nI_leI (b := 0) (by show n + 1 < _; omega) (by decide)).mp c) (by omega), fun _ => ⟨_, rfl, K σ2 ⟨R', e', hl', iv', ?_⟩⟩⟩
  exact read_put (S := zPg S n C) hr hs
end LAK
/-! what the law's conditions come to -/
def sgc (sg : Nat) : Nat := if sg = 0 then 61 else if sg = 1 then 60 else 62
def lsN (sg n : Nat) : Int32 := if sg = 1 then 0 else if sg = 2 then nI (n + 1) else nI n
def moN (sg n : Nat) : Int32 := if sg = 2 then 99 else if sg = 1 then nI n - 1 else nI n
theorem endD_is {c sg n : Nat} (d : QD) (h : sg < 3) : endD c (sgc sg) n d = qnar d c (lsN sg n) (moN sg n) := by
  rcases (show sg = 0 ∨ sg = 1 ∨ sg = 2 by omega) with rfl | rfl | rfl <;> rfl
/-- the question that the letters so far make, when the last condition ends -/
def dnA (s : AM) : QD := if s.1 = 4 ∨ s.1 = 5 then endD s.2.1 s.2.2.1 s.2.2.2.1 s.2.2.2.2 else s.2.2.2.2
/-- before a condition, or behind one -/
def cnd (k : Nat) (s : AM) : Prop := (k = 0 ∧ s = (0, 0, 0, 0, dq0)) ∨ (0 < k ∧ (s.1 = 4 ∨ s.1 = 5))
/-- the row's raw bounds are those of d -/
def RW (r : Nat → Int32) (q : Nat) (d : QD) : Prop := ∀ c, c < 4 → r (8 * q + c) = d.1 c ∧ r (8 * q + 4 + c) = d.2.1 c
/-- outside the places of question q the row is as it was -/
def RO (q : Nat) (r r' : Nat → Int32) : Prop := ∀ j, ¬ (8 * q ≤ j ∧ j < 8 * q + 8) → j ≠ 48 + q → j ≠ 56 + q → r' j = r j
theorem RO.trans {q : Nat} {r r1 r2 : Nat → Int32} (h : RO q r r1) (h2 : RO q r1 r2) : RO q r r2 := fun j a b c => (h2 j a b c).trans (h j a b c)
theorem RO.upd {q j : Nat} {r r1 : Nat → Int32} {v : Int32} (h : RO q r r1) (hj : (8 * q ≤ j ∧ j < 8 * q + 8) ∨ j = 48 + q ∨ j = 56 + q) : RO q r (upd r1 j v) := fun i a b c => by
  rw [pk_un (by omega)]
  exact h i a b c
theorem upd_eq (f : Nat → Int32) (k : Nat) (x : Int32) : upd f k x k = x := pk_us
