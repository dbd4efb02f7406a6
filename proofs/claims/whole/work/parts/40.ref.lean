/-! ===== the reference: R 300 itself, R (rx k) the array of its k-th field ===== -/
def isA (k : Nat) : Bool := [0, 1, 5, 6, 7, 8, 9, 10, 11, 13, 15, 16, 17, 18, 22, 23, 26, 27, 31, 34, 37, 38].elem k
def rT (k : Nat) : Nat := if k = 0 then 1 else if k = 6 then 1 else if k = 22 then 1 else if k = 26 then 1 else if k = 13 then 2 else 0
def rL (k : Nat) : Nat := if k = 0 then 64 else if k = 1 then 256 else if k = 8 then 512 else if k = 10 then 512 else if k = 13 then 60 else if k = 15 then 64 else if k = 22 then 4 else if k = 23 then 48 else if k = 26 then 192 else if k = 27 then 768 else if k = 34 then 648 else if k = 38 then 64 else 8
/-- the role of the array of the k-th field -/
def rx (k : Nat) : Nat := if k < 2 then 301 + k else if k < 12 then 298 + k else if k = 13 then 310 else if k < 19 then 296 + k else if k < 24 then 293 + k else if k < 28 then 291 + k else if k = 31 then 319 else if k = 34 then 320 else if k < 38 then 321 else 322
theorem rx_lt : ∀ k, k < 41 → (isA k = true → 301 ≤ rx k ∧ rx k < 323) := by decide +kernel
theorem rx_ij : ∀ j, j < 41 → ∀ k, k < 41 → (isA j = true → isA k = true → rx j = rx k → j = k) := by decide +kernel
def flds (R : Nat → Nat) (X : Nat → Int32) (hh : Int64) : List Value := [.ref (R (rx 0)), .ref (R (rx 1)), .int (X 2), .int (X 3), .int (X 4), .ref (R (rx 5)), .ref (R (rx 6)), .ref (R (rx 7)), .ref (R (rx 8)), .ref (R (rx 9)), .ref (R (rx 10)), .ref (R (rx 11)), .int (X 12), .ref (R (rx 13)), .int (X 14), .ref (R (rx 15)), .ref (R (rx 16)), .ref (R (rx 17)), .ref (R (rx 18)), .int (X 19), .int (X 20), .int (X 21), .ref (R (rx 22)), .ref (R (rx 23)), .int (X 24), .int (X 25), .ref (R (rx 26)), .ref (R (rx 27)), .int (X 28), .int (X 29), .int (X 30), .ref (R (rx 31)), .int (X 32), .int (X 33), .ref (R (rx 34)), .int (X 35), .int (X 36), .ref (R (rx 37)), .ref (R (rx 38)), .long hh]
def IR (R : Nat → Nat) : Prop := ∀ i j, 300 ≤ i → i < 323 → 300 ≤ j → j < 323 → R i = R j → i = j
def T3 (i : Nat) : Prop := 300 ≤ i ∧ i < 323
def RC (g : GG) (σ : Hs) (R : Nat → Nat) (X : Nat → Int32) (A : Nat → Nat → Int32) (hh : Int64) : Prop := Ce σ (R 300) (.inr (12, flds R X hh)) ∧ (∀ k, isA k = true → Ce σ (R (rx k)) (.inl (g.2.2.1 (rT k), rL k, .inl (A k)))) ∧ IR R
def setA (A : Nat → Nat → Int32) (k : Nat) (f : Nat → Int32) : Nat → Nat → Int32 := fun j => if j = k then f else A j
theorem setA_at (A : Nat → Nat → Int32) (k : Nat) (f : Nat → Int32) : setA A k f k = f := if_pos rfl
theorem setA_ne (A : Nat → Nat → Int32) {k j : Nat} (f : Nat → Int32) (h : j ≠ k) : setA A k f j = A j := if_neg h
theorem rL_lt (k : Nat) : rL k < 2 ^ 31 := by
  have : rL k ≤ 768 := by
    unfold rL
    repeat' split
    all_goals decide
  omega
theorem isA_lt {k : Nat} (h : isA k = true) : k < 41 := by
  unfold isA at h
  have h := List.mem_of_elem_eq_true h
  simp only [List.mem_cons, List.not_mem_nil, or_false] at h
  omega
section REF
variable {g : GG} {σ σ' : Hs} {R : Nat → Nat} {X : Nat → Int32} {A : Nat → Nat → Int32} {hh : Int64}
theorem RC.rc (h : RC g σ R X A hh) : Rc σ (R 300) 12 := Rc.of h.1
theorem RC.r (h : RC g σ R X A hh) (k : Nat) (hk : ∀ R X hh, (flds R X hh)[k]? = some (.ref (R (rx k)))) {φ : Nat → Prop} (z : φ (R (rx k))) : FR σ (R 300) 12 k φ := FR.of h.1 (hk R X hh) z
theorem RC.x (h : RC g σ R X A hh) (k : Nat) (hk : ∀ R X hh, (flds R X hh)[k]? = some (.int (X k))) {φ : Int32 → Prop} (z : φ (X k)) : FI σ (R 300) 12 k φ := FI.of h.1 (hk R X hh) z
theorem RC.a (h : RC g σ R X A hh) (k : Nat) (hk : isA k = true) {i t : Nat} {iv : Int32} (ht : rT k = t) (e : iv = nI i) (hi : i < rL k) {φ : Int32 → Prop} (z : φ (A k i)) : AI g σ (R (rx k)) t iv φ := by
  subst ht
  exact AI.of (h.2.1 k hk) e hi (rL_lt k) z
theorem RC.upX (h : RC g σ R X A hh) (k : Nat) (v : Int32) (hk : ∀ R X hh, (flds R X hh).set k (.int v) = flds R (upd X k v) hh) : RC g (hup σ (R 300) (.inr (12, (flds R X hh).set k (.int v)))) R (upd X k v) A hh := by
  rw [hk]
  exact ⟨h.1.up _, fun j hj => (h.2.1 j hj).upo (fun z => by have := rx_lt j (isA_lt hj) hj; have := h.2.2 (rx j) 300 (by omega) (by omega) (by omega) (by omega) z; omega), h.2.2⟩
theorem RC.px (h : RC g σ R X A hh) (k : Nat) (v : Int32) (hl : k < 40) (hk : ∀ R X hh, (flds R X hh).set k (.int v) = flds R (upd X k v) hh) {φ : Hs → Prop} (z : ∀ σ', RC g σ' R (upd X k v) A hh → Sm R T3 σ σ' → φ σ') : PF σ (R 300) 12 k (.int v) φ := PF.of h.1 hl rfl (z _ (h.upX k v hk) (Sm.hup (show T3 300 from ⟨by omega, by omega⟩) _))
theorem RC.s (h : RC g σ R X A hh) (k : Nat) (hk : isA k = true) {i t : Nat} {iv x : Int32} (ht : rT k = t) (e : iv = nI i) (hi : i < rL k) {φ : Hs → Prop} (z : ∀ σ', RC g σ' R X (setA A k (upd (A k) i x)) hh → Sm R T3 σ σ' → φ σ') : SI g σ (R (rx k)) t iv x φ := by
  subst ht
  have hk41 := isA_lt hk
  have hk3 := rx_lt k hk41 hk
  refine SI.of (h.2.1 k hk) e hi (rL_lt k) (z _ ⟨h.1.upo (fun y => by have := h.2.2 300 (rx k) (by omega) (by omega) (by omega) (by omega) y; omega), fun j hj => ?_, h.2.2⟩ (Sm.hup (show T3 (rx k) from ⟨by omega, by omega⟩) _))
  have hj41 := isA_lt hj
  have hj3 := rx_lt j hj41 hj
  by_cases c : j = k
  · subst c
    rw [setA_at]
    exact (h.2.1 j hj).up _
  · rw [setA_ne _ _ c]
    exact (h.2.1 j hj).upo (fun y => c (rx_ij j hj41 k hk41 hj hk (h.2.2 (rx j) (rx k) (by omega) (by omega) (by omega) (by omega) y)))
end REF
/-! statics -/
section RST
variable {g : GG} {σ : Hs}
theorem rd_in (x : Int32) (a b : Nat) (ha : a < 2 ^ 31) (hb : b < 2 ^ 31) : Rd g M_X12_in [.int x, .int (nI a), .int (nI b)] σ (b2 (inL x a b)) := by
  refine q_X12_in _ _ _ ⟨fun c => rd_i ?_, fun c => ⟨fun c2 => rd_i ?_, fun c2 => rd_i ?_⟩⟩
  · have c := (lt_n ha).mp c
    rw [show inL x a b = false from decide_eq_false (by omega)]; rfl
  · have c2 := (n_lt hb).mp c2
    rw [show inL x a b = false from decide_eq_false (by omega)]; rfl
  · have c := nlt_n ha c
    have c2 := n_nlt hb c2
    rw [show inL x a b = true from decide_eq_true (by omega)]; rfl
theorem inL_R (x : Int32) (n : Nat) : inL x 0 n = inR x (n + 1) := by
  unfold inL inR
  exact decide_eq_decide.mpr (by omega)
theorem rd_inR (x : Int32) (n : Nat) (hn : n < 2 ^ 31) : Rd g M_X12_in [.int x, .int 0, .int (nI n)] σ (b2 (inR x (n + 1))) := by
  rw [← inL_R]
  exact rd_in x 0 n (by decide) hn
theorem rd_inQ (x : Int32) (n : Nat) (hn : n < 2 ^ 31) : Rd g M_X12_in [.int x, .int 0, .int (nI n - 1)] σ (b2 (inR x n)) := by
  rcases Nat.eq_zero_or_pos n with e | e
  · subst e
    refine q_X12_in _ _ _ ⟨fun c => rd_i ?_, fun c => ⟨fun c2 => rd_i ?_, fun c2 => absurd ?_ c2⟩⟩
    · rw [inR_lo c]; rfl
    · rw [show inR x 0 = false from decide_eq_false (by omega)]; rfl
    · have c := nlt_n (n := 0) (by decide) c
      rw [I_lt, show (nI 0 - 1).toInt = -1 from by decide]
      omega
  · rw [nI_s1 e]
    have := rd_inR (g := g) (σ := σ) x (n - 1) (by omega)
    rw [show n - 1 + 1 = n by omega] at this
    exact this
theorem rr_isNumber (x : Int32) : Rd g M_X12_isNumber [.int x] σ (b2 (inR x 100)) := q_X12_isNumber _ ((rd_inR x 99 (by decide)).use ⟨b2_nar _, rd_i rfl⟩)
theorem rr_keySize {key : Nat} (hk : key < 2 ^ 31) : Rd g M_X12_keySize [.int (nI key)] σ (nI (kw key)) := by
  unfold kw
  refine q_X12_keySize _ ⟨fun c => ⟨fun c2 => rd_i ?_, fun c2 => rd_i ?_⟩, fun c => rd_i ?_⟩
  · have c2 := (nI_leI (a := 25) (by decide) hk).mp c2
    rw [if_pos c2]; rfl
  · have c := (nI_leI (a := 5) (by decide) hk).mp c
    have c2 : ¬ 25 ≤ key := fun z => c2 (nI_le (a := 25) z hk)
    rw [if_neg c2, if_pos c]; rfl
  · have c : ¬ 5 ≤ key := fun z => c (nI_le (a := 5) z hk)
    rw [if_neg (by omega), if_neg c]; rfl
theorem rr_keyAt {key i : Nat} (hk : key < 2 ^ 31) (hi : i < kw key) : Rd g M_X12_keyAt [.int (nI key), .int (nI i)] σ (nI (kfig key i) - 1) := by
  have hw := kw_le key
  have loop : ∀ (e k : Nat), i + e = k → k < kw key → J_X12_keyAt_9 g (kI fun x σ' => σ' = σ ∧ x = nI (kfig key i) - 1) σ (nI i) (nI (key / 5 ^ (kw key - 1 - k))) (nI k) := by
    intro e
    induction e with
    | zero =>
      intro k hk2 hk3
      have hd : key / 5 ^ (kw key - 1 - k) ≤ key := Nat.div_le_self _ _
      refine q_X12_keyAt_9 _ _ _ ⟨fun _ => rd_i ?_, fun c => absurd (nI_le (by omega) (by omega)) c⟩
      rw [show nI (key / 5 ^ (kw key - 1 - k)) - nI (key / 5 ^ (kw key - 1 - k)) / 5 * 5 = nI (key / 5 ^ (kw key - 1 - k) % 5) from pk_rem (d := 5) (by omega) (by decide) (by decide), show k = i by omega]
      rfl
    | succ e ih =>
      intro k hk2 hk3
      have hd : key / 5 ^ (kw key - 1 - k) ≤ key := Nat.div_le_self _ _
      have ih := ih (k - 1) (by omega) (by omega)
      refine q_X12_keyAt_9 _ _ _ ⟨fun c => absurd ((nI_leI (by omega) (by omega)).mp c) (by omega), fun _ => ?_⟩
      rw [show nI (key / 5 ^ (kw key - 1 - k)) / 5 = nI (key / 5 ^ (kw key - 1 - k) / 5) from pk_div (d := 5) (by omega) (by decide) (by decide), nI_m1 (by omega), Nat.div_div_eq_div_mul, ← Nat.pow_succ, show (kw key - 1 - k).succ = kw key - 1 - (k - 1) by omega]
      exact ih
  refine q_X12_keyAt _ _ ((rr_keySize hk).use ?_)
  rw [show nI (kw key) - 1 = nI (kw key - 1) from nI_s1 (by omega)]
  have h0 := loop (kw key - 1 - i) (kw key - 1) (by omega) (by omega)
  rw [Nat.sub_self, Nat.pow_zero, Nat.div_one] at h0
  exact h0
theorem rr_col {key i : Nat} (hk : kok key) (hi : i < kw key) : Rd g M_X12_keyAt [.int (nI key), .int (nI i)] σ (nI (kcol key i)) := by
  have h1 := rr_keyAt (g := g) (σ := σ) (key := key) (by have := hk.2.1; omega) hi
  rw [nI_s1 (by have := hk.2.2.1 i hi; omega)] at h1
  exact h1
theorem rmk_kw (key : Nat) : rmk key = if kw key = 1 then 6 else if kw key = 2 then 4 else 3 := by
  unfold rmk kw
  by_cases c : 25 ≤ key
  · rw [if_pos c, if_pos c]; rfl
  · rw [if_neg c, if_neg c]
    by_cases c2 : 5 ≤ key
    · rw [if_pos c2, if_pos c2]; rfl
    · rw [if_neg c2, if_neg c2]; rfl
theorem rr_roomOf {key : Nat} (hk : key < 2 ^ 31) : Rd g M_X12_roomOf [.int (nI key)] σ (nI (rmk key)) := by
  have hw := kw_le key
  rw [rmk_kw]
  refine q_X12_roomOf _ ((rr_keySize hk).use ⟨fun c => (rr_keySize hk).use ⟨fun c2 => rd_i ?_, fun c2 => rd_i ?_⟩, fun c => rd_i ?_⟩)
  · rw [if_neg (fun z => c (by rw [z]; rfl)), if_neg (fun z => c2 (by rw [z]; rfl))]; rfl
  · rw [if_neg (fun z => c (by rw [z]; rfl)), if_pos ((nI_eq (b := 2) (by omega) (by decide)).mp c2)]; rfl
  · rw [if_pos ((nI_eq (b := 1) (by omega) (by decide)).mp c)]; rfl
theorem kmaskN_bit (key c : Nat) : ∀ n, (kmaskN key n).testBit c = true ↔ ∃ i, i < n ∧ kcol key i = c
  | 0 => by simp [kmaskN]
  | n + 1 => by
    have ih := kmaskN_bit key c n
    rw [show kmaskN key (n + 1) = kmaskN key n ||| 2 ^ kcol key n from rfl, Nat.testBit_or, Bool.or_eq_true, ih, Nat.testBit_two_pow, decide_eq_true_eq]
    constructor
    · rintro (⟨i, h1, h2⟩ | h)
      · exact ⟨i, by omega, h2⟩
      · exact ⟨n, by omega, h⟩
    · rintro ⟨i, h1, h2⟩
      by_cases e : i = n
      · subst e; exact Or.inr h2
      · exact Or.inl ⟨i, by omega, h2⟩
theorem rr_isInKey {key c : Nat} (hk : kok key) (hc : c < 4) : Rd g M_X12_isInKey [.int (nI key), .int (nI c)] σ (b2 ((kmask key).testBit c)) := by
  have hw := kw_le key
  have hk2 : key < 2 ^ 31 := by have := hk.2.1; omega
  have loop : ∀ (e i : Nat), i + e = kw key → (∀ j, j < i → kcol key j ≠ c) → J_X12_isInKey_2 g (kI fun x σ' => σ' = σ ∧ x = b2 ((kmask key).testBit c)) σ (nI key) (nI c) (nI i) := by
    intro e
    induction e with
    | zero =>
      intro i hi hno
      refine q_X12_isInKey_2 _ _ _ ((rr_keySize hk2).use ⟨fun _ => rd_i ?_, fun z => absurd (nI_le (by omega) (by omega)) z⟩)
      have : (kmask key).testBit c = false := by
        rcases Bool.eq_false_or_eq_true ((kmask key).testBit c) with z | z
        · obtain ⟨j, h1, h2⟩ := (kmaskN_bit key c (kw key)).mp z
          exact absurd h2 (hno j (by omega))
        · exact z
      rw [this]; rfl
    | succ e ih =>
      intro i hi hno
      have hc4 := kcol_lt key i
      refine q_X12_isInKey_2 _ _ _ ((rr_keySize hk2).use ⟨fun z => absurd ((nI_leI (by omega) (by omega)).mp z) (by omega), fun _ => (rr_col hk (by omega)).use ⟨fun z => ?_, fun z => rd_i ?_⟩⟩)
      · rw [nI_1]
        refine ih (i + 1) (by omega) fun j hj => ?_
        by_cases e : j = i
        · rw [e]; exact fun y => z (by rw [y])
        · exact hno j (by omega)
      · have z := (nI_eq (by omega) (by omega)).mp z
        have : (kmask key).testBit c = true := (kmaskN_bit key c (kw key)).mpr ⟨i, by omega, z⟩
        rw [this]; rfl
  exact q_X12_isInKey _ _ (loop (kw key) 0 (by omega) (fun j hj => absurd hj (by omega)))
/-- the reference's own test of keys -/
def kyR (key : Nat) : Nat → Bool × Nat
  | 0 => (true, 0)
  | i + 1 => (((kyR key i).1 && decide (1 ≤ kfig key i)) && !(kyR key i).2.testBit (kfig key i - 1), if kfig key i = 0 then (kyR key i).2 else (kyR key i).2 ||| 2 ^ (kfig key i - 1))
theorem kyR_s (key i : Nat) : kyR key (i + 1) = (((kyR key i).1 && decide (1 ≤ kfig key i)) && !(kyR key i).2.testBit (kfig key i - 1), if kfig key i = 0 then (kyR key i).2 else (kyR key i).2 ||| 2 ^ (kfig key i - 1)) := rfl
theorem kyR_is : ∀ key, key < 125 → (1 ≤ key → (kyR key (kw key)).1 = keyB key) := by decide +kernel
theorem kyR_lt (key : Nat) : ∀ i, (kyR key i).2 < 16
  | 0 => by show 0 < 16; omega
  | i + 1 => by
    have ih := kyR_lt key i
    have hf := kfig_le key i
    rw [kyR_s]
    show (if _ then _ else _ : Nat) < 16
    by_cases c : kfig key i = 0
    · rw [if_pos c]; exact ih
    · rw [if_neg c]
      exact Nat.or_lt_two_pow (n := 4) ih (Nat.pow_lt_pow_right (by decide) (by omega))
theorem rr_isKey (x : Int32) : Rd g M_X12_isKey [.int x] σ (b2 (isKy x)) := by
  refine q_X12_isKey _ ((rd_in x 1 124 (by decide) (by decide)).use ⟨fun c => ?_, fun c => rd_i ?_⟩)
  · have c := of_decide_eq_true (b2_n0.mp c)
    obtain ⟨key, hk, rfl⟩ := I_of (x := x) (n := 125) (by omega) (by omega) (by decide)
    rw [I_n (by omega)] at c
    have hw := kw_le key
    have e : isKy (nI key) = (kyR key (kw key)).1 := by
      unfold isKy
      rw [inR_n (by omega), decide_eq_true hk, Bool.true_and, nn_i (by omega), kyR_is key hk (by omega)]
    rw [e]
    have loop : ∀ (e i : Nat), i + e = kw key → J_X12_isKey_18 g (kI fun y σ' => σ' = σ ∧ y = b2 (kyR key (kw key)).1) σ (nI key) (b2 (kyR key i).1) (nI (kyR key i).2) (nI i) := by
      intro e
      induction e with
      | zero =>
        intro i hi
        refine q_X12_isKey_18 _ _ _ _ ((rr_keySize (by omega)).use ⟨fun _ => ⟨b2_nar _, rd_i ?_⟩, fun z => absurd (nI_le (by omega) (by omega)) z⟩)
        rw [show i = kw key by omega]
      | succ e ih =>
        intro i hi
        have ih := ih (i + 1) (by omega)
        have hf := kfig_le key i
        have hlt := kyR_lt key i
        rw [kyR_s] at ih
        have j56 : ∀ (b : Bool), b = (((kyR key i).1 && decide (1 ≤ kfig key i)) && !(kyR key i).2.testBit (kfig key i - 1)) → J_X12_isKey_56 g (kI fun y σ' => σ' = σ ∧ y = b2 (kyR key (kw key)).1) σ (nI key) (nI (kyR key i).2) (nI i) (nI (kfig key i) - 1) (b2 b) := by
          intro b hb
          rw [← hb] at ih
          refine q_X12_isKey_56 _ _ _ _ _ ⟨fun c1 => ?_, fun c1 => ?_⟩
          · have c2 : kfig key i ≠ 0 := fun z => by rw [z] at c1; exact absurd c1 (by decide)
            have ih : J_X12_isKey_18 g (kI fun y σ' => σ' = σ ∧ y = b2 (kyR key (kw key)).1) σ (nI key) (b2 b) (nI (if kfig key i = 0 then (kyR key i).2 else (kyR key i).2 ||| 2 ^ (kfig key i - 1))) (nI (i + 1)) := ih
            rw [if_neg c2] at ih
            rw [nI_s1 (by omega), nI_1, bs_with _ (by omega) _ (by omega)]
            exact ih
          · have c2 : kfig key i = 0 := by
              rcases Nat.eq_zero_or_pos (kfig key i) with z | z
              · exact z
              · rw [nI_s1 z] at c1
                exact absurd (nI_le (a := 0) (Nat.zero_le _) (by omega)) c1
            have ih : J_X12_isKey_18 g (kI fun y σ' => σ' = σ ∧ y = b2 (kyR key (kw key)).1) σ (nI key) (b2 b) (nI (if kfig key i = 0 then (kyR key i).2 else (kyR key i).2 ||| 2 ^ (kfig key i - 1))) (nI (i + 1)) := ih
            rw [if_pos c2] at ih
            rw [nI_1, show nI (kyR key i).2 ||| 0 = nI (kyR key i).2 from by have := fa_or (kyR key i).2 0; rw [Nat.or_zero] at this; exact this]
            exact ih
        refine q_X12_isKey_18 _ _ _ _ ((rr_keySize (by omega)).use ⟨fun z => absurd ((nI_leI (by omega) (by omega)).mp z) (by omega), fun _ => (rr_keyAt (by omega) (by omega)).use ⟨fun c1 => ?_, fun c1 => ⟨fun c2 => ?_, fun c2 => ⟨fun c3 => ?_, fun c3 => ?_⟩⟩⟩⟩)
        · exact j56 false (by rw [b2_0.mp c1]; rfl)
        · have c4 : kfig key i = 0 := by
            rcases Nat.eq_zero_or_pos (kfig key i) with z | z
            · exact z
            · rw [nI_s1 z] at c2
              exact absurd c2 (nI_pos (by omega))
          exact j56 false (by rw [c4]; simp)
        · have c4 : kfig key i ≠ 0 := fun z => by rw [z] at c2; exact absurd (by decide) c2
          rw [nI_s1 (by omega)] at c3
          have c3 : (kyR key i).2.testBit (kfig key i - 1) = true := by
            rcases Bool.eq_false_or_eq_true ((kyR key i).2.testBit (kfig key i - 1)) with z | z
            · exact z
            · exact absurd ((bs_has _ (by omega) _ (by omega)).mpr z) c3
          exact j56 false (by rw [c3]; simp)
        · have c4 : kfig key i ≠ 0 := fun z => by rw [z] at c2; exact absurd (by decide) c2
          rw [nI_s1 (by omega)] at c3
          have c3 := (bs_has _ (by omega) _ (by omega)).mp c3
          exact j56 true (by rw [b2_n0.mp c1, c3, decide_eq_true (by omega)]; rfl)
    exact loop (kw key) 0 (by omega)
  · have c := of_decide_eq_false (b2_0.mp c)
    have e : isKy x = false := by
      unfold isKy
      rcases Bool.eq_false_or_eq_true (inR x 125) with z | z
      · obtain ⟨k, hk, rfl⟩ := inR_of z (by decide)
        rw [I_n (by omega)] at c
        rw [nn_i (by omega), show k = 0 by omega]
        exact Bool.and_false _
      · rw [z]; rfl
    rw [e]; rfl
end RST
