/-! ===== the class Picture: a column's numbers in four parts ===== -/
theorem I_sub {a b : Int32} (h1 : -1000000000 ≤ a.toInt) (h2 : a.toInt ≤ 1000000000) (h3 : -1000000000 ≤ b.toInt) (h4 : b.toInt ≤ 1000000000) : (a - b).toInt = a.toInt - b.toInt := by
  rw [Int32.toInt_sub]
  exact Int.bmod_eq_of_le (by omega) (by omega)
theorem I_add {a b : Int32} (h1 : -1000000000 ≤ a.toInt) (h2 : a.toInt ≤ 1000000000) (h3 : -1000000000 ≤ b.toInt) (h4 : b.toInt ≤ 1000000000) : (a + b).toInt = a.toInt + b.toInt := by
  rw [Int32.toInt_add]
  exact Int.bmod_eq_of_le (by omega) (by omega)
theorem I_1 : (1 : Int32).toInt = 1 := by decide
theorem I_0 : (0 : Int32).toInt = 0 := by decide
/-- taken, counts, leasts, greatests -/
abbrev PD : Type := Bool × (Nat → Nat) × (Nat → Int32) × (Nat → Int32)
def PicC (g : GG) (σ : Hs) (p : Nat → Nat) (P : PD) : Prop := Ce σ (p 0) (.inr (4, [.ref (p 1), .ref (p 3), .ref (p 5), .int (b2 P.1)])) ∧ NumAt g σ (p 1) (p 2) 4 (nF P.2.1) ∧ NumAt g σ (p 3) (p 4) 4 P.2.2.1 ∧ NumAt g σ (p 5) (p 6) 4 P.2.2.2
def PicOk (P : PD) : Prop := ∀ i, i < 4 → P.2.1 i ≤ 16 ∧ 0 ≤ (P.2.2.1 i).toInt ∧ (P.2.2.1 i).toInt ≤ (P.2.2.2 i).toInt ∧ (P.2.2.2 i).toInt ≤ 99
/-- how many numbers from lo to hi lie from l to r -/
def shN (lo hi l r : Int32) : Nat := ((if r.toInt < hi.toInt then r.toInt else hi.toInt) - (if lo.toInt < l.toInt then l.toInt else lo.toInt) + 1).toNat
def spN (lo hi : Int32) : Nat := (hi.toInt - lo.toInt + 1).toNat
def small (x : Int32) : Prop := -1000 ≤ x.toInt ∧ x.toInt ≤ 1000
theorem shN_le {lo hi l r : Int32} : shN lo hi l r ≤ spN lo hi := by
  unfold shN spN
  split <;> split <;> omega
def sureW (P : PD) (l r : Int32) : Nat → Nat
  | 0 => 0
  | i + 1 => sureW P l r i + (if l.toInt ≤ (P.2.2.1 i).toInt ∧ (P.2.2.2 i).toInt ≤ r.toInt then P.2.1 i else 0)
def perhW (P : PD) (l r : Int32) : Nat → Nat
  | 0 => 0
  | i + 1 => perhW P l r i + (if 0 < shN (P.2.2.1 i) (P.2.2.2 i) l r then P.2.1 i else 0)
def likeW (P : PD) (l r : Int32) : Nat → Nat
  | 0 => 0
  | i + 1 => likeW P l r i + P.2.1 i * shN (P.2.2.1 i) (P.2.2.2 i) l r / spN (P.2.2.1 i) (P.2.2.2 i)
theorem sureW_s (P : PD) (l r : Int32) (i : Nat) : sureW P l r (i + 1) = sureW P l r i + (if l.toInt ≤ (P.2.2.1 i).toInt ∧ (P.2.2.2 i).toInt ≤ r.toInt then P.2.1 i else 0) := rfl
theorem perhW_s (P : PD) (l r : Int32) (i : Nat) : perhW P l r (i + 1) = perhW P l r i + (if 0 < shN (P.2.2.1 i) (P.2.2.2 i) l r then P.2.1 i else 0) := rfl
theorem likeW_le {P : PD} (h : PicOk P) (l r : Int32) : ∀ k, k ≤ 4 → likeW P l r k ≤ 16 * k
  | 0, _ => Nat.le_refl _
  | k + 1, hk => by
    have ih := likeW_le h l r k (by omega)
    have h1 := (h k (by omega)).1
    have h2 := shN_le (lo := P.2.2.1 k) (hi := P.2.2.2 k) (l := l) (r := r)
    have h3 : P.2.1 k * shN (P.2.2.1 k) (P.2.2.2 k) l r / spN (P.2.2.1 k) (P.2.2.2 k) ≤ P.2.1 k := by
      refine Nat.div_le_of_le_mul ?_
      rw [Nat.mul_comm (spN _ _)]
      exact Nat.mul_le_mul_left _ h2
    unfold likeW
    omega
section PIC
variable {g : GG} {σ : Hs} {p : Nat → Nat} {P : PD}
theorem I_if {a b : Int32} : (if a < b then a else b).toInt = (if a.toInt < b.toInt then a.toInt else b.toInt) := by
  by_cases h : a < b
  · rw [if_pos h, if_pos (I_lt.mp h)]
  · rw [if_neg h, if_neg (fun z => h (I_lt.mpr z))]
theorem I_if2 {a b : Int32} : (if a < b then b else a).toInt = (if a.toInt < b.toInt then b.toInt else a.toInt) := by
  by_cases h : a < b
  · rw [if_pos h, if_pos (I_lt.mp h)]
  · rw [if_neg h, if_neg (fun z => h (I_lt.mpr z))]
theorem sh_is {lo hi l r : Int32} (h1 : 0 ≤ lo.toInt) (h2 : lo.toInt ≤ hi.toInt) (h3 : hi.toInt ≤ 99) (hl : small l) (hr : small r) : (if 0 < ((if r < hi then r else hi) - (if lo < l then l else lo)) + 1 then ((if r < hi then r else hi) - (if lo < l then l else lo)) + 1 else 0) = nI (shN lo hi l r) := by
  have e1 : (if r < hi then r else hi).toInt = _ := I_if
  have e2 : (if lo < l then l else lo).toInt = _ := I_if2
  obtain ⟨l1, l2⟩ := hl
  obtain ⟨r1, r2⟩ := hr
  have hx : -1000 ≤ (if r < hi then r else hi).toInt ∧ (if r < hi then r else hi).toInt ≤ 1000 := by rw [e1]; split <;> omega
  have hy : -1000 ≤ (if lo < l then l else lo).toInt ∧ (if lo < l then l else lo).toInt ≤ 1000 := by rw [e2]; split <;> omega
  have e3 : ((if r < hi then r else hi) - (if lo < l then l else lo)).toInt = _ := I_sub (by omega) (by omega) (by omega) (by omega)
  have e4 : (((if r < hi then r else hi) - (if lo < l then l else lo)) + 1).toInt = _ := I_add (by omega) (by omega) (by decide) (by decide)
  rw [I_1, e3, e1, e2] at e4
  have hs : shN lo hi l r ≤ 100 := by
    refine Nat.le_trans shN_le ?_
    unfold spN
    omega
  rw [I_eq, I_n (by omega)]
  by_cases c : 0 < ((if r < hi then r else hi) - (if lo < l then l else lo)) + 1
  · rw [if_pos c, e4]
    rw [I_lt, I_0, e4] at c
    unfold shN
    omega
  · rw [if_neg c, I_0]
    rw [I_lt, I_0, e4] at c
    unfold shN
    omega
end PIC
