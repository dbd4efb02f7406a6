/-! Counts of bits: the machine's own counting, by lanes. -/
/-- k lanes of w bits, from the lowest -/
def lanes (w : Nat) : Nat → (Nat → Nat) → Nat
  | 0, _ => 0
  | k + 1, a => a 0 + 2 ^ w * lanes w k (fun i => a (i + 1))
theorem lanes_s (w k : Nat) (a : Nat → Nat) : lanes w (k + 1) a = a 0 + 2 ^ w * lanes w k (fun i => a (i + 1)) := rfl
theorem lanes_lt {w : Nat} : ∀ (k : Nat) {a : Nat → Nat}, (∀ i, i < k → a i < 2 ^ w) → lanes w k a < 2 ^ (w * k)
  | 0, _, _ => by simp [lanes]
  | k + 1, a, h => by
    have ih := lanes_lt k (a := fun i => a (i + 1)) (fun i hi => h (i + 1) (by omega))
    have h0 := h 0 (by omega)
    have e : 2 ^ (w * (k + 1)) = 2 ^ w * 2 ^ (w * k) := by rw [Nat.mul_succ, Nat.add_comm, Nat.pow_add]
    have h2 : 2 ^ w * (lanes w k (fun i => a (i + 1)) + 1) ≤ 2 ^ w * 2 ^ (w * k) := Nat.mul_le_mul_left _ ih
    rw [Nat.mul_succ] at h2
    rw [lanes_s, e]
    omega
theorem lanes_cong {w : Nat} : ∀ (k : Nat) {a b : Nat → Nat}, (∀ i, i < k → a i = b i) → lanes w k a = lanes w k b
  | 0, _, _, _ => rfl
  | k + 1, a, b, h => by
    rw [lanes_s, lanes_s, h 0 (by omega), lanes_cong k (a := fun i => a (i + 1)) (b := fun i => b (i + 1)) (fun i hi => h (i + 1) (by omega))]
theorem lanes_add (w : Nat) : ∀ (k : Nat) (a b : Nat → Nat), lanes w k (fun i => a i + b i) = lanes w k a + lanes w k b
  | 0, _, _ => rfl
  | k + 1, a, b => by
    have ih := lanes_add w k (fun i => a (i + 1)) (fun i => b (i + 1))
    rw [lanes_s, lanes_s, lanes_s, ih, Nat.mul_add]
    omega
/-- two lanes make one -/
theorem lanes_pair (w : Nat) : ∀ (k : Nat) (a : Nat → Nat), lanes w (2 * k) a = lanes (2 * w) k (fun i => a (2 * i) + 2 ^ w * a (2 * i + 1))
  | 0, _ => rfl
  | k + 1, a => by
    have ih := lanes_pair w k (fun i => a (i + 2))
    have e1 : lanes w (2 * (k + 1)) a = a 0 + 2 ^ w * (a 1 + 2 ^ w * lanes w (2 * k) (fun i => a (i + 2))) := rfl
    have e2 : 2 ^ (2 * w) = 2 ^ w * 2 ^ w := by rw [Nat.two_mul, Nat.pow_add]
    rw [e1, ih, lanes_s, e2, Nat.mul_add, Nat.mul_assoc, Nat.add_assoc]
    rfl
theorem lane_shr {w h a0 m0 : Nat} (A M : Nat) (hw : h ≤ w) (ha : a0 < 2 ^ w) (hm : m0 < 2 ^ (w - h)) : ((a0 + 2 ^ w * A) / 2 ^ h) &&& (m0 + 2 ^ w * M) = ((a0 / 2 ^ h) &&& m0) + 2 ^ w * ((A / 2 ^ h) &&& M) := by
  have hm2 : m0 < 2 ^ w := Nat.lt_of_lt_of_le hm (Nat.pow_le_pow_right (by decide) (by omega))
  have hr : ((a0 / 2 ^ h) &&& m0) < 2 ^ w := Nat.lt_of_le_of_lt Nat.and_le_right hm2
  refine Nat.eq_of_testBit_eq fun j => ?_
  rw [Nat.testBit_and, Nat.testBit_div_two_pow, Nat.add_comm a0, Nat.add_comm m0, Nat.add_comm ((a0 / 2 ^ h) &&& m0), Nat.testBit_two_pow_mul_add A ha, Nat.testBit_two_pow_mul_add M hm2, Nat.testBit_two_pow_mul_add _ hr]
  by_cases c : j < w
  · rw [if_pos c, if_pos c, Nat.testBit_and, Nat.testBit_div_two_pow]
    by_cases c2 : j + h < w
    · rw [if_pos c2]
    · have z : m0.testBit j = false := Nat.testBit_lt_two_pow (Nat.lt_of_lt_of_le hm (Nat.pow_le_pow_right (by decide) (by omega)))
      rw [z, Bool.and_false, Bool.and_false]
  · rw [if_neg c, if_neg c, if_neg (by omega), Nat.testBit_and, Nat.testBit_div_two_pow, show j + h - w = j - w + h by omega]
theorem lanes_shr {w h m : Nat} (hw : h ≤ w) (hm : m < 2 ^ (w - h)) : ∀ (k : Nat) {a : Nat → Nat}, (∀ i, i < k → a i < 2 ^ w) → (lanes w k a / 2 ^ h) &&& lanes w k (fun _ => m) = lanes w k (fun i => (a i / 2 ^ h) &&& m)
  | 0, _, _ => by simp [lanes]
  | k + 1, a, ha => by
    have ih := lanes_shr hw hm k (a := fun i => a (i + 1)) (fun i hi => ha (i + 1) (by omega))
    rw [lanes_s, lanes_s, lane_shr _ _ hw (ha 0 (by omega)) hm, ih, lanes_s]
theorem lanes_div (w k : Nat) {a : Nat → Nat} (h : a 0 < 2 ^ w) : lanes w (k + 1) a / 2 ^ w = lanes w k (fun i => a (i + 1)) := by
  rw [lanes_s, Nat.add_mul_div_left _ _ (Nat.lt_of_le_of_lt (Nat.zero_le _) h), Nat.div_eq_of_lt h, Nat.zero_add]
theorem lanes_ext (w : Nat) : ∀ (k : Nat) (b : Nat → Nat), lanes w (k + 1) (fun i => if i < k then b i else 0) = lanes w k b
  | 0, _ => rfl
  | k + 1, b => by
    have ih := lanes_ext w k (fun i => b (i + 1))
    rw [lanes_s, lanes_s w k b, if_pos (by omega), ← ih]
    congr 2
    exact lanes_cong _ fun i _ => by
      by_cases c : i < k
      · rw [if_pos c, if_pos (by omega)]
      · rw [if_neg c, if_neg (by omega)]
def bN (P : Nat → Bool) : Nat → Nat := fun i => if P i then 1 else 0
theorem bN_le (P : Nat → Bool) (i : Nat) : bN P i ≤ 1 := by unfold bN; split <;> omega
theorem lanes_bit : ∀ (k : Nat) (P : Nat → Bool) (j : Nat), (lanes 1 k (bN P)).testBit j = (decide (j < k) && P j)
  | 0, P, j => by simp [lanes]
  | k + 1, P, j => by
    have ih := lanes_bit k (fun i => P (i + 1)) (j - 1)
    have e : lanes 1 (k + 1) (bN P) = 2 ^ 1 * lanes 1 k (bN fun i => P (i + 1)) + bN P 0 := Nat.add_comm _ _
    have hb := bN_le P 0
    rw [e, Nat.testBit_two_pow_mul_add _ (show bN P 0 < 2 ^ 1 by omega), ih]
    by_cases c : j < 1
    · have c : j = 0 := by omega
      subst c
      rw [if_pos (by omega)]
      unfold bN
      cases P 0 <;> simp
    · rw [if_neg c, show j - 1 + 1 = j by omega]
      congr 1
      exact decide_eq_decide.mpr (by omega)
theorem uN_mk (P : Nat → Bool) : uN (mk64 P) = lanes 1 64 (bN P) := by
  refine Nat.eq_of_testBit_eq fun j => ?_
  rw [lanes_bit]
  show (mkB P 64).getLsbD j = _
  exact mkB_get P 64 (Nat.le_refl _) j
theorem uN_and (x y : Int64) : uN (x &&& y) = uN x &&& uN y := by
  show (x.toUInt64 &&& y.toUInt64).toNat = _
  exact UInt64.toNat_and _ _
theorem uN_sub {x y : Int64} {a b : Nat} (hx : uN x = a + b) (hy : uN y = b) : uN (x - y) = a := by
  show (x.toUInt64 - y.toUInt64).toNat = _
  rw [UInt64.toNat_sub_of_le _ _ (by show y.toUInt64.toNat ≤ x.toUInt64.toNat; unfold uN at hx hy; omega)]
  unfold uN at hx hy
  omega
theorem uN_adde {x y : Int64} {a b : Nat} (hx : uN x = a) (hy : uN y = b) (h : a + b < 18446744073709551616) : uN (x + y) = a + b := by
  rw [uN_add, hx, hy, Nat.mod_eq_of_lt h]
theorem uN_s (k : Nat) {s : UInt64} (hs : s.toNat % 64 = k) (x : Int64) : uN (x.toUInt64 >>> s).toInt64 = uN x / 2 ^ k := by rw [uN_shr, hs]
theorem uN_low (x : Int64) : (x.toInt32 &&& 127) = nI (uN x % 128) := by
  refine Int32.toBitVec_inj.mp (BitVec.eq_of_toNat_eq ?_)
  have h1 : (x.toInt32 &&& 127).toBitVec.toNat = x.toInt32.toBitVec.toNat &&& 127 := by
    rw [Int32.toBitVec_and, BitVec.toNat_and]
    rfl
  have h2 : x.toInt32.toBitVec = x.toBitVec.setWidth 32 := by
    show x.toBitVec.signExtend 32 = _
    exact BitVec.signExtend_eq_setWidth_of_le _ (by decide)
  have h3 : x.toInt32.toBitVec.toNat = uN x % 2 ^ 32 := by
    rw [h2, BitVec.toNat_setWidth]
    rfl
  have h4 : (nI (uN x % 128)).toBitVec.toNat = uN x % 128 % 2 ^ 32 := BitVec.toNat_ofNat _ _
  have h5 : uN x % 2 ^ 32 &&& 127 = uN x % 2 ^ 32 % 128 := Nat.and_two_pow_sub_one_eq_mod _ 7
  rw [h1, h3, h4, h5]
  omega
theorem fa_cnt_lanes (P : Nat → Bool) : fa_cnt P 64 = ((((((bN P 0 + bN P 1) + (bN P 2 + bN P 3)) + ((bN P 4 + bN P 5) + (bN P 6 + bN P 7))) + (((bN P 8 + bN P 9) + (bN P 10 + bN P 11)) + ((bN P 12 + bN P 13) + (bN P 14 + bN P 15)))) + ((((bN P 16 + bN P 17) + (bN P 18 + bN P 19)) + ((bN P 20 + bN P 21) + (bN P 22 + bN P 23))) + (((bN P 24 + bN P 25) + (bN P 26 + bN P 27)) + ((bN P 28 + bN P 29) + (bN P 30 + bN P 31))))) + (((((bN P 32 + bN P 33) + (bN P 34 + bN P 35)) + ((bN P 36 + bN P 37) + (bN P 38 + bN P 39))) + (((bN P 40 + bN P 41) + (bN P 42 + bN P 43)) + ((bN P 44 + bN P 45) + (bN P 46 + bN P 47)))) + ((((bN P 48 + bN P 49) + (bN P 50 + bN P 51)) + ((bN P 52 + bN P 53) + (bN P 54 + bN P 55))) + (((bN P 56 + bN P 57) + (bN P 58 + bN P 59)) + ((bN P 60 + bN P 61) + (bN P 62 + bN P 63)))))) := by
  have e : ∀ n, fa_cnt P (n + 1) = fa_cnt P n + bN P n := fun _ => rfl
  simp only [e, show fa_cnt P 0 = 0 from rfl]
  omega
def L8 (c0 c1 c2 c3 c4 c5 c6 c7 : Nat) : Nat := c0 + 256 * (c1 + 256 * (c2 + 256 * (c3 + 256 * (c4 + 256 * (c5 + 256 * (c6 + 256 * c7))))))
theorem L8_lt {c0 c1 c2 c3 c4 c5 c6 c7 : Nat} (h0 : c0 ≤ 64) (h1 : c1 ≤ 64) (h2 : c2 ≤ 64) (h3 : c3 ≤ 64) (h4 : c4 ≤ 64) (h5 : c5 ≤ 64) (h6 : c6 ≤ 64) (h7 : c7 ≤ 64) : L8 c0 c1 c2 c3 c4 c5 c6 c7 < 18446744073709551616 := by
  unfold L8
  omega
theorem L8_d8 {c0 c1 c2 c3 c4 c5 c6 c7 : Nat} (h0 : c0 ≤ 64) : L8 c0 c1 c2 c3 c4 c5 c6 c7 / 2 ^ 8 = L8 c1 c2 c3 c4 c5 c6 c7 0 := by
  unfold L8
  generalize c1 + 256 * (c2 + 256 * (c3 + 256 * (c4 + 256 * (c5 + 256 * (c6 + 256 * c7))))) = X
  omega
theorem L8_d16 {c0 c1 c2 c3 c4 c5 c6 c7 : Nat} (h0 : c0 ≤ 64) (h1 : c1 ≤ 64) : L8 c0 c1 c2 c3 c4 c5 c6 c7 / 2 ^ 16 = L8 c2 c3 c4 c5 c6 c7 0 0 := by
  unfold L8
  generalize c2 + 256 * (c3 + 256 * (c4 + 256 * (c5 + 256 * (c6 + 256 * c7)))) = X
  omega
theorem L8_d32 {c0 c1 c2 c3 c4 c5 c6 c7 : Nat} (h0 : c0 ≤ 64) (h1 : c1 ≤ 64) (h2 : c2 ≤ 64) (h3 : c3 ≤ 64) : L8 c0 c1 c2 c3 c4 c5 c6 c7 / 2 ^ 32 = L8 c4 c5 c6 c7 0 0 0 0 := by
  unfold L8
  generalize c4 + 256 * (c5 + 256 * (c6 + 256 * c7)) = X
  omega
theorem L8_add (c0 c1 c2 c3 c4 c5 c6 c7 d0 d1 d2 d3 d4 d5 d6 d7 : Nat) : L8 c0 c1 c2 c3 c4 c5 c6 c7 + L8 d0 d1 d2 d3 d4 d5 d6 d7 = L8 (c0 + d0) (c1 + d1) (c2 + d2) (c3 + d3) (c4 + d4) (c5 + d5) (c6 + d6) (c7 + d7) := by
  unfold L8
  simp only [Nat.mul_add]
  omega
theorem L8_mod {c0 c1 c2 c3 c4 c5 c6 c7 : Nat} (h0 : c0 < 128) : L8 c0 c1 c2 c3 c4 c5 c6 c7 % 128 = c0 := by
  unfold L8
  generalize c1 + 256 * (c2 + 256 * (c3 + 256 * (c4 + 256 * (c5 + 256 * (c6 + 256 * c7))))) = X
  omega
theorem swar_end {c0 c1 c2 c3 c4 c5 c6 c7 : Nat} (h0 : c0 ≤ 8) (h1 : c1 ≤ 8) (h2 : c2 ≤ 8) (h3 : c3 ≤ 8) (h4 : c4 ≤ 8) (h5 : c5 ≤ 8) (h6 : c6 ≤ 8) (h7 : c7 ≤ 8) : L8 c0 c1 c2 c3 c4 c5 c6 c7 + L8 c0 c1 c2 c3 c4 c5 c6 c7 / 2 ^ 8 < 18446744073709551616 ∧ L8 c0 c1 c2 c3 c4 c5 c6 c7 + L8 c0 c1 c2 c3 c4 c5 c6 c7 / 2 ^ 8 + (L8 c0 c1 c2 c3 c4 c5 c6 c7 + L8 c0 c1 c2 c3 c4 c5 c6 c7 / 2 ^ 8) / 2 ^ 16 < 18446744073709551616 ∧ L8 c0 c1 c2 c3 c4 c5 c6 c7 + L8 c0 c1 c2 c3 c4 c5 c6 c7 / 2 ^ 8 + (L8 c0 c1 c2 c3 c4 c5 c6 c7 + L8 c0 c1 c2 c3 c4 c5 c6 c7 / 2 ^ 8) / 2 ^ 16 + (L8 c0 c1 c2 c3 c4 c5 c6 c7 + L8 c0 c1 c2 c3 c4 c5 c6 c7 / 2 ^ 8 + (L8 c0 c1 c2 c3 c4 c5 c6 c7 + L8 c0 c1 c2 c3 c4 c5 c6 c7 / 2 ^ 8) / 2 ^ 16) / 2 ^ 32 < 18446744073709551616 ∧ (L8 c0 c1 c2 c3 c4 c5 c6 c7 + L8 c0 c1 c2 c3 c4 c5 c6 c7 / 2 ^ 8 + (L8 c0 c1 c2 c3 c4 c5 c6 c7 + L8 c0 c1 c2 c3 c4 c5 c6 c7 / 2 ^ 8) / 2 ^ 16 + (L8 c0 c1 c2 c3 c4 c5 c6 c7 + L8 c0 c1 c2 c3 c4 c5 c6 c7 / 2 ^ 8 + (L8 c0 c1 c2 c3 c4 c5 c6 c7 + L8 c0 c1 c2 c3 c4 c5 c6 c7 / 2 ^ 8) / 2 ^ 16) / 2 ^ 32) % 128 = (((c0 + c1) + (c2 + c3)) + ((c4 + c5) + (c6 + c7))) := by
  rw [L8_d8 (by omega), L8_add, L8_d16 (by omega) (by omega), L8_add, L8_d32 (by omega) (by omega) (by omega) (by omega), L8_add]
  refine ⟨L8_lt ?_ ?_ ?_ ?_ ?_ ?_ ?_ ?_, L8_lt ?_ ?_ ?_ ?_ ?_ ?_ ?_ ?_, L8_lt ?_ ?_ ?_ ?_ ?_ ?_ ?_ ?_, (L8_mod ?_).trans ?_⟩ <;> omega
def pr2 (c : Nat → Nat) : Nat → Nat := fun i => c (2 * i) + c (2 * i + 1)
theorem cnt64 (P : Nat → Bool) (y1 y2 y3 y4 y5 y6 : Int64) (e1 : y1 = mk64 P - ((((mk64 P).toUInt64 >>> ((1 : Int32).toInt64.toUInt64 &&& Int64.toUInt64 63)).toInt64) &&& 6148914691236517205)) (e2 : y2 = (y1 &&& 3689348814741910323) + (((y1.toUInt64 >>> ((2 : Int32).toInt64.toUInt64 &&& Int64.toUInt64 63)).toInt64) &&& 3689348814741910323)) (e3 : y3 = (y2 + ((y2.toUInt64 >>> ((4 : Int32).toInt64.toUInt64 &&& Int64.toUInt64 63)).toInt64)) &&& 1085102592571150095) (e4 : y4 = y3 + ((y3.toUInt64 >>> ((8 : Int32).toInt64.toUInt64 &&& Int64.toUInt64 63)).toInt64)) (e5 : y5 = y4 + ((y4.toUInt64 >>> ((16 : Int32).toInt64.toUInt64 &&& Int64.toUInt64 63)).toInt64)) (e6 : y6 = y5 + ((y5.toUInt64 >>> ((32 : Int32).toInt64.toUInt64 &&& Int64.toUInt64 63)).toInt64)) : (y6.toInt32 &&& 127) = nI (fa_cnt P 64) := by
  have hb := bN_le P
  have b1 : ∀ i, pr2 (bN P) i ≤ 2 := fun i => by have := hb (2 * i); have := hb (2 * i + 1); unfold pr2; omega
  have b2 : ∀ i, pr2 (pr2 (bN P)) i ≤ 4 := fun i => by have := b1 (2 * i); have := b1 (2 * i + 1); show pr2 (bN P) (2 * i) + pr2 (bN P) (2 * i + 1) ≤ 4; omega
  have b3 : ∀ i, pr2 (pr2 (pr2 (bN P))) i ≤ 8 := fun i => by have := b2 (2 * i); have := b2 (2 * i + 1); show pr2 (pr2 (bN P)) (2 * i) + pr2 (pr2 (bN P)) (2 * i + 1) ≤ 8; omega
  have k1 : uN 6148914691236517205 = lanes 2 32 (fun _ => 1) := by decide +kernel
  have k2 : uN 3689348814741910323 = lanes 4 16 (fun _ => 3) := by decide +kernel
  have k3 : uN 1085102592571150095 = lanes 8 8 (fun _ => 15) := by decide +kernel
  have x0 : uN (mk64 P) = lanes 2 32 (fun i => bN P (2 * i) + 2 ^ 1 * bN P (2 * i + 1)) := by rw [uN_mk]; exact lanes_pair 1 32 (bN P)
  have u1 : uN y1 = lanes 2 32 (pr2 (bN P)) := by
    rw [e1]
    refine uN_sub (b := lanes 2 32 (fun i => bN P (2 * i + 1))) ?_ ?_
    · rw [x0, ← lanes_add]
      refine lanes_cong 32 fun i _ => ?_
      show bN P (2 * i) + 2 ^ 1 * bN P (2 * i + 1) = (bN P (2 * i) + bN P (2 * i + 1)) + bN P (2 * i + 1)
      omega
    · rw [uN_and, uN_s 1 (by decide), k1, x0, lanes_shr (by decide) (by decide) 32 (fun i _ => by have := hb (2 * i); have := hb (2 * i + 1); show bN P (2 * i) + 2 * bN P (2 * i + 1) < 4; omega)]
      refine lanes_cong 32 fun i _ => ?_
      have h0 := hb (2 * i)
      have h1 := hb (2 * i + 1)
      show (bN P (2 * i) + 2 * bN P (2 * i + 1)) / 2 &&& 1 = bN P (2 * i + 1)
      rw [show (bN P (2 * i) + 2 * bN P (2 * i + 1)) / 2 = bN P (2 * i + 1) by omega]
      exact (Nat.and_two_pow_sub_one_eq_mod _ 1).trans (by omega)
  have u2 : uN y2 = lanes 4 16 (pr2 (pr2 (bN P))) := by
    have w1 : uN y1 = lanes 4 16 (fun i => pr2 (bN P) (2 * i) + 2 ^ 2 * pr2 (bN P) (2 * i + 1)) := u1.trans (lanes_pair 2 16 _)
    have hlt : ∀ i, i < 16 → pr2 (bN P) (2 * i) + 2 ^ 2 * pr2 (bN P) (2 * i + 1) < 2 ^ 4 := fun i _ => by have := b1 (2 * i); have := b1 (2 * i + 1); show _ + 4 * _ < 16; omega
    have p1 : uN (y1 &&& 3689348814741910323) = lanes 4 16 (fun i => pr2 (bN P) (2 * i)) := by
      have z := lanes_shr (w := 4) (h := 0) (m := 3) (by decide) (by decide) 16 hlt
      rw [Nat.pow_zero, Nat.div_one] at z
      rw [uN_and, k2, w1, z]
      refine lanes_cong 16 fun i _ => ?_
      have h0 := b1 (2 * i)
      show (pr2 (bN P) (2 * i) + 4 * pr2 (bN P) (2 * i + 1)) / 1 &&& 3 = _
      rw [Nat.div_one]
      exact (Nat.and_two_pow_sub_one_eq_mod _ 2).trans (by omega)
    have p2 : uN (((y1.toUInt64 >>> ((2 : Int32).toInt64.toUInt64 &&& Int64.toUInt64 63)).toInt64) &&& 3689348814741910323) = lanes 4 16 (fun i => pr2 (bN P) (2 * i + 1)) := by
      rw [uN_and, uN_s 2 (by decide), k2, w1, lanes_shr (by decide) (by decide) 16 hlt]
      refine lanes_cong 16 fun i _ => ?_
      have h0 := b1 (2 * i)
      have h1 := b1 (2 * i + 1)
      show (pr2 (bN P) (2 * i) + 4 * pr2 (bN P) (2 * i + 1)) / 4 &&& 3 = _
      exact (Nat.and_two_pow_sub_one_eq_mod _ 2).trans (by omega)
    rw [e2, uN_adde p1 p2 ?_, ← lanes_add]
    · rfl
    · rw [← lanes_add]
      exact lanes_lt (w := 4) 16 (fun i _ => by have := b1 (2 * i); have := b1 (2 * i + 1); show _ + _ < 16; omega)
  have u3 : uN y3 = lanes 8 8 (pr2 (pr2 (pr2 (bN P)))) := by
    have hlt4 : ∀ i, i < 16 → pr2 (pr2 (bN P)) i < 2 ^ 4 := fun i _ => by have := b2 i; show _ < 16; omega
    have w2 : uN ((y2.toUInt64 >>> ((4 : Int32).toInt64.toUInt64 &&& Int64.toUInt64 63)).toInt64) = lanes 4 16 (fun i => if i < 15 then pr2 (pr2 (bN P)) (i + 1) else 0) := by
      rw [uN_s 4 (by decide), u2]
      exact (lanes_div 4 15 (hlt4 0 (by omega))).trans (lanes_ext 4 15 _).symm
    have w3 : uN (y2 + ((y2.toUInt64 >>> ((4 : Int32).toInt64.toUInt64 &&& Int64.toUInt64 63)).toInt64)) = lanes 8 8 (fun i => (pr2 (pr2 (bN P)) (2 * i) + (if 2 * i < 15 then pr2 (pr2 (bN P)) (2 * i + 1) else 0)) + 2 ^ 4 * (pr2 (pr2 (bN P)) (2 * i + 1) + (if 2 * i + 1 < 15 then pr2 (pr2 (bN P)) (2 * i + 1 + 1) else 0))) := by
      have hs : lanes 4 16 (pr2 (pr2 (bN P))) + lanes 4 16 (fun i => if i < 15 then pr2 (pr2 (bN P)) (i + 1) else 0) = lanes 4 16 (fun i => pr2 (pr2 (bN P)) i + (if i < 15 then pr2 (pr2 (bN P)) (i + 1) else 0)) := (lanes_add 4 16 _ _).symm
      rw [uN_adde u2 w2 ?_, hs]
      · exact lanes_pair 4 8 _
      · rw [hs]
        refine lanes_lt (w := 4) 16 (fun i hi => ?_)
        have := b2 i
        have := b2 (i + 1)
        show _ + _ < 16
        split <;> omega
    rw [e3, uN_and, k3, w3]
    have hlt : ∀ i, i < 8 → (pr2 (pr2 (bN P)) (2 * i) + (if 2 * i < 15 then pr2 (pr2 (bN P)) (2 * i + 1) else 0)) + 2 ^ 4 * (pr2 (pr2 (bN P)) (2 * i + 1) + (if 2 * i + 1 < 15 then pr2 (pr2 (bN P)) (2 * i + 1 + 1) else 0)) < 2 ^ 8 := fun i hi => by
      have := b2 (2 * i)
      have := b2 (2 * i + 1)
      have := b2 (2 * i + 1 + 1)
      show _ + 16 * _ < 256
      split <;> split <;> omega
    have z := lanes_shr (w := 8) (h := 0) (m := 15) (by decide) (by decide) 8 hlt
    rw [Nat.pow_zero, Nat.div_one] at z
    rw [z]
    refine lanes_cong 8 fun i hi => ?_
    have h0 := b2 (2 * i)
    have h1 := b2 (2 * i + 1)
    rw [Nat.div_one, if_pos (by omega)]
    refine (Nat.and_two_pow_sub_one_eq_mod _ 4).trans ?_
    show (pr2 (pr2 (bN P)) (2 * i) + pr2 (pr2 (bN P)) (2 * i + 1) + 16 * _) % 16 = pr2 (pr2 (bN P)) (2 * i) + pr2 (pr2 (bN P)) (2 * i + 1)
    omega
  have q0 := b3 0
  have q1 := b3 1
  have q2 := b3 2
  have q3 := b3 3
  have q4 := b3 4
  have q5 := b3 5
  have q6 := b3 6
  have q7 := b3 7
  rw [uN_low]
  congr 1
  rw [fa_cnt_lanes]
  have t8 : ∀ j, pr2 (pr2 (pr2 (bN P))) j = ((bN P (2 * (2 * (2 * j))) + bN P (2 * (2 * (2 * j)) + 1)) + (bN P (2 * (2 * (2 * j) + 1)) + bN P (2 * (2 * (2 * j) + 1) + 1))) + ((bN P (2 * (2 * (2 * j + 1))) + bN P (2 * (2 * (2 * j + 1)) + 1)) + (bN P (2 * (2 * (2 * j + 1) + 1)) + bN P (2 * (2 * (2 * j + 1) + 1) + 1))) := fun _ => rfl
  have s8 := fun j => (t8 j).symm
  have r3 := u3
  clear u1 u2 u3 x0 k1 k2 k3 b1 b2 b3 hb e1 e2 e3 t8 s8
  have r3 : uN y3 = L8 (pr2 (pr2 (pr2 (bN P))) 0) (pr2 (pr2 (pr2 (bN P))) 1) (pr2 (pr2 (pr2 (bN P))) 2) (pr2 (pr2 (pr2 (bN P))) 3) (pr2 (pr2 (pr2 (bN P))) 4) (pr2 (pr2 (pr2 (bN P))) 5) (pr2 (pr2 (pr2 (bN P))) 6) (pr2 (pr2 (pr2 (bN P))) 7) := r3
  have fin := swar_end q0 q1 q2 q3 q4 q5 q6 q7
  rw [e6, uN_adde rfl (uN_s 32 (by decide) y5), e5, uN_adde rfl (uN_s 16 (by decide) y4), e4, uN_adde rfl (uN_s 8 (by decide) y3), r3]
  · exact fin.2.2.2
  · rw [r3]; exact fin.1
  · rw [e4, uN_adde rfl (uN_s 8 (by decide) y3), r3]
    · exact fin.2.1
    · rw [r3]; exact fin.1
  · rw [e5, uN_adde rfl (uN_s 16 (by decide) y4), e4, uN_adde rfl (uN_s 8 (by decide) y3), r3]
    · exact fin.2.2.1
    · rw [r3]; exact fin.1
    · rw [e4, uN_adde rfl (uN_s 8 (by decide) y3), r3]
      · exact fin.2.1
      · rw [r3]; exact fin.1
/-! the same for an int below 256 -/
def ki1 (x : Int32) : Int32 := x - (((x.toUInt32 >>> ((1 : Int32).toUInt32 &&& Int32.toUInt32 31)).toInt32) &&& 1431655765)
def ki2 (y : Int32) : Int32 := (y &&& 858993459) + (((y.toUInt32 >>> ((2 : Int32).toUInt32 &&& Int32.toUInt32 31)).toInt32) &&& 858993459)
def ki3 (y : Int32) : Int32 := (y + ((y.toUInt32 >>> ((4 : Int32).toUInt32 &&& Int32.toUInt32 31)).toInt32)) &&& 252645135
def ki4 (y : Int32) : Int32 := y + ((y.toUInt32 >>> ((8 : Int32).toUInt32 &&& Int32.toUInt32 31)).toInt32)
def ki5 (y : Int32) : Int32 := (y + ((y.toUInt32 >>> ((16 : Int32).toUInt32 &&& Int32.toUInt32 31)).toInt32)) &&& 63
theorem cnt8 : ∀ m, m < 256 → ki5 (ki4 (ki3 (ki2 (ki1 (nI m))))) = nI (fa_cnt m.testBit 8) := by decide +kernel
theorem rd_bitCountL {g : GG} {σ : Hs} (P : Nat → Bool) : Rd g M_J13_bitCount_95d88 [.long (mk64 P)] σ (nI (fa_cnt P 64)) :=
  q_J13_bitCount_95d88 _ (rd_i (cnt64 P _ _ _ _ _ _ rfl rfl rfl rfl rfl rfl))
theorem rd_bitCountI {g : GG} {σ : Hs} {m : Nat} (hm : m < 256) : Rd g M_J6_bitCount_0f7a4 [.int (nI m)] σ (nI (fa_cnt m.testBit 8)) :=
  q_J6_bitCount_0f7a4 _ (rd_i (cnt8 m hm))
