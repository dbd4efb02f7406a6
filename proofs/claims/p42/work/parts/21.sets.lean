/-! Sets of slots, as the bits of a long: mk64 P has bit s where P s (s below 64). -/
def mkB (P : Nat → Bool) : Nat → BitVec 64
  | 0 => 0#64
  | n + 1 => if P n then mkB P n ||| BitVec.twoPow 64 n else mkB P n
theorem mkB_get (P : Nat → Bool) : ∀ (n : Nat), n ≤ 64 → ∀ (j : Nat), (mkB P n).getLsbD j = (decide (j < n) && P j)
  | 0, _, j => by simp [mkB]
  | n + 1, h, j => by
    have ih := mkB_get P n (by omega) j
    simp only [mkB]
    by_cases hp : P n = true
    · rw [if_pos hp, BitVec.getLsbD_or, ih, BitVec.getLsbD_twoPow]
      by_cases e : j = n
      · subst e
        simp [hp]
        omega
      · by_cases hl : j < n
        · simp [hl, show j < n + 1 by omega, show ¬ n = j by omega]
        · simp [hl, show ¬ j < n + 1 by omega, show ¬ n = j by omega]
    · rw [if_neg hp, ih]
      by_cases e : j = n
      · subst e
        simp [hp]
      · by_cases hl : j < n
        · simp [hl, show j < n + 1 by omega]
        · simp [hl, show ¬ j < n + 1 by omega]
def mk64 (P : Nat → Bool) : Int64 := Int64.ofBitVec (mkB P 64)
def lb (x : Int64) (s : Nat) : Bool := x.toBitVec.getLsbD s
theorem lb_mk (P : Nat → Bool) {s : Nat} (hs : s < 64) : lb (mk64 P) s = P s := by
  show (mkB P 64).getLsbD s = P s
  rw [mkB_get P 64 (Nat.le_refl _)]
  simp [hs]
theorem lb_ext {x y : Int64} (h : ∀ s, s < 64 → lb x s = lb y s) : x = y := Int64.toBitVec_inj.mp (BitVec.eq_of_getLsbD_eq (fun i hi => h i hi))
theorem mk_cong {P Q : Nat → Bool} (h : ∀ s, s < 64 → P s = Q s) : mk64 P = mk64 Q := lb_ext fun s hs => by rw [lb_mk P hs, lb_mk Q hs, h s hs]
theorem mk_0 : (0 : Int64) = mk64 (fun _ => false) := lb_ext fun s hs => by rw [lb_mk _ hs]; exact BitVec.getLsbD_zero
theorem mk_and (P Q : Nat → Bool) : mk64 P &&& mk64 Q = mk64 (fun s => P s && Q s) := lb_ext fun s hs => by
  rw [lb_mk _ hs]
  unfold lb
  rw [Int64.toBitVec_and, BitVec.getLsbD_and]
  exact congr (congrArg and (lb_mk P hs)) (lb_mk Q hs)
theorem mk_or (P Q : Nat → Bool) : mk64 P ||| mk64 Q = mk64 (fun s => P s || Q s) := lb_ext fun s hs => by
  rw [lb_mk _ hs]
  unfold lb
  rw [Int64.toBitVec_or, BitVec.getLsbD_or]
  exact congr (congrArg or (lb_mk P hs)) (lb_mk Q hs)
theorem mk_bit : ∀ k, k < 64 → (1 : Int64) <<< ((nI k).toInt64 &&& 63) = mk64 (fun s => decide (s = k)) := by decide +kernel
theorem mk_nbit : ∀ k, k < 64 → ((1 : Int64) <<< ((nI k).toInt64 &&& 63)) ^^^ (-1) = mk64 (fun s => !decide (s = k)) := by decide +kernel
theorem mk_set (P : Nat → Bool) {k : Nat} (hk : k < 64) : mk64 P ||| ((1 : Int64) <<< ((nI k).toInt64 &&& 63)) = mk64 (fun s => P s || decide (s = k)) := by rw [mk_bit k hk, mk_or]
theorem mk_del (P : Nat → Bool) {k : Nat} (hk : k < 64) : mk64 P &&& (((1 : Int64) <<< ((nI k).toInt64 &&& 63)) ^^^ (-1)) = mk64 (fun s => P s && !decide (s = k)) := by rw [mk_nbit k hk, mk_and]
theorem sh_amt : ∀ k, k < 64 → ((nI k).toInt64.toUInt64 &&& Int64.toUInt64 63).toNat = k := by decide +kernel
theorem mk_test (P : Nat → Bool) {k : Nat} (hk : k < 64) : (((mk64 P).toUInt64 >>> ((nI k).toInt64.toUInt64 &&& Int64.toUInt64 63)).toInt64 &&& 1) = 0 ↔ P k = false := by
  rw [ts_bit hk (sh_amt k hk)]
  show lb (mk64 P) k = false ↔ _
  rw [lb_mk P hk]
theorem lg0 (x : Int64) : lg_cmp x 0 = 0 ↔ x = 0 := by
  unfold lg_cmp
  constructor
  · intro h
    by_cases h1 : x > 0
    · rw [if_pos h1] at h; exact absurd h (by decide)
    · rw [if_neg h1] at h
      by_cases h2 : x = 0
      · exact h2
      · rw [if_neg h2] at h; exact absurd h (by decide)
  · intro h
    subst h
    decide
theorem lb_ushr (x : Int64) {k : Nat} (hk : k < 64) {s : Nat} : lb ((x.toUInt64 >>> ((nI k).toInt64.toUInt64 &&& Int64.toUInt64 63)).toInt64) s = lb x (k + s) := by
  show (x.toUInt64 >>> ((nI k).toInt64.toUInt64 &&& Int64.toUInt64 63)).toBitVec.getLsbD s = x.toUInt64.toBitVec.getLsbD (k + s)
  have e : (x.toUInt64 >>> ((nI k).toInt64.toUInt64 &&& Int64.toUInt64 63)).toBitVec = x.toBitVec >>> k := by
    apply BitVec.eq_of_toNat_eq
    show (x.toUInt64 >>> ((nI k).toInt64.toUInt64 &&& Int64.toUInt64 63)).toNat = _
    rw [UInt64.toNat_shiftRight, sh_amt k hk, Nat.mod_eq_of_lt hk, BitVec.toNat_ushiftRight]
    rfl
  rw [e, BitVec.getLsbD_ushiftRight]
  rfl
theorem mk_low : ∀ w, w < 9 → ((1 : Int64) <<< ((nI w).toInt64 &&& 63)) - 1 = mk64 (fun s => decide (s < w)) := by decide +kernel
theorem mk_ne0 (P : Nat → Bool) : mk64 P = 0 ↔ ∀ s, s < 64 → P s = false := by
  rw [mk_0]
  constructor
  · intro h s hs
    have h1 := congrArg (fun x => lb x s) h
    simp only [lb_mk _ hs] at h1
    exact h1
  · intro h
    exact mk_cong h
