/-! Static helpers of the class, and its Table. -/
theorem lt_n {x : Int32} {n : Nat} (h : n < 2 ^ 31) : x < nI n ↔ x.toInt < (n : Int) := by rw [I_lt, I_n h]
theorem le_n {x : Int32} {n : Nat} (h : n < 2 ^ 31) : x ≤ nI n ↔ x.toInt ≤ (n : Int) := by rw [I_le, I_n h]
theorem n_le {x : Int32} {n : Nat} (h : n < 2 ^ 31) : nI n ≤ x ↔ (n : Int) ≤ x.toInt := by rw [I_le, I_n h]
theorem n_lt {x : Int32} {n : Nat} (h : n < 2 ^ 31) : nI n < x ↔ (n : Int) < x.toInt := by rw [I_lt, I_n h]
theorem eq_n {x : Int32} {n : Nat} (h : n < 2 ^ 31) : x = nI n ↔ x.toInt = (n : Int) := by rw [I_eq, I_n h]
theorem nlt_n {x : Int32} {n : Nat} (h : n < 2 ^ 31) (c : ¬ x < nI n) : (n : Int) ≤ x.toInt := Int.not_lt.mp fun z => c ((lt_n h).mpr z)
theorem nle_n {x : Int32} {n : Nat} (h : n < 2 ^ 31) (c : ¬ x ≤ nI n) : (n : Int) < x.toInt := Int.not_le.mp fun z => c ((le_n h).mpr z)
theorem n_nle {x : Int32} {n : Nat} (h : n < 2 ^ 31) (c : ¬ nI n ≤ x) : x.toInt < (n : Int) := Int.not_le.mp fun z => c ((n_le h).mpr z)
theorem n_nlt {x : Int32} {n : Nat} (h : n < 2 ^ 31) (c : ¬ nI n < x) : x.toInt ≤ (n : Int) := Int.not_lt.mp fun z => c ((n_lt h).mpr z)
/-- x lies from 0 to n - 1 -/
def inR (x : Int32) (n : Nat) : Bool := decide (0 ≤ x.toInt ∧ x.toInt < (n : Int))
theorem inR_n {k n : Nat} (hk : k < 2 ^ 31) : inR (nI k) n = decide (k < n) := by
  unfold inR
  rw [I_n hk]
  congr 1
  apply propext
  omega
theorem inR_of {x : Int32} {n : Nat} (h : inR x n = true) (hn : n ≤ 2 ^ 31) : ∃ k, k < n ∧ x = nI k := by
  unfold inR at h
  have h1 := of_decide_eq_true h
  exact I_of h1.1 h1.2 hn
theorem rd_isSlot {g : GG} {σ : Hs} (x : Int32) : Rd g M_X11_isSlot [.int x] σ (b2 (inR x 64)) := by
  refine q_X11_isSlot x ⟨fun c => rd_i ?_, fun c => ⟨fun c2 => rd_i ?_, fun c2 => rd_i ?_⟩⟩
  · have c := (lt_n (n := 0) (by decide)).mp c
    rw [show inR x 64 = false from decide_eq_false (by omega)]; rfl
  · have c2 := (n_le (n := 64) (by decide)).mp c2
    rw [show inR x 64 = false from decide_eq_false (by omega)]; rfl
  · have c := nlt_n (n := 0) (by decide) c
    have c2 := n_nle (n := 64) (by decide) c2
    rw [show inR x 64 = true from decide_eq_true (by omega)]; rfl
theorem rd_isColumn {g : GG} {σ : Hs} (x : Int32) : Rd g M_X11_isColumn [.int x] σ (b2 (inR x 4)) := by
  refine q_X11_isColumn x ⟨fun c => rd_i ?_, fun c => ⟨fun c2 => rd_i ?_, fun c2 => rd_i ?_⟩⟩
  · have c := (lt_n (n := 0) (by decide)).mp c
    rw [show inR x 4 = false from decide_eq_false (by omega)]; rfl
  · have c2 := (n_le (n := 4) (by decide)).mp c2
    rw [show inR x 4 = false from decide_eq_false (by omega)]; rfl
  · have c := nlt_n (n := 0) (by decide) c
    have c2 := n_nle (n := 4) (by decide) c2
    rw [show inR x 4 = true from decide_eq_true (by omega)]; rfl
theorem rd_isNumber {g : GG} {σ : Hs} (x : Int32) : Rd g M_X11_isNumber [.int x] σ (b2 (inR x 100)) := by
  refine q_X11_isNumber x ⟨fun c => rd_i ?_, fun c => ⟨fun c2 => rd_i ?_, fun c2 => rd_i ?_⟩⟩
  · have c := (lt_n (n := 0) (by decide)).mp c
    rw [show inR x 100 = false from decide_eq_false (by omega)]; rfl
  · have c2 := (n_lt (n := 99) (by decide)).mp c2
    rw [show inR x 100 = false from decide_eq_false (by omega)]; rfl
  · have c := nlt_n (n := 0) (by decide) c
    have c2 := n_nlt (n := 99) (by decide) c2
    rw [show inR x 100 = true from decide_eq_true (by omega)]; rfl
theorem rd_isSet {g : GG} {σ : Hs} (x : Int32) : Rd g M_X11_isSet [.int x] σ (b2 (inR x 256)) := by
  refine q_X11_isSet x ⟨fun c => rd_i ?_, fun c => ⟨fun c2 => rd_i ?_, fun c2 => rd_i ?_⟩⟩
  · have c := (lt_n (n := 0) (by decide)).mp c
    rw [show inR x 256 = false from decide_eq_false (by omega)]; rfl
  · have c2 := (n_lt (n := 255) (by decide)).mp c2
    rw [show inR x 256 = false from decide_eq_false (by omega)]; rfl
  · have c := nlt_n (n := 0) (by decide) c
    have c2 := n_nlt (n := 255) (by decide) c2
    rw [show inR x 256 = true from decide_eq_true (by omega)]; rfl
theorem rd_isSpace {g : GG} {σ : Hs} (x : Int32) : Rd g M_X11_isSpace [.int x] σ (b2 (inR x 10000)) := by
  refine q_X11_isSpace x ⟨fun c => rd_i ?_, fun c => ⟨fun c2 => rd_i ?_, fun c2 => rd_i ?_⟩⟩
  · have c := (lt_n (n := 0) (by decide)).mp c
    rw [show inR x 10000 = false from decide_eq_false (by omega)]; rfl
  · have c2 := (n_lt (n := 9999) (by decide)).mp c2
    rw [show inR x 10000 = false from decide_eq_false (by omega)]; rfl
  · have c := nlt_n (n := 0) (by decide) c
    have c2 := n_nlt (n := 9999) (by decide) c2
    rw [show inR x 10000 = true from decide_eq_true (by omega)]; rfl
theorem rd_hasSlot {g : GG} {σ : Hs} (P : Nat → Bool) {k : Nat} (hk : k < 64) : Rd g M_X11_hasSlot [.long (mk64 P), .int (nI k)] σ (b2 (P k)) := by
  refine q_X11_hasSlot _ _ ⟨fun c => rd_i ?_, fun c => rd_i ?_⟩
  · rw [(mk_test P hk).mp ((lg0 _).mp c)]; rfl
  · have h1 : ¬ P k = false := fun h => c ((lg0 _).mpr ((mk_test P hk).mpr h))
    rw [Bool.not_eq_false] at h1
    rw [h1]; rfl
/-- sets of a few numbers as the bits of an int -/
theorem bs_has : ∀ m, m < 256 → ∀ i, i < 8 → (((nI m >>> (nI i &&& 31)) &&& 1) = 0 ↔ m.testBit i = false) := by decide +kernel
theorem bs_with : ∀ m, m < 256 → ∀ i, i < 8 → nI m ||| ((1 : Int32) <<< (nI i &&& 31)) = nI (m ||| 2 ^ i) := by decide +kernel
theorem bs_without : ∀ m, m < 256 → ∀ i, i < 8 → nI m &&& (((1 : Int32) <<< (nI i &&& 31)) ^^^ (-1)) = nI (if m.testBit i then m - 2 ^ i else m) := by decide +kernel
theorem rd_has {g : GG} {σ : Hs} {m i : Nat} (hm : m < 256) (hi : i < 8) : Rd g M_X11_has [.int (nI m), .int (nI i)] σ (b2 (m.testBit i)) := by
  refine q_X11_has _ _ ⟨fun c => rd_i ?_, fun c => rd_i ?_⟩
  · rw [(bs_has m hm i hi).mp c]; rfl
  · have h1 : ¬ m.testBit i = false := fun h => c ((bs_has m hm i hi).mpr h)
    rw [Bool.not_eq_false] at h1
    rw [h1]; rfl
theorem rd_with {g : GG} {σ : Hs} {m i : Nat} (hm : m < 256) (hi : i < 8) : Rd g M_X11_with [.int (nI m), .int (nI i)] σ (nI (m ||| 2 ^ i)) := q_X11_with _ _ (rd_i (bs_with m hm i hi))
theorem rd_without {g : GG} {σ : Hs} {m i : Nat} (hm : m < 256) (hi : i < 8) : Rd g M_X11_without [.int (nI m), .int (nI i)] σ (nI (if m.testBit i then m - 2 ^ i else m)) := q_X11_without _ _ (rd_i (bs_without m hm i hi))
theorem rd_quotient {g : GG} {σ : Hs} {a b : Nat} (ha : a < 2 ^ 31) (h0 : 0 < b) (hb : b < 2 ^ 31) : Rd g M_X11_quotient [.int (nI a), .int (nI b)] σ (nI (a / b)) := by
  refine q_X11_quotient _ _ ⟨fun c => ?_, fun c => ⟨?_, rd_i (pk_div ha h0 hb)⟩⟩
  · exact absurd ((le_n (n := 0) (by decide)).mp c) (by rw [I_n hb]; omega)
  · intro h
    exact absurd ((eq_n (n := 0) (by decide)).mp h) (by rw [I_n hb]; omega)
theorem rd_roundedUp {g : GG} {σ : Hs} {a b : Nat} (ha : a + b < 2 ^ 31) (h0 : 0 < b) : Rd g M_X11_roundedUp [.int (nI a), .int (nI b)] σ (nI ((a + b - 1) / b)) := by
  refine q_X11_roundedUp _ _ ?_
  rw [nI_add, nI_s1 (by omega)]
  exact (rd_quotient (by omega) h0 (by omega)).use (rd_i rfl)
theorem rd_rest {g : GG} {σ : Hs} {a b : Nat} (ha : a < 2 ^ 31) (h0 : 0 < b) (hb : b < 2 ^ 31) : Rd g M_X11_rest [.int (nI a), .int (nI b)] σ (nI (a % b)) := by
  refine q_X11_rest _ _ ⟨fun c => ?_, fun c => ⟨?_, rd_i (pk_rem ha h0 hb)⟩⟩
  · exact absurd ((le_n (n := 0) (by decide)).mp c) (by rw [I_n hb]; omega)
  · intro h
    exact absurd ((eq_n (n := 0) (by decide)).mp h) (by rw [I_n hb]; omega)
/-! ===== Table: t, its Numbers a over the array q: cells f, taken tk, wide wd ===== -/
def TabAt (g : GG) (σ : Hs) (t a q : Nat) (f : Nat → Int32) (tk : Nat → Bool) (wd : Nat) : Prop := Ce σ t (.inr (8, [.ref a, .long (mk64 tk), .int (nI wd)])) ∧ NumAt g σ a q 256 f
theorem TabAt.ta {g : GG} {σ : Hs} {t a q : Nat} {f : Nat → Int32} {tk : Nat → Bool} {wd : Nat} (h : TabAt g σ t a q f tk wd) : a ≠ t := fun e => by subst e; exact absurd (h.1.uniq h.2.1) (by simp)
theorem TabAt.tq {g : GG} {σ : Hs} {t a q : Nat} {f : Nat → Int32} {tk : Nat → Bool} {wd : Nat} (h : TabAt g σ t a q f tk wd) : q ≠ t := fun e => by subst e; exact absurd (h.1.uniq h.2.2.1) (by simp [aI])
theorem rd_holds {g : GG} {σ : Hs} {t a q : Nat} {f : Nat → Int32} {tk : Nat → Bool} {wd : Nat} (h : TabAt g σ t a q f tk wd) (x : Int32) : Rd g M_X8_holds [.ref t, .int x] σ (b2 (inR x 64 && tk x.toInt.toNat)) := by
  refine q_X8_holds t x ((rd_isSlot x).use ⟨fun c => rd_i ?_, fun c => FL.of h.1 rfl ?_⟩)
  · rw [b2_0.mp c]; rfl
  · have c := b2_n0.mp c
    obtain ⟨k, hk, rfl⟩ := inR_of c (by decide)
    rw [c, Bool.true_and, I_n (by omega)]
    refine (rd_hasSlot tk hk).use ⟨fun c2 => rd_i ?_, fun c2 => rd_i ?_⟩
    · rw [show ((k : Int).toNat) = k by omega, b2_0.mp c2]; rfl
    · rw [show ((k : Int).toNat) = k by omega, b2_n0.mp c2]; rfl
theorem wr_hold {g : GG} {σ : Hs} {t a q : Nat} {f : Nat → Int32} {tk : Nat → Bool} {wd : Nat} (h : TabAt g σ t a q f tk wd) {k : Nat} (hk : k < 64) : Wr g M_X8_hold [.ref t, .int (nI k)] σ (hup σ t (.inr (8, [.ref a, .long (mk64 (fun s => tk s || decide (s = k))), .int (nI wd)]))) := by
  refine q_X8_hold t (nI k) (FL.of h.1 rfl (PF.of h.1 (by show 1 < 3; decide) rfl ?_))
  rw [mk_set tk hk]
  exact wr_v
theorem wr_release {g : GG} {σ : Hs} {t a q : Nat} {f : Nat → Int32} {tk : Nat → Bool} {wd : Nat} (h : TabAt g σ t a q f tk wd) {k : Nat} (hk : k < 64) : Wr g M_X8_release [.ref t, .int (nI k)] σ (hup σ t (.inr (8, [.ref a, .long (mk64 (fun s => tk s && !decide (s = k))), .int (nI wd)]))) := by
  refine q_X8_release t (nI k) (FL.of h.1 rfl (PF.of h.1 (by show 1 < 3; decide) rfl ?_))
  rw [mk_del tk hk]
  exact wr_v
theorem TabAt.tk {g : GG} {σ : Hs} {t a q : Nat} {f : Nat → Int32} {tk : Nat → Bool} {wd : Nat} (h : TabAt g σ t a q f tk wd) (tk' : Nat → Bool) (wd' : Nat) : TabAt g (hup σ t (.inr (8, [.ref a, .long (mk64 tk'), .int (nI wd')]))) t a q f tk' wd' := ⟨h.1.up _, h.2.1.upo h.ta, h.2.2.1.upo h.tq, h.2.2.2⟩
theorem rd_taken {g : GG} {σ : Hs} {t a q : Nat} {f : Nat → Int32} {tk : Nat → Bool} {wd : Nat} (h : TabAt g σ t a q f tk wd) : RdL g M_X8_taken [.ref t] σ (mk64 tk) := q_X8_taken t (FL.of h.1 rfl (rd_l rfl))
theorem rd_pageWidth {g : GG} {σ : Hs} {t a q : Nat} {f : Nat → Int32} {tk : Nat → Bool} {wd : Nat} (h : TabAt g σ t a q f tk wd) : Rd g M_X8_pageWidth [.ref t] σ (nI wd) := q_X8_pageWidth t (FI.of h.1 rfl (rd_i rfl))
theorem wr_widen {g : GG} {σ : Hs} {t a q : Nat} {f : Nat → Int32} {tk : Nat → Bool} {wd : Nat} (h : TabAt g σ t a q f tk wd) (x : Int32) : Wr g M_X8_widen [.ref t, .int x] σ (hup σ t (.inr (8, [.ref a, .long (mk64 tk), .int x]))) := q_X8_widen t x (PF.of h.1 (by show 2 < 3; decide) rfl wr_v)
theorem nI_4 (k c : Nat) : nI k * 4 + nI c = nI (4 * k + c) := by
  rw [show (4 : Int32) = nI 4 from rfl, pk_mul, nI_add, Nat.mul_comm]
theorem rd_number {g : GG} {σ : Hs} {t a q : Nat} {f : Nat → Int32} {tk : Nat → Bool} {wd : Nat} (h : TabAt g σ t a q f tk wd) {k c : Nat} (hk : k < 64) (hc : c < 4) : Rd g M_X8_number [.ref t, .int (nI k), .int (nI c)] σ (f (4 * k + c)) := by
  refine q_X8_number t _ _ (FR.of h.1 rfl ⟨Rc.of h.2.1, ?_⟩)
  rw [nI_4]
  exact (rd_atn h.2 (by omega)).use (rd_i rfl)
theorem wr_tput {g : GG} {σ : Hs} {t a q : Nat} {f : Nat → Int32} {tk : Nat → Bool} {wd : Nat} (h : TabAt g σ t a q f tk wd) {k c : Nat} (hk : k < 64) (hc : c < 4) (v : Int32) : Wr g M_X8_put [.ref t, .int (nI k), .int (nI c), .int v] σ (hup σ q (aI g 256 (upd f (4 * k + c) v))) := by
  refine q_X8_put t _ _ v (FR.of h.1 rfl ⟨Rc.of h.2.1, ?_⟩)
  rw [nI_4]
  exact (wr_put h.2 (by omega) v).use wr_v
theorem TabAt.put {g : GG} {σ : Hs} {t a q : Nat} {f : Nat → Int32} {tk : Nat → Bool} {wd : Nat} (h : TabAt g σ t a q f tk wd) (f' : Nat → Int32) : TabAt g (hup σ q (aI g 256 f')) t a q f' tk wd := ⟨h.1.upo (Ne.symm h.tq), h.2.put f'⟩
/-- the least slot without a row -/
theorem rd_emptySlot {g : GG} {σ : Hs} {t a q : Nat} {f : Nat → Int32} {tk : Nat → Bool} {wd : Nat} (h : TabAt g σ t a q f tk wd) : Rd g M_X8_emptySlot [.ref t] σ (if fa_first (fun s => !tk s) 64 < 64 then nI (fa_first (fun s => !tk s) 64) else -1) := by
  refine q_X8_emptySlot t ?_
  have key : ∀ (d k : Nat), k + d = 64 → (∀ j, j < k → tk j = true) → J_X8_emptySlot_2 g (kI fun x σ' => σ' = σ ∧ x = (if fa_first (fun s => !tk s) 64 < 64 then nI (fa_first (fun s => !tk s) 64) else -1)) σ t (nI k) := by
    intro d
    induction d with
    | zero =>
      intro k hk hj
      refine q_X8_emptySlot_2 t (nI k) ⟨fun _ => rd_i ?_, fun c => absurd ((n_le (n := 64) (by decide)).mpr (by rw [I_n (by omega)]; omega)) c⟩
      rw [if_neg]
      intro hl
      have h1 := fa_first_yes _ _ hl
      rw [hj _ (by omega)] at h1
      cases h1
    | succ d ih =>
      intro k hk hj
      refine q_X8_emptySlot_2 t (nI k) ⟨fun c => absurd ((n_le (n := 64) (by decide)).mp c) (by rw [I_n (by omega)]; omega), fun _ => FL.of h.1 rfl ((rd_hasSlot tk (by omega)).use ⟨fun c => ?_, fun c => rd_i ?_⟩)⟩
      · rw [nI_1]
        exact ih (k + 1) (by omega) (fun j hj2 => by
          rcases Nat.lt_or_ge j k with h1 | h1
          · exact hj j h1
          · rw [show j = k by omega]; exact b2_n0.mp c)
      · have hf : tk k = false := b2_0.mp c
        have h1 : fa_first (fun s => !tk s) 64 = k := by
          rcases Nat.lt_trichotomy (fa_first (fun s => !tk s) 64) k with h2 | h2 | h2
          · have h3 := fa_first_yes (fun s => !tk s) 64 (by omega)
            simp only [hj _ h2] at h3
            cases h3
          · exact h2
          · have h3 := fa_first_no (fun s => !tk s) 64 k h2
            simp only [hf] at h3
            cases h3
        rw [h1, if_pos (by omega)]
  exact key 64 0 rfl (fun j hj => absurd hj (by omega))
theorem rd_rowsWithin8 {g : GG} {σ : Hs} {t a q : Nat} {f : Nat → Int32} {tk : Nat → Bool} {wd : Nat} (h : TabAt g σ t a q f tk wd) {c : Nat} (hc : c < 4) (lo hi : Int32) : RdL g M_X8_rowsWithin [.ref t, .int (nI c), .int lo, .int hi] σ (mk64 fun s => tk s && (decide (lo ≤ f (4 * s + c)) && decide (f (4 * s + c) ≤ hi))) := by
  refine q_X8_rowsWithin t _ lo hi ?_
  have key : ∀ (d k : Nat), k + d = 64 → J_X8_rowsWithin_6 g (kL fun x σ' => σ' = σ ∧ x = (mk64 fun s => tk s && (decide (lo ≤ f (4 * s + c)) && decide (f (4 * s + c) ≤ hi)))) σ t (nI c) lo hi (mk64 fun s => decide (s < k) && (tk s && (decide (lo ≤ f (4 * s + c)) && decide (f (4 * s + c) ≤ hi)))) (nI k) := by
    intro d
    induction d with
    | zero =>
      intro k hk
      refine q_X8_rowsWithin_6 t _ lo hi _ (nI k) ⟨fun _ => rd_l (mk_cong fun s hs => ?_), fun c => absurd ((n_le (n := 64) (by decide)).mpr (by rw [I_n (by omega)]; omega)) c⟩
      rw [decide_eq_true (by omega), Bool.true_and]
    | succ d ih =>
      intro k hk
      have ih := ih (k + 1) (by omega)
      refine q_X8_rowsWithin_6 t _ lo hi _ (nI k) ⟨fun c => absurd ((n_le (n := 64) (by decide)).mp c) (by rw [I_n (by omega)]; omega), fun _ => FR.of h.1 rfl ⟨Rc.of h.2.1, ?_⟩⟩
      rw [nI_4]
      refine (rd_atn h.2 (by omega)).use (FL.of h.1 rfl ((rd_hasSlot tk (by omega)).use ⟨fun c1 => ?_, fun c1 => ⟨fun c2 => ?_, fun c2 => ⟨fun c3 => ?_, fun c3 => ?_⟩⟩⟩))
      · rw [nI_1]
        have e : (mk64 fun s => decide (s < k) && (tk s && (decide (lo ≤ f (4 * s + c)) && decide (f (4 * s + c) ≤ hi)))) = mk64 fun s => decide (s < k + 1) && (tk s && (decide (lo ≤ f (4 * s + c)) && decide (f (4 * s + c) ≤ hi))) := mk_cong fun s _ => by
          by_cases e1 : s = k
          · subst e1; rw [b2_0.mp c1]; simp
          · rw [show decide (s < k + 1) = decide (s < k) from decide_eq_decide.mpr (by omega)]
        rw [e]; exact ih
      · rw [nI_1]
        have e : (mk64 fun s => decide (s < k) && (tk s && (decide (lo ≤ f (4 * s + c)) && decide (f (4 * s + c) ≤ hi)))) = mk64 fun s => decide (s < k + 1) && (tk s && (decide (lo ≤ f (4 * s + c)) && decide (f (4 * s + c) ≤ hi))) := mk_cong fun s _ => by
          by_cases e1 : s = k
          · subst e1; rw [decide_eq_false (p := lo ≤ f (4 * s + c)) (fa_of_lt c2).2.1]; simp
          · rw [show decide (s < k + 1) = decide (s < k) from decide_eq_decide.mpr (by omega)]
        rw [e]; exact ih
      · rw [nI_1]
        have e : (mk64 fun s => decide (s < k) && (tk s && (decide (lo ≤ f (4 * s + c)) && decide (f (4 * s + c) ≤ hi)))) = mk64 fun s => decide (s < k + 1) && (tk s && (decide (lo ≤ f (4 * s + c)) && decide (f (4 * s + c) ≤ hi))) := mk_cong fun s _ => by
          by_cases e1 : s = k
          · subst e1; rw [decide_eq_false (p := f (4 * s + c) ≤ hi) (fa_of_lt c3).2.1]; simp
          · rw [show decide (s < k + 1) = decide (s < k) from decide_eq_decide.mpr (by omega)]
        rw [e]; exact ih
      · rw [nI_1, mk_set _ (by omega)]
        have e : (mk64 fun s => (decide (s < k) && (tk s && (decide (lo ≤ f (4 * s + c)) && decide (f (4 * s + c) ≤ hi)))) || decide (s = k)) = mk64 fun s => decide (s < k + 1) && (tk s && (decide (lo ≤ f (4 * s + c)) && decide (f (4 * s + c) ≤ hi))) := mk_cong fun s _ => by
          by_cases e1 : s = k
          · subst e1; rw [b2_n0.mp c1, decide_eq_true (fa_of_nlt c2), decide_eq_true (fa_of_nlt c3)]; simp
          · rw [show decide (s < k + 1) = decide (s < k) from decide_eq_decide.mpr (by omega), decide_eq_false e1, Bool.or_false]
        rw [e]; exact ih
  have h0 := key 64 0 rfl
  rw [show (mk64 fun s => decide (s < 0) && (tk s && (decide (lo ≤ f (4 * s + c)) && decide (f (4 * s + c) ≤ hi)))) = 0 from (mk_0.trans (mk_cong fun s _ => by simp)).symm] at h0
  exact h0
