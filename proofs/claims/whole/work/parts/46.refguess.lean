/-! The reference: likely rows, guesses, counts. -/
theorem shN_none {lo hi l r : Int32} (h : lo.toInt ≤ hi.toInt) (h2 : r.toInt < l.toInt) : shN lo hi l r = 0 := by
  unfold shN
  split <;> split <;> omega
theorem likeW_none {P : PD} (hP : PicOk P) {l r : Int32} (h2 : r.toInt < l.toInt) : ∀ k, k ≤ 4 → likeW P l r k = 0
  | 0, _ => rfl
  | k + 1, hk => by
    have ih := likeW_none hP h2 k (by omega)
    have h := hP k (by omega)
    show likeW P l r k + P.2.1 k * shN (P.2.2.1 k) (P.2.2.2 k) l r / spN (P.2.2.1 k) (P.2.2.2 k) = 0
    rw [ih, shN_none (by omega) h2]
    simp
theorem likeW_b {P : PD} (hP : PicOk P) (d : QD) (c : Nat) : likeW P (b_lo d c) (b_hi d c) 4 = likeW P (d.1 c) (d.2.1 c) 4 := by
  unfold b_lo b_hi
  by_cases h : d.2.1 c < d.1 c
  · rw [if_pos h, if_pos h, likeW_none hP (I_lt.mp h) 4 (by omega), likeW_none hP (by decide) 4 (by omega)]
  · rw [if_neg h, if_neg h]
theorem b_small {d : QD} (hq : QSm d) {c : Nat} (hc : c < 4) : small (b_lo d c) ∧ small (b_hi d c) := by
  unfold b_lo b_hi
  by_cases h : d.2.1 c < d.1 c
  · rw [if_pos h, if_pos h]
    exact ⟨⟨by decide, by decide⟩, by decide, by decide⟩
  · rw [if_neg h, if_neg h]
    exact hq c hc
theorem lkN_0 (P : Nat → PD) (d : QD) (m : Nat) : ∀ c, lkN P 0 d m c = 0
  | 0 => rfl
  | c + 1 => by
    rw [lkN_s, lkN_0 P d m c]
    split
    · rw [Nat.div_zero]
    · rfl
theorem run_kmask (d : QD) (key : Nat) : kmaskN key (rcN d key) = runM d key := by
  refine Nat.eq_of_testBit_eq fun c => Bool.ex ?_
  rw [kmaskN_bit]
  unfold runM
  rw [runG_bit, Nat.zero_testBit]
  constructor
  · rintro ⟨j, h1, h2⟩
    exact Or.inr ⟨j, Nat.zero_le _, h1, h2⟩
  · rintro (h | ⟨j, _, h1, h2⟩)
    · cases h
    · exact ⟨j, h1, h2⟩
theorem cnt_kSet (B : Nat → OD) {n : Nat} (hn : n ≤ 8) : fa_cnt (kSet B n).testBit 8 = fa_cnt (fun o => !(B o).2.2) n := by
  have bit : ∀ k j, (kSet B k).testBit j = (decide (j < k) && !(B j).2.2) := by
    intro k
    induction k with
    | zero => intro j; simp [kSet]
    | succ k ih =>
      intro j
      simp only [kSet]
      rcases Bool.eq_false_or_eq_true (B k).2.2 with z | z
      · rw [if_pos z, ih]
        by_cases e : j = k
        · subst e; rw [z]; simp
        · have : decide (j < k + 1) = decide (j < k) := decide_eq_decide.mpr (by omega)
          rw [this]
      · rw [if_neg (by rw [z]; decide), Nat.testBit_or, ih, Nat.testBit_two_pow]
        by_cases e : j = k
        · subst e; rw [z]; simp
        · have : decide (j < k + 1) = decide (j < k) := decide_eq_decide.mpr (by omega)
          rw [this, decide_eq_false (show ¬ k = j by omega), Bool.or_false]
  have ext : ∀ d, fa_cnt (kSet B n).testBit (n + d) = fa_cnt (fun o => !(B o).2.2) n := by
    intro d
    induction d with
    | zero => exact fa_cnt_cong fun k hk => by rw [bit, decide_eq_true (show k < n by omega), Bool.true_and]
    | succ d ih =>
      rw [← Nat.add_assoc, fa_cnt_no (by rw [bit, decide_eq_false (by omega), Bool.false_and]), ih]
  rw [← ext (8 - n), show n + (8 - n) = 8 by omega]
section RQE
variable {g : GG} {σ : Hs} {R : Nat → Nat} {S : SS} {X : Nat → Int32} {A : Nat → Nat → Int32} {hh : Int64}
theorem rr_likelyBy (h : RQ g σ R S X A hh) (v : Iv S) {q m : Nat} (hq : q < zq S) (hm : m < 16) : Rd g M_X12_likelyBy [.ref (R 300), .int (nI q), .int (nI m)] σ (nI (lkN (zP S) (zr S) (zQ S q) m 4)) := by
  have hP := v.1.2.2.1.1
  have h64 := v.1.2.2.1.2
  have hsm := v.1.2.1.1 q hq
  have h8 := v.q8
  have loop : ∀ (e c : Nat), c + e = 4 → J_X12_likelyBy_8 g (kI fun x σ' => σ' = σ ∧ x = nI (lkN (zP S) (zr S) (zQ S q) m 4)) σ (R 300) (nI q) (nI m) (nI (lkN (zP S) (zr S) (zQ S q) m c)) (nI c) := by
    intro e
    induction e with
    | zero =>
      intro c hc
      exact q_X12_likelyBy_8 _ _ _ _ _ ⟨fun _ => rd_i (by rw [show c = 4 by omega]), fun z => absurd (nI_le (a := 4) (by omega) (by omega)) z⟩
    | succ e ih =>
      intro c hc
      have ih := ih (c + 1) (by omega)
      have hlk := lkN_le hP h64 (zQ S q) m c (by omega)
      have hpw : (64 : Nat) ^ (c + 1) ≤ 64 ^ 4 := Nat.pow_le_pow_right (by decide) (by omega)
      have hp4 : (64 : Nat) ^ 4 = 16777216 := by decide
      have no : ((zP S c).1 && m.testBit c && isB (zQ S q) c) = false → J_X12_likelyBy_8 g (kI fun x σ' => σ' = σ ∧ x = nI (lkN (zP S) (zr S) (zQ S q) m 4)) σ (R 300) (nI q) (nI m) (nI (lkN (zP S) (zr S) (zQ S q) m c)) (nI c + 1) := by
        intro z
        rw [nI_1]
        rw [lkN_s _ _ _ _ c, if_f z] at ih
        exact ih
      refine q_X12_likelyBy_8 _ _ _ _ _ ⟨fun z => absurd ((nI_leI (a := 4) (by decide) (by omega)).mp z) (by omega), fun _ => h.1.x 24 (fun _ _ _ => rfl) ?_⟩
      rw [h.pic.1]
      refine ⟨fun z => rd_i ?_, fun z => ?_⟩
      · have z := (nI_leI (b := 0) (by omega) (by decide)).mp z
        have z : zr S = 0 := by omega
        rw [z, lkN_0, lkN_0]
      · have z : 0 < zr S := Nat.lt_of_not_le fun y => z (nI_le (b := 0) y (by decide))
        refine ⟨fun z1 => no ?_, fun z1 => ⟨h.1.rc, (rr_isBound h v hq (show c < 4 by omega)).use ⟨fun z2 => no ?_, fun z2 => h.1.r 22 (fun _ _ _ => rfl) (h.1.a 22 rfl rfl rfl (show c < 4 by omega) ?_)⟩⟩⟩
        · have z1 : m.testBit c = false := by
            rcases Bool.eq_false_or_eq_true (m.testBit c) with y | y
            · exact absurd ((bs_one _ (by omega) _ (by omega)).mpr y) z1
            · exact y
          rw [z1, Bool.and_false, Bool.false_and]
        · rw [b2_0.mp z2, Bool.and_false]
        · have z1 := (bs_one _ (by omega) _ (by omega)).mp z1
          have z2 := b2_n0.mp z2
          rw [(h.pic.2 c (by omega)).1]
          refine ⟨fun z3 => no ?_, fun z3 => ⟨h.1.rc, (rr_leastOf h v hq (show c < 4 by omega)).use ⟨h.1.rc, (rr_mostOf h v hq (show c < 4 by omega)).use ⟨h.1.rc, ?_⟩⟩⟩⟩
          · rw [b2_0.mp z3, Bool.false_and, Bool.false_and]
          · have z3 := b2_n0.mp z3
            have hb := b_small hsm (show c < 4 by omega)
            refine (rr_foretoldOf h v (t := 2) (show c < 4 by omega) z3 (by omega) hb.1 hb.2).use (h.1.x 24 (fun _ _ _ => rfl) ?_)
            rw [show ftW (zP S c) (b_lo (zQ S q) c) (b_hi (zQ S q) c) 2 4 = likeW (zP S c) ((zQ S q).1 c) ((zQ S q).2.1 c) 4 from likeW_b (hP c (by omega)) _ _]
            have hlw := likeW_le (hP c (by omega)) ((zQ S q).1 c) ((zQ S q).2.1 c) 4 (by omega)
            have hmul : lkN (zP S) (zr S) (zQ S q) m c * likeW (zP S c) ((zQ S q).1 c) ((zQ S q).2.1 c) 4 ≤ 16777216 * 64 := Nat.mul_le_mul (by omega) (by omega)
            rw [h.pic.1, pk_mul, pk_div (by omega) (by omega) (by omega), nI_1]
            refine ⟨fun y => absurd ((nI_eq (b := 0) (by omega) (by decide)).mp y) (by omega), ?_⟩
            rw [lkN_s _ _ _ _ c, if_pos (by rw [z1, z2, z3]; rfl)] at ih
            exact ih
  refine q_X12_likelyBy _ _ _ (h.1.x 24 (fun _ _ _ => rfl) ?_)
  rw [h.pic.1]
  exact loop 4 0 rfl
theorem rr_likely (h : RQ g σ R S X A hh) (v : Iv S) (x : Int32) : Rd g M_X12_likely [.ref (R 300), .int x] σ (v_likely S x) := by
  have h8 := v.q8
  unfold v_likely
  refine q_X12_likely _ _ ⟨h.1.rc, (rr_isQuestion h h8 x).use ⟨fun c => rd_i ?_, fun c => ⟨h.1.rc, ?_⟩⟩⟩
  · rw [if_f (b2_0.mp c)]
  · have c := b2_n0.mp c
    obtain ⟨q, hq, rfl⟩ := inR_of c (by omega)
    rw [if_t c, nn_i (by omega)]
    exact (rr_likelyBy h v (m := 15) hq (by decide)).use (rd_i rfl)
theorem lkS_y {P : Nat → PD} {pr : Nat} {d : QD} (c : msrt d = true) : lkS P pr d = lkN P pr d 15 4 := by unfold lkS; rw [if_t c]
theorem lkS_n {P : Nat → PD} {pr : Nat} {d : QD} (c : msrt d = false) : lkS P pr d = 0 := by unfold lkS; rw [if_f c]
theorem rr_guessBy (h : RQ g σ R S X A hh) (v : Iv S) {q o : Nat} (hq : q < zq S) (ho : o < zo S) : Rd g M_X12_guessBy [.ref (R 300), .int (nI q), .int (nI o)] σ (nI (lkO (zt S) (zw S) (zP S) (zr S) (zQ S q) (zB S o))) := by
  have hP := v.1.2.2.1.1
  have h64 := v.1.2.2.1.2
  have h8 := v.o8
  have hk := v.ok ho
  have hk2 : (zB S o).1 < 2 ^ 31 := by have := hk.2.1; omega
  have hw := kw_le (zB S o).1
  have hrn := rcN_le (zQ S q) (zB S o).1
  obtain ⟨e5, -, -, e11, -, -, -⟩ := h.ord.2 o ho
  have hl : (zB S o).2.1.2.2.1 ≤ 64 := by have := (v.os ho).l_le; have := (v.os ho).1; omega
  have h45 : (64 : Nat) ^ 5 = 1073741824 := by decide
  have hrm := rmk_le (zB S o).1
  have loop : ∀ (e i : Nat), i + e = kw (zB S o).1 → J_X12_guessBy_8 g (kI fun x σ' => σ' = σ ∧ x = nI (lkO (zt S) (zw S) (zP S) (zr S) (zQ S q) (zB S o))) σ (R 300) (nI q) (nI o) (nI (kmaskN (zB S o).1 (min i (rcN (zQ S q) (zB S o).1)))) (nI (kmaskN (zB S o).1 i)) (nI i) := by
    intro e
    induction e with
    | zero =>
      intro i hi
      have hl1 := lkN_lt hP h64 (zQ S q) (runM (zQ S q) (zB S o).1) (c := 4) (by omega)
      have hl2 := lkN_lt hP h64 (zQ S q) (kmask (zB S o).1) (c := 4) (by omega)
      have hpg := pgc_le (zw S) (zt S) 64
      refine q_X12_guessBy_8 _ _ _ _ _ _ (h.1.r 5 (fun _ _ _ => rfl) (h.1.a 5 rfl rfl rfl (show o < 8 by omega) ?_))
      rw [e5]
      refine (rr_keySize hk2).use ⟨fun _ => h.1.r 5 (fun _ _ _ => rfl) (h.1.a 5 rfl rfl rfl (show o < 8 by omega) ?_), fun c => absurd (nI_le (by omega) (by omega)) c⟩
      rw [e5]
      refine (rr_roomOf hk2).use ⟨h.1.rc, ?_⟩
      rw [show min i (rcN (zQ S q) (zB S o).1) = rcN (zQ S q) (zB S o).1 by omega, run_kmask, show i = kw (zB S o).1 by omega]
      refine (rr_likelyBy h v hq (runM_lt _ _)).use ⟨fun z => absurd ((nI_eq (b := 0) (by omega) (by decide)).mp z) (by omega), h.1.rc, (rr_likelyBy h v hq (kmaskN_lt _ _)).use ⟨h.1.rc, (rr_isCovered h v hq ho).use ?_⟩⟩
      rw [show kmaskN (zB S o).1 (kw (zB S o).1) = kmask (zB S o).1 from rfl] at *
      have lv : ∀ (φ : Int32 → Prop), φ (nI (if 1 < (lkN (zP S) (zr S) (zQ S q) (runM (zQ S q) (zB S o).1) 4 + rmk (zB S o).1 - 1) / rmk (zB S o).1 then (lkN (zP S) (zr S) (zQ S q) (runM (zQ S q) (zB S o).1) 4 + rmk (zB S o).1 - 1) / rmk (zB S o).1 else 1)) → (1 ≤ (((nI (lkN (zP S) (zr S) (zQ S q) (runM (zQ S q) (zB S o).1) 4) + nI (rmk (zB S o).1)) - 1) / nI (rmk (zB S o).1)) → φ ((((nI (lkN (zP S) (zr S) (zQ S q) (runM (zQ S q) (zB S o).1) 4) + nI (rmk (zB S o).1)) - 1) / nI (rmk (zB S o).1)))) ∧ (¬ 1 ≤ (((nI (lkN (zP S) (zr S) (zQ S q) (runM (zQ S q) (zB S o).1) 4) + nI (rmk (zB S o).1)) - 1) / nI (rmk (zB S o).1)) → φ 1) := by
        intro φ hφ
        rw [nI_add, nI_s1 (by omega), pk_div (by omega) (by omega) (by omega)]
        generalize hL : (lkN (zP S) (zr S) (zQ S q) (runM (zQ S q) (zB S o).1) 4 + rmk (zB S o).1 - 1) / rmk (zB S o).1 = L at *
        have hLlt : L < 2 ^ 31 := by rw [← hL]; exact Nat.lt_of_le_of_lt (Nat.div_le_self _ _) (by omega)
        refine ⟨fun c => ?_, fun c => ?_⟩
        · have c := (nI_leI (a := 1) (by decide) hLlt).mp c
          by_cases z : 1 < L
          · rw [if_pos z] at hφ; exact hφ
          · rw [if_neg z] at hφ; rw [show L = 1 by omega]; exact hφ
        · have c : ¬ 1 ≤ L := fun z => c (nI_le (a := 1) z hLlt)
          rw [if_neg (by omega)] at hφ
          exact hφ
      have j163 : ∀ pg L, pg = (if covO (zQ S q) (zB S o).1 then 0 else if lkN (zP S) (zr S) (zQ S q) (kmask (zB S o).1) 4 < pgc (zw S) (zt S) 64 then lkN (zP S) (zr S) (zQ S q) (kmask (zB S o).1) 4 else pgc (zw S) (zt S) 64) → L = (if 1 < (lkN (zP S) (zr S) (zQ S q) (runM (zQ S q) (zB S o).1) 4 + rmk (zB S o).1 - 1) / rmk (zB S o).1 then (lkN (zP S) (zr S) (zQ S q) (runM (zQ S q) (zB S o).1) 4 + rmk (zB S o).1 - 1) / rmk (zB S o).1 else 1) → J_X12_guessBy_163 g (kI fun x σ' => σ' = σ ∧ x = nI (lkO (zt S) (zw S) (zP S) (zr S) (zQ S q) (zB S o))) σ (R 300) (nI q) (nI o) (nI pg) (nI L) (nI (hgt (zB S o).2.1.2.2.1)) := by
        intro pg L hpg2 hL
        refine q_X12_guessBy_163 _ _ _ _ _ _ ⟨h.1.rc, (rr_isSortedBy h v hq ho).use ⟨fun c => ⟨h.1.rc, (rr_likelyBy h v (m := 15) hq (by decide)).use (rd_i ?_)⟩, fun c => rd_i ?_⟩⟩
        · have c := b2_0.mp c
          rw [Bool.or_eq_false_iff] at c
          have c1 : msrt (zQ S q) = true := by have := c.1; cases hm : msrt (zQ S q) <;> simp_all
          unfold lkO
          rw [← hpg2, ← hL, if_f c.2, lkS_y c1, nI_add, nI_add, nI_add]
        · have c := b2_n0.mp c
          rw [Bool.or_eq_true] at c
          unfold lkO
          rw [← hpg2, ← hL, nI_add, nI_add, nI_p0]
          rcases c with c | c
          · have c1 : msrt (zQ S q) = false := by cases hm : msrt (zQ S q) <;> simp_all
            rw [lkS_n c1]
            simp
          · rw [if_t c]; rfl
      refine ⟨fun c => ⟨h.1.rc, (rr_fullPages h v).use ⟨fun c2 => ⟨h.1.rc, (rr_fullPages h v).use ⟨h.1.rc, (rr_heightOf h.1 (by omega) e11 hl).use (lv (fun z => J_X12_guessBy_163 g _ σ (R 300) (nI q) (nI o) _ z _) (j163 _ _ ?_ rfl))⟩⟩, fun c2 => ⟨h.1.rc, (rr_heightOf h.1 (by omega) e11 hl).use (lv (fun z => J_X12_guessBy_163 g _ σ (R 300) (nI q) (nI o) _ z _) (j163 _ _ ?_ rfl))⟩⟩⟩, fun c => ⟨h.1.rc, (rr_heightOf h.1 (by omega) e11 hl).use (lv (fun z => J_X12_guessBy_163 g _ σ (R 300) (nI q) (nI o) _ z _) (j163 0 _ ?_ rfl))⟩⟩
      · have c2 := (nI_leI (by omega) (by omega)).mp c2
        rw [if_f (b2_0.mp c), if_neg (by omega)]
      · have c2 : lkN (zP S) (zr S) (zQ S q) (kmask (zB S o).1) 4 < pgc (zw S) (zt S) 64 := Nat.lt_of_not_le fun y => c2 (nI_le y (by omega))
        rw [if_f (b2_0.mp c), if_pos c2]
      · rw [if_t (b2_n0.mp c)]
    | succ e ih =>
      intro i hi
      have ih := ih (i + 1) (by omega)
      have hc := kcol_lt (zB S o).1 i
      have hm1 := kmaskN_lt (zB S o).1 i
      have hm2 := kmaskN_lt (zB S o).1 (min i (rcN (zQ S q) (zB S o).1))
      have j51 : ∀ x : Int32, nI (kmaskN (zB S o).1 (min i (rcN (zQ S q) (zB S o).1))) ||| x = nI (kmaskN (zB S o).1 (min (i + 1) (rcN (zQ S q) (zB S o).1))) → J_X12_guessBy_51 g (kI fun x σ' => σ' = σ ∧ x = nI (lkO (zt S) (zw S) (zP S) (zr S) (zQ S q) (zB S o))) σ (R 300) (nI q) (nI o) (nI (kmaskN (zB S o).1 i)) (nI i) x (nI (kmaskN (zB S o).1 (min i (rcN (zQ S q) (zB S o).1)))) := by
        intro x hx
        refine q_X12_guessBy_51 _ _ _ _ _ _ _ (h.1.r 5 (fun _ _ _ => rfl) (h.1.a 5 rfl rfl rfl (show o < 8 by omega) ?_))
        rw [e5]
        refine (rr_col hk (by omega)).use ?_
        rw [hx, bs_with _ (by omega) _ (by omega), nI_1]
        exact ih
      refine q_X12_guessBy_8 _ _ _ _ _ _ (h.1.r 5 (fun _ _ _ => rfl) (h.1.a 5 rfl rfl rfl (show o < 8 by omega) ?_))
      rw [e5]
      refine (rr_keySize hk2).use ⟨fun c => absurd ((nI_leI (by omega) (by omega)).mp c) (by omega), fun _ => ⟨h.1.rc, (rr_runColumns h v hq ho).use ⟨fun c => j51 0 ?_, fun c => h.1.r 5 (fun _ _ _ => rfl) (h.1.a 5 rfl rfl rfl (show o < 8 by omega) ?_)⟩⟩⟩
      · have c := (nI_leI (by omega) (by omega)).mp c
        have := fa_or (kmaskN (zB S o).1 (min i (rcN (zQ S q) (zB S o).1))) 0
        rw [Nat.or_zero] at this
        rw [show min (i + 1) (rcN (zQ S q) (zB S o).1) = min i (rcN (zQ S q) (zB S o).1) by omega]
        exact this
      · have c : i < rcN (zQ S q) (zB S o).1 := Nat.lt_of_not_le fun z => c (nI_le z (by omega))
        rw [e5]
        refine (rr_col hk (by omega)).use (j51 _ ?_)
        rw [bs_with _ (by omega) _ (by omega), show min i (rcN (zQ S q) (zB S o).1) = i by omega, show min (i + 1) (rcN (zQ S q) (zB S o).1) = i + 1 by omega]
        rfl
  have h0 := loop (kw (zB S o).1) 0 (by omega)
  rw [show min 0 (rcN (zQ S q) (zB S o).1) = 0 by omega] at h0
  exact q_X12_guessBy _ _ _ h0
/-- what a way is foretold to cost -/
def guT (S : SS) (q way : Nat) : Nat := if way = 0 then lkT (zt S) (zw S) (zP S) (zr S) (zQ S q) else lkO (zt S) (zw S) (zP S) (zr S) (zQ S q) (zB S (way - 1))
theorem rr_guessOf (h : RQ g σ R S X A hh) (v : Iv S) {q way : Nat} (hq : q < zq S) (hw : way ≤ zo S) : Rd g M_X12_guessOf [.ref (R 300), .int (nI q), .int (nI way)] σ (nI (guT S q way)) := by
  have h8 := v.o8
  refine q_X12_guessOf _ _ _ ⟨fun c => ?_, fun c => ⟨h.1.rc, (rr_fullPages h v).use ⟨h.1.rc, (rr_isSorted h v hq).use ⟨fun c2 => ⟨h.1.rc, (rr_likelyBy h v (m := 15) hq (by decide)).use (rd_i ?_)⟩, fun c2 => rd_i ?_⟩⟩⟩⟩
  · have c : way ≠ 0 := fun z => c (by rw [z]; rfl)
    rw [nI_s1 (by omega)]
    refine ⟨h.1.rc, (rr_guessBy h v hq (show way - 1 < zo S by omega)).use (rd_i ?_)⟩
    unfold guT
    rw [if_neg c]
  · have c := (nI_eq (b := 0) (by omega) (by decide)).mp c
    unfold guT lkT
    rw [if_pos c, lkS_y (nt_t c2), nI_add]
  · have c := (nI_eq (b := 0) (by omega) (by decide)).mp c
    unfold guT lkT
    rw [if_pos c, lkS_n (nt_f c2), nI_p0]
    rfl
theorem rr_guess (h : RQ g σ R S X A hh) (v : Iv S) (x y : Int32) : Rd g M_X12_guess [.ref (R 300), .int x, .int y] σ (v_guess S x y) := by
  have h8 := v.q8
  have h8o := v.o8
  unfold v_guess
  refine q_X12_guess _ _ _ ⟨h.1.rc, (rr_isQuestion h h8 x).use ⟨fun c => rd_i ?_, fun c => ⟨fun c2 => ⟨h.1.rc, ?_⟩, fun c2 => ⟨h.1.rc, (rr_isOrder h h8o (y - 1)).use ⟨fun c3 => ⟨h.1.rc, ?_⟩, fun c3 => rd_i ?_⟩⟩⟩⟩⟩
  · rw [if_f (b2_0.mp c)]
  · have c := b2_n0.mp c
    obtain ⟨q, hq, rfl⟩ := inR_of c (by omega)
    subst c2
    rw [if_t c, nn_i (by omega), if_pos rfl]
    exact (rr_guessOf h v (way := 0) hq (Nat.zero_le _)).use (rd_i rfl)
  · have c := b2_n0.mp c
    have c3 := b2_n0.mp c3
    obtain ⟨q, hq, rfl⟩ := inR_of c (by omega)
    rw [if_t c, if_neg c2, if_t c3, nn_i (by omega)]
    obtain ⟨o, ho, h8', hd, e⟩ := isO_of h8o c3
    have e2 : y = nI (o + 1) := by rw [← nI_1, ← e]; exact (Int32.sub_add_cancel y 1).symm
    rw [e, e2, nn_i (by omega)]
    exact (rr_guessOf h v (way := o + 1) hq (by omega)).use (rd_i rfl)
  · rw [if_t (b2_n0.mp c), if_neg c2, if_f (b2_0.mp c3)]
theorem guT_lt (v : Iv S) (q way : Nat) : guT S q way < 2 ^ 31 := by
  unfold guT
  split
  · exact lkT_le v.1.2.2.1.1 v.1.2.2.1.2
  · exact lkO_lt v.1.2.2.1.1 v.1.2.2.1.2 _
theorem rr_chosenOf (h : RQ g σ R S X A hh) (v : Iv S) {q : Nat} (hq : q < zq S) : Rd g M_X12_chosenOf [.ref (R 300), .int (nI q)] σ (nI (s_ch S q)) := by
  have h8 := v.o8
  have ext : ∀ d, (chW (zt S) (zw S) (zo S) (zB S) (zP S) (zr S) (zQ S q) (zo S + d)).1 = (chW (zt S) (zw S) (zo S) (zB S) (zP S) (zr S) (zQ S q) (zo S)).1 ∧ (chW (zt S) (zw S) (zo S) (zB S) (zP S) (zr S) (zQ S q) (zo S + d)).2 = (chW (zt S) (zw S) (zo S) (zB S) (zP S) (zr S) (zQ S q) (zo S)).2 := by
    intro d
    induction d with
    | zero => exact ⟨rfl, rfl⟩
    | succ d ih =>
      rw [← Nat.add_assoc, chW_s, if_neg (fun z => by have := (kept_lt z.1).1; omega)]
      exact ih
  have e8 : s_ch S q = (chW (zt S) (zw S) (zo S) (zB S) (zP S) (zr S) (zQ S q) (zo S)).1 := by
    have := (ext (8 - zo S)).1
    rw [show zo S + (8 - zo S) = 8 by omega] at this
    exact this
  rw [e8]
  have inv : ∀ o, o ≤ zo S → (chW (zt S) (zw S) (zo S) (zB S) (zP S) (zr S) (zQ S q) o).1 ≤ o ∧ guT S q (chW (zt S) (zw S) (zo S) (zB S) (zP S) (zr S) (zQ S q) o).1 = (chW (zt S) (zw S) (zo S) (zB S) (zP S) (zr S) (zQ S q) o).2 := by
    intro o
    induction o with
    | zero => intro _; exact ⟨Nat.le_refl _, rfl⟩
    | succ o ih =>
      intro ho
      have ih := ih (by omega)
      rw [chW_s]
      split
      · refine ⟨by show 1 + o ≤ o + 1; omega, ?_⟩
        unfold guT
        rw [if_neg (by show ¬ 1 + o = 0; omega), show (1 + o, lkO (zt S) (zw S) (zP S) (zr S) (zQ S q) (zB S o)).1 - 1 = o from by show 1 + o - 1 = o; omega]
      · exact ⟨by omega, ih.2⟩
  have loop : ∀ (d o : Nat), o + d = zo S → J_X12_chosenOf_4 g (kI fun x σ' => σ' = σ ∧ x = nI (chW (zt S) (zw S) (zo S) (zB S) (zP S) (zr S) (zQ S q) (zo S)).1) σ (R 300) (nI q) (nI (chW (zt S) (zw S) (zo S) (zB S) (zP S) (zr S) (zQ S q) o).1) (nI o) := by
    intro d
    induction d with
    | zero =>
      intro o ho
      refine q_X12_chosenOf_4 _ _ _ _ (h.1.x 4 (fun _ _ _ => rfl) ?_)
      rw [h.ord.1]
      exact ⟨fun _ => rd_i (by rw [show o = zo S by omega]), fun c => absurd (nI_le (by omega) (by omega)) c⟩
    | succ d ih =>
      intro o ho
      have ih := ih (o + 1) (by omega)
      obtain ⟨i1, i2⟩ := inv o (by omega)
      have key : ∀ b, b = (chW (zt S) (zw S) (zo S) (zB S) (zP S) (zr S) (zQ S q) (o + 1)).1 → J_X12_chosenOf_4 g (kI fun x σ' => σ' = σ ∧ x = nI (chW (zt S) (zw S) (zo S) (zB S) (zP S) (zr S) (zQ S q) (zo S)).1) σ (R 300) (nI q) (nI b) (nI o + 1) := by
        intro b hb
        rw [nI_1, hb]
        exact ih
      have hkp : keptB (zo S) (zB S) o = !(zB S o).2.2 := by unfold keptB; rw [decide_eq_true (by omega)]; rfl
      refine q_X12_chosenOf_4 _ _ _ _ (h.1.x 4 (fun _ _ _ => rfl) ?_)
      rw [h.ord.1]
      refine ⟨fun c => absurd ((nI_leI (by omega) (by omega)).mp c) (by omega), fun _ => h.1.r 6 (fun _ _ _ => rfl) (h.1.a 6 rfl rfl rfl (show o < 8 by omega) ?_)⟩
      rw [(h.ord.2 o (by omega)).2.1]
      refine ⟨fun c => key _ ?_, fun c => ⟨h.1.rc, ?_⟩⟩
      · rw [chW_s, if_neg (fun z => by have := (kept_lt z.1).2; rw [b2_n0.mp c] at this; cases this)]
      · have e1 : guT S q (o + 1) = lkO (zt S) (zw S) (zP S) (zr S) (zQ S q) (zB S o) := by unfold guT; rw [if_neg (by omega)]; rfl
        rw [show (1 : Int32) + nI o = nI (o + 1) from by rw [Int32.add_comm]; exact nI_1 o]
        refine (rr_guessOf h v hq (show o + 1 ≤ zo S by omega)).use ⟨h.1.rc, (rr_guessOf h v hq (show (chW (zt S) (zw S) (zo S) (zB S) (zP S) (zr S) (zQ S q) o).1 ≤ zo S by omega)).use ⟨fun c2 => key _ ?_, fun c2 => ?_⟩⟩
        · have c2 := (nI_leI (guT_lt v _ _) (guT_lt v _ _)).mp c2
          rw [i2, e1] at c2
          rw [chW_s, if_neg (fun z => by omega)]
        · have c2 : guT S q (o + 1) < guT S q (chW (zt S) (zw S) (zo S) (zB S) (zP S) (zr S) (zQ S q) o).1 := Nat.lt_of_not_le fun y => c2 (nI_le y (guT_lt v _ _))
          rw [i2, e1] at c2
          refine key (o + 1) ?_
          rw [chW_s, if_pos ⟨by rw [hkp, b2_0.mp c]; rfl, c2⟩]
          show o + 1 = 1 + o
          omega
  exact q_X12_chosenOf _ _ (loop (zo S) 0 (by omega))
theorem rr_chosen (h : RQ g σ R S X A hh) (v : Iv S) (x : Int32) : Rd g M_X12_chosen [.ref (R 300), .int x] σ (v_chosen S x) := by
  have h8 := v.q8
  unfold v_chosen
  refine q_X12_chosen _ _ ⟨h.1.rc, (rr_isQuestion h h8 x).use ⟨fun c => rd_i ?_, fun c => ⟨h.1.rc, ?_⟩⟩⟩
  · rw [if_f (b2_0.mp c)]
  · have c := b2_n0.mp c
    obtain ⟨q, hq, rfl⟩ := inR_of c (by omega)
    rw [if_t c, nn_i (by omega)]
    exact (rr_chosenOf h v hq).use (rd_i rfl)
theorem rr_kept (h : RQ g σ R S X A hh) (v : Iv S) : Rd g M_X12_kept [.ref (R 300)] σ (nI (fa_cnt (kSet (zB S) (zo S)).testBit 8)) := by
  have h8 := v.o8
  rw [cnt_kSet _ h8]
  have loop : ∀ (d o : Nat), o + d = zo S → J_X12_kept_4 g (kI fun x σ' => σ' = σ ∧ x = nI (fa_cnt (fun o => !(zB S o).2.2) (zo S))) σ (R 300) (nI (fa_cnt (fun o => !(zB S o).2.2) o)) (nI o) := by
    intro d
    induction d with
    | zero =>
      intro o ho
      refine q_X12_kept_4 _ _ _ (h.1.x 4 (fun _ _ _ => rfl) ?_)
      rw [h.ord.1]
      exact ⟨fun _ => rd_i (by rw [show o = zo S by omega]), fun c => absurd (nI_le (by omega) (by omega)) c⟩
    | succ d ih =>
      intro o ho
      have ih := ih (o + 1) (by omega)
      refine q_X12_kept_4 _ _ _ (h.1.x 4 (fun _ _ _ => rfl) ?_)
      rw [h.ord.1]
      refine ⟨fun c => absurd ((nI_leI (by omega) (by omega)).mp c) (by omega), fun _ => h.1.r 6 (fun _ _ _ => rfl) (h.1.a 6 rfl rfl rfl (show o < 8 by omega) ?_)⟩
      rw [(h.ord.2 o (by omega)).2.1]
      refine ⟨fun c => ?_, fun c => ?_⟩
      · rw [fa_cnt_yes (p := fun o => !(zB S o).2.2) (n := o) (by show (!(zB S o).2.2) = true; rw [b2_0.mp c]; rfl)] at ih
        rw [nI_1, nI_1]
        exact ih
      · rw [fa_cnt_no (p := fun o => !(zB S o).2.2) (n := o) (by show (!(zB S o).2.2) = false; rw [b2_n0.mp c]; rfl)] at ih
        rw [nI_p0, nI_1]
        exact ih
  exact q_X12_kept _ (loop (zo S) 0 (by omega))
theorem rr_countOf (h : RQ g σ R S X A hh) (v : Iv S) (x : Int32) : Rd g M_X12_countOf [.ref (R 300), .int x] σ (v_count S x) := by
  obtain ⟨n1, n2, n3⟩ := h.num
  unfold v_count
  refine q_X12_countOf _ _ ⟨fun c => ?_, fun c => ?_, fun c => ?_, fun c => ?_, fun c => ?_, fun c => ?_, fun c => ?_, fun c => ?_, fun c => ?_, fun c0 c1 c2 c3 c4 c5 c6 c7 c8 => rd_i ?_⟩
  · subst c
    exact h.1.x 2 (fun _ _ _ => rfl) (rd_i h.tab.1)
  · subst c
    exact ⟨h.1.rc, (rr_fullPages h v).use (rd_i rfl)⟩
  · subst c
    exact ⟨h.1.rc, (rr_kept h v).use (rd_i rfl)⟩
  · subst c
    exact h.1.x 4 (fun _ _ _ => rfl) (rd_i h.ord.1)
  · subst c
    exact h.1.x 14 (fun _ _ _ => rfl) (rd_i h.que.1)
  · subst c
    exact h.1.x 25 (fun _ _ _ => rfl) (rd_i h.mar.1)
  · subst c
    exact h.1.x 12 (fun _ _ _ => rfl) (rd_i h.pag.1)
  · subst c
    exact h.1.x 20 (fun _ _ _ => rfl) (rd_i n2)
  · subst c
    exact h.1.x 21 (fun _ _ _ => rfl) (rd_i n3)
  · rw [if_neg c0, if_neg c1, if_neg c2, if_neg c3, if_neg c4, if_neg c5, if_neg c6, if_neg c7, if_neg c8]
theorem rr_count (h : RQ g σ R S X A hh) (v : Iv S) (x : Int32) : Rd g M_X12_count [.ref (R 300), .int x] σ (v_count S x) := q_X12_count _ _ ⟨h.1.rc, (rr_countOf h v x).use (rd_i rfl)⟩
end RQE
