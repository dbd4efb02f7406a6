/-! The reference: the best set, step by step. -/
theorem kSet_bit (B : Nat → OD) : ∀ k j, (kSet B k).testBit j = (decide (j < k) && !(B j).2.2) := by
  intro k
  induction k with
  | zero => intro j; simp [kSet]
  | succ k ih =>
    intro j
    simp only [kSet]
    rcases Bool.eq_false_or_eq_true (B k).2.2 with z | z
    · rw [if_pos z, ih]
      by_cases e : j = k
      · subst e; rw [z]; simp
      · have : decide (j < k + 1) = decide (j < k) := decide_eq_decide.mpr (by omega)
        rw [this]
    · rw [if_neg (by rw [z]; decide), Nat.testBit_or, ih, Nat.testBit_two_pow]
      by_cases e : j = k
      · subst e; rw [z]; simp
      · have : decide (j < k + 1) = decide (j < k) := decide_eq_decide.mpr (by omega)
        rw [this, decide_eq_false (show ¬ k = j by omega), Bool.or_false]
/-- only orders that are not dropped lie in m -/
def kpN (S : SS) (m : Nat) : Nat → Bool
  | 0 => true
  | k + 1 => kpN S m k && (!m.testBit k || !(zB S k).2.2)
theorem kpN_iff (S : SS) (m : Nat) : ∀ k, kpN S m k = true ↔ ∀ o, o < k → m.testBit o = true → (zB S o).2.2 = false
  | 0 => ⟨fun _ o ho => absurd ho (Nat.not_lt_zero _), fun _ => rfl⟩
  | k + 1 => by
    have ih := kpN_iff S m k
    show (kpN S m k && (!m.testBit k || !(zB S k).2.2)) = true ↔ _
    rw [Bool.and_eq_true, ih]
    constructor
    · rintro ⟨a, b⟩ o ho hb
      by_cases e : o = k
      · subst e
        rw [hb] at b
        simpa using b
      · exact a o (by omega) hb
    · intro h
      refine ⟨fun o ho hb => h o (by omega) hb, ?_⟩
      cases hb : m.testBit k
      · rfl
      · rw [h k (by omega) hb]; rfl
theorem bs_sh0 : ∀ o, o < 9 → ∀ m, m < 256 → (m < 2 ^ o → nI m >>> (nI o &&& 31) = 0) := by decide +kernel
theorem bs_pow : ∀ o, o < 9 → (1 : Int32) <<< (nI o &&& 31) = nI (2 ^ o) := by decide +kernel
theorem cnt_or : ∀ m, m < 256 → ∀ o, o < 8 → (m.testBit o = false → fa_cnt (m ||| 2 ^ o).testBit 8 = fa_cnt m.testBit 8 + 1) := by decide +kernel
theorem keptM {S : SS} {m : Nat} (h8 : zo S ≤ 8) (hm : m < 2 ^ zo S) : m &&& kSet (zB S) (zo S) = m ↔ kpN S m (zo S) = true := by
  have h256 := pow_le8 h8
  rw [and_eq_iff (by omega), kpN_iff]
  constructor
  · intro h o ho hb
    have := h o (by omega) hb
    rw [kSet_bit, Bool.and_eq_true] at this
    simpa using this.2
  · intro h i hi hb
    have hi2 : i < zo S := by
      rcases Nat.lt_or_ge i (zo S) with z | z
      · exact z
      · rw [Nat.testBit_lt_two_pow (Nat.lt_of_lt_of_le hm (Nat.pow_le_pow_right (n := 2) (by decide) z))] at hb
        cases hb
    rw [kSet_bit, decide_eq_true hi2, h i hi2 hb]
    rfl
theorem bstS_ge (wr sz : Nat → Nat) (kept sp n : Nat) (h : kept < n) : ∀ j, bstS wr sz kept sp (n + j) = bstS wr sz kept sp n
  | 0 => rfl
  | j + 1 => by
    have ih := bstS_ge wr sz kept sp n h j
    rw [← ih]
    show (if ((n + j) &&& kept = n + j ∧ sz (n + j) ≤ sp) ∧ bet wr sz (n + j) (bstS wr sz kept sp (n + j)) = true then n + j else bstS wr sz kept sp (n + j)) = _
    rw [if_neg]
    rintro ⟨⟨a, -⟩, -⟩
    have : (n + j) &&& kept ≤ kept := Nat.and_le_right
    omega
theorem bstS_kept (wr sz : Nat → Nat) (kept sp : Nat) : ∀ k, bstS wr sz kept sp k &&& kept = bstS wr sz kept sp k
  | 0 => Nat.zero_and _
  | k + 1 => by
    have ih := bstS_kept wr sz kept sp k
    simp only [bstS]
    split
    · rename_i c
      exact c.1.1
    · exact ih
theorem nxS_ge (wr sz : Nat → Nat) (kp : Nat → Bool) (sp m n : Nat) (h : ∀ o, n ≤ o → kp o = false) : ∀ j, nxS wr sz kp sp m (n + j) = nxS wr sz kp sp m n
  | 0 => rfl
  | j + 1 => by
    have ih := nxS_ge wr sz kp sp m n h j
    rw [← ih]
    show (if (m.testBit (n + j) = false ∧ kp (n + j) = true ∧ sz (m ||| 2 ^ (n + j)) ≤ sp) ∧ wr (m ||| 2 ^ (n + j)) < (nxS wr sz kp sp m (n + j)).2 then (n + j, wr (m ||| 2 ^ (n + j))) else nxS wr sz kp sp m (n + j)) = _
    rw [if_neg (fun z => by rw [h (n + j) (by omega)] at z; cases z.1.2.1)]
/-- an order that comes next is not there yet, and is kept -/
theorem nxS_is (wr sz : Nat → Nat) (kp : Nat → Bool) (sp m : Nat) : ∀ o, (nxS wr sz kp sp m o).1 < 8 → m.testBit (nxS wr sz kp sp m o).1 = false ∧ kp (nxS wr sz kp sp m o).1 = true ∧ (nxS wr sz kp sp m o).2 = wr (m ||| 2 ^ (nxS wr sz kp sp m o).1)
  | 0, h => absurd h (by show ¬ 8 < 8; omega)
  | o + 1, h => by
    have ih := nxS_is wr sz kp sp m o
    simp only [nxS] at h ⊢
    by_cases c : (m.testBit o = false ∧ kp o = true ∧ sz (m ||| 2 ^ o) ≤ sp) ∧ wr (m ||| 2 ^ o) < (nxS wr sz kp sp m o).2
    · rw [if_pos c]
      exact ⟨c.1.1, c.1.2.1, rfl⟩
    · rw [if_neg c] at h ⊢
      exact ih h
theorem RS.nums {S : SS} {X X' : Nat → Int32} {A : Nat → Nat → Int32} {ch sp : Nat} (r : RS S X A) (hX : ∀ i, i ≠ 20 → i ≠ 21 → X' i = X i) (h20 : X' 20 = nI ch) (h21 : X' 21 = nI sp) : RS (zch S ch sp) X' A := by
  obtain ⟨r1, r2, r3, r4, r5, r6, r7⟩ := r
  refine ⟨?_, ?_, ?_, ?_, ⟨(hX 19 (by decide) (by decide)).trans r5.1, h20, h21⟩, ?_, ?_⟩
  · rw [hX 2 (by decide) (by decide), hX 3 (by decide) (by decide)]; exact r1
  · rw [hX 4 (by decide) (by decide)]; exact r2
  · rw [hX 12 (by decide) (by decide)]; exact r3
  · rw [hX 14 (by decide) (by decide)]; exact r4
  · rw [hX 24 (by decide) (by decide)]; exact r6
  · rw [hX 25 (by decide) (by decide)]; exact r7
theorem Iv.zch {S : SS} (v : Iv S) {ch sp : Nat} (h1 : ch ≤ 20) (h2 : sp ≤ 20) : Iv (zch S ch sp) := ⟨⟨v.1.1, v.1.2.1, v.1.2.2.1, v.1.2.2.2.1, v.1.2.2.2.2.1, h1, h2⟩, v.2⟩
section RCH
variable {g : GG} {σ : Hs} {R : Nat → Nat} {S : SS} {X : Nat → Int32} {A : Nat → Nat → Int32} {hh : Int64}
theorem Iv.wrk (v : Iv S) (m : Nat) : s_wrk S m < 2 ^ 31 := wrk_lt (fun o ho => v.os ho) v.o8 v.2.2.2 m v.q8 (fun j hj => (v.2.2.1 j hj).2.2)
theorem Iv.szs (v : Iv S) (m : Nat) : s_szs S m ≤ 4800 := by
  have h8 := v.o8
  have h1 : sumO (fun w => szO w.2.2.1) (zB S) m (zo S) ≤ 600 * zo S := sumO_le (zo S) fun o ho => szO_le (by have := (v.os ho).l_le; have := (v.os ho).1; omega)
  show sumO (fun w => szO w.2.2.1) (zB S) m (zo S) ≤ 4800
  omega
theorem rr_spaceOf (h : RQ g σ R S X A hh) (v : Iv S) {m : Nat} (hm : m < 256) (hk : kpN S m (zo S) = true) : Rd g M_X12_spaceOf [.ref (R 300), .int (nI m)] σ (nI (s_szs S m)) := by
  have h8 := v.o8
  have hk := (kpN_iff S m (zo S)).mp hk
  have loop : ∀ (e k : Nat), k + e = zo S → J_X12_spaceOf_4 g (kI fun x σ' => σ' = σ ∧ x = nI (s_szs S m)) σ (R 300) (nI m) (nI (sumO (fun w => szO w.2.2.1) (zB S) m k)) (nI k) := by
    intro e
    induction e with
    | zero =>
      intro k hk2
      have hk2 : k = zo S := hk2
      subst hk2
      refine q_X12_spaceOf_4 _ _ _ _ (h.1.x 4 (fun _ _ _ => rfl) ?_)
      rw [h.ord.1]
      exact ⟨fun _ => rd_i rfl, fun c => absurd (nI_le (Nat.le_refl _) (by omega)) c⟩
    | succ e ih =>
      intro k hk2
      have hk3 : k < zo S := by omega
      have ih := ih (k + 1) (by omega)
      simp only [sumO] at ih
      obtain ⟨-, -, -, e11, -⟩ := h.ord.2 k hk3
      have hl : (zB S k).2.1.2.2.1 ≤ 64 := by have := (v.os hk3).l_le; have := (v.os hk3).1; omega
      refine q_X12_spaceOf_4 _ _ _ _ (h.1.x 4 (fun _ _ _ => rfl) ?_)
      rw [h.ord.1]
      refine ⟨fun c => absurd ((nI_leI (by omega) (by omega)).mp c) (by omega), fun _ => ⟨fun c => ?_, fun c => ⟨h.1.rc, (rr_sizeOf h.1 (by omega) e11 hl).use ?_⟩⟩⟩
      · rw [if_neg (fun y => c ((bs_one m hm k (by omega)).mpr y.1))] at ih
        rw [nI_1, nI_p0]
        exact ih
      · have c := (bs_one m hm k (by omega)).mp c
        rw [if_pos ⟨c, hk k hk3 c⟩] at ih
        rw [nI_1, nI_add]
        exact ih
  exact q_X12_spaceOf _ _ (loop (zo S) 0 (by omega))
theorem rr_isKept (h : RQ g σ R S X A hh) (v : Iv S) {m : Nat} (hm : m < 2 ^ zo S) : Rd g M_X12_isKept [.ref (R 300), .int (nI m)] σ (b2 (kpN S m (zo S))) := by
  have h8 := v.o8
  have h256 := pow_le8 h8
  have loop : ∀ (e k : Nat), k + e = zo S → J_X12_isKept_17 g (kI fun x σ' => σ' = σ ∧ x = b2 (kpN S m (zo S))) σ (R 300) (nI m) (b2 (kpN S m k)) (nI k) := by
    intro e
    induction e with
    | zero =>
      intro k hk
      have hk : k = zo S := hk
      subst hk
      refine q_X12_isKept_17 _ _ _ _ (h.1.x 4 (fun _ _ _ => rfl) ?_)
      rw [h.ord.1]
      exact ⟨fun _ => ⟨b2_nar _, rd_i rfl⟩, fun c => absurd (nI_le (Nat.le_refl _) (by omega)) c⟩
    | succ e ih =>
      intro k hk
      have hk3 : k < zo S := by omega
      have ih := ih (k + 1) (by omega)
      have e6 := (h.ord.2 k hk3).2.1
      have go : ∀ x : Int32, x = b2 (kpN S m k && (!m.testBit k || !(zB S k).2.2)) → J_X12_isKept_17 g (kI fun x σ' => σ' = σ ∧ x = b2 (kpN S m (zo S))) σ (R 300) (nI m) x (nI k + 1) := by
        intro x hx
        rw [hx, nI_1]
        exact ih
      have hb := bs_has m (by omega) k (by omega)
      refine q_X12_isKept_17 _ _ _ _ (h.1.x 4 (fun _ _ _ => rfl) ?_)
      rw [h.ord.1]
      refine ⟨fun c => absurd ((nI_leI (by omega) (by omega)).mp c) (by omega), fun _ => ⟨fun c => go _ ?_, fun c => ⟨fun c2 => go _ ?_, fun c2 => h.1.r 6 (fun _ _ _ => rfl) (h.1.a 6 rfl rfl rfl (show k < 8 by omega) ?_)⟩⟩⟩
      · rw [b2_0.mp c]; rfl
      · rw [b2_n0.mp c, hb.mp c2]; rfl
      · have c := b2_n0.mp c
        have c2 : m.testBit k = true := by
          rcases Bool.eq_false_or_eq_true (m.testBit k) with w | w
          · exact w
          · exact absurd (hb.mpr w) c2
        rw [e6]
        refine ⟨fun c3 => go _ ?_, fun c3 => go _ ?_⟩
        · rw [c, c2, b2_n0.mp c3]; rfl
        · rw [c, c2, b2_0.mp c3]; rfl
  refine q_X12_isKept _ _ (h.1.x 4 (fun _ _ _ => rfl) ?_)
  rw [h.ord.1, bs_sh0 (zo S) (by omega) m (by omega) hm]
  exact ⟨fun c => absurd rfl c, fun _ => loop (zo S) 0 (by omega)⟩
theorem Bfr.tr {X1 X2 : Nat → Int32} (h1 : Bfr X X1) (h2 : Bfr X1 X2) : Bfr X X2 := fun i a b => (h2 i a b).trans (h1 i a b)
theorem choose_core (h : RQ g σ R S X A hh) (v : Iv S) (ht : ∀ q, q < zq S → TbQ S q (A 34)) {sp : Nat} (hsp : sp < 10000) (y : Int32) {post : Option Value → Hs → Prop} (fin : ∀ σ2 X2, RC g σ2 R X2 A hh → Bfr X X2 → Sm R T3 σ σ2 → post (some (.int (if y = 0 then nI (s_bst S sp) else if y = 1 then nI (s_wrk S (s_bst S sp)) else nI (s_szs S (s_bst S sp))))) σ2) : J_X12_choose_61 g post σ (R 300) (nI sp) y 0 (nI (s_wrk S 0)) 1 := by
  have h8 := v.o8
  have h256 := pow_le8 h8
  have hpos : 0 < 2 ^ zo S := Nat.pow_pos (by decide)
  have hks := kSet_lt (zB S) (zo S)
  have e4 : ∀ {X1}, Bfr X X1 → X1 4 = nI (zo S) := fun b => (b 4 (by decide) (by decide)).trans h.ord.1
  have hb : ∀ k, k ≤ 2 ^ zo S → bstS (s_wrk S) (s_szs S) (kSet (zB S) (zo S)) sp k < 2 ^ zo S := fun k hk => by
    rcases bstS_lt (s_wrk S) (s_szs S) (kSet (zB S) (zo S)) sp k with z | z <;> omega
  have hbk : ∀ k, k ≤ 2 ^ zo S → kpN S (bstS (s_wrk S) (s_szs S) (kSet (zB S) (zo S)) sp k) (zo S) = true := fun k hk => (keptM h8 (hb k hk)).mp (bstS_kept _ _ _ _ k)
  have loop : ∀ (e k : Nat) (σ1 : Hs) (X1 : Nat → Int32), k + e = 2 ^ zo S → RC g σ1 R X1 A hh → Bfr X X1 → Sm R T3 σ σ1 → J_X12_choose_61 g post σ1 (R 300) (nI sp) y (nI (bstS (s_wrk S) (s_szs S) (kSet (zB S) (zo S)) sp k)) (nI (s_wrk S (bstS (s_wrk S) (s_szs S) (kSet (zB S) (zo S)) sp k))) (nI k) := by
    intro e
    induction e with
    | zero =>
      intro k σ1 X1 hk h1 b1 s1
      have hk : k = 2 ^ zo S := hk
      subst hk
      have e : bstS (s_wrk S) (s_szs S) (kSet (zB S) (zo S)) sp (2 ^ zo S) = s_bst S sp := by
        have := bstS_ge (s_wrk S) (s_szs S) (kSet (zB S) (zo S)) sp (2 ^ zo S) hks (256 - 2 ^ zo S)
        rw [show 2 ^ zo S + (256 - 2 ^ zo S) = 256 by omega] at this
        exact this.symm
      have hbb := hb _ (Nat.le_refl _)
      have hkk := hbk _ (Nat.le_refl _)
      rw [e] at hbb hkk ⊢
      have fin := fin σ1 X1 h1 b1 s1
      refine q_X12_choose_61 _ _ _ _ _ _ (h1.x 4 (fun _ _ _ => rfl) ?_)
      rw [e4 b1, bs_pow (zo S) (by omega)]
      refine ⟨fun _ => ⟨fun c => ⟨fun c2 => ⟨h1.rc, (rr_spaceOf (h.bfr h1 b1) v (by omega) hkk).use ?_⟩, fun c2 => ?_⟩, fun c => ?_⟩, fun c => absurd (nI_le (Nat.le_refl _) (by omega)) c⟩
      · rw [if_neg c, if_neg c2] at fin; exact fin
      · rw [if_neg c, if_pos c2] at fin; exact fin
      · rw [if_pos c] at fin; exact fin
    | succ e ih =>
      intro k σ1 X1 hk h1 b1 s1
      have hk2 : k < 2 ^ zo S := by omega
      have ih := ih (k + 1)
      simp only [bstS] at ih
      have hbb := hb k (by omega)
      have hkk := hbk k (by omega)
      generalize hbe : bstS (s_wrk S) (s_szs S) (kSet (zB S) (zo S)) sp k = b at *
      have w1 := v.wrk k
      have w2 := v.wrk b
      have z1 := v.szs k
      have z2 := v.szs b
      have r1 := h.bfr h1 b1
      have stay : ∀ σ2 X2, RC g σ2 R X2 A hh → Bfr X X2 → Sm R T3 σ σ2 → ¬ ((k &&& kSet (zB S) (zo S) = k ∧ s_szs S k ≤ sp) ∧ bet (s_wrk S) (s_szs S) k b = true) → J_X12_choose_61 g post σ2 (R 300) (nI sp) y (nI b) (nI (s_wrk S b)) (nI k + 1) := by
        intro σ2 X2 h2 b2 s2 z
        rw [if_neg z] at ih
        rw [nI_1]
        exact ih σ2 X2 (by omega) h2 b2 s2
      have take : ∀ σ2 X2, RC g σ2 R X2 A hh → Bfr X X2 → Sm R T3 σ σ2 → ((k &&& kSet (zB S) (zo S) = k ∧ s_szs S k ≤ sp) ∧ bet (s_wrk S) (s_szs S) k b = true) → J_X12_choose_61 g post σ2 (R 300) (nI sp) y (nI k) (nI (s_wrk S k)) (nI k + 1) := by
        intro σ2 X2 h2 b2 s2 z
        rw [if_pos z] at ih
        rw [nI_1]
        exact ih σ2 X2 (by omega) h2 b2 s2
      refine q_X12_choose_61 _ _ _ _ _ _ (h1.x 4 (fun _ _ _ => rfl) ?_)
      rw [e4 b1, bs_pow (zo S) (by omega)]
      refine ⟨fun c => absurd ((nI_leI (by omega) (by omega)).mp c) (by omega), fun _ => ⟨h1.rc, (rr_isKept r1 v hk2).use ⟨fun c => ?_, fun c => ⟨h1.rc, ?_⟩⟩⟩⟩
      · have c := b2_0.mp c
        exact stay σ1 X1 h1 b1 s1 (fun z => by rw [(keptM h8 hk2).mp z.1.1] at c; cases c)
      · have c := b2_n0.mp c
        have ck := (keptM h8 hk2).mpr c
        refine (rr_spaceOf r1 v (by omega) c).use ⟨fun c2 => ?_, fun c2 => ⟨h1.rc, DoI.use (rk_workOf r1 v ht (by omega)) ?_⟩⟩
        · have c2 := (nI_ltI (by omega) (by omega)).mp c2
          exact stay σ1 X1 h1 b1 s1 (fun z => by have := z.1.2; omega)
        · have c2 : s_szs S k ≤ sp := Nat.le_of_not_lt fun z => c2 (nI_lt z (by omega))
          rintro x σ2 ⟨rfl, X2, h2, b2, s2⟩
          have bb := b1.tr b2
          have ss := s1.trans s2
          have r2 := h.bfr h2 bb
          refine ⟨fun c3 => ?_, fun c3 => ⟨fun c4 => ?_, fun c4 => ⟨h2.rc, (rr_spaceOf r2 v (by omega) c).use ⟨h2.rc, (rr_spaceOf r2 v (by omega) hkk).use ⟨fun c5 => ?_, fun c5 => ?_⟩⟩⟩⟩⟩
          · have c3 := (nI_ltI w1 w2).mp c3
            refine take σ2 X2 h2 bb ss ⟨⟨ck, c2⟩, ?_⟩
            unfold bet
            rw [decide_eq_true c3, Bool.true_or]
          · have c3 : ¬ s_wrk S k < s_wrk S b := fun z => c3 (nI_lt z w2)
            have c4 : ¬ s_wrk S k = s_wrk S b := fun z => c4 (by rw [z])
            refine stay σ2 X2 h2 bb ss (fun z => ?_)
            have z := z.2
            unfold bet at z
            rw [decide_eq_false c3, decide_eq_false c4] at z
            cases z
          · have c3 : ¬ s_wrk S k < s_wrk S b := fun z => c3 (nI_lt z w2)
            have c5 := (nI_leI (by omega) (by omega)).mp c5
            refine stay σ2 X2 h2 bb ss (fun z => ?_)
            have z := z.2
            unfold bet at z
            rw [decide_eq_false c3, decide_eq_false (p := s_szs S k < s_szs S b) (by omega), Bool.and_false] at z
            cases z
          · have c4 := (nI_eq w1 w2).mp c4
            have c5 : s_szs S k < s_szs S b := Nat.lt_of_not_le fun z => c5 (nI_le z (by omega))
            have e : nI (s_wrk S k) = nI (s_wrk S b) := by rw [c4]
            refine take σ2 X2 h2 bb ss ⟨⟨ck, c2⟩, ?_⟩
            unfold bet
            rw [decide_eq_true c4, decide_eq_true c5, Bool.and_true, Bool.or_true]
  have h0 := loop (2 ^ zo S - 1) 1 σ X (by omega) h.1 (fun _ _ _ => rfl) Sm.refl
  rw [bstS_1] at h0
  exact h0
theorem rw_choose (h : RQ g σ R S X A hh) (v : Iv S) (x y : Int32) : Do g M_X12_choose 0 0 [.ref (R 300), .int x, .int y] σ (RP g σ R (s_choose S x y)) := by
  have hz := v.1.2.2.2.2.2.1
  have hz2 := v.1.2.2.2.2.2.2
  unfold s_choose
  refine q_X12_choose _ _ _ ((rd_inR x 9999 (by decide)).use ⟨fun c => ?_, fun c => (rd_inR y 2 (by decide)).use ⟨fun c2 => h.1.x 20 (fun _ _ _ => rfl) ⟨fun c3 => h.1.x 20 (fun _ _ _ => rfl) (h.1.px 20 _ (by omega) (fun _ _ _ => rfl) fun σ1 h1 s1 => ⟨h1.rc, ?_⟩), fun c3 => ?_⟩, fun c2 => ?_⟩⟩)
  · rw [if_f (b2_0.mp c)]; exact RP.no h
  · have c := b2_n0.mp c
    have c2 := b2_n0.mp c2
    obtain ⟨sp, hsp, rfl⟩ := inR_of c (by decide)
    rw [h.num.2.1] at c3
    have c3 : zc S < 20 := Nat.lt_of_le_of_ne hz fun z => c3 (by rw [z]; rfl)
    rw [if_t c, if_t c2, if_pos c3, nn_i (by omega)]
    have q1 : RQ g σ1 R (zch S (zc S + 1) (zs S)) (upd X 20 (X 20 + 1)) A hh := ⟨h1, h.2.nums (fun i i1 _ => upd_ne _ _ i1) ((upd_same _ _ _).trans (by rw [h.num.2.1, nI_1])) ((upd_ne _ _ (by decide)).trans h.num.2.2)⟩
    have v1 : Iv (zch S (zc S + 1) (zs S)) := v.zch (by omega) hz2
    refine DoV.use (wr_lookAtAll q1 v1) ?_
    rintro σ2 ⟨A2, h2, k2, t2, s2⟩
    have q2 := q1.a34 h2 k2
    refine ⟨h2.rc, DoI.use (rk_workOf (m := 0) q2 v1 t2 (by decide)) ?_⟩
    rintro x2 σ3 ⟨rfl, X3, h3, b3, s3⟩
    have q3 := q2.bfr h3 b3
    refine choose_core q3 v1 t2 hsp y fun σ4 X4 h4 b4 s4 => ?_
    exact RP.go h4 (q3.bfr h4 b4).2 (((s1.trans s2).trans s3).trans s4) rfl
  · rw [h.num.2.1] at c3
    have c3 := (nI_eq (b := 20) (by omega) (by decide)).mp c3
    rw [if_t (b2_n0.mp c), if_t (b2_n0.mp c2), if_neg (by omega)]; exact RP.no h
  · rw [if_t (b2_n0.mp c), if_f (b2_0.mp c2)]; exact RP.no h
end RCH
