/-! Ways.list whole; what it is asked. -/
section LST3
variable {g : GG} {σ : Hs} {R : Nat → Nat} {u : WS} {q tq wd told : Nat} {f : Nat → Int32} {tk : Nat → Bool} {B : Nat → OD} {b : Nat → Nat} {d : QD}
def lstP (g : GG) (σ : Hs) (R : Nat → Nat) (f : Nat → Int32) (tk : Nat → Bool) (wd told : Nat) (B : Nat → OD) (d : QD) : Option Value → Hs → Prop := kV fun σ' => ∃ u', σ' = wup g σ R u' ∧ WHold u' (allW f tk wd told B d 8)
theorem wr_list (hu : WayC g σ R u) (h : OrdsC g σ R told B) (ht : TabAt g σ (R 1) q tq f tk wd) (hq : QAt g σ b d) (hs : srtOk d) (hw : 2 ≤ wd ∧ wd ≤ 8) : Do g M_X9_list 0 0 [.ref (R 6), .ref (b 0)] σ (lstP g σ R f tk wd told B d) := by
  have l77 : ∀ (o : Nat), o < 8 → (∀ u', WHold u' (allW f tk wd told B d (o + 1)) → LRk f tk told B d u' 8 → J_X9_list_66 g (lstP g σ R f tk wd told B d) (wup g σ R u') (R 6) (nI (srtN f tk d)) (nI (o + 1))) → ∀ (e k : Nat) (u' : WS), k + e = 7 - o → WHold u' (pairW f tk wd told B d o (allW f tk wd told B d o) k) → LRk f tk told B d u' 8 → J_X9_list_77 g (lstP g σ R f tk wd told B d) (wup g σ R u') (R 6) (nI (srtN f tk d)) (nI o) (nI (o + 1 + k)) := by
    intro o ho hnext e
    induction e with
    | zero =>
      intro k u' hk hW hL
      refine q_X9_list_77 _ _ _ _ ⟨fun _ => ?_, fun c => absurd (nI_le (a := 8) (by omega) (by omega)) c⟩
      rw [nI_1]
      refine hnext u' ?_ hL
      simp only [allW]
      rw [← show k = 7 - o by omega]
      exact hW
    | succ e ih =>
      intro k u' hk hW hL
      have k1 := hu.keep u'
      refine q_X9_list_77 _ _ _ _ ⟨fun c => absurd ((nI_leI (a := 8) (by decide) (by omega)).mp c) (by omega), fun _ => ⟨Rc.of k1.1, ?_⟩⟩
      have hlen := pairW_len f tk wd told B d o (allW f tk wd told B d o) k
      have hlen2 := allW_len f tk wd told B d o
      have htri := triW_lt o ho
      refine DoV.use (wr_listBoth (d := d) (W := pairW f tk wd told B d o (allW f tk wd told B d o) k) k1 (way_ords h hu u') (way_tab ht hu u') hw hW (o := o) (p := o + 1 + k) (by omega) (by omega) (by omega) hL) ?_
      rintro σ' ⟨u2, rfl, hW2, hL2⟩
      rw [wup_wup, nI_1]
      exact ih (k + 1) u2 (by omega) hW2 hL2
  have l66 : ∀ (e k : Nat) (u' : WS), k + e = 8 → WHold u' (allW f tk wd told B d k) → LRk f tk told B d u' 8 → J_X9_list_66 g (lstP g σ R f tk wd told B d) (wup g σ R u') (R 6) (nI (srtN f tk d)) (nI k) := by
    intro e
    induction e with
    | zero =>
      intro k u' hk hW hL
      refine q_X9_list_66 _ _ _ ⟨fun _ => ⟨rfl, u', rfl, ?_⟩, fun c => absurd (nI_le (a := 8) (by omega) (by omega)) c⟩
      rw [← show k = 8 by omega]
      exact hW
    | succ e ih =>
      intro k u' hk hW hL
      refine q_X9_list_66 _ _ _ ⟨fun c => absurd ((nI_leI (a := 8) (by decide) (by omega)).mp c) (by omega), fun _ => ?_⟩
      rw [nI_1]
      exact l77 k (by omega) (fun u' hW hL => ih (k + 1) u' (by omega) hW hL) (7 - k) 0 u' (by omega) hW hL
  have l45 : ∀ (e k : Nat) (u' : WS), k + e = 8 → WHold u' (singW f tk wd told B d k) → LRk f tk told B d u' k → J_X9_list_45 g (lstP g σ R f tk wd told B d) (wup g σ R u') (R 6) (b 0) (nI (srtN f tk d)) (nI k) := by
    intro e
    induction e with
    | zero =>
      intro k u' hk hW hL
      have hk8 : k = 8 := by omega
      subst hk8
      refine q_X9_list_45 _ _ _ _ ⟨fun _ => ?_, fun c => absurd (nI_le (a := 8) (by omega) (by omega)) c⟩
      exact l66 8 0 u' rfl hW hL
    | succ e ih =>
      intro k u' hk hW hL
      have k1 := hu.keep u'
      have hlen := singW_len f tk wd told B d k
      refine q_X9_list_45 _ _ _ _ ⟨fun c => absurd ((nI_leI (a := 8) (by decide) (by omega)).mp c) (by omega), fun _ => ⟨Rc.of k1.1, ?_⟩⟩
      refine DoV.use (wr_listAlone (W := singW f tk wd told B d k) k1 (way_ords h hu u') (way_tab ht hu u') (way_que hq hu u') hs hw hW (o := k) (by omega) (by omega) hL) ?_
      rintro σ' ⟨u2, rfl, hW2, hL2⟩
      rw [wup_wup, nI_1]
      exact ih (k + 1) u2 (by omega) hW2 hL2
  have j23 : J_X9_list_23 g (lstP g σ R f tk wd told B d) σ (R 6) (b 0) (nI (srtN f tk d)) := by
    refine q_X9_list_23 _ _ _ (hu.pn 0 ?_)
    have k1 := hu.keep (0, u.2)
    have t1 := way_tab ht hu (0, u.2)
    refine FR.of k1.1 rfl ⟨Rc.of t1.1, (rd_fullPages t1 hw).use ⟨Rc.of k1.1, ?_⟩⟩
    rw [nI_add]
    have hw1 := wr_wadd k1 (Nat.le_of_ble_eq_true rfl) (nI 0) (nI 0) (nI (pgc wd tk 64 + srtN f tk d))
    rw [wup_wup] at hw1
    refine hw1.use ?_
    refine l45 8 0 _ rfl ?_ (fun j hj => absurd hj (by omega))
    exact WHold.add (u := (0, u.2)) (W := []) ⟨rfl, fun i x hx => by cases hx⟩ 0 0 (tabL f tk wd d)
  refine q_X9_list _ _ ⟨Rc.of hq.1, (rd_qmustSort hq hs).use ⟨fun c => ?_, fun c => FR.of hu.1 rfl ⟨Rc.of hq.1, (rd_qrowsWithin hq ht (m := 15) (by decide)).use ((rd_bitCountL _).use ?_)⟩⟩⟩
  · have e : srtN f tk d = 0 := by unfold srtN msrt; rw [b2_0.mp c]; rfl
    rw [e] at j23
    exact j23
  · have e : srtN f tk d = fa_cnt (rowsW f tk d (15 : Nat).testBit) 64 := by unfold srtN msrt; rw [b2_n0.mp c]; rfl
    rw [e] at j23
    exact j23
/-! what the list is asked -/
def wNo (W : WL) : Nat → Int32 := fun i => nI ((W.map (·.1)).getD i 0)
/-- the place of a way's number, or as many as there are -/
def wayPl (W : WL) (x : Int32) : Nat := fa_first (fun i => decide (nI (W.getD i (0, 0, 0)).1 = x)) W.length
theorem WHold.get {W : WL} (h : WHold u W) {i : Nat} (hi : i < W.length) : u.2.1 i = nI (W.getD i (0, 0, 0)).1 ∧ u.2.2.1 i = nI (W.getD i (0, 0, 0)).2.1 ∧ u.2.2.2.1 i = nI (W.getD i (0, 0, 0)).2.2 := by
  have h1 := h.2 i (W[i]) (List.getElem?_eq_getElem hi)
  rw [show W.getD i (0, 0, 0) = W[i] from by simp [List.getD, List.getElem?_eq_getElem hi]]
  exact h1
theorem rd_wplaceOf {W : WL} (hu : WayC g σ R u) (hW : WHold u W) (hl : W.length ≤ 37) (x : Int32) : Rd g M_X9_placeOf [.ref (R 6), .int x] σ (if wayPl W x < W.length then nI (wayPl W x) else -1) := by
  refine q_X9_placeOf _ _ (FR.of hu.1 rfl (FI.of hu.1 rfl ⟨Rc.of hu.2.1.1, (rd_placeOf hu.2.1 x (by rw [hW.1]; exact hl)).use (rd_i ?_)⟩))
  rw [hW.1]
  have e : fa_first (fun j => decide (u.2.1 j = x)) W.length = wayPl W x := fa_first_cong fun k hk => by rw [(hW.get hk).1]
  rw [e]
theorem rd_wnumberAt {W : WL} (hu : WayC g σ R u) (hW : WHold u W) (hl : W.length ≤ 37) {i : Nat} (hi : i < W.length) : Rd g M_X9_numberAt [.ref (R 6), .int (nI i)] σ (nI (W.getD i (0, 0, 0)).1) := q_X9_numberAt _ _ (FR.of hu.1 rfl ⟨Rc.of hu.2.1.1, (rd_atn hu.2.1 (by omega)).use (rd_i (hW.get hi).1)⟩)
theorem rd_wcostAt {W : WL} (hu : WayC g σ R u) (hW : WHold u W) (hl : W.length ≤ 37) {i : Nat} (hi : i < W.length) : Rd g M_X9_costAt [.ref (R 6), .int (nI i)] σ (nI (W.getD i (0, 0, 0)).2.2) := q_X9_costAt _ _ (FR.of hu.1 rfl ⟨Rc.of hu.2.2.2.1.1, (rd_atn hu.2.2.2.1 (by omega)).use (rd_i (hW.get hi).2.2)⟩)
/-- the place of the way with fewest looks among the first k whose orders all lie in m -/
def bstW (W : WL) (m : Nat) : Nat → Nat
  | 0 => 0
  | k + 1 => if (W.getD k (0, 0, 0)).2.1 &&& m = (W.getD k (0, 0, 0)).2.1 ∧ (W.getD k (0, 0, 0)).2.2 < (W.getD (bstW W m k) (0, 0, 0)).2.2 then k else bstW W m k
theorem bstW_lt (W : WL) (m : Nat) : ∀ k, bstW W m k = 0 ∨ bstW W m k < k
  | 0 => Or.inl rfl
  | k + 1 => by
    have ih := bstW_lt W m k
    simp only [bstW]
    split
    · exact Or.inr (by omega)
    · omega
theorem and_eq_iff {u m : Nat} (hu : u < 256) : u &&& m = u ↔ ∀ i, i < 8 → u.testBit i = true → m.testBit i = true := by
  constructor
  · intro h i _ hb
    rw [← h, Nat.testBit_and, Bool.and_eq_true] at hb
    exact hb.2
  · intro h
    refine Nat.eq_of_testBit_eq fun i => ?_
    rw [Nat.testBit_and]
    by_cases hi : i < 8
    · have := h i hi
      revert this
      cases u.testBit i <;> simp
    · rw [show u.testBit i = false from Nat.testBit_lt_two_pow (Nat.lt_of_lt_of_le hu (Nat.pow_le_pow_right (n := 2) (by decide) (show 8 ≤ i by omega)))]
      rfl
def wOk (W : WL) : Prop := W.length ≤ 37 ∧ 1 ≤ W.length ∧ (W.getD 0 (0, 0, 0)).2.1 = 0 ∧ ∀ i, i < W.length → (W.getD i (0, 0, 0)).2.1 < 256 ∧ (W.getD i (0, 0, 0)).2.2 < 2 ^ 20
theorem rd_wbestPlace {W : WL} (hu : WayC g σ R u) (hW : WHold u W) (hk : wOk W) {m : Nat} (hm : m < 256) : Rd g M_X9_bestPlace [.ref (R 6), .int (nI m)] σ (nI (bstW W m W.length)) := by
  obtain ⟨hl, h1, -, hk⟩ := hk
  have loop : ∀ (e k : Nat), k + e = W.length → 1 ≤ k → J_X9_bestPlace_4 g (kI fun y σ' => σ' = σ ∧ y = nI (bstW W m W.length)) σ (R 6) (nI m) (nI (bstW W m k)) (nI k) := by
    intro e
    induction e with
    | zero =>
      intro k hk1 hk2
      have : k = W.length := by omega
      subst this
      refine q_X9_bestPlace_4 _ _ _ _ (FI.of hu.1 rfl ⟨fun _ => rd_i rfl, fun c => absurd (by rw [hW.1]; exact Int32.le_refl _) c⟩)
    | succ e ih =>
      intro k hk1 hk2
      have hkl : k < W.length := by omega
      have hb : bstW W m k < W.length := by rcases bstW_lt W m k with h | h <;> omega
      obtain ⟨e1, e2, e3⟩ := hW.get hkl
      obtain ⟨b1, b2, b3⟩ := hW.get hb
      have hi := ih (k + 1) (by omega) (by omega)
      simp only [bstW] at hi
      refine q_X9_bestPlace_4 _ _ _ _ (FI.of hu.1 rfl ⟨fun c => absurd ((nI_leI (by rw [hW.1]; omega) (by omega)).mp c) (by rw [hW.1]; omega), fun _ => FR.of hu.1 rfl ⟨Rc.of hu.2.2.1.1, (rd_atn hu.2.2.1 (by omega)).use ⟨fun c => ?_, fun c => FR.of hu.1 rfl ⟨Rc.of hu.2.2.2.1.1, (rd_atn hu.2.2.2.1 (by omega)).use (FR.of hu.1 rfl ⟨Rc.of hu.2.2.2.1.1, (rd_atn hu.2.2.2.1 (by omega)).use ⟨fun c2 => ?_, fun c2 => ?_⟩⟩)⟩⟩⟩⟩)
      · rw [nI_1]
        rw [e2, bs_diff (hk k hkl).1 (by omega), ← and_eq_iff (hk k hkl).1] at c
        rw [if_neg (fun hh => c hh.1)] at hi
        exact hi
      · rw [nI_1]
        rw [b3, e3] at c2
        have c2 := (nI_leI (Nat.lt_trans (hk _ hb).2 (by decide)) (Nat.lt_trans (hk _ hkl).2 (by decide))).mp c2
        rw [if_neg (fun hh => absurd hh.2 (by omega))] at hi
        exact hi
      · rw [nI_1]
        rw [e2, bs_diff (hk k hkl).1 (by omega), ← and_eq_iff (hk k hkl).1] at c
        rw [b3, e3] at c2
        rw [if_pos ⟨c, Nat.lt_of_not_le fun hh => c2 (nI_le hh (Nat.lt_trans (hk _ hkl).2 (by decide)))⟩] at hi
        exact hi
  refine q_X9_bestPlace _ _ ?_
  have h0 := loop (W.length - 1) 1 (by omega) (by omega)
  have : bstW W m 1 = 0 := by simp [bstW]
  rw [this] at h0
  exact h0
end LST3
