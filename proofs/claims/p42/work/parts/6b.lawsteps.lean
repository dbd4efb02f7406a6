/-! The law's body, from its end: step by step. -/
def LW (g : GG) (σ : Hs) (r0 : Nat) (S : SS) (n : Nat) (Q : Nat → Nat) (E : AE) : Prop := ∃ R, R 0 = r0 ∧ Lw g σ R S n Q E
section LWU
variable {g : GG} {σ : Hs} {r0 n : Nat} {S : SS} {Q : Nat → Nat} {E : AE} {M : MI} {as : List Value} {φ : Int32 → Hs → Prop}
theorem LW.rc (h : LW g σ r0 S n Q E) : Rc σ r0 11 := by
  obtain ⟨R, e, h1⟩ := h
  rw [← e]
  exact Rc.of h1.1.1
theorem LW.use {mc ms : Nat} {p : Int32 × SS} (h : LW g σ r0 S n Q E) (d : ∀ R, KO g σ R S → Do g M mc ms (.ref (R 0) :: as) σ (KP g σ R S p)) (K : ∀ σ', LW g σ' r0 p.2 n Q E → φ p.1 σ') : Do g M mc ms (.ref r0 :: as) σ (kI φ) := by
  obtain ⟨R, e, h1⟩ := h
  subst e
  refine DoI.use (d R h1.1) ?_
  rintro v σ2 ⟨rfl, kb⟩
  obtain ⟨R2, e2, h2⟩ := h1.call kb
  exact K σ2 ⟨R2, e2, h2⟩
theorem LW.rd {v : Int32} (h : LW g σ r0 S n Q E) (d : ∀ R, KO g σ R S → Rd g M (.ref (R 0) :: as) σ v) (k : φ v σ) : Do g M 0 0 (.ref r0 :: as) σ (kI φ) := by
  obtain ⟨R, e, h1⟩ := h
  subst e
  exact (d R h1.1).use k
theorem LW.c0 (h : LW g σ r0 S n Q E) (hn : 0 < n) : Ce σ (Q 0) (aI g 64 E.1) := by obtain ⟨R, e, h1⟩ := h; exact h1.c0 hn
theorem LW.c1 (h : LW g σ r0 S n Q E) (hn : 1 < n) : Ce σ (Q 1) (aI g 4 E.2.1) := by obtain ⟨R, e, h1⟩ := h; exact h1.c1 hn
theorem LW.c2 (h : LW g σ r0 S n Q E) (hn : 2 < n) : Ce σ (Q 2) (aI g 4 E.2.2.1) := by obtain ⟨R, e, h1⟩ := h; exact h1.c2 hn
theorem LW.c3 (h : LW g σ r0 S n Q E) (hn : 3 < n) : Ce σ (Q 3) (aI g 64 E.2.2.2.1) := by obtain ⟨R, e, h1⟩ := h; exact h1.c3 hn
theorem LW.c4 (h : LW g σ r0 S n Q E) (hn : 4 < n) : Ce σ (Q 4) (aI g 8 E.2.2.2.2) := by obtain ⟨R, e, h1⟩ := h; exact h1.c4 hn
theorem LW.ko (h : LW g σ r0 S n Q E) : ∃ R, KO g σ R S := by obtain ⟨R, e, h1⟩ := h; exact ⟨R, h1.1⟩
end LWU
section LST
variable {g : GG} {b L : Nat} {xs : Nat → Int32} {σ : Hs} {r0 : Nat} {Sb : SS} {Q : Nat → Nat} {E : AE} {kM nM sp : Nat}
/-- what stands while it goes step by step -/
def SI5 (g : GG) (σ : Hs) (r0 : Nat) (Sb : SS) (Q : Nat → Nat) (E : AE) (kM nM sp : Nat) : Prop := Kp Sb ∧ (1 ≤ zq Sb ∧ zq Sb ≤ 3) ∧ sp < 40 ∧ (∀ m, m < 2 ^ zo Sb → E.2.2.2.2 m = nI (s_wrk Sb m)) ∧ (∀ m, s_wrk Sb m < 2 ^ 30) ∧ (∀ m, s_szs Sb m < 2 ^ 30) ∧ kM ≤ 600000 ∧ nM ≤ 7302250
theorem law_end {st m c : Nat} (hL : L ≤ 260) (h : LW g σ r0 (zch Sb (zc Sb) st) 5 Q E) (iv : Inv (zch Sb (zc Sb) st)) (hs : SI5 g σ r0 Sb Q E kM nM sp) (hst : st ≤ 10) (hm : m < 2 ^ zo Sb) (hE : s_ste Sb sp = m) (hc : fa_cnt m.testBit 8 = c) (hl : (s_stl Sb sp).length = c) (hfit : s_szs Sb m ≤ sp) : J_L_law_1221 g b L xs kM nM σ r0 (nI (zo Sb)) (nI (zq Sb)) (nI sp) (nI (s_wrk Sb (s_bst Sb sp))) (Q 4) (nI m) (nI c) 0 := by
  obtain ⟨hK, hq, hsp, hwk, hw30, hz30, hk1, hk2⟩ := hs
  have h3 := hK.1
  have hp8 := pow_t h3
  have hm8 : m < 8 := by omega
  have hc3 : c ≤ 3 := by rw [← hc]; exact pop3 m hm8
  have hspR : inR (nI sp) 10000 = true := inR_y (by omega) (by decide)
  have stp : ∀ (st' : Nat) (y : Int32), st' < 20 → (inR y 3 || (decide (10 ≤ y.toInt) && decide (y.toInt < 18))) = true → s_steps (zch Sb (zc Sb) st') (nI sp) y = (v_stp Sb sp y, zch Sb (zc Sb) (st' + 1)) := fun st' y h1 h2 => by
    unfold s_steps
    rw [if_t hspR, if_t h2, if_pos (show zs (zch Sb (zc Sb) st') < 20 from h1), nn_i (by omega)]
    rfl
  have ivs : ∀ (st' : Nat), st' ≤ 20 → Inv (zch Sb (zc Sb) st') := fun st' h1 => ⟨iv.1, iv.2.1, iv.2.2.1, iv.2.2.2.1, iv.2.2.2.2.1, iv.2.2.2.2.2.1, h1⟩
  have hb : ∀ y : Int32, v_stp Sb sp y = v_stp Sb sp y := fun _ => rfl
  have w0 : v_stp Sb sp 0 = nI m := by
    unfold v_stp
    rw [if_neg (by decide), if_pos rfl, hE]
  have w1 : v_stp Sb sp 1 = nI (s_wrk Sb m) := by
    unfold v_stp
    rw [if_neg (by decide), if_neg (by decide), if_pos rfl, hE]
  have w2 : v_stp Sb sp 2 = nI c := by
    unfold v_stp
    rw [if_neg (by decide), if_neg (by decide), if_neg (by decide), hE, hc]
  have w3 : v_stp Sb sp (10 + nI c) = -1 := by
    rw [show (10 : Int32) + nI c = nI (10 + c) from nI_add 10 c]
    unfold v_stp
    rw [I_n (by omega), if_pos (by omega), hl, if_neg (by omega)]
  refine q_L_law_1221 _ _ _ _ _ _ _ _ _ _ _ hL ⟨fun _ => ⟨⟨hk1, hk2⟩, h.rc, h.use (fun R k => do_steps k (ivs _ (by omega)) (nI sp) 0) ?_⟩, fun z => absurd rfl z⟩
  rw [stp st 0 (by omega) (by decide), w0]
  refine fun σ1 h1 => ⟨fun z => absurd rfl z, fun _ => ⟨⟨hk1, hk2⟩, h1.rc, h1.use (fun R k => do_steps k (ivs _ (by omega)) (nI sp) 1) ?_⟩⟩
  rw [stp (st + 1) 1 (by omega) (by decide), w1]
  refine fun σ2 h2 => AI.of (h2.c4 (by decide)) rfl hm8 (by decide) ?_
  rw [hwk m hm]
  refine ⟨fun z => absurd rfl z, fun _ => ⟨⟨hk1, hk2⟩, h2.rc, h2.use (fun R k => do_steps k (ivs _ (by omega)) (nI sp) 2) ?_⟩⟩
  rw [stp (st + 1 + 1) 2 (by omega) (by decide), w2]
  refine fun σ3 h3' => ⟨fun z => absurd rfl z, fun _ => ⟨⟨hk1, hk2⟩, h3'.rc, h3'.use (fun R k => do_steps k (ivs _ (by omega)) (nI sp) (10 + nI c)) ?_⟩⟩
  rw [stp (st + 1 + 1 + 1) (10 + nI c) (by omega) (by
    rw [show (10 : Int32) + nI c = nI (10 + c) from nI_add 10 c, I_n (by omega), decide_eq_true (show (10 : Int) ≤ ((10 + c : Nat) : Int) by omega), decide_eq_true (show ((10 + c : Nat) : Int) < 18 by omega), Bool.or_eq_true]
    exact Or.inr rfl), w3]
  refine fun σ4 h4 => ⟨fun z => absurd rfl z, fun _ => AI.of (h4.c4 (by decide)) rfl hm8 (by decide) ?_⟩
  rw [hwk m hm]
  have hbm : s_wrk Sb (s_bst Sb sp) ≤ s_wrk Sb m := by
    rw [bst_all hK]
    exact bst_min hK sp (2 ^ zo Sb) m hm (Nat.le_refl _) hfit
  refine ⟨fun z => absurd ((nI_ltI (by have := hw30 m; omega) (by have := hw30 (s_bst Sb sp); omega)).mp z) (by omega), fun _ => ⟨⟨hk1, hk2⟩, h4.rc, h4.use (fun R k => do_looks k 0 (nI (zo Sb) + 1)) ?_⟩⟩
  have e5 : v_looks (zch Sb (zc Sb) (st + 1 + 1 + 1 + 1)) 0 (nI (zo Sb) + 1) = -101 := by
    rw [nI_1]
    exact looks_none (S := zch Sb (zc Sb) (st + 1 + 1 + 1 + 1)) hK hq.1
  rw [e5]
  refine fun σ5 h5 => ⟨fun z => absurd rfl z, fun _ => ⟨⟨hk1, hk2⟩, h5.rc, h5.use (fun R k => do_looks k (nI (zq Sb)) 0) ?_⟩⟩
  have e6 : v_looks (zch Sb (zc Sb) (st + 1 + 1 + 1 + 1)) (nI (zq Sb)) 0 = -101 := looks_out (S := zch Sb (zc Sb) (st + 1 + 1 + 1 + 1)) (by show zq Sb < 2 ^ 31; omega)
  rw [e6]
  refine fun σ6 h6 => ⟨fun z => absurd rfl z, fun _ => ⟨⟨hk1, hk2⟩, h6.rc, h6.use (fun R k => do_best k 0 256) ?_⟩⟩
  have e7 : v_best (zch Sb (zc Sb) (st + 1 + 1 + 1 + 1)) 0 256 = -102 := by
    unfold v_best
    rw [if_t (show inR 0 (zq (zch Sb (zc Sb) (st + 1 + 1 + 1 + 1))) = true from (inR_n (k := 0) (by decide)).trans (decide_eq_true (show 0 < zq Sb by omega))), if_f (by decide)]
  rw [e7]
  refine fun σ7 h7 => ⟨fun z => absurd rfl z, fun _ => ⟨⟨hk1, hk2⟩, h7.rc, h7.use (fun R k => do_work k (-1)) ?_⟩⟩
  have e8 : v_work (zch Sb (zc Sb) (st + 1 + 1 + 1 + 1)) (-1) = -102 := by
    unfold v_work
    rw [if_f (by decide)]
  rw [e8]
  refine fun σ8 h8 => ⟨fun z => absurd rfl z, fun _ => ⟨⟨hk1, hk2⟩, h8.rc, h8.use (fun R k => do_choose k (ivs _ (by omega)) 10000 0) ?_⟩⟩
  have e9 : s_choose (zch Sb (zc Sb) (st + 1 + 1 + 1 + 1)) 10000 0 = (-102, zch Sb (zc Sb) (st + 1 + 1 + 1 + 1)) := by
    unfold s_choose
    rw [if_f (by decide)]
  rw [e9]
  refine fun σ9 h9 => ⟨fun z => absurd rfl z, fun _ => ⟨⟨hk1, hk2⟩, h9.rc, h9.use (fun R k => do_steps k (ivs _ (by omega)) 0 3) ?_⟩⟩
  have e10 : s_steps (zch Sb (zc Sb) (st + 1 + 1 + 1 + 1)) 0 3 = (-102, zch Sb (zc Sb) (st + 1 + 1 + 1 + 1)) := by
    unfold s_steps
    rw [if_t (by decide), if_f (by decide)]
  rw [e10]
  exact fun σ10 h10 => ⟨fun z => absurd rfl z, fun _ => ⟨hk1, hk2⟩⟩
/-- one step: the orders one by one -/
def nxv (x : Nat) : Int32 := if x < 8 then nI x else -1
theorem law_next {st m c : Nat} (hL : L ≤ 260) (h : LW g σ r0 (zch Sb (zc Sb) st) 5 Q E) (iv : Inv (zch Sb (zc Sb) st)) (hs : SI5 g σ r0 Sb Q E kM nM sp) (hm : m < 2 ^ zo Sb)
    (K : ∀ x now, (x, now) = nxS (s_wrk Sb) (s_szs Sb) (keptB (zo Sb) (zB Sb)) sp m 8 → J_L_law_1352 g b L xs kM nM σ r0 (nI (zo Sb)) (nI (zq Sb)) (nI sp) (nI (s_wrk Sb (s_bst Sb sp))) (Q 4) (nI m) (nI c) (nxv x) (nI now) (if x < 8 then 1 else 0)) : J_L_law_1239 g b L xs kM nM σ r0 (nI (zo Sb)) (nI (zq Sb)) (nI sp) (nI (s_wrk Sb (s_bst Sb sp))) (Q 4) (nI m) (nI c) (-1) (nI (s_wrk Sb m)) 0 := by
  obtain ⟨hK, hq, hsp, hwk, hw30, hz30, hk1, hk2⟩ := hs
  have h3 := hK.1
  have hp8 := pow_t h3
  have h8 : zo Sb ≤ 8 := by omega
  have n8 : ∀ a, a ≤ zo Sb → ((nxS (s_wrk Sb) (s_szs Sb) (keptB (zo Sb) (zB Sb)) sp m a).1 = 8 ∨ (nxS (s_wrk Sb) (s_szs Sb) (keptB (zo Sb) (zB Sb)) sp m a).1 < a) := fun a _ => nxS_1 _ _ _ _ _ a
  have n30 : ∀ a, (nxS (s_wrk Sb) (s_szs Sb) (keptB (zo Sb) (zB Sb)) sp m a).2 < 2 ^ 30 := fun a => by
    induction a with
    | zero => exact hw30 m
    | succ a ih =>
      simp only [nxS]
      split
      · exact hw30 _
      · exact ih
  have loop : ∀ (e a : Nat), a + e = zo Sb → J_L_law_1239 g b L xs kM nM σ r0 (nI (zo Sb)) (nI (zq Sb)) (nI sp) (nI (s_wrk Sb (s_bst Sb sp))) (Q 4) (nI m) (nI c) (nxv (nxS (s_wrk Sb) (s_szs Sb) (keptB (zo Sb) (zB Sb)) sp m a).1) (nI (nxS (s_wrk Sb) (s_szs Sb) (keptB (zo Sb) (zB Sb)) sp m a).2) (nI a) := by
    intro e
    induction e with
    | zero =>
      intro a ha
      have ha : a = zo Sb := ha
      subst ha
      have hn := nx_t hK sp m
      have K1 := K _ _ hn.symm
      have c8 := n8 (zo Sb) (Nat.le_refl _)
      refine q_L_law_1239 _ _ _ _ _ _ _ _ _ _ _ _ _ hL ⟨fun _ => ⟨fun z => ?_, fun z => ?_⟩, fun z => absurd (nI_le (Nat.le_refl _) (by omega)) z⟩
      · unfold nxv at z K1 ⊢
        by_cases y : (nxS (s_wrk Sb) (s_szs Sb) (keptB (zo Sb) (zB Sb)) sp m (zo Sb)).1 < 8
        · rw [if_pos y] at z
          exact absurd z (nI_pos (by omega))
        · rw [if_neg y, if_neg y] at K1
          rw [if_neg y]
          exact K1
      · unfold nxv at z K1 ⊢
        by_cases y : (nxS (s_wrk Sb) (s_szs Sb) (keptB (zo Sb) (zB Sb)) sp m (zo Sb)).1 < 8
        · rw [if_pos y, if_pos y] at K1
          rw [if_pos y]
          exact K1
        · rw [if_neg y] at z
          exact absurd (by decide) z
    | succ e ih =>
      intro a ha
      have ih := ih (a + 1) (by omega)
      have ha3 : a < 3 := by omega
      have hm8 : m < 8 := by omega
      have hw8 := or_lt_t hm (show a < zo Sb by omega)
      have hob := or_bit m (by omega) a (by omega)
      have hka : keptB (zo Sb) (zB Sb) a = true := by rw [hK.kept, decide_eq_true (by omega)]
      have enx : nxS (s_wrk Sb) (s_szs Sb) (keptB (zo Sb) (zB Sb)) sp m (a + 1) = if (m.testBit a = false ∧ keptB (zo Sb) (zB Sb) a = true ∧ s_szs Sb (m ||| 2 ^ a) ≤ sp) ∧ s_wrk Sb (m ||| 2 ^ a) < (nxS (s_wrk Sb) (s_szs Sb) (keptB (zo Sb) (zB Sb)) sp m a).2 then (a, s_wrk Sb (m ||| 2 ^ a)) else nxS (s_wrk Sb) (s_szs Sb) (keptB (zo Sb) (zB Sb)) sp m a := rfl
      have skip : ¬ ((m.testBit a = false ∧ keptB (zo Sb) (zB Sb) a = true ∧ s_szs Sb (m ||| 2 ^ a) ≤ sp) ∧ s_wrk Sb (m ||| 2 ^ a) < (nxS (s_wrk Sb) (s_szs Sb) (keptB (zo Sb) (zB Sb)) sp m a).2) → J_L_law_1239 g b L xs kM nM σ r0 (nI (zo Sb)) (nI (zq Sb)) (nI sp) (nI (s_wrk Sb (s_bst Sb sp))) (Q 4) (nI m) (nI c) (nxv (nxS (s_wrk Sb) (s_szs Sb) (keptB (zo Sb) (zB Sb)) sp m a).1) (nI (nxS (s_wrk Sb) (s_szs Sb) (keptB (zo Sb) (zB Sb)) sp m a).2) (nI a + 1) := fun z => by
        rw [enx, if_neg z] at ih
        rw [nI_1]
        exact ih
      have e2 : nI m ||| ((1 : Int32) <<< (nI a &&& 31)) = nI (m ||| 2 ^ a) := bs_with m (by omega) a (by omega)
      refine q_L_law_1239 _ _ _ _ _ _ _ _ _ _ _ _ _ hL ⟨fun z => absurd ((nI_leI (by omega) (by omega)).mp z) (by omega), fun _ => ?_⟩
      rw [e2]
      have pages : ∀ (e2 o : Nat), o + e2 = zo Sb → J_L_law_1261 g b L xs kM nM σ r0 (nI (zo Sb)) (nI (zq Sb)) (nI sp) (nI (s_wrk Sb (s_bst Sb sp))) (Q 4) (nI m) (nI c) (nxv (nxS (s_wrk Sb) (s_szs Sb) (keptB (zo Sb) (zB Sb)) sp m a).1) (nI (nxS (s_wrk Sb) (s_szs Sb) (keptB (zo Sb) (zB Sb)) sp m a).2) (nI a) (nI (m ||| 2 ^ a)) (nI (sumO (fun w => szO w.2.2.1) (zB Sb) (m ||| 2 ^ a) o)) (nI o) := by
        intro e2
        induction e2 with
        | zero =>
          intro o ho
          have ho : o = zo Sb := ho
          subst ho
          have hz : sumO (fun w => szO w.2.2.1) (zB Sb) (m ||| 2 ^ a) (zo Sb) = s_szs Sb (m ||| 2 ^ a) := rfl
          rw [hz]
          have hzz := hz30 (m ||| 2 ^ a)
          have hww := hw30 (m ||| 2 ^ a)
          have hnn := n30 a
          refine q_L_law_1261 _ _ _ _ _ _ _ _ _ _ _ _ _ _ _ _ hL ⟨fun _ => ⟨fun z => ?_, fun z => ⟨fun z2 => ?_, fun z2 => AI.of (h.c4 (by decide)) rfl (by omega) (by decide) ?_⟩⟩, fun z => absurd (nI_le (Nat.le_refl _) (by omega)) z⟩
          · have z := hob.1.mp ((nI_eq (by omega) (by omega)).mp z)
            exact skip fun y => by rw [y.1.1] at z; cases z
          · have z2 := (nI_ltI (by omega) (by omega)).mp z2
            exact skip fun y => by have := y.1.2.2; omega
          · have z : m.testBit a = false := by
              rcases Bool.eq_false_or_eq_true (m.testBit a) with y | y
              · exact absurd (by rw [hob.1.mpr y]) z
              · exact y
            have z2 : ¬ sp < s_szs Sb (m ||| 2 ^ a) := fun y => z2 (nI_lt y (by omega))
            rw [hwk _ hw8]
            refine ⟨fun z3 => ?_, fun z3 => AI.of (h.c4 (by decide)) rfl (by omega) (by decide) ?_⟩
            · have z3 := (nI_leI (by omega) (by omega)).mp z3
              exact skip fun y => by have := y.2; omega
            · have z3 : ¬ (nxS (s_wrk Sb) (s_szs Sb) (keptB (zo Sb) (zB Sb)) sp m a).2 ≤ s_wrk Sb (m ||| 2 ^ a) := fun y => z3 (nI_le y (by omega))
              rw [hwk _ hw8, nI_1]
              rw [enx, if_pos ⟨⟨z, hka, by omega⟩, by omega⟩] at ih
              have e4 : nxv a = nI a := if_pos (by omega)
              have ih : J_L_law_1239 g b L xs kM nM σ r0 (nI (zo Sb)) (nI (zq Sb)) (nI sp) (nI (s_wrk Sb (s_bst Sb sp))) (Q 4) (nI m) (nI c) (nxv a) (nI (s_wrk Sb (m ||| 2 ^ a))) (nI (a + 1)) := ih
              rw [e4] at ih
              exact ih
        | succ e2 ih2 =>
          intro o ho
          have ih2 := ih2 (o + 1) (by omega)
          have hbit := bs_has1 (m ||| 2 ^ a) (by omega) o (by omega)
          have hd := hK.2 o (by omega)
          refine q_L_law_1261 _ _ _ _ _ _ _ _ _ _ _ _ _ _ _ _ hL ⟨fun z => absurd ((nI_leI (by omega) (by omega)).mp z) (by omega), fun _ => ⟨fun z => ?_, fun z => ⟨⟨hk1, hk2⟩, h.rc, h.rd (fun R k => rd_about k (nI o) 3) ?_⟩⟩⟩
          · have z : (m ||| 2 ^ a).testBit o = false := by
              rcases Bool.eq_false_or_eq_true ((m ||| 2 ^ a).testBit o) with y | y
              · exact absurd (hbit.mpr y) z
              · exact y
            simp only [sumO, z] at ih2
            rw [nI_p0, nI_1]
            exact ih2
          · have z := hbit.mp z
            have hab : v_about (zch Sb (zc Sb) st) (nI o) 3 = nI (szO (zB Sb o).2.1.2.2.1) := v_about_3 (S := zch Sb (zc Sb) st) (by show o < zo Sb; omega) h8 hd
            rw [hab, nI_add, nI_1]
            simp only [sumO, z, hd, true_and, if_true] at ih2
            exact ih2
      exact pages (zo Sb) 0 (by omega)
  exact loop (zo Sb) 0 (by omega)
end LST
