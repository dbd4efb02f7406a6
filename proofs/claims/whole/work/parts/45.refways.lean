/-! The reference: looks by a way's number; what is foretold; counts. -/
theorem lk_none {W : WL} {y : Int32} (h : ∀ x, x ∈ W → nI x.1 ≠ y) : ¬ wayPl W y < W.length := fun z => by
  have h1 := fa_first_yes (fun i => decide (nI (W.getD i (0, 0, 0)).1 = y)) W.length z
  have h1 := of_decide_eq_true h1
  unfold wayPl at z
  rw [getD_at z] at h1
  exact h _ (List.getElem_mem z) h1
theorem lk_some {W : WL} {y : Int32} {c : Nat} (h : ∃ x, x ∈ W ∧ nI x.1 = y) (h2 : ∀ x, x ∈ W → nI x.1 = y → x.2.2 = c) : wayPl W y < W.length ∧ (W.getD (wayPl W y) (0, 0, 0)).2.2 = c := by
  have hlt : wayPl W y < W.length := by
    obtain ⟨x, hx, hx2⟩ := h
    obtain ⟨p, hp, he⟩ := List.mem_iff_getElem.mp hx
    unfold wayPl
    rcases Nat.lt_or_ge (fa_first (fun j => decide (nI (W.getD j (0, 0, 0)).1 = y)) W.length) W.length with z | z
    · exact z
    · have := fa_first_no (fun j => decide (nI (W.getD j (0, 0, 0)).1 = y)) W.length p (by omega)
      exact absurd (by rw [getD_at hp, he]; exact hx2) (of_decide_eq_false this)
  have h1 := fa_first_yes (fun i => decide (nI (W.getD i (0, 0, 0)).1 = y)) W.length hlt
  have h1 := of_decide_eq_true h1
  refine ⟨hlt, h2 _ ?_ h1⟩
  show W.getD (wayPl W y) (0, 0, 0) ∈ W
  rw [getD_at hlt]
  exact List.getElem_mem hlt
theorem W_in (S : SS) (q : Nat) (x : Nat × Nat × Nat) : x ∈ s_W S q ↔ (x = (0, 0, tabL (zf S) (zt S) (zw S) (zQ S q)) ∨ ∃ j, j < 8 ∧ keptB (zo S) (zB S) j = true ∧ x = (1 + j, 2 ^ j, oneO (zf S) (zt S) (zw S) (zQ S q) (zB S j))) ∨ ∃ j p, j < p ∧ p < 8 ∧ keptB (zo S) (zB S) j = true ∧ keptB (zo S) (zB S) p = true ∧ x = (100 + 10 * j + p, 2 ^ j ||| 2 ^ p, twoO (zf S) (zt S) (zw S) (zQ S q) (zB S j) (zB S p)) := by
  have h := allW_in (zf S) (zt S) (zw S) (zo S) (zB S) (zQ S q) 8 (Nat.le_refl _) x
  unfold s_W
  rw [h]
  unfold inW1 inW2
  constructor
  · rintro (a | ⟨j, p, h1, h2, h3, h4, h5, h6⟩)
    · exact Or.inl a
    · exact Or.inr ⟨j, p, h1, h2, h4, h5, h6⟩
  · rintro (a | ⟨j, p, h1, h2, h4, h5, h6⟩)
    · exact Or.inl a
    · exact Or.inr ⟨j, p, h1, h2, Or.inl (by omega), h4, h5, h6⟩
def lkR (S : SS) (q : Nat) (y : Int32) : Int32 := if wayPl (s_W S q) y < (s_W S q).length then nI (s_cost S q (wayPl (s_W S q) y)) else -1
theorem lkR_none {S : SS} {q : Nat} {y : Int32} (h : ∀ x, x ∈ s_W S q → nI x.1 ≠ y) : lkR S q y = -1 := if_neg (lk_none h)
theorem lkR_some {S : SS} {q c : Nat} {y : Int32} (h : ∃ x, x ∈ s_W S q ∧ nI x.1 = y) (h2 : ∀ x, x ∈ s_W S q → nI x.1 = y → x.2.2 = c) : lkR S q y = nI c := by
  obtain ⟨h1, h3⟩ := lk_some h h2
  unfold lkR s_cost
  rw [if_pos h1, h3]
theorem kept_lt {told k : Nat} {B : Nat → OD} (h : keptB told B k = true) : k < told ∧ (B k).2.2 = false := by
  unfold keptB at h
  rw [Bool.and_eq_true] at h
  exact ⟨of_decide_eq_true h.1, by cases hb : (B k).2.2 <;> simp_all⟩
section RQD
variable {g : GG} {σ : Hs} {R : Nat → Nat} {S : SS} {X : Nat → Int32} {A : Nat → Nat → Int32} {hh : Int64}
theorem rr_looksOf (h : RQ g σ R S X A hh) (v : Iv S) {q : Nat} (hq : q < zq S) (y : Int32) : Rd g M_X12_looksOf [.ref (R 300), .int (nI q), .int y] σ (lkR S q y) := by
  have h8 := v.o8
  refine q_X12_looksOf _ _ _ ⟨fun c => (rd_in y 1 8 (by decide) (by decide)).use ⟨fun c2 => ?_, fun c2 => ?_⟩, fun c => ⟨h.1.rc, (rr_looksByTable h v hq).use (rd_i ?_)⟩⟩
  · have c2 := of_decide_eq_false (b2_0.mp c2)
    have c0 : y.toInt ≠ 0 := fun z => c (by rw [I_eq, z]; rfl)
    refine ⟨fun c3 => rd_i (Eq.symm (lkR_none fun x hx e => ?_)), fun c3 => ?_⟩
    · have c3 := (lt_n (n := 100) (by decide)).mp c3
      rcases (W_in S q x).mp hx with (z | ⟨j, hj, hk, z⟩) | ⟨j, p, h1, h2, h3, h4, z⟩
      · rw [z] at e; exact c e.symm
      · rw [z] at e; rw [← e, I_n (by show 1 + j < 2 ^ 31; omega)] at c2; exact c2 ⟨by show _ ≤ ((1 + j : Nat) : Int); omega, by show ((1 + j : Nat) : Int) ≤ _; omega⟩
      · rw [z] at e; rw [← e, I_n (by show 100 + 10 * j + p < 2 ^ 31; omega)] at c3; have : ((100 + 10 * j + p : Nat) : Int) < 100 := c3; omega
    · have c3 := nlt_n (n := 100) (by decide) c3
      obtain ⟨n, hn, rfl⟩ := I_of (x := y) (n := 2 ^ 31) (by omega) (by have := Int32.toInt_lt y; omega) (by decide)
      rw [I_n hn] at c3
      rw [show nI n - 100 = nI (n - 100) from pk_sub (b := 100) (by omega), show nI (n - 100) / 10 = nI ((n - 100) / 10) from pk_div (d := 10) (by omega) (by decide) (by decide), show nI (n - 100) - nI ((n - 100) / 10) * 10 = nI ((n - 100) % 10) from by
        rw [show nI ((n - 100) / 10) * 10 = nI ((n - 100) / 10 * 10) from pk_mul _ 10, pk_sub (Nat.div_mul_le_self _ _)]
        congr 1
        omega]
      have hdm : n = 100 + 10 * ((n - 100) / 10) + (n - 100) % 10 := by omega
      have hm10 : (n - 100) % 10 < 10 := Nat.mod_lt _ (by decide)
      have none : (∀ j p, j < p → p < 8 → keptB (zo S) (zB S) j = true → keptB (zo S) (zB S) p = true → 100 + 10 * j + p ≠ n) → lkR S q (nI n) = -1 := by
        intro hno
        refine lkR_none fun x hx e => ?_
        rcases (W_in S q x).mp hx with (z | ⟨j, hj, hk, z⟩) | ⟨j, p, h1, h2, h3, h4, z⟩
        · rw [z] at e; have := (nI_eq (a := 0) (by decide) hn).mp e; omega
        · rw [z] at e; have := (nI_eq (by show 1 + j < 2 ^ 31; omega) hn).mp e; omega
        · rw [z] at e; exact hno j p h1 h2 h3 h4 ((nI_eq (by show 100 + 10 * j + p < 2 ^ 31; omega) hn).mp e)
      generalize ho : (n - 100) / 10 = o at *
      generalize hp : (n - 100) % 10 = p at *
      refine ⟨fun c4 => rd_i (Eq.symm (none fun j p' h1 h2 h3 h4 e => ?_)), fun c4 => ⟨h.1.rc, (rr_isOrder h h8 _).use ?_⟩⟩
      · have c4 := (nI_leI (by omega) (by omega)).mp c4
        omega
      · have c4 : o < p := Nat.lt_of_not_le fun z => c4 (nI_le z (by omega))
        rw [isO_kept (by omega)]
        refine ⟨fun c5 => rd_i (Eq.symm (none fun j p' h1 h2 h3 h4 e => ?_)), fun c5 => ⟨h.1.rc, (rr_isOrder h h8 _).use ?_⟩⟩
        · rw [show j = o by omega, b2_0.mp c5] at h3; cases h3
        · rw [isO_kept (by omega)]
          refine ⟨fun c6 => rd_i (Eq.symm (none fun j p' h1 h2 h3 h4 e => ?_)), fun c6 => ⟨h.1.rc, ?_⟩⟩
          · rw [show p' = p by omega, b2_0.mp c6] at h4; cases h4
          · have k5 := kept_lt (b2_n0.mp c5)
            have k6 := kept_lt (b2_n0.mp c6)
            refine (rr_looksByBoth h v hq k5.1 k5.2 k6.1 k6.2).use (rd_i (Eq.symm (lkR_some ⟨_, (W_in S q _).mpr (Or.inr ⟨o, p, c4, by omega, b2_n0.mp c5, b2_n0.mp c6, rfl⟩), by show nI (100 + 10 * o + p) = nI n; rw [← hdm]⟩ fun x hx e => ?_)))
            rcases (W_in S q x).mp hx with (z | ⟨j, hj, hk, z⟩) | ⟨j, p', h1, h2, h3, h4, z⟩
            · rw [z] at e; have := (nI_eq (a := 0) (by decide) hn).mp e; omega
            · rw [z] at e; have := (nI_eq (by show 1 + j < 2 ^ 31; omega) hn).mp e; omega
            · rw [z] at e
              have e := (nI_eq (by show 100 + 10 * j + p' < 2 ^ 31; omega) hn).mp e
              rw [z]
              rw [show j = o by omega, show p' = p by omega]
  · have c2 := of_decide_eq_true (b2_n0.mp c2)
    obtain ⟨n, hn, rfl⟩ := I_of (x := y) (n := 9) (by omega) (by omega) (by decide)
    rw [I_n (by omega)] at c2
    rw [nI_s1 (by omega)]
    refine ⟨h.1.rc, (rr_isOrder h h8 _).use ?_⟩
    rw [isO_kept (by omega)]
    refine ⟨fun c3 => rd_i (Eq.symm (lkR_none fun x hx e => ?_)), fun c3 => ⟨h.1.rc, ?_⟩⟩
    · rcases (W_in S q x).mp hx with (z | ⟨j, hj, hk, z⟩) | ⟨j, p, h1, h2, h3, h4, z⟩
      · rw [z] at e; exact c e.symm
      · rw [z] at e
        have e := (nI_eq (by show 1 + j < 2 ^ 31; omega) (by omega)).mp e
        rw [show j = n - 1 by omega, b2_0.mp c3] at hk; cases hk
      · rw [z] at e; have := (nI_eq (by show 100 + 10 * j + p < 2 ^ 31; omega) (by omega)).mp e; omega
    · have k3 := kept_lt (b2_n0.mp c3)
      refine (rr_looksBy h v hq k3.1 k3.2).use (rd_i (Eq.symm (lkR_some ⟨_, (W_in S q _).mpr (Or.inl (Or.inr ⟨n - 1, by omega, b2_n0.mp c3, rfl⟩)), by show nI (1 + (n - 1)) = nI n; rw [show 1 + (n - 1) = n by omega]⟩ fun x hx e => ?_)))
      rcases (W_in S q x).mp hx with (z | ⟨j, hj, hk, z⟩) | ⟨j, p, h1, h2, h3, h4, z⟩
      · rw [z] at e; exact absurd e.symm c
      · rw [z] at e
        have e := (nI_eq (by show 1 + j < 2 ^ 31; omega) (by omega)).mp e
        rw [z, show j = n - 1 by omega]
      · rw [z] at e; have := (nI_eq (by show 100 + 10 * j + p < 2 ^ 31; omega) (by omega)).mp e; omega
  · subst c
    refine Eq.symm (lkR_some ⟨_, (W_in S q _).mpr (Or.inl (Or.inl rfl)), rfl⟩ fun x hx e => ?_)
    rcases (W_in S q x).mp hx with (z | ⟨j, hj, hk, z⟩) | ⟨j, p, h1, h2, h3, h4, z⟩
    · rw [z]
    · rw [z] at e; have := (nI_eq (b := 0) (by show 1 + j < 2 ^ 31; omega) (by decide)).mp e; omega
    · rw [z] at e; have := (nI_eq (b := 0) (by show 100 + 10 * j + p < 2 ^ 31; omega) (by decide)).mp e; omega
theorem Iv.wok (v : Iv S) (q : Nat) : wOk (s_W S q) ∧ wDif (s_W S q) := allW_ok _ _ _ _ _ _ (fun o ho => v.os ho)
theorem rr_looks (h : RQ g σ R S X A hh) (v : Iv S) (x y : Int32) : Rd g M_X12_looks [.ref (R 300), .int x, .int y] σ (v_looks S x y) := by
  have h8 := v.q8
  unfold v_looks
  refine q_X12_looks _ _ _ ⟨h.1.rc, (rr_isQuestion h h8 x).use ⟨fun c => ⟨h.1.rc, ?_⟩, fun c => rd_i ?_⟩⟩
  · have c := b2_n0.mp c
    obtain ⟨q, hq, rfl⟩ := inR_of c (by omega)
    rw [if_t c, nn_i (by omega)]
    refine (rr_looksOf h v hq y).use ⟨fun c2 => rd_i ?_, fun c2 => rd_i ?_⟩
    · unfold lkR at c2 ⊢
      by_cases z : wayPl (s_W S q) y < (s_W S q).length
      · rw [if_pos z, if_pos z]
      · rw [if_neg z] at c2; exact absurd rfl c2
    · unfold lkR at c2
      by_cases z : wayPl (s_W S q) y < (s_W S q).length
      · rw [if_pos z] at c2
        have := ((v.wok q).1.2.2.2 _ z).2
        exact absurd c2 (nI_neg (by unfold s_cost; omega))
      · rw [if_neg z]
  · rw [if_f (b2_0.mp c)]
/-! pictures, and what they foretell -/
theorem i123 (c i : Nat) : 12 * nI c + 3 * nI i = nI (12 * c + 3 * i) := by rw [show (12 : Int32) * nI c = nI (12 * c) from pk_mul 12 c, show (3 : Int32) * nI i = nI (3 * i) from pk_mul 3 i, nI_add]
theorem pt_small {S : SS} (v : Iv S) {c i : Nat} (hc : c < 4) (hi : i < 4) : (zP S c).2.1 i ≤ 16 ∧ 0 ≤ ((zP S c).2.2.1 i).toInt ∧ ((zP S c).2.2.1 i).toInt ≤ ((zP S c).2.2.2 i).toInt ∧ ((zP S c).2.2.2 i).toInt ≤ 99 := v.1.2.2.1.1 c hc i hi
theorem rr_partOf (h : RQ g σ R S X A hh) (v : Iv S) {c i w : Nat} (hc : c < 4) (hi : i < 4) (hw : w < 3) : Rd g M_X12_partOf [.ref (R 300), .int (nI c), .int (nI i), .int (nI w)] σ (v_pt (zP S c) i (nI w)) := by
  obtain ⟨e22, e0, e1⟩ := h.pic.2 c hc
  have hsm := (pt_small v hc hi).1
  refine q_X12_partOf _ _ _ _ (h.1.r 22 (fun _ _ _ => rfl) (h.1.a 22 rfl rfl rfl (show c < 4 from hc) ?_))
  rw [e22]
  refine ⟨fun z => rd_i ?_, fun z => h.1.r 23 (fun _ _ _ => rfl) (h.1.a 23 rfl rfl (i123 c i) (show _ < 48 by omega) ?_)⟩
  · unfold v_pt
    rw [if_pos (e0 (b2_0.mp z) i hi)]
  · obtain ⟨a0, a12⟩ := e1 (b2_n0.mp z) i hi
    rw [a0]
    refine ⟨fun z2 => rd_i ?_, fun z2 => h.1.r 23 (fun _ _ _ => rfl) (h.1.a 23 rfl rfl (by rw [i123, nI_add]) (show 12 * c + 3 * i + w < 48 by omega) (rd_i ?_))⟩
    · have z2 := (nI_leI (b := 0) (by omega) (by decide)).mp z2
      unfold v_pt
      rw [if_pos (by omega)]
    · have z2 : (zP S c).2.1 i ≠ 0 := fun y => z2 (nI_le (b := 0) (by omega) (by decide))
      obtain ⟨a1, a2⟩ := a12 z2
      unfold v_pt
      rw [if_neg z2]
      rcases (show w = 0 ∨ w = 1 ∨ w = 2 by omega) with rfl | rfl | rfl
      · rw [Nat.add_zero, a0]; rfl
      · rw [a1]; rfl
      · rw [a2]; rfl
theorem rr_part (h : RQ g σ R S X A hh) (v : Iv S) (x y z : Int32) : Rd g M_X12_part [.ref (R 300), .int x, .int y, .int z] σ (v_part S x y z) := by
  unfold v_part
  refine q_X12_part _ _ _ _ ((rd_inR x 3 (by decide)).use ⟨fun c => (rd_inR y 3 (by decide)).use ⟨fun c2 => rd_i ?_, fun c2 => (rd_inR z 2 (by decide)).use ⟨fun c3 => rd_i ?_, fun c3 => ⟨h.1.rc, ?_⟩⟩⟩, fun c => rd_i ?_⟩)
  · rw [if_t (b2_n0.mp c), if_f (b2_0.mp c2)]
  · rw [if_t (b2_n0.mp c), if_t (b2_n0.mp c2), if_f (b2_0.mp c3)]
  · have c := b2_n0.mp c
    have c2 := b2_n0.mp c2
    have c3 := b2_n0.mp c3
    rw [if_t c, if_t c2, if_t c3]
    obtain ⟨k, hk, rfl⟩ := inR_of c (by decide)
    obtain ⟨i, hi, rfl⟩ := inR_of c2 (by decide)
    obtain ⟨w, hw, rfl⟩ := inR_of c3 (by decide)
    rw [nn_i (by omega), nn_i (by omega)]
    exact (rr_partOf h v hk hi hw).use (rd_i rfl)
  · rw [if_f (b2_0.mp c)]
def ftW (P : PD) (l r : Int32) (t i : Nat) : Nat := if t = 0 then sureW P l r i else if t = 1 then perhW P l r i else likeW P l r i
theorem sh_one {a b : Int32} {n : Nat} (ha : small a) (hb : small b) (h : (n : Int) = b.toInt - a.toInt + 1) : (b - a) + 1 = nI n := by
  obtain ⟨a1, a2⟩ := ha
  obtain ⟨b1, b2⟩ := hb
  have e1 := I_sub (a := b) (b := a) (by omega) (by omega) (by omega) (by omega)
  have e2 := I_add (a := b - a) (b := 1) (by omega) (by omega) (by decide) (by decide)
  rw [I_1, e1] at e2
  rw [I_eq, I_n (by omega), e2]
  omega
theorem perhW_le {P : PD} (h : PicOk P) (l r : Int32) : ∀ k, k ≤ 4 → perhW P l r k ≤ 16 * k
  | 0, _ => Nat.le_refl 0
  | k + 1, hk => by
    have ih := perhW_le h l r k (by omega)
    have h1 := (h k (by omega)).1
    rw [perhW_s]
    split <;> omega
theorem rr_foretoldOf (h : RQ g σ R S X A hh) (v : Iv S) {c t : Nat} {l r : Int32} (hc : c < 4) (hp : (zP S c).1 = true) (ht : t < 3) (hl : small l) (hr : small r) : Rd g M_X12_foretoldOf [.ref (R 300), .int (nI c), .int l, .int r, .int (nI t)] σ (nI (ftW (zP S c) l r t 4)) := by
  obtain ⟨-, -, e1⟩ := h.pic.2 c hc
  have e1 := e1 hp
  generalize hP : zP S c = P at *
  have hsm : ∀ i, i < 4 → P.2.1 i ≤ 16 ∧ 0 ≤ (P.2.2.1 i).toInt ∧ (P.2.2.1 i).toInt ≤ (P.2.2.2 i).toInt ∧ (P.2.2.2 i).toInt ≤ 99 := fun i hi => by rw [← hP]; exact pt_small v hc hi
  have loop : ∀ (d i : Nat), i + d = 4 → J_X12_foretoldOf_6 g (kI fun x σ' => σ' = σ ∧ x = nI (ftW P l r t 4)) σ (R 300) (nI c) l r (nI t) (nI (ftW P l r t i)) (nI i) := by
    intro d
    induction d with
    | zero =>
      intro i hi
      exact q_X12_foretoldOf_6 _ _ _ _ _ _ _ ⟨fun _ => rd_i (by rw [show i = 4 by omega]), fun z => absurd (nI_le (a := 4) (by omega) (by omega)) z⟩
    | succ d ih =>
      intro i hi
      have ih := ih (i + 1) (by omega)
      obtain ⟨p16, q0, q1, q2⟩ := hsm i (by omega)
      obtain ⟨a0, a12⟩ := e1 i (by omega)
      refine q_X12_foretoldOf_6 _ _ _ _ _ _ _ ⟨fun z => absurd ((nI_leI (a := 4) (by decide) (by omega)).mp z) (by omega), fun _ => h.1.r 23 (fun _ _ _ => rfl) (h.1.a 23 rfl rfl (i123 c i) (show _ < 48 by omega) (h.1.r 23 (fun _ _ _ => rfl) (h.1.a 23 rfl rfl (by rw [i123, nI_1]) (show 12 * c + 3 * i + 1 < 48 by omega) (h.1.r 23 (fun _ _ _ => rfl) (h.1.a 23 rfl rfl (show 12 * nI c + 3 * nI i + 2 = nI (12 * c + 3 * i + 2) from by rw [i123]; exact nI_add _ 2) (show 12 * c + 3 * i + 2 < 48 by omega) ?_)))))⟩
      rw [a0]
      by_cases zc : P.2.1 i = 0
      · refine ⟨fun _ => ?_, fun z => absurd (nI_le (b := 0) (by omega) (by decide)) z⟩
        rw [nI_1]
        have e : ftW P l r t (i + 1) = ftW P l r t i := by
          unfold ftW
          rw [sureW_s, perhW_s, show likeW P l r (i + 1) = likeW P l r i + P.2.1 i * shN (P.2.2.1 i) (P.2.2.2 i) l r / spN (P.2.2.1 i) (P.2.2.2 i) from rfl, zc]
          simp
        rw [e] at ih
        exact ih
      · refine ⟨fun z => absurd ((nI_leI (b := 0) (by omega) (by decide)).mp z) (by omega), fun _ => ?_⟩
        obtain ⟨a1, a2⟩ := a12 zc
        rw [a1, a2]
        have hlo : small (P.2.2.1 i) := ⟨by omega, by omega⟩
        have hhi : small (P.2.2.2 i) := ⟨by omega, by omega⟩
        have hsp : (P.2.2.2 i - P.2.2.1 i) + 1 = nI (spN (P.2.2.1 i) (P.2.2.2 i)) := sh_one hlo hhi (by unfold spN; omega)
        have hsp1 : 1 ≤ spN (P.2.2.1 i) (P.2.2.2 i) ∧ spN (P.2.2.1 i) (P.2.2.2 i) ≤ 100 := by unfold spN; omega
        have hsh : shN (P.2.2.1 i) (P.2.2.2 i) l r ≤ spN (P.2.2.1 i) (P.2.2.2 i) := shN_le
        have j115 : ∀ x : Int32, x = nI (shN (P.2.2.1 i) (P.2.2.2 i) l r) → J_X12_foretoldOf_115 g (kI fun x σ' => σ' = σ ∧ x = nI (ftW P l r t 4)) σ (R 300) (nI c) l r (nI t) (nI (ftW P l r t i)) (nI i) (nI (P.2.1 i)) (P.2.2.1 i) (P.2.2.2 i) x := by
          intro x hx
          subst hx
          refine q_X12_foretoldOf_115 _ _ _ _ _ _ _ _ _ _ _ ⟨fun t0 => ⟨fun t1 => ⟨?_, ?_⟩, fun t1 => ⟨fun z => ?_, fun z => ?_⟩⟩, fun t0 => ⟨fun z => ?_, fun z => ?_⟩⟩
          · rw [hsp]
            exact fun z => absurd ((nI_eq (b := 0) (by omega) (by decide)).mp z) (by omega)
          · have t0 : t ≠ 0 := fun z => t0 (by rw [z]; rfl)
            have t1 : t ≠ 1 := fun z => t1 (by rw [z]; rfl)
            have hm : P.2.1 i * shN (P.2.2.1 i) (P.2.2.2 i) l r ≤ 16 * 100 := Nat.mul_le_mul p16 (by omega)
            rw [hsp, pk_mul, pk_div (by omega) (by omega) (by omega), nI_add, nI_1]
            have e : ftW P l r t (i + 1) = ftW P l r t i + P.2.1 i * shN (P.2.2.1 i) (P.2.2.2 i) l r / spN (P.2.2.1 i) (P.2.2.2 i) := by
              unfold ftW
              rw [if_neg t0, if_neg t1, if_neg t0, if_neg t1]
              rfl
            rw [e] at ih
            exact ih
          · have t1 : t = 1 := (nI_eq (b := 1) (by omega) (by decide)).mp t1
            have z := (nI_leI (b := 0) (by omega) (by decide)).mp z
            have e : ftW P l r t (i + 1) = ftW P l r t i := by
              unfold ftW
              rw [if_neg (by omega), if_pos t1, if_neg (by omega), if_pos t1, perhW_s, if_neg (by omega)]
              rfl
            rw [e] at ih
            rw [nI_p0, nI_1]
            exact ih
          · have t1 : t = 1 := (nI_eq (b := 1) (by omega) (by decide)).mp t1
            have z : 0 < shN (P.2.2.1 i) (P.2.2.2 i) l r := Nat.lt_of_not_le fun y => z (nI_le (b := 0) y (by decide))
            have e : ftW P l r t (i + 1) = ftW P l r t i + P.2.1 i := by
              unfold ftW
              rw [if_neg (by omega), if_pos t1, if_neg (by omega), if_pos t1, perhW_s, if_pos z]
            rw [e] at ih
            rw [nI_add, nI_1]
            exact ih
          · have t0 : t = 0 := (nI_eq (b := 0) (by omega) (by decide)).mp t0
            rw [hsp] at z
            have z : ¬ shN (P.2.2.1 i) (P.2.2.2 i) l r = spN (P.2.2.1 i) (P.2.2.2 i) := fun y => z (by rw [y])
            have e : ftW P l r t (i + 1) = ftW P l r t i := by
              unfold ftW
              rw [if_pos t0, if_pos t0, sureW_s, if_neg (fun y => z (by unfold shN spN; split <;> split <;> omega))]
              rfl
            rw [e] at ih
            rw [nI_p0, nI_1]
            exact ih
          · have t0 : t = 0 := (nI_eq (b := 0) (by omega) (by decide)).mp t0
            rw [hsp] at z
            have z := (nI_eq (by omega) (by omega)).mp z
            have e : ftW P l r t (i + 1) = ftW P l r t i + P.2.1 i := by
              unfold ftW
              rw [if_pos t0, if_pos t0, sureW_s, if_pos (by unfold shN spN at z; split at z <;> split at z <;> omega)]
            rw [e] at ih
            rw [nI_add, nI_1]
            exact ih
        refine ⟨fun c1 => ?_, fun c1 => ?_⟩
        · have c1 := I_le.mp c1
          refine q_X12_foretoldOf_81 _ _ _ _ _ _ _ _ _ _ _ ⟨fun c2 => ⟨fun c3 => j115 _ (sh_one hl hr ?_), fun c3 => j115 0 (congrArg nI (?_ : 0 = _))⟩, fun c2 => ⟨fun c3 => j115 _ (sh_one hl hhi ?_), fun c3 => j115 0 (congrArg nI (?_ : 0 = _))⟩⟩
          · have c2 := I_le.mp c2; have c3 := I_le.mp c3; unfold shN; split <;> split <;> omega
          · have c2 := I_le.mp c2; have c3 := mt I_le.mpr c3; unfold shN; split <;> split <;> omega
          · have c2 := mt I_le.mpr c2; have c3 := I_le.mp c3; unfold shN; split <;> split <;> omega
          · have c2 := mt I_le.mpr c2; have c3 := mt I_le.mpr c3; unfold shN; split <;> split <;> omega
        · have c1 := mt I_le.mpr c1
          refine q_X12_foretoldOf_81 _ _ _ _ _ _ _ _ _ _ _ ⟨fun c2 => ⟨fun c3 => j115 _ (sh_one hlo hr ?_), fun c3 => j115 0 (congrArg nI (?_ : 0 = _))⟩, fun c2 => ⟨fun c3 => j115 _ (sh_one hlo hhi ?_), fun c3 => j115 0 (congrArg nI (?_ : 0 = _))⟩⟩
          · have c2 := I_le.mp c2; have c3 := I_le.mp c3; unfold shN; split <;> split <;> omega
          · have c2 := I_le.mp c2; have c3 := mt I_le.mpr c3; unfold shN; split <;> split <;> omega
          · have c2 := mt I_le.mpr c2; have c3 := I_le.mp c3; unfold shN; split <;> split <;> omega
          · have c2 := mt I_le.mpr c2; have c3 := mt I_le.mpr c3; unfold shN; split <;> split <;> omega
  have e0 : ftW P l r t 0 = 0 := by unfold ftW; split <;> (try split) <;> rfl
  have h0 := loop 4 0 rfl
  rw [e0] at h0
  exact q_X12_foretoldOf _ _ _ _ _ h0
theorem rr_foretold (h : RQ g σ R S X A hh) (v : Iv S) (x l r z : Int32) : Rd g M_X12_foretold [.ref (R 300), .int x, .int l, .int r, .int z] σ (v_foretold S x l r z) := by
  unfold v_foretold
  refine q_X12_foretold _ _ _ _ _ ((rd_inR x 3 (by decide)).use ⟨fun c => (rd_inR z 2 (by decide)).use ⟨fun c2 => rd_i ?_, fun c2 => (rr_isNumber l).use ⟨fun c3 => rd_i ?_, fun c3 => (rd_inG r l 99).use ⟨fun c4 => h.1.r 22 (fun _ _ _ => rfl) ?_, fun c4 => rd_i ?_⟩⟩⟩, fun c => rd_i ?_⟩)
  · rw [if_t (b2_n0.mp c), if_f (b2_0.mp c2)]
  · rw [if_t (b2_n0.mp c), if_t (b2_n0.mp c2), if_f (b2_0.mp c3)]
  · have c := b2_n0.mp c
    have c2 := b2_n0.mp c2
    have c3 := b2_n0.mp c3
    obtain ⟨c4, c5⟩ := of_decide_eq_true (b2_n0.mp c4)
    have l0 := of_decide_eq_true c3
    have l1 := I_le.mp c4
    have r1 : r.toInt ≤ 99 := I_le.mp c5
    have c6 : inR r 100 = true := decide_eq_true (by omega)
    rw [if_t c, if_t c2, if_t c3, if_t c6, if_pos c4]
    obtain ⟨k, hk, rfl⟩ := inR_of c (by decide)
    obtain ⟨t, ht, rfl⟩ := inR_of c2 (by decide)
    rw [nn_i (by omega)]
    refine h.1.a 22 rfl rfl rfl (show k < 4 from hk) ?_
    rw [(h.pic.2 k hk).1]
    unfold v_ft
    refine ⟨fun c7 => rd_i ?_, fun c7 => ⟨h.1.rc, (rr_foretoldOf h v hk (b2_n0.mp c7) ht (num_small c3) (num_small c6)).use (rd_i ?_)⟩⟩
    · rw [if_f (b2_0.mp c7)]
    · rw [if_t (b2_n0.mp c7)]
      rcases (show t = 0 ∨ t = 1 ∨ t = 2 by omega) with rfl | rfl | rfl <;> rfl
  · have c3 := b2_n0.mp c3
    have c4 := of_decide_eq_false (b2_0.mp c4)
    rw [if_t (b2_n0.mp c), if_t (b2_n0.mp c2), if_t c3]
    rcases Bool.eq_false_or_eq_true (inR r 100) with y | y
    · have y2 := of_decide_eq_true y
      rw [if_t y, if_neg (fun w => c4 ⟨w, by rw [I_le]; show r.toInt ≤ 99; omega⟩)]
    · rw [if_f y]
  · rw [if_f (b2_0.mp c)]
end RQD
