/-! The reference: step by step. -/
theorem stpL_no {nx : Nat → Nat} {m : Nat} (h : ¬ nx m < 8) : ∀ e, stpL nx e m = [] ∧ stpE nx e m = m
  | 0 => ⟨rfl, rfl⟩
  | e + 1 => ⟨by rw [stpL_s, if_neg h], by rw [stpE_s, if_neg h]⟩
section RSP
variable {g : GG} {σ : Hs} {R : Nat → Nat} {S : SS} {X : Nat → Int32} {A : Nat → Nat → Int32} {hh : Int64}
theorem RQ.a37 {σ1 : Hs} {X1 : Nat → Int32} {A1 : Nat → Nat → Int32} (h : RQ g σ R S X A hh) (h1 : RC g σ1 R X1 A1 hh) (b : Bfr X X1) (k1 : ∀ k, k ≠ 37 → A1 k = A k) : RQ g σ1 R S X1 A1 hh := ⟨h1, h.2.eqs (fun i hi => b i (by omega) (by omega)) (fun k hk => k1 k (by omega))⟩
theorem steps_core (h : RQ g σ R S X A hh) (v : Iv S) (ht : ∀ q, q < zq S → TbQ S q (A 34)) {sp : Nat} (hsp : sp < 10000) (y : Int32) (hy : inR y 3 = true ∨ (10 ≤ y.toInt ∧ y.toInt < 18)) {post : Option Value → Hs → Prop} (fin : ∀ σ2 X2 A2, RC g σ2 R X2 A2 hh → Bfr X X2 → (∀ k, k ≠ 37 → A2 k = A k) → Sm R T3 σ σ2 → post (some (.int (v_stp S sp y))) σ2) : J_X12_steps_75 g post σ (R 300) (nI sp) y 0 (nI (s_wrk S 0)) 0 1 := by
  have h8 := v.o8
  have kp0 : ∀ o, zo S ≤ o → keptB (zo S) (zB S) o = false := fun o ho => keptB_ge (zo S) (zB S) ho
  -- one search for the next
  have find : ∀ (m k : Nat) (A1 : Nat → Nat → Int32), m < 256 → kpN S m (zo S) = true → (∀ k, k ≠ 37 → A1 k = A k) → (∀ (σ1 : Hs) (X1 : Nat → Int32), RC g σ1 R X1 A1 hh → Bfr X X1 → Sm R T3 σ σ1 → (nxI (s_nx S sp m) = -1 → J_X12_steps_173 g post σ1 (R 300) (nI sp) y (nI m) (nI (s_wrk S m)) (nI k) (nxI (s_nx S sp m)) (nI (nxS (s_wrk S) (s_szs S) (keptB (zo S) (zB S)) sp m 8).2) 0) ∧ (¬ nxI (s_nx S sp m) = -1 → J_X12_steps_173 g post σ1 (R 300) (nI sp) y (nI m) (nI (s_wrk S m)) (nI k) (nxI (s_nx S sp m)) (nI (nxS (s_wrk S) (s_szs S) (keptB (zo S) (zB S)) sp m 8).2) 1)) → ∀ (e o : Nat) (σ1 : Hs) (X1 : Nat → Int32), o + e = zo S → RC g σ1 R X1 A1 hh → Bfr X X1 → Sm R T3 σ σ1 → J_X12_steps_90 g post σ1 (R 300) (nI sp) y (nI m) (nI (s_wrk S m)) (nI k) (nxI (nxS (s_wrk S) (s_szs S) (keptB (zo S) (zB S)) sp m o).1) (nI (nxS (s_wrk S) (s_szs S) (keptB (zo S) (zB S)) sp m o).2) (nI o) := by
    intro m k A1 hm hkm k1 next e
    have w0 := v.wrk m
    have hl : ∀ o, (nxS (s_wrk S) (s_szs S) (keptB (zo S) (zB S)) sp m o).2 < 2 ^ 31 := by
      intro o
      induction o with
      | zero => exact w0
      | succ o ih =>
        simp only [nxS]
        split
        · exact v.wrk _
        · exact ih
    induction e with
    | zero =>
      intro o σ1 X1 ho h1 b1 s1
      have ho : o = zo S := ho
      subst ho
      have e := nxS_ge (s_wrk S) (s_szs S) (keptB (zo S) (zB S)) sp m (zo S) kp0 (8 - zo S)
      rw [show zo S + (8 - zo S) = 8 by omega] at e
      have next := next σ1 X1 h1 b1 s1
      unfold s_nx nxt at next
      rw [e] at next
      refine q_X12_steps_90 _ _ _ _ _ _ _ _ _ (h1.x 4 (fun _ _ _ => rfl) ?_)
      rw [(b1 4 (by decide) (by decide)).trans h.ord.1]
      exact ⟨fun _ => next, fun c => absurd (nI_le (Nat.le_refl _) (by omega)) c⟩
    | succ e ih =>
      intro o σ1 X1 ho h1 b1 s1
      have ho2 : o < zo S := by omega
      have ih := ih (o + 1)
      simp only [nxS] at ih
      have hlo := hl o
      generalize hn : nxS (s_wrk S) (s_szs S) (keptB (zo S) (zB S)) sp m o = n at *
      have r1 := h.a37 h1 b1 k1
      have e6 := (r1.ord.2 o ho2).2.1
      have hob := or_bit m hm o (by omega)
      have hkb := keptB_of ho2
      have stay : ∀ σ2 X2, RC g σ2 R X2 A1 hh → Bfr X X2 → Sm R T3 σ σ2 → ¬ ((m.testBit o = false ∧ keptB (zo S) (zB S) o = true ∧ s_szs S (m ||| 2 ^ o) ≤ sp) ∧ s_wrk S (m ||| 2 ^ o) < n.2) → J_X12_steps_90 g post σ2 (R 300) (nI sp) y (nI m) (nI (s_wrk S m)) (nI k) (nxI n.1) (nI n.2) (nI o + 1) := by
        intro σ2 X2 h2 b2 s2 z
        rw [if_neg z] at ih
        rw [nI_1]
        exact ih σ2 X2 (by omega) h2 b2 s2
      refine q_X12_steps_90 _ _ _ _ _ _ _ _ _ (h1.x 4 (fun _ _ _ => rfl) ?_)
      rw [(b1 4 (by decide) (by decide)).trans h.ord.1]
      refine ⟨fun c => absurd ((nI_leI (by omega) (by omega)).mp c) (by omega), fun _ => h1.r 6 (fun _ _ _ => rfl) (h1.a 6 rfl rfl rfl (show o < 8 by omega) ?_)⟩
      rw [e6, bs_with m hm o (by omega)]
      refine ⟨fun c => stay σ1 X1 h1 b1 s1 fun z => ?_, fun c => ⟨fun c2 => stay σ1 X1 h1 b1 s1 fun z => ?_, fun c2 => ⟨h1.rc, ?_⟩⟩⟩
      · have z := z.1.2.1
        rw [hkb, b2_n0.mp c] at z
        cases z
      · have c2 := (nI_eq (by omega) (by omega)).mp c2
        have z := z.1.1
        rw [hob.1.mp c2] at z
        cases z
      · have c := b2_0.mp c
        have hf : m.testBit o = false := by
          rcases Bool.eq_false_or_eq_true (m.testBit o) with w | w
          · exact absurd (by rw [hob.1.mpr w]) c2
          · exact w
        have hkm2 : kpN S (m ||| 2 ^ o) (zo S) = true := by
          rw [kpN_iff] at hkm ⊢
          intro j hj hb
          rw [Nat.testBit_or, Bool.or_eq_true, Nat.testBit_two_pow, decide_eq_true_eq] at hb
          rcases hb with z | rfl
          · exact hkm j hj z
          · exact c
        have hsz := v.szs (m ||| 2 ^ o)
        have hwk := v.wrk (m ||| 2 ^ o)
        refine (rr_spaceOf r1 v hob.2 hkm2).use ⟨fun c3 => stay σ1 X1 h1 b1 s1 fun z => ?_, fun c3 => ⟨h1.rc, DoI.use (rk_workOf r1 v (fun q hq => by rw [k1 34 (by decide)]; exact ht q hq) hob.2) ?_⟩⟩
        · have c3 := (nI_ltI (by omega) (by omega)).mp c3
          have := z.1.2.2
          omega
        · have c3 : s_szs S (m ||| 2 ^ o) ≤ sp := Nat.le_of_not_lt fun z => c3 (nI_lt z (by omega))
          rintro x σ2 ⟨rfl, X2, h2, b2, s2⟩
          have bb := b1.tr b2
          refine ⟨fun c4 => stay σ2 X2 h2 bb (s1.trans s2) fun z => ?_, fun c4 => ⟨h2.rc, DoI.use (rk_workOf (h.a37 h2 bb k1) v (fun q hq => by rw [k1 34 (by decide)]; exact ht q hq) hob.2) ?_⟩⟩
          · have c4 := (nI_leI hlo hwk).mp c4
            have := z.2
            omega
          · have c4 : s_wrk S (m ||| 2 ^ o) < n.2 := Nat.lt_of_not_le fun z => c4 (nI_le z hwk)
            rintro x σ3 ⟨rfl, X3, h3, b3, s3⟩
            rw [if_pos ⟨⟨hf, by rw [hkb, c]; rfl, c3⟩, c4⟩] at ih
            have ih := ih σ3 X3 (by omega) h3 (bb.tr b3) ((s1.trans s2).trans s3)
            rw [nI_1]
            have e8 : nxI o = nI o := if_pos (by omega)
            rw [← e8]
            exact ih
  -- the answer, once none comes
  have ans : ∀ (m k : Nat) (pre : List Nat) (σ1 : Hs) (X1 : Nat → Int32) (A1 : Nat → Nat → Int32), k ≤ 8 → fa_cnt m.testBit 8 = k → pre.length = k → s_stl S sp = pre → s_ste S sp = m → (∀ i, i < k → A1 37 i = nI (pre.getD i 0)) → RC g σ1 R X1 A1 hh → Bfr X X1 → (∀ k, k ≠ 37 → A1 k = A k) → Sm R T3 σ σ1 → J_X12_steps_75 g post σ1 (R 300) (nI sp) y (nI m) (nI (s_wrk S m)) (nI k) 0 := by
    intro m k pre σ1 X1 A1 hk8 hc hp hL hE hA h1 b1 k1 s1
    have fin := fin σ1 X1 A1 h1 b1 k1 s1
    unfold v_stp at fin
    rw [hL, hE, hp, hc] at fin
    refine q_X12_steps_75 _ _ _ _ _ _ _ ⟨fun _ => ⟨fun d => ⟨fun d1 => ⟨fun d2 => ?_, fun d2 => ?_⟩, fun d1 => ?_⟩, fun d => ?_⟩, fun z => absurd rfl z⟩
    · have h10 : 10 ≤ y.toInt ∧ y.toInt < 18 := by
        rcases hy with z | z
        · obtain ⟨j, hj, rfl⟩ := inR_of z (by decide)
          exfalso
          rcases (show j = 0 ∨ j = 1 ∨ j = 2 by omega) with rfl | rfl | rfl
          · exact d rfl
          · exact d1 rfl
          · exact d2 rfl
        · exact z
      obtain ⟨j, hj, rfl⟩ := I_of (x := y) (n := 18) (by omega) (by omega) (by decide)
      rw [I_n (by omega)] at h10
      rw [if_pos (show 10 ≤ (nI j).toInt by rw [I_n (by omega)]; omega), nn_i (by omega)] at fin
      rw [show nI j - 10 = nI (j - 10) from pk_sub (show 10 ≤ j by omega)]
      refine ⟨fun c => ?_, fun c => h1.r 37 (fun _ _ _ => rfl) (h1.a 37 rfl rfl rfl (show j - 10 < 8 by omega) ?_)⟩
      · have c := (nI_leI (by omega) (by omega)).mp c
        rw [if_neg (by omega)] at fin
        exact fin
      · have c : j - 10 < k := Nat.lt_of_not_le fun z => c (nI_le z (by omega))
        rw [if_pos c] at fin
        rw [hA _ c]
        exact fin
    · subst d2
      rw [if_neg (by decide), if_neg (by decide), if_neg (by decide)] at fin
      exact fin
    · subst d1
      rw [if_neg (by decide), if_neg (by decide), if_pos rfl] at fin
      exact fin
    · subst d
      rw [if_neg (by decide), if_pos rfl] at fin
      exact fin
  have noneW : ∀ m o, (nxS (s_wrk S) (s_szs S) (keptB (zo S) (zB S)) sp m o).1 = 8 → o ≤ 8 → (nxS (s_wrk S) (s_szs S) (keptB (zo S) (zB S)) sp m o).2 = s_wrk S m := by
    intro m o
    induction o with
    | zero => exact fun _ _ => rfl
    | succ o ih =>
      intro h h2
      simp only [nxS] at h ⊢
      split
      · rename_i c
        rw [if_pos c] at h
        have h : o = 8 := h
        omega
      · rename_i c
        rw [if_neg c] at h
        exact ih h (by omega)
  have main : ∀ (e k m : Nat) (pre : List Nat) (σ1 : Hs) (X1 : Nat → Int32) (A1 : Nat → Nat → Int32), k + e = 8 → m < 256 → kpN S m (zo S) = true → fa_cnt m.testBit 8 = k → pre.length = k → s_stl S sp = pre ++ stpL (s_nx S sp) e m → s_ste S sp = stpE (s_nx S sp) e m → (∀ i, i < k → A1 37 i = nI (pre.getD i 0)) → RC g σ1 R X1 A1 hh → Bfr X X1 → (∀ k, k ≠ 37 → A1 k = A k) → Sm R T3 σ σ1 → J_X12_steps_75 g post σ1 (R 300) (nI sp) y (nI m) (nI (s_wrk S m)) (nI k) 1 := by
    intro e
    induction e with
    | zero =>
      intro k m pre σ1 X1 A1 hk hm hkm hc hp hL hE hA h1 b1 k1 s1
      have hno : ¬ s_nx S sp m < 8 := by
        intro z
        have h2 : m.testBit (s_nx S sp m) = false := (nxS_is (s_wrk S) (s_szs S) (keptB (zo S) (zB S)) sp m 8 z).1
        have hk8 : fa_cnt m.testBit 8 = 8 := by omega
        have := (fa_cnt_full 8).mp hk8 _ z
        rw [h2] at this
        cases this
      have h8n : s_nx S sp m = 8 := by
        rcases nxS_1 (s_wrk S) (s_szs S) (keptB (zo S) (zB S)) sp m 8 with z | z
        · exact z
        · exact absurd z hno
      have en : nxI (s_nx S sp m) = -1 := if_neg hno
      rw [(stpL_no hno 0).1, List.append_nil] at hL
      rw [(stpL_no hno 0).2] at hE
      refine q_X12_steps_75 _ _ _ _ _ _ _ ⟨fun z => absurd z (by decide), fun _ => ?_⟩
      refine find m k A1 hm hkm k1 (fun σ2 X2 h2 b2 s2 => ⟨fun _ => ?_, fun z => absurd en z⟩) (zo S) 0 σ1 X1 (by omega) h1 b1 s1
      rw [noneW m 8 h8n (Nat.le_refl _)]
      exact q_X12_steps_173 _ _ _ _ _ _ _ _ _ ⟨fun _ => ans m k pre σ2 X2 A1 (by omega) hc hp hL hE hA h2 b2 k1 s2, fun z => absurd rfl z⟩
    | succ e ih =>
      intro k m pre σ1 X1 A1 hk hm hkm hc hp hL hE hA h1 b1 k1 s1
      refine q_X12_steps_75 _ _ _ _ _ _ _ ⟨fun z => absurd z (by decide), fun _ => ?_⟩
      by_cases hno : s_nx S sp m < 8
      · have hi := nxS_is (s_wrk S) (s_szs S) (keptB (zo S) (zB S)) sp m 8 hno
        have i1 : m.testBit (s_nx S sp m) = false := hi.1
        have i2 : keptB (zo S) (zB S) (s_nx S sp m) = true := hi.2.1
        have i3 : (nxS (s_wrk S) (s_szs S) (keptB (zo S) (zB S)) sp m 8).2 = s_wrk S (m ||| 2 ^ s_nx S sp m) := hi.2.2
        have en : nxI (s_nx S sp m) = nI (s_nx S sp m) := if_pos hno
        refine find m k A1 hm hkm k1 (fun σ2 X2 h2 b2 s2 => ⟨fun z => absurd (en ▸ z) (nI_neg (by omega)), fun _ => ?_⟩) (zo S) 0 σ1 X1 (by omega) h1 b1 s1
        rw [i3, en]
        refine q_X12_steps_173 _ _ _ _ _ _ _ _ _ ⟨fun z => absurd z (by decide), fun _ => h2.r 37 (fun _ _ _ => rfl) (h2.s 37 rfl rfl rfl (show k < 8 by omega) fun σ3 h3 s3 => ?_)⟩
        rw [bs_with m hm _ hno, nI_1]
        rw [stpL_s, if_pos hno] at hL
        rw [stpE_s, if_pos hno] at hE
        refine ih (k + 1) (m ||| 2 ^ s_nx S sp m) (pre ++ [s_nx S sp m]) σ3 X2 _ (by omega) (or_bit m hm _ hno).2 ?_ ?_ ?_ ?_ hE ?_ h3 b2 (fun j hj => (setA_ne _ _ hj).trans (k1 j hj)) (s2.trans s3)
        · rw [kpN_iff] at hkm ⊢
          intro j hj hb
          rw [Nat.testBit_or, Bool.or_eq_true, Nat.testBit_two_pow, decide_eq_true_eq] at hb
          rcases hb with z | z
          · exact hkm j hj z
          · rw [z] at i2
            exact (kept_lt i2).2
        · rw [cnt_or m hm _ hno i1, hc]
        · rw [List.length_append, hp]; rfl
        · rw [hL, List.append_assoc]; rfl
        · intro i hi
          show upd (A1 37) k (nI (s_nx S sp m)) i = _
          by_cases z : i = k
          · subst z
            rw [upd_same]
            have : (pre ++ [s_nx S sp m]).getD pre.length 0 = s_nx S sp m := by simp [List.getD]
            rw [hp] at this
            rw [this]
          · rw [upd_ne _ _ z, hA i (by omega)]
            have : (pre ++ [s_nx S sp m]).getD i 0 = pre.getD i 0 := by simp [List.getD, List.getElem?_append_left (show i < pre.length by omega)]
            rw [this]
      · have h8n : s_nx S sp m = 8 := by
          rcases nxS_1 (s_wrk S) (s_szs S) (keptB (zo S) (zB S)) sp m 8 with z | z
          · exact z
          · exact absurd z hno
        have en : nxI (s_nx S sp m) = -1 := if_neg hno
        rw [(stpL_no hno _).1, List.append_nil] at hL
        rw [(stpL_no hno _).2] at hE
        refine find m k A1 hm hkm k1 (fun σ2 X2 h2 b2 s2 => ⟨fun _ => ?_, fun z => absurd en z⟩) (zo S) 0 σ1 X1 (by omega) h1 b1 s1
        rw [noneW m 8 h8n (Nat.le_refl _)]
        exact q_X12_steps_173 _ _ _ _ _ _ _ _ _ ⟨fun _ => ans m k pre σ2 X2 A1 (by omega) hc hp hL hE hA h2 b2 k1 s2, fun z => absurd rfl z⟩
  exact main 8 0 0 [] σ X A rfl (by decide) ((kpN_iff S 0 (zo S)).mpr fun o _ hb => by simp at hb) (by decide) rfl rfl rfl (fun i hi => absurd hi (Nat.not_lt_zero _)) h.1 (fun _ _ _ => rfl) (fun _ _ => rfl) Sm.refl
theorem rw_steps (h : RQ g σ R S X A hh) (v : Iv S) (x y : Int32) : Do g M_X12_steps 0 0 [.ref (R 300), .int x, .int y] σ (RP g σ R (s_steps S x y)) := by
  have hz := v.1.2.2.2.2.2.1
  have hz2 := v.1.2.2.2.2.2.2
  unfold s_steps
  have l34 : ∀ sp, sp < 10000 → (inR y 3 = true ∨ (10 ≤ y.toInt ∧ y.toInt < 18)) → J_X12_steps_34 g (RP g σ R (if zs S < 20 then (v_stp S sp y, zch S (zc S) (zs S + 1)) else (-103, S))) σ (R 300) (nI sp) y := by
    intro sp hsp hy
    refine q_X12_steps_34 _ _ _ (h.1.x 21 (fun _ _ _ => rfl) ⟨fun c3 => h.1.x 21 (fun _ _ _ => rfl) (h.1.px 21 _ (by omega) (fun _ _ _ => rfl) fun σ1 h1 s1 => ⟨h1.rc, ?_⟩), fun c3 => ?_⟩)
    · rw [h.num.2.2] at c3
      have c3 : zs S < 20 := Nat.lt_of_le_of_ne hz2 fun z => c3 (by rw [z]; rfl)
      rw [if_pos c3]
      have q1 : RQ g σ1 R (zch S (zc S) (zs S + 1)) (upd X 21 (X 21 + 1)) A hh := ⟨h1, h.2.nums (fun i _ i2 => upd_ne _ _ i2) ((upd_ne _ _ (by decide)).trans h.num.2.1) ((upd_same _ _ _).trans (by rw [h.num.2.2, nI_1]))⟩
      have v1 : Iv (zch S (zc S) (zs S + 1)) := v.zch hz (by omega)
      refine DoV.use (wr_lookAtAll q1 v1) ?_
      rintro σ2 ⟨A2, h2, k2, t2, s2⟩
      have q2 := q1.a34 h2 k2
      refine ⟨h2.rc, DoI.use (rk_workOf (m := 0) q2 v1 t2 (by decide)) ?_⟩
      rintro x2 σ3 ⟨rfl, X3, h3, b3, s3⟩
      have q3 := q2.bfr h3 b3
      refine steps_core q3 v1 t2 hsp y hy fun σ4 X4 A4 h4 b4 k4 s4 => ?_
      exact RP.go h4 (q3.a37 h4 b4 k4).2 (((s1.trans s2).trans s3).trans s4) rfl
    · rw [h.num.2.2] at c3
      have c3 := (nI_eq (b := 20) (by omega) (by decide)).mp c3
      rw [if_neg (by omega)]; exact RP.no h
  refine q_X12_steps _ _ _ ((rd_inR x 9999 (by decide)).use ⟨fun c => ?_, fun c => (rd_inR y 2 (by decide)).use ⟨fun c2 => ?_, fun c2 => (rd_in y 10 17 (by decide) (by decide)).use ⟨fun c3 => ?_, fun c3 => ?_⟩⟩⟩)
  · rw [if_f (b2_0.mp c)]; exact RP.no h
  · have c := b2_n0.mp c
    have c2 := b2_n0.mp c2
    obtain ⟨sp, hsp, rfl⟩ := inR_of c (by decide)
    rw [if_t c, if_t (show (inR y 3 || (decide (10 ≤ y.toInt) && decide (y.toInt < 18))) = true by rw [c2, Bool.true_or]), nn_i (by omega)]
    exact l34 sp hsp (Or.inl c2)
  · have c := b2_n0.mp c
    have c3 := of_decide_eq_true (b2_n0.mp c3)
    obtain ⟨sp, hsp, rfl⟩ := inR_of c (by decide)
    have hy : 10 ≤ y.toInt ∧ y.toInt < 18 := by omega
    rw [if_t c, if_t (show (inR y 3 || (decide (10 ≤ y.toInt) && decide (y.toInt < 18))) = true by rw [decide_eq_true hy.1, decide_eq_true hy.2, Bool.and_true, Bool.or_true]), nn_i (by omega)]
    exact l34 sp hsp (Or.inr hy)
  · have c3 := of_decide_eq_false (b2_0.mp c3)
    have e : (inR y 3 || (decide (10 ≤ y.toInt) && decide (y.toInt < 18))) = false := by
      rw [b2_0.mp c2, Bool.false_or]
      rcases Int.lt_or_le y.toInt 10 with z | z
      · rw [decide_eq_false (p := 10 ≤ y.toInt) (by omega), Bool.false_and]
      · rw [decide_eq_false (p := y.toInt < 18) (by omega), Bool.and_false]
    rw [if_t (b2_n0.mp c), if_f e]; exact RP.no h
end RSP
