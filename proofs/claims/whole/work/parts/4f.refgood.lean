/-! The reference: good, ask. -/
theorem RS.eqs {S : SS} {X X' : Nat → Int32} {A A' : Nat → Nat → Int32} (r : RS S X A) (hX : ∀ i, i < 26 → X' i = X i) (hA : ∀ k, k < 28 → A' k = A k) : RS S X' A' := by
  unfold RS at r ⊢
  rw [hX 2 (by decide), hX 3 (by decide), hX 4 (by decide), hX 12 (by decide), hX 14 (by decide), hX 19 (by decide), hX 20 (by decide), hX 21 (by decide), hX 24 (by decide), hX 25 (by decide)]
  rw [hA 0 (by decide), hA 1 (by decide), hA 5 (by decide), hA 6 (by decide), hA 7 (by decide), hA 8 (by decide), hA 9 (by decide), hA 10 (by decide), hA 11 (by decide), hA 13 (by decide), hA 15 (by decide), hA 16 (by decide), hA 17 (by decide), hA 18 (by decide), hA 22 (by decide), hA 23 (by decide), hA 26 (by decide), hA 27 (by decide)]
  exact r
theorem RS.requ {S : SS} {X X' : Nat → Int32} {A A' : Nat → Nat → Int32} {n' q' : Nat} {C' : Nat → Nat} {Q' : Nat → QD} (r : RS S X A) (hX : ∀ i, i ≠ 12 → i ≠ 14 → i < 26 → X' i = X i) (hA : ∀ k, k < 28 → k ≠ 15 → k ≠ 16 → k ≠ 17 → k ≠ 18 → A' k = A k) (hp : pagR n' C' (X' 12) (A' 13)) (hq : queR q' Q' (X' 14) (A' 15) (A' 16) (A' 17) (A' 18)) : RS (S.1, S.2.1, (q', Q', zu S), S.2.2.2.1, (n', C'), S.2.2.2.2.2) X' A' := by
  obtain ⟨r1, r2, -, -, r5, r6, r7⟩ := r
  refine ⟨?_, ?_, hp, hq, ?_, ?_, ?_⟩
  · rw [hX 2 (by decide) (by decide) (by decide), hX 3 (by decide) (by decide) (by decide), hA 0 (by decide) (by decide) (by decide) (by decide) (by decide), hA 1 (by decide) (by decide) (by decide) (by decide) (by decide)]
    exact r1
  · rw [hX 4 (by decide) (by decide) (by decide), hA 5 (by decide) (by decide) (by decide) (by decide) (by decide), hA 6 (by decide) (by decide) (by decide) (by decide) (by decide), hA 7 (by decide) (by decide) (by decide) (by decide) (by decide), hA 8 (by decide) (by decide) (by decide) (by decide) (by decide), hA 9 (by decide) (by decide) (by decide) (by decide) (by decide), hA 10 (by decide) (by decide) (by decide) (by decide) (by decide), hA 11 (by decide) (by decide) (by decide) (by decide) (by decide)]
    exact r2
  · rw [hX 19 (by decide) (by decide) (by decide), hX 20 (by decide) (by decide) (by decide), hX 21 (by decide) (by decide) (by decide)]
    exact r5
  · rw [hX 24 (by decide) (by decide) (by decide), hA 22 (by decide) (by decide) (by decide) (by decide) (by decide), hA 23 (by decide) (by decide) (by decide) (by decide) (by decide)]
    exact r6
  · rw [hX 25 (by decide) (by decide) (by decide), hA 26 (by decide) (by decide) (by decide) (by decide) (by decide), hA 27 (by decide) (by decide) (by decide) (by decide) (by decide)]
    exact r7
section RGD
variable {g : GG} {σ : Hs} {R : Nat → Nat} {S : SS} {X : Nat → Int32} {A : Nat → Nat → Int32} {hh : Int64}
theorem rw_good (h : RQ g σ R S X A hh) (v : Iv S) : Do g M_X12_good 0 0 [.ref (R 300)] σ (RP g σ R (s_good S, S)) := by
  refine q_X12_good _ ⟨h.1.rc, Do.mono (wr_readQuestion h v) ?_⟩
  rintro vv σ2 ⟨rfl, X2, A2, h2, f2, r2, e29, e30, s2⟩
  have rs : RS S X2 A2 := h.2.eqs (fun i hi => f2.1 i (by omega) (by omega) (by omega) (by omega)) (fun k hk => f2.2 k (by omega))
  exact ⟨rfl, h2.x 29 (fun _ _ _ => rfl) (RP.go h2 rs s2 e29)⟩
theorem rw_ask (h : RQ g σ R S X A hh) (v : Iv S) : Do g M_X12_ask 0 0 [.ref (R 300)] σ (RP g σ R (s_ask S)) := by
  refine q_X12_ask _ ⟨h.1.rc, Do.mono (wr_readQuestion h v) ?_⟩
  rintro vv σ2 ⟨rfl, X2, A2, h2, f2, r2, e29, e30, s2⟩
  have rs : RS S X2 A2 := h.2.eqs (fun i hi => f2.1 i (by omega) (by omega) (by omega) (by omega)) (fun k hk => f2.2 k (by omega))
  have hq : RQ g σ2 R S X2 A2 hh := ⟨h2, rs⟩
  have h8 := v.q8
  have dk := (read_ok v.1).2
  refine ⟨rfl, h2.x 30 (fun _ _ _ => rfl) ?_⟩
  rw [e30]
  unfold s_ask
  refine ⟨fun c => h2.x 14 (fun _ _ _ => rfl) ?_, fun c => ?_⟩
  · have c := b2_n0.mp c
    unfold whR at c
    rw [Bool.and_eq_true, decide_eq_true_eq, decide_eq_true_eq] at c
    rw [if_pos c.1, if_pos c.2, hq.que.1]
    refine ⟨fun c8 => ?_, fun c8 => ?_⟩
    · have c8 : zq S < 8 := Nat.lt_of_le_of_ne h8 fun z => c8 (by rw [z]; rfl)
      rw [if_pos c8]
      have e14 : X2 14 + 1 = nI (zq S + 1) := by rw [hq.que.1, nI_1]
      have loop : ∀ (e c : Nat) (σ1 : Hs) (A1 : Nat → Nat → Int32), c + e = 4 → RC g σ1 R X2 A1 hh → (∀ k, k ≠ 15 → A1 k = A2 k) → (∀ i, i < 8 * zq S → A1 15 i = A2 15 i) → (∀ j, j < c → A1 15 (8 * zq S + 2 * j) = b_lo (s_read S).2.2.2.2.2 j ∧ A1 15 (8 * zq S + 2 * j + 1) = b_hi (s_read S).2.2.2.2.2 j) → Sm R T3 σ2 σ1 → J_X12_ask_28 g (RP g σ R (nI (zq S), s_askd S)) σ1 (R 300) (nI c) := by
        intro e
        induction e with
        | zero =>
          intro c σ1 A1 hc h1 k1 o1 b1 s1
          have hc : c = 4 := hc
          refine q_X12_ask_28 _ _ ⟨fun _ => ?_, fun y => absurd (nI_le (a := 4) (by omega) (by omega)) y⟩
          refine h1.r 16 (fun _ _ _ => rfl) (h1.x 14 (fun _ _ _ => rfl) (h1.x 32 (fun _ _ _ => rfl) (h1.s 16 rfl rfl hq.que.1 (show zq S < 8 from c8) fun σ3 h3 s3 => h3.r 17 (fun _ _ _ => rfl) (h3.x 14 (fun _ _ _ => rfl) (h3.x 33 (fun _ _ _ => rfl) (h3.s 17 rfl rfl hq.que.1 (show zq S < 8 from c8) fun σ4 h4 s4 => h4.r 18 (fun _ _ _ => rfl) (h4.x 14 (fun _ _ _ => rfl) (h4.s 18 rfl rfl hq.que.1 (show zq S < 8 from c8) fun σ5 h5 s5 => h5.x 14 (fun _ _ _ => rfl) (h5.px 14 _ (by omega) (fun _ _ _ => rfl) fun σ6 h6 s6 => h6.px 12 _ (by omega) (fun _ _ _ => rfl) fun σ7 h7 s7 => h7.x 14 (fun _ _ _ => rfl) ?_)))))))))
          refine RP.go h7 ?_ (s2.trans ((((s1.trans s3).trans s4).trans s5).trans (s6.trans s7))) ?_
          · refine rs.requ (fun i i12 i14 _ => (upd_ne _ _ i12).trans (upd_ne _ _ i14)) (fun k _ k15 k16 k17 k18 => (setA_ne _ _ k18).trans ((setA_ne _ _ k17).trans ((setA_ne _ _ k16).trans (k1 k k15)))) ⟨upd_same _ _ _, fun k hk => absurd hk (Nat.not_lt_zero _)⟩ ⟨?_, fun q hq1 => ?_⟩
            · exact ((upd_ne _ _ (by decide)).trans (upd_same _ _ _)).trans e14
            · show ((∀ c, c < 4 → A1 15 (8 * q + 2 * c) = b_lo _ c ∧ A1 15 (8 * q + 2 * c + 1) = b_hi _ c) ∧ upd (A1 16) (zq S) (X2 32) q = _ ∧ upd (A1 17) (zq S) (X2 33) q = _ ∧ upd (A1 18) (zq S) 1 q = _)
              by_cases z : q = zq S
              · subst z
                rw [Q_set_at, upd_same, upd_same, upd_same]
                exact ⟨fun c2 hc2 => b1 c2 (by omega), r2.2.1, r2.2.2, dk.2.2.symm⟩
              · obtain ⟨jb, j16, j17, j18⟩ := hq.que.2 q (by omega)
                rw [Q_set_ne _ _ z, upd_ne _ _ z, upd_ne _ _ z, upd_ne _ _ z, k1 16 (by decide), k1 17 (by decide), k1 18 (by decide)]
                refine ⟨fun c2 hc2 => ?_, j16, j17, j18⟩
                rw [o1 _ (by omega), o1 _ (by omega)]
                exact jb c2 hc2
          · show X2 14 + 1 - 1 = nI (zq S)
            rw [e14, nI_s1 (by omega)]
            rfl
        | succ e ih =>
          intro c σ1 A1 hc h1 k1 o1 b1 s1
          have hc4 : c < 4 := by omega
          refine q_X12_ask_28 _ _ ⟨fun y => absurd ((nI_leI (a := 4) (by decide) (by omega)).mp y) (by omega), fun _ => h1.r 31 (fun _ _ _ => rfl) (h1.a 31 rfl rfl (i2m c) (show _ < 8 by omega) (h1.r 31 (fun _ _ _ => rfl) (h1.a 31 rfl rfl (i2m1 c) (show _ < 8 by omega) ?_)))⟩
          have e31 := r2.1 c hc4
          rw [← k1 31 (by decide)] at e31
          rw [e31.1, e31.2]
          have j59 : ∀ (t : Int32), (t = 0 ↔ (s_read S).2.2.2.2.2.1 c ≤ (s_read S).2.2.2.2.2.2.1 c) → J_X12_ask_59 g (RP g σ R (nI (zq S), s_askd S)) σ1 (R 300) (nI c) t := by
            intro t ht
            refine q_X12_ask_59 _ _ _ (h1.r 15 (fun _ _ _ => rfl) (h1.x 14 (fun _ _ _ => rfl) ?_))
            rw [hq.que.1, i82]
            have j91 : ∀ lo, lo = b_lo (s_read S).2.2.2.2.2 c → J_X12_ask_91 g (RP g σ R (nI (zq S), s_askd S)) σ1 (R 300) (nI c) t lo (nI (8 * zq S + 2 * c)) (R (rx 15)) := by
              intro lo hlo
              refine q_X12_ask_91 _ _ _ _ _ _ (h1.s 15 rfl rfl rfl (show _ < 64 by omega) fun σ3 h3 s3 => h3.r 15 (fun _ _ _ => rfl) (h3.x 14 (fun _ _ _ => rfl) ?_))
              rw [hq.que.1, i82]
              have fin : ∀ hi, hi = b_hi (s_read S).2.2.2.2.2 c → SI g σ3 (R (rx 15)) 0 (nI (8 * zq S + 2 * c) + 1) hi (fun s => J_X12_ask_28 g (RP g σ R (nI (zq S), s_askd S)) s (R 300) (nI c + 1)) := by
                intro hi hhi
                refine h3.s 15 rfl rfl (nI_1 (8 * zq S + 2 * c)) (show _ < 64 by omega) fun σ4 h4 s4 => ?_
                rw [nI_1]
                refine ih (c + 1) σ4 _ (by omega) h4 (fun k hk => by rw [setA_ne _ _ hk, setA_ne _ _ hk]; exact k1 k hk) (fun i hi => ?_) (fun j hj => ?_) ((s1.trans s3).trans s4)
                · show upd (upd (A1 15) (8 * zq S + 2 * c) lo) (8 * zq S + 2 * c + 1) _ i = A2 15 i
                  rw [upd_ne _ _ (by omega), upd_ne _ _ (by omega)]
                  exact o1 i hi
                · show upd (upd (A1 15) (8 * zq S + 2 * c) lo) (8 * zq S + 2 * c + 1) _ (8 * zq S + 2 * j) = _ ∧ upd (upd (A1 15) (8 * zq S + 2 * c) lo) (8 * zq S + 2 * c + 1) _ (8 * zq S + 2 * j + 1) = _
                  by_cases z : j = c
                  · subst z
                    rw [upd_ne _ _ (by omega), upd_same, upd_same]
                    exact ⟨hlo, hhi⟩
                  · rw [upd_ne _ _ (by omega), upd_ne _ _ (by omega), upd_ne _ _ (by omega), upd_ne _ _ (by omega)]
                    exact b1 j (by omega)
              refine ⟨fun y => h3.r 31 (fun _ _ _ => rfl) (h3.a 31 rfl rfl (i2m1 c) (show _ < 8 by omega) (fin _ ?_)), fun y => fin _ ?_⟩
              · have y := ht.mp y
                show A1 31 (2 * c + 1) = _
                rw [e31.2]
                unfold b_hi
                rw [if_neg (fun z => by rw [I_lt] at z; rw [I_le] at y; omega)]
              · unfold b_hi
                rw [if_pos]
                rw [I_lt]
                exact Int.not_le.mp fun z => y (ht.mpr (by rw [I_le]; exact z))
            refine ⟨fun y => h1.r 31 (fun _ _ _ => rfl) (h1.a 31 rfl rfl (i2m c) (show _ < 8 by omega) (j91 _ ?_)), fun y => j91 _ ?_⟩
            · have y := ht.mp y
              rw [e31.1]
              unfold b_lo
              rw [if_neg (fun z => by rw [I_lt] at z; rw [I_le] at y; omega)]
            · unfold b_lo
              rw [if_pos]
              rw [I_lt]
              exact Int.not_le.mp fun z => y (ht.mpr (by rw [I_le]; exact z))
          exact ⟨fun y => j59 0 ⟨fun _ => y, fun _ => rfl⟩, fun y => j59 1 ⟨fun z => absurd z (by decide), fun z => absurd z y⟩⟩
      exact loop 4 0 σ2 A2 rfl h2 (fun _ _ => rfl) (fun _ _ => rfl) (fun j hj => absurd hj (Nat.not_lt_zero _)) Sm.refl
    · have c8 := (nI_eq (b := 8) (by omega) (by decide)).mp c8
      rw [if_neg (by omega)]
      exact RP.go h2 rs s2 rfl
  · have c := b2_0.mp c
    have e : (if zn S ≤ (s_read S).1 then if (s_read S).2.1 = 7 ∨ (s_read S).2.1 = 9 then if zq S < 8 then (nI (zq S), s_askd S) else (-104, S) else (-103, S) else (-103, S)) = ((-103 : Int32), S) := by
      by_cases c1 : zn S ≤ (s_read S).1
      · by_cases c2 : (s_read S).2.1 = 7 ∨ (s_read S).2.1 = 9
        · unfold whR at c
          rw [decide_eq_true c1, decide_eq_true c2] at c
          cases c
        · rw [if_pos c1, if_neg c2]
      · rw [if_neg c1]
    rw [e]
    exact RP.go h2 rs s2 rfl
end RGD
