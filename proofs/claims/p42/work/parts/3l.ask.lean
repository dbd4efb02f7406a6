/-! The class's ask. -/
theorem Sm.to {R R' : Nat → Nat} {T T' : Nat → Prop} {σ σ' : Hs} (h : Sm R' T σ σ') (k : ∀ i, T i → ∃ j, T' j ∧ R' i = R j) : Sm R T' σ σ' := ⟨h.1, fun a e c n => h.2 a e c fun i hi z => by
  obtain ⟨j, hj, e2⟩ := k i hi
  exact n j hj (z.trans e2)⟩
theorem runA_ok {C : Nat → Nat} {n : Nat} (hC : ∀ k, k < n → C k < 128) : ∀ (e k : Nat) {s : AM}, k + e = n → AOk s → DOk s.2.2.2.2 → AOk (runA C e k s).2 ∧ DOk (runA C e k s).2.2.2.2.2
  | 0, _, _, _, h, h2 => ⟨h, h2⟩
  | e + 1, k, s, hk, h, h2 => by
    cases h1 : stpA (C k) s with
    | none => rw [runA_none h1]; exact ⟨h, h2⟩
    | some a =>
      rw [runA_some h1]
      exact runA_ok hC e (k + 1) (by omega) (stpA_ok (hC k (by omega)) h h1) (stpA_dok h h2 h1)
theorem read_ok {S : SS} (iv : Inv S) : AOk (s_read S).2 ∧ DOk (s_read S).2.2.2.2.2 := runA_ok (n := zn S) (fun k hk => by have := iv.2.2.2.1.2 k hk; omega) (zn S) 0 (by omega) ⟨by show 0 < 10; omega, by show 0 < 4; omega, by show 0 < 128; omega, by show 0 < 100; omega, fun z => absurd z (by show ¬ 0 = 4; omega), Or.inl rfl⟩ dq0_ok
theorem DOk.sm {d : QD} (h : DOk d) : QSm d := fun c hc => by
  obtain ⟨⟨a1, a2⟩, a3, a4⟩ := h.2.1 c hc
  unfold small
  omega
theorem DOk.qok {d : QD} (h : DOk d) (hs : srtOk d) : QOk d := by
  have e : hf d = 1 := by unfold hf; rw [h.2.2]; rfl
  exact ⟨hs, by rw [e, h.2.2]; rfl, by rw [e]; omega⟩
theorem Inv.ask {S : SS} (h : Inv S) : Inv (s_ask S).2 := by
  unfold s_ask
  by_cases c : zn S ≤ (s_read S).1
  · rw [if_pos c]
    by_cases c2 : (s_read S).2.1 = 7 ∨ (s_read S).2.1 = 9
    · rw [if_pos c2]
      by_cases c3 : zq S < 8
      · rw [if_pos c3]
        refine ⟨h.1, ⟨fun i hi => ?_, by show zq S + 1 ≤ 8; omega⟩, h.2.2.1, ⟨Nat.zero_le _, fun k hk => absurd hk (Nat.not_lt_zero _)⟩, h.2.2.2.2⟩
        have hi : i < zq S + 1 := hi
        show QSm (Q_set (zQ S) (zq S) (s_read S).2.2.2.2.2 i)
        unfold Q_set
        by_cases e : i = zq S
        · rw [if_pos e]; exact (read_ok h).2.sm
        · rw [if_neg e]; exact h.2.1.1 i (by omega)
      · rw [if_neg c3]; exact h
    · rw [if_neg c2]; exact h
  · rw [if_neg c]; exact h
section ASK
variable {g : GG} {σ σ' : Hs} {R : Nat → Nat} {S : SS}
/-- the draft handed over and added: the state before the page is cleared -/
theorem KO.asked {σ2 σ3 : Hs} {s : AM} {b : Nat → Nat} {u0 : WS} {F0 G0 T0 : Nat → Int32} {s0 : Nat} (h : KO g σ2 R S) (hA : ShA g σ2 R (zn S) (zC S) s) (aok : AOk s) (dok : DOk s.2.2.2.2) (hq : zq S < 8) (hk : KW g σ2 R (zf S) (zt S) (zw S) (zo S) (zB S) u0 (zq S, zQ S, F0, G0, T0, s0, zu S)) (s23 : Sm R (fun i => i = 24) σ2 σ3) (fb : ∀ k, k < 5 → b k ∉ σ2.1 ∧ b k ∈ σ3.1) (ib : ∀ i j, i < 5 → j < 5 → b i = b j → i = j) (c24 : Ce σ3 (R 24) (.inr (7, [.ref (R 25), .int (nI (zn S)), .ref (b 0), .int (nI s.1), .int (nI s.2.1), .int (nI s.2.2.1), .int (nI s.2.2.2.1)]))) (qb : QRaw g σ3 b (fun _ => 0) (fun _ => 0) 0 0 0 0 0) (σ4 : Hs) (e4 : σ4 = hup (hup σ3 (R 17) (aQ g 6 8 (va_up (qQ R (zq S)) (zq S) (some (R 190))))) (R 16) (wkc R (zq S + 1) s0 (zu S))) : KO g σ4 (Rask R (zq S) b) (S.1, S.2.1, (zq S + 1, Q_set (zQ S) (zq S) s.2.2.2.2, zu S), S.2.2.2) ∧ Sm R (Tc S) σ2 σ4 := by
  have h8 := h.ords.2.2.1
  have s34 : Sm R (fun i => i = 16 ∨ i = 17) σ3 σ4 := by
    rw [e4]
    exact (Sm.hup (T := fun i => i = 16 ∨ i = 17) (i := 17) (Or.inr rfl) _).trans (Sm.hup (T := fun i => i = 16 ∨ i = 17) (i := 16) (Or.inl rfl) _)
  have s24 : Sm R (fun i => i = 16 ∨ i = 17 ∨ i = 24) σ2 σ4 := (s23.mono fun i z => Or.inr (Or.inr z)).trans (s34.mono fun i z => by omega)
  have sf : Sf R (Lv (zo S) (zq S)) (fun i => i = 16 ∨ i = 17 ∨ i = 24) σ2 σ4 := ⟨s24, h.ij, fun i hi => lvs33 (by omega)⟩
  have sf34 : Sf R (Lv (zo S) (zq S)) (fun i => i = 16 ∨ i = 17) σ3 σ4 := ⟨s34, h.ij, fun i hi => lvs33 (by omega)⟩
  have nL : ∀ i, i < 33 → i ≠ 16 → i ≠ 17 → i ≠ 24 → Lv (zo S) (zq S) i ∧ ¬ (i = 16 ∨ i = 17 ∨ i = 24) := fun i a1 a2 a3 a4 => ⟨lvs33 a1, by omega⟩
  have rn : ∀ i, i < 190 ∨ (195 ≤ i ∧ i < 200 + 5 * zq S) ∨ 205 + 5 * zq S ≤ i → Rask R (zq S) b i = R i := fun i hi => Rask_old hi
  have al := h.2.2.2.2.2
  have I := h.ij
  have lvc : ∀ i, Lv (zo S) (zq S + 1) i → (Lv (zo S) (zq S) i ∧ ¬ (190 ≤ i ∧ i < 195) ∧ Rask R (zq S) b i = R i) ∨ (∃ k, k < 5 ∧ i = 200 + 5 * zq S + k) ∨ ∃ k, k < 5 ∧ i = 190 + k := fun i hi => by
    by_cases c : 190 ≤ i ∧ i < 195
    · exact Or.inr (Or.inr ⟨i - 190, by omega, by omega⟩)
    · by_cases c2 : 200 + 5 * zq S ≤ i ∧ i < 205 + 5 * zq S
      · exact Or.inr (Or.inl ⟨i - (200 + 5 * zq S), by omega, by omega⟩)
      · refine Or.inl ⟨?_, c, rn i (by omega)⟩
        unfold Lv at hi ⊢
        omega
  have l190 : ∀ k, k < 5 → Lv (zo S) (zq S) (190 + k) := fun k hk => lsh k hk
  have mem4 : ∀ a, a ∈ σ2.1 → a ∈ σ4.1 := s24.1
  have al4 : ∀ i, Lv (zo S) (zq S + 1) i → Rask R (zq S) b i ∈ σ4.1 := fun i hi => by
    rcases lvc i hi with ⟨a1, -, a2⟩ | ⟨k, a1, rfl⟩ | ⟨k, a1, rfl⟩
    · rw [a2]; exact mem4 _ (al i a1)
    · rw [Rask_q a1]; exact mem4 _ (al _ (l190 k a1))
    · rw [Rask_d a1]; exact s34.1 _ (fb k a1).2
  have ij4 : Ij (Rask R (zq S) b) (Lv (zo S) (zq S + 1)) := fun i j hi hj e => by
    rcases lvc i hi with ⟨a1, a3, a2⟩ | ⟨k, a1, rfl⟩ | ⟨k, a1, rfl⟩
    · rcases lvc j hj with ⟨b1, b3, b2⟩ | ⟨l, b1, rfl⟩ | ⟨l, b1, rfl⟩
      · rw [a2, b2] at e; exact I i j a1 b1 e
      · rw [a2, Rask_q b1] at e
        have := I i _ a1 (l190 l b1) e
        omega
      · rw [a2, Rask_d b1] at e
        exact absurd (e ▸ al i a1) (fb l b1).1
    · rcases lvc j hj with ⟨b1, b3, b2⟩ | ⟨l, b1, rfl⟩ | ⟨l, b1, rfl⟩
      · rw [b2, Rask_q a1] at e
        have := I _ j (l190 k a1) b1 e
        omega
      · rw [Rask_q a1, Rask_q b1] at e
        have := I _ _ (l190 k a1) (l190 l b1) e
        omega
      · rw [Rask_q a1, Rask_d b1] at e
        exact absurd (e ▸ al _ (l190 k a1)) (fb l b1).1
    · rcases lvc j hj with ⟨b1, b3, b2⟩ | ⟨l, b1, rfl⟩ | ⟨l, b1, rfl⟩
      · rw [b2, Rask_d a1] at e
        exact absurd (e.symm ▸ al j b1) (fb k a1).1
      · rw [Rask_d a1, Rask_q b1] at e
        exact absurd (e.symm ▸ al _ (l190 l b1)) (fb k a1).1
      · rw [Rask_d a1, Rask_d b1] at e
        rw [ib k l a1 b1 e]
  obtain ⟨h0, -, ⟨F2, hp⟩, hs, hm, -⟩ := h
  obtain ⟨⟨k1, k2, k3, ⟨w1, w2, w3, w4, w5, w6, w7⟩⟩, -, hw, hqk, hup⟩ := hk
  have n1716 : R 17 ≠ R 16 := fun z => absurd (I 17 16 (lvs33 (by omega)) (lvs33 (by omega)) z) (by omega)
  refine ⟨⟨?_, ⟨u0, F0, G0, T0, s0, ⟨?_, (k2.sf sf fun i hi => ⟨by unfold Lv; omega, by omega⟩).re fun i hi => rn i (by omega), (k3.sf sf fun i a1 a2 => nL i (by omega) (by omega) (by omega) (by omega)).re fun i hi => rn i (by omega), ⟨?_, ?_, fun i hi => ?_, ?_, ?_, ?_, by show zq S + 1 ≤ 8; omega⟩⟩, ij4, hw, fun i hi => ?_, hup⟩, ⟨F2, (hp.sf sf fun i hi z => by omega).re fun i hi => rn i (by omega)⟩, ⟨⟨s.1, s.2.1, s.2.2.1, s.2.2.2.1, ⟨aok.1, aok.2.1, aok.2.2.1, aok.2.2.2.1⟩, ?_⟩, ?_, fun _ => 0, fun _ => 0, 0, 0, 0, 0, 0, ?_, fun j hj => ⟨rfl, rfl⟩⟩, (hm.sf sf fun i hi z => by omega).re fun i hi => rn i (by omega), al4⟩, s24.mono fun i hi => ⟨lvs33 (by omega), by omega⟩⟩
  · have z0 := h0.sf sf (nL 0 (by omega) (by omega) (by omega) (by omega))
    unfold koc at *
    rw [rn 0 (by omega), rn 1 (by omega), rn 4 (by omega), rn 6 (by omega), rn 16 (by omega), rn 27 (by omega), rn 24 (by omega), rn 31 (by omega)]
    exact z0
  · rw [rn 1 (by omega), rn 2 (by omega), rn 3 (by omega)]
    exact k1.sf sf (nL 1 (by omega) (by omega) (by omega) (by omega)) (nL 2 (by omega) (by omega) (by omega) (by omega)) (nL 3 (by omega) (by omega) (by omega) (by omega))
  · have c16 : Ce σ3 (R 16) (wkc R (zq S) s0 (zu S)) := s23.2 _ _ w1 fun i hi z => absurd (I 16 i (lvs33 (by omega)) (lvs33 (by omega)) z) (by omega)
    rw [e4]
    unfold wkc
    rw [rn 4 (by omega), rn 6 (by omega), rn 16 (by omega), rn 17 (by omega), rn 18 (by omega), rn 20 (by omega), rn 22 (by omega)]
    exact (c16.upo n1716.symm).up _
  · have c17 : Ce σ3 (R 17) (aQ g 6 8 (qQ R (zq S))) := s23.2 _ _ w2 fun i hi z => absurd (I 17 i (lvs33 (by omega)) (lvs33 (by omega)) z) (by omega)
    have eq : va_up (qQ R (zq S)) (zq S) (some (R 190)) = qQ (Rask R (zq S) b) (zq S + 1) := by
      funext o
      simp only [va_up, qQ]
      by_cases c : o = zq S
      · subst c
        rw [if_pos rfl, if_pos (by omega)]
        exact congrArg some (Rask_q (k := 0) (by omega)).symm
      · rw [if_neg c]
        by_cases c2 : o < zq S
        · rw [if_pos c2, if_pos (by omega), rn _ (by omega)]
        · rw [if_neg c2, if_neg (by omega)]
    rw [e4, rn 17 (by omega), eq]
    exact (c17.up _).upo n1716
  · have hi : i < zq S + 1 := hi
    show QAt g σ4 (qad (Rask R (zq S) b) i) (Q_set (zQ S) (zq S) s.2.2.2.2 i)
    unfold Q_set
    by_cases e : i = zq S
    · rw [if_pos e]
      refine QAt.re (b := dad R) (hA.2.2.sm s24 fun k hk j hj z => absurd (I _ j (l190 k hk) (sf.2.2 j hj) z) (by omega)) fun k hk => ?_
      rw [e]
      exact Rask_q hk
    · rw [if_neg e]
      refine QAt.re (b := qad R i) ((w3 i (by show i < zq S; omega)).sm s24 fun k hk => sf.off ⟨by unfold Lv; omega, by omega⟩) fun k hk => rn _ (by omega)
  · rw [rn 18 (by omega), rn 19 (by omega)]
    exact w4.sf sf (nL 18 (by omega) (by omega) (by omega) (by omega)) (nL 19 (by omega) (by omega) (by omega) (by omega))
  · rw [rn 20 (by omega), rn 21 (by omega)]
    exact w5.sf sf (nL 20 (by omega) (by omega) (by omega) (by omega)) (nL 21 (by omega) (by omega) (by omega) (by omega))
  · rw [rn 22 (by omega), rn 23 (by omega)]
    exact w6.sf sf (nL 22 (by omega) (by omega) (by omega) (by omega)) (nL 23 (by omega) (by omega) (by omega) (by omega))
  · have hi : i < zq S + 1 := hi
    show QOk (Q_set (zQ S) (zq S) s.2.2.2.2 i)
    unfold Q_set
    by_cases e : i = zq S
    · rw [if_pos e]; exact dok.qok aok.2.2.2.2.2
    · rw [if_neg e]; exact hqk i (by show i < zq S; omega)
  · have z := c24.sf sf34 (j := 24) ⟨lvs33 (by omega), by omega⟩
    unfold shc
    rw [rn 24 (by omega), rn 25 (by omega), show Rask R (zq S) b 190 = b 0 from Rask_d (k := 0) (by omega)]
    exact z
  · rw [rn 25 (by omega), rn 26 (by omega)]
    exact hA.2.1.sf sf (nL 25 (by omega) (by omega) (by omega) (by omega)) (nL 26 (by omega) (by omega) (by omega) (by omega))
  · refine QRaw.re (b := b) (qb.sm s34 fun k hk i hi z => (fb k hk).1 (z ▸ al i (lvs33 (by omega)))) fun k hk => ?_
    exact Rask_d hk
theorem do_ask (h : KO g σ R S) (iv : Inv S) : Do g M_X11_ask 5 17 [.ref (R 0)] σ (KP g σ R S (s_ask S)) := by
  have hn := iv.2.2.2.1.1
  have hle : (s_read S).1 ≤ zn S := by
    have := runA_le (C := zC S) (zn S) 0 (0, 0, 0, 0, dq0)
    unfold s_read
    omega
  unfold s_ask
  refine q_X11_ask 5 17 _ (h.g5 ⟨by omega, h.sh, h.rea iv fun σ2 s h2 s2 hA aok dok e1 e2 => h2.g5 ⟨by omega, h2.sh, (rd_length h2.2.2.2.1).use ⟨fun c => ⟨by omega, ?_⟩, fun c => h2.g5 ⟨by omega, h2.sh, (rd_isWhole hA aok).use ⟨fun c2 => h2.g3 ⟨by omega, h2.wk, ?_⟩, fun c2 => ⟨by omega, ?_⟩⟩⟩⟩⟩⟩)
  · have c := (nI_ltI (by omega) (by omega)).mp c
    rw [if_neg (by omega)]
    exact KP.go h2 s2 rfl
  · have c : ¬ (s_read S).1 < zn S := fun z => c (nI_lt z (by omega))
    have c2 := of_decide_eq_true (b2_n0.mp c2)
    rw [e1] at c2
    rw [if_pos (by omega), if_pos c2]
    obtain ⟨-, ⟨u0, F0, G0, T0, s0, hk⟩, -⟩ := id h2
    have hq8 := h2.q8
    refine (rd_wkasked hk).use ⟨fun c3 => h2.g3 (h2.g5 ⟨5, 17, by omega, h2.sh, ?_⟩), fun c3 => ⟨by omega, ?_⟩⟩
    · have c3 : zq S < 8 := (nI_ltI (b := 8) (by show zq S < _; omega) (by decide)).mp c3
      rw [if_pos c3]
      refine Do.mono (wr_handOver hA h2.ij h2.2.2.2.2.2) ?_
      rintro v σ3 (⟨-, z⟩ | ⟨r, rfl, rfl, b, s23, fb, ib, c24, qb⟩)
      · exact z.elim
      · refine Or.inr ⟨_, rfl, by omega, ?_⟩
        have I := h2.ij
        obtain ⟨⟨k1, k2, k3, ⟨w1, w2, w3, w4, w5, w6, w7⟩⟩, -⟩ := id hk
        have c16 : Ce σ3 (R 16) (wkc R (zq S) s0 (zu S)) := s23.2 _ _ w1 fun i hi z => absurd (I 16 i (lvs33 (by omega)) (lvs33 (by omega)) z) (by omega)
        have c17 : Ce σ3 (R 17) (aQ g 6 8 (qQ R (zq S))) := s23.2 _ _ w2 fun i hi z => absurd (I 17 i (lvs33 (by omega)) (lvs33 (by omega)) z) (by omega)
        have q190 : Rc σ3 (R 190) 6 := Rc.of (s23.2 _ _ hA.2.2.1 fun i hi z => absurd (I 190 i (lsh 0 (by omega)) (lvs33 (by omega)) z) (by omega))
        refine ⟨Rc.of c16, DoI.use (wr_wkadd c16 c17 c3 q190 (fun z => absurd (I 16 17 (lvs33 (by omega)) (lvs33 (by omega)) z) (by omega))) ?_⟩
        rintro v σ4 ⟨rfl, e4⟩
        obtain ⟨h4, s4⟩ := h2.asked hA aok dok c3 hk s23 fb ib c24 qb σ4 e4
        have r0 : Rask R (zq S) b 0 = R 0 := Rask_old (by omega)
        have r24 : Rask R (zq S) b 24 = R 24 := Rask_old (by omega)
        have g5 := h4.g5 (φ := fun r39 => (0 + 5 ≤ 5 ∧ 0 + 17 ≤ 17) ∧ Rc σ4 r39 7 ∧ Do g M_X7_clear 0 0 [.ref r39] σ4 (kV fun s40 => (0 + 5 ≤ 5 ∧ 0 + 17 ≤ 17) ∧ KP g σ R S (nI (zq S), s_askd S) (some (.int (nI (zq S)))) s40)) ⟨by omega, h4.sh, ?_⟩
        · rw [r0] at g5
          exact g5
        · refine DoV.use (wr_sclear h4.2.2.2.1 h4.ij) ?_
          rintro σ5 ⟨p1, p2⟩
          obtain ⟨h5, s5⟩ := h4.shs p2 (fun i hi => by unfold Tr at hi; omega) p1
          refine ⟨by omega, _, rfl, rfl, Rask R (zq S) b, ?_, r0, (s2.trans s4).trans (p2.to fun i hi => ⟨24, ⟨lvs33 (by omega), by omega⟩, ?_⟩), fun a ha hn i hi z => ?_⟩
          · rw [e2] at h5
            exact h5
          · unfold Tr at hi
            rw [show i = 24 by omega]
            exact r24
          · have hi1 : Lv (zo S) (zq S + 1) i ∧ i < 300 := hi
            by_cases c : 190 ≤ i ∧ i < 195
            · rw [show i = 190 + (i - 190) by omega, Rask_d (by omega)] at z
              exact (fb _ (by omega)).1 (z ▸ s2.1 _ ha)
            · by_cases c2 : 200 + 5 * zq S ≤ i ∧ i < 205 + 5 * zq S
              · rw [show i = 200 + 5 * zq S + (i - (200 + 5 * zq S)) by omega, Rask_q (by omega)] at z
                exact hn _ ⟨lsh _ (by omega), by omega⟩ z
              · rw [Rask_old (by omega)] at z
                refine hn i ⟨?_, hi1.2⟩ z
                have h1 := hi1.1
                unfold Lv at h1 ⊢
                omega
    · have c3 : ¬ zq S < 8 := fun z => c3 (nI_lt z (by decide))
      rw [if_neg c3]
      exact KP.go h2 s2 rfl
  · have c : ¬ (s_read S).1 < zn S := fun z => c (nI_lt z (by omega))
    have c2 := of_decide_eq_false (b2_0.mp c2)
    rw [e1] at c2
    rw [if_pos (by omega), if_neg c2]
    exact KP.go h2 s2 rfl
end ASK
