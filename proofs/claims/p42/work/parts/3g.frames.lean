/-! The whole state under other names of the roles, and what single calls change of it. -/
section RES
variable {g : GG} {σ σ' : Hs} {R R' : Nat → Nat} {S : SS}
theorem OrdsC.re {told : Nat} {B : Nat → OD} (h : OrdsC g σ R told B) (e : ∀ i, i < 33 ∨ (100 ≤ i ∧ i < 100 + 8 * told) → R' i = R i) : OrdsC g σ R' told B := by
  obtain ⟨h1, h2, h3, h4, h5, h6⟩ := h
  have eq : oQ R' told = oQ R told := by
    funext o
    unfold oQ
    by_cases c : o < told
    · rw [if_pos c, if_pos c, e _ (by omega)]
    · rw [if_neg c, if_neg c]
  refine ⟨?_, ?_, h3, fun o ho => OrdC.re (h4 o ho) fun k hk => ?_, h5, fun i j a1 a2 a3 b1 b2 b3 z => h6 i j a1 a2 a3 b1 b2 b3 ?_⟩
  · rw [e 1 (by omega), e 4 (by omega), e 5 (by omega)]; exact h1
  · rw [e 5 (by omega), eq]; exact h2
  · unfold oad
    by_cases k1 : k = 1
    · rw [if_pos k1, if_pos k1, e 1 (by omega)]
    · rw [if_neg k1, if_neg k1, e _ (by omega)]
  · rw [← e i (by omega), ← e j (by omega)]; exact z
theorem WayC.re {u : WS} (h : WayC g σ R u) (e : ∀ i, i < 33 → R' i = R i) : WayC g σ R' u := by
  unfold WayC wc at *
  rw [e 1 (by omega), e 4 (by omega), e 6 (by omega), e 7 (by omega), e 8 (by omega), e 9 (by omega), e 10 (by omega), e 11 (by omega), e 12 (by omega), e 13 (by omega), e 14 (by omega), e 15 (by omega)]
  exact h
theorem WorkC.re {V : WK} (h : WorkC g σ R V) (e : ∀ i, i < 33 ∨ (200 ≤ i ∧ i < 200 + 5 * V.1) → R' i = R i) : WorkC g σ R' V := by
  obtain ⟨h1, h2, h3, h4, h5, h6, h7⟩ := h
  have eq : qQ R' V.1 = qQ R V.1 := by
    funext o
    unfold qQ
    by_cases c : o < V.1
    · rw [if_pos c, if_pos c, e _ (by omega)]
    · rw [if_neg c, if_neg c]
  refine ⟨?_, ?_, fun i hi => QAt.re (h3 i hi) fun k hk => e _ (by omega), ?_, ?_, ?_, h7⟩
  · unfold wkc at *
    rw [e 4 (by omega), e 6 (by omega), e 16 (by omega), e 17 (by omega), e 18 (by omega), e 20 (by omega), e 22 (by omega)]; exact h1
  · rw [e 17 (by omega), eq]; exact h2
  · rw [e 18 (by omega), e 19 (by omega)]; exact h4
  · rw [e 20 (by omega), e 21 (by omega)]; exact h5
  · rw [e 22 (by omega), e 23 (by omega)]; exact h6
theorem PicC.re {p p' : Nat → Nat} {P : PD} (h : PicC g σ p P) (e : ∀ k, k < 7 → p' k = p k) : PicC g σ p' P := by
  unfold PicC at *
  rw [e 0 (by omega), e 1 (by omega), e 2 (by omega), e 3 (by omega), e 4 (by omega), e 5 (by omega), e 6 (by omega)]
  exact h
theorem PicsC.re {pr : Nat} {F : Nat → Int32} {P : Nat → PD} (h : PicsC g σ R pr F P) (e : ∀ i, i < 100 → R' i = R i) : PicsC g σ R' pr F P := by
  obtain ⟨h1, h2, h3, h4⟩ := h
  have eq : pQ R' = pQ R := by
    funext o
    unfold pQ
    by_cases c : o < 4
    · rw [if_pos c, if_pos c, e _ (by omega)]
    · rw [if_neg c, if_neg c]
  refine ⟨?_, ?_, ?_, fun c hc => PicC.re (h4 c hc) fun k hk => e _ (by omega)⟩
  · rw [e 1 (by omega), e 4 (by omega), e 27 (by omega), e 28 (by omega), e 29 (by omega)]; exact h1
  · rw [e 28 (by omega), eq]; exact h2
  · rw [e 29 (by omega), e 30 (by omega)]; exact h3
theorem MarksC.re {mk : Nat} {M : Nat → MT} (h : MarksC g σ R mk M) (e : ∀ i, i < 100 → R' i = R i) : MarksC g σ R' mk M := by
  obtain ⟨h1, h2, h3⟩ := h
  have eq : mQ R' = mQ R := by
    funext o
    unfold mQ
    by_cases c : o < 3
    · rw [if_pos c, if_pos c, e _ (by omega)]
    · rw [if_neg c, if_neg c]
  refine ⟨?_, ?_, fun i hi => ?_⟩
  · unfold mkc at *
    rw [e 31 (by omega), e 32 (by omega)]; exact h1
  · rw [e 32 (by omega), eq]; exact h2
  · rw [e _ (by omega), e _ (by omega), e _ (by omega)]; exact h3 i hi
theorem ShC.re {n : Nat} {C : Nat → Nat} (h : ShC g σ R n C) (e : ∀ i, i < 100 ∨ (190 ≤ i ∧ i < 195) → R' i = R i) : ShC g σ R' n C := by
  obtain ⟨⟨st, col, sg, nm, b, h1⟩, h2, lo, hi, bd, fx, sh, srt, hf, h3, h9⟩ := h
  refine ⟨⟨st, col, sg, nm, b, ?_⟩, ?_, lo, hi, bd, fx, sh, srt, hf, QRaw.re h3 fun k hk => e _ (by omega), h9⟩
  · unfold shc at *
    rw [e 24 (by omega), e 25 (by omega), e 190 (by omega)]; exact h1
  · rw [e 25 (by omega), e 26 (by omega)]; exact h2
/-- the sheet changed, nothing else -/
theorem KO.shs {T : Nat → Prop} {n' : Nat} {C' : Nat → Nat} (h : KO g σ R S) (s : Sm R T σ σ') (hT : ∀ i, T i → (24 ≤ i ∧ i < 27) ∨ (190 ≤ i ∧ i < 195)) (hs : ShC g σ' R n' C') : KO g σ' R (S.1, S.2.1, S.2.2.1, S.2.2.2.1, (n', C'), S.2.2.2.2.2) ∧ Sm R (Tc S) σ σ' := by
  have sf : Sf R (Lv (zo S) (zq S)) T σ σ' := ⟨s, h.ij, fun i hi => by have := hT i hi; unfold Lv; omega⟩
  obtain ⟨h0, ⟨u, F, G, T1, s1, ⟨k1, k2, k3, k4⟩, hk⟩, ⟨F2, hp⟩, -, hm, al⟩ := h
  have nT : ∀ i, i < 24 ∨ (27 ≤ i ∧ i < 190) ∨ 195 ≤ i → ¬ T i := fun i hi z => by have := hT i z; omega
  have nL : ∀ i, i < 24 ∨ (27 ≤ i ∧ i < 33) → Lv (zo S) (zq S) i ∧ ¬ T i := fun i a => ⟨lvs33 (by omega), nT i (by omega)⟩
  refine ⟨⟨h0.sf sf (nL 0 (by omega)), ⟨u, F, G, T1, s1, ⟨k1.sf sf (nL 1 (by omega)) (nL 2 (by omega)) (nL 3 (by omega)), k2.sf sf fun i hi => ⟨?_, nT i ?_⟩, k3.sf sf fun i a b => nL i (by omega), k4.sf sf fun i hi => ?_⟩, hk⟩, ⟨F2, hp.sf sf fun i hi z => nT i (by omega) hi⟩, hs, hm.sf sf fun i hi z => nT i (by omega) hi, fun i hi => s.1 _ (al i hi)⟩, s.mono fun i hi => ⟨sf.2.2 i hi, by have := hT i hi; omega⟩⟩
  · unfold Lv; omega
  · have := k2.2.2.1; omega
  · rcases hi with a | a
    · exact nL i (by omega)
    · have a2 : i < 200 + 5 * zq S := a.2
      exact ⟨by unfold Lv; omega, nT i (by omega)⟩
/-- the pictures changed, nothing else -/
theorem KO.pis {pr' : Nat} {F' : Nat → Int32} {P' : Nat → PD} (h : KO g σ R S) (s : Sm R Tpc σ σ') (hp : PicsC g σ' R pr' F' P') : KO g σ' R (S.1, S.2.1, S.2.2.1, (pr', P'), S.2.2.2.2) ∧ Sm R (Tc S) σ σ' := by
  have hT : ∀ i, Tpc i → (27 ≤ i ∧ i < 31) ∨ (50 ≤ i ∧ i < 78) := fun i z => z
  have sf : Sf R (Lv (zo S) (zq S)) Tpc σ σ' := ⟨s, h.ij, fun i hi => by have := hT i hi; unfold Lv; omega⟩
  obtain ⟨h0, ⟨u, F, G, T1, s1, ⟨k1, k2, k3, k4⟩, hk⟩, -, hs, hm, al⟩ := h
  have nT : ∀ i, i < 27 ∨ (31 ≤ i ∧ i < 50) ∨ 78 ≤ i → ¬ Tpc i := fun i hi z => by have := hT i z; omega
  have nL : ∀ i, i < 27 ∨ (31 ≤ i ∧ i < 33) → Lv (zo S) (zq S) i ∧ ¬ Tpc i := fun i a => ⟨lvs33 (by omega), nT i (by omega)⟩
  refine ⟨⟨h0.sf sf (nL 0 (by omega)), ⟨u, F, G, T1, s1, ⟨k1.sf sf (nL 1 (by omega)) (nL 2 (by omega)) (nL 3 (by omega)), k2.sf sf fun i hi => ⟨?_, nT i (by omega)⟩, k3.sf sf fun i a b => nL i (by omega), k4.sf sf fun i hi => ?_⟩, hk⟩, ⟨F', hp⟩, hs.sf sf fun i hi z => nT i (by omega) hi, hm.sf sf fun i hi z => nT i (by omega) hi, fun i hi => s.1 _ (al i hi)⟩, s.mono fun i hi => ⟨sf.2.2 i hi, by have := hT i hi; omega⟩⟩
  · unfold Lv; omega
  · rcases hi with a | a
    · exact nL i (by omega)
    · have a2 : i < 200 + 5 * zq S := a.2
      exact ⟨by unfold Lv; omega, nT i (by omega)⟩
/-- the marks changed, nothing else -/
theorem KO.mrs {T : Nat → Prop} {mk' : Nat} {M' : Nat → MT} (h : KO g σ R S) (s : Sm R T σ σ') (hT : ∀ i, T i → i = 31 ∨ (40 ≤ i ∧ i < 49)) (hm : MarksC g σ' R mk' M') : KO g σ' R (S.1, S.2.1, S.2.2.1, S.2.2.2.1, S.2.2.2.2.1, (mk', M'), S.2.2.2.2.2.2) ∧ Sm R (Tc S) σ σ' := by
  have sf : Sf R (Lv (zo S) (zq S)) T σ σ' := ⟨s, h.ij, fun i hi => by have := hT i hi; unfold Lv; omega⟩
  obtain ⟨h0, ⟨u, F, G, T1, s1, ⟨k1, k2, k3, k4⟩, hk⟩, ⟨F2, hp⟩, hs, -, al⟩ := h
  have nT : ∀ i, i < 31 ∨ (32 ≤ i ∧ i < 40) ∨ 49 ≤ i → ¬ T i := fun i hi z => by have := hT i z; omega
  have nL : ∀ i, i < 31 ∨ (32 ≤ i ∧ i < 33) → Lv (zo S) (zq S) i ∧ ¬ T i := fun i a => ⟨lvs33 (by omega), nT i (by omega)⟩
  refine ⟨⟨h0.sf sf (nL 0 (by omega)), ⟨u, F, G, T1, s1, ⟨k1.sf sf (nL 1 (by omega)) (nL 2 (by omega)) (nL 3 (by omega)), k2.sf sf fun i hi => ⟨?_, nT i (by omega)⟩, k3.sf sf fun i a b => nL i (by omega), k4.sf sf fun i hi => ?_⟩, hk⟩, ⟨F2, hp.sf sf fun i hi z => nT i (by omega) hi⟩, hs.sf sf fun i hi z => nT i (by omega) hi, hm, fun i hi => s.1 _ (al i hi)⟩, s.mono fun i hi => ⟨sf.2.2 i hi, by have := hT i hi; omega⟩⟩
  · unfold Lv; omega
  · rcases hi with a | a
    · exact nL i (by omega)
    · have a2 : i < 200 + 5 * zq S := a.2
      exact ⟨by unfold Lv; omega, nT i (by omega)⟩
end RES
