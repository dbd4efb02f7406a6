/-! Class and reference side by side: made, and each as it was when the other changes. -/
theorem nodup_inj {R : Nat → Nat} : ∀ {l : List Nat}, (l.map R).Nodup → ∀ {i j : Nat}, i ∈ l → j ∈ l → R i = R j → i = j
  | [], _, _, _, h, _, _ => absurd h List.not_mem_nil
  | a :: l, n, i, j, hi, hj, e => by
    rw [List.map_cons, List.nodup_cons] at n
    rcases List.mem_cons.mp hi with e1 | hi2
    · rcases List.mem_cons.mp hj with e2 | hj2
      · rw [e1, e2]
      · rw [e1] at e
        exact absurd (e ▸ List.mem_map_of_mem hj2) n.1
    · rcases List.mem_cons.mp hj with e2 | hj2
      · rw [e2] at e
        exact absurd (e ▸ List.mem_map_of_mem hi2) n.1
      · exact nodup_inj n.2 hi2 hj2 e
def allR : List Nat := (0 :: rlC) ++ (300 :: rlM)
theorem allR_in : ∀ i, i < 323 → (i < 33 ∨ (40 ≤ i ∧ i < 49) ∨ (50 ≤ i ∧ i < 78) ∨ (190 ≤ i ∧ i < 195) ∨ (300 ≤ i ∧ i < 323) → allR.elem i = true) := by decide +kernel
theorem rlC_lt : ∀ i ∈ rlC, i < 300 := by decide
theorem rlM_ge : ∀ i ∈ rlM, ¬ i < 300 := by decide
theorem Inv0 : Inv S0 := by
  refine ⟨⟨fun o ho => absurd ho (Nat.not_lt_zero _), fun s _ h => (by cases h), Nat.zero_le _⟩, ⟨fun i hi => absurd hi (Nat.not_lt_zero _), Nat.zero_le _⟩, ⟨fun c _ i _ => ?_, Nat.zero_le _⟩, ⟨Nat.zero_le _, fun k hk => absurd hk (Nat.not_lt_zero _)⟩, ⟨Nat.zero_le _, fun i hi => absurd hi (Nat.not_lt_zero _)⟩, Nat.zero_le _, Nat.zero_le _⟩
  exact ⟨Nat.zero_le _, by show (0 : Int) ≤ (0 : Int32).toInt; decide, by show (0 : Int32).toInt ≤ (0 : Int32).toInt; decide, by show (0 : Int32).toInt ≤ 99; decide⟩
section STA
variable {g : GG} {σ σ' : Hs} {R : Nat → Nat} {S : SS}
theorem KC.gr (h : KC g σ R) (s : Gr gN σ σ') : KC g σ' R := by
  have n : ∀ a, ¬ gN a := fun a z => z
  obtain ⟨h0, h1, ⟨h2, h3⟩, ⟨y0, y1, y2, y3, y4, y5⟩, ⟨k0, k1, k2, k3, k4⟩, ⟨p0, p1, p2, p3⟩, ⟨⟨st, col, sg, nm, e1, e2⟩, e3, lo, hi, bd, fx, sh, srt, hf, ⟨q0, q1, q2, q3⟩, q4⟩, ⟨m0, m1, m2⟩⟩ := h
  refine ⟨s.2 _ _ h0 (n _), h1.gr s (n _) (n _) (n _), ⟨s.2 _ _ h2 (n _), s.2 _ _ h3 (n _)⟩, ⟨s.2 _ _ y0 (n _), s.num y1 (n _) (n _), s.num y2 (n _) (n _), s.num y3 (n _) (n _), s.num y4 (n _) (n _), s.2 _ _ y5 (n _)⟩, ⟨s.2 _ _ k0 (n _), s.2 _ _ k1 (n _), s.num k2 (n _) (n _), s.num k3 (n _) (n _), s.num k4 (n _) (n _)⟩, ⟨s.2 _ _ p0 (n _), s.2 _ _ p1 (n _), s.num p2 (n _) (n _), fun c hc => ?_⟩, ⟨⟨st, col, sg, nm, e1, s.2 _ _ e2 (n _)⟩, s.num e3 (n _) (n _), lo, hi, bd, fx, sh, srt, hf, ⟨s.2 _ _ q0 (n _), s.num q1 (n _) (n _), s.num q2 (n _) (n _), q3⟩, q4⟩, ⟨s.2 _ _ m0 (n _), s.2 _ _ m1 (n _), fun i hi => (m2 i hi).gr s (n _) (n _) (n _)⟩⟩
  obtain ⟨a, b, c, d⟩ := p3 c hc
  exact ⟨s.2 _ _ a (n _), s.num b (n _) (n _), s.num c (n _) (n _), s.num d (n _) (n _)⟩
theorem KC.re {R' : Nat → Nat} (h : KC g σ R) (e : ∀ i, i < 300 → R' i = R i) : KC g σ R' := by
  obtain ⟨h0, h1, ⟨h2, h3⟩, ⟨y0, y1, y2, y3, y4, y5⟩, ⟨k0, k1, k2, k3, k4⟩, p, sh, m⟩ := h
  refine ⟨?_, ?_, ⟨?_, ?_⟩, ⟨?_, ?_, ?_, ?_, ?_, ?_⟩, ⟨?_, ?_, ?_, ?_, ?_⟩, p.re fun i hi => e i (by omega), sh.re fun i hi => e i (by omega), m.re fun i hi => e i (by omega)⟩
  · unfold koc at h0 ⊢
    rw [e 0 (by decide), e 1 (by decide), e 4 (by decide), e 6 (by decide), e 16 (by decide), e 27 (by decide), e 24 (by decide), e 31 (by decide)]
    exact h0
  · rw [e 1 (by decide), e 2 (by decide), e 3 (by decide)]; exact h1
  · rw [e 1 (by decide), e 4 (by decide), e 5 (by decide)]; exact h2
  · rw [e 5 (by decide)]; exact h3
  · unfold wc at y0 ⊢
    rw [e 1 (by decide), e 4 (by decide), e 6 (by decide), e 7 (by decide), e 9 (by decide), e 11 (by decide), e 13 (by decide), e 15 (by decide)]
    exact y0
  · rw [e 7 (by decide), e 8 (by decide)]; exact y1
  · rw [e 9 (by decide), e 10 (by decide)]; exact y2
  · rw [e 11 (by decide), e 12 (by decide)]; exact y3
  · rw [e 13 (by decide), e 14 (by decide)]; exact y4
  · rw [e 15 (by decide)]; exact y5
  · unfold wkc at k0 ⊢
    rw [e 4 (by decide), e 6 (by decide), e 16 (by decide), e 17 (by decide), e 18 (by decide), e 20 (by decide), e 22 (by decide)]
    exact k0
  · rw [e 17 (by decide)]; exact k1
  · rw [e 18 (by decide), e 19 (by decide)]; exact k2
  · rw [e 20 (by decide), e 21 (by decide)]; exact k3
  · rw [e 22 (by decide), e 23 (by decide)]; exact k4
theorem oQ_0 (R : Nat → Nat) : oQ R 0 = fun _ => none := funext fun i => if_neg (Nat.not_lt_zero i)
theorem qQ_0 (R : Nat → Nat) : qQ R 0 = fun _ => none := funext fun i => if_neg (Nat.not_lt_zero i)
theorem KC.ko (h : KC g σ R) (I : Ij R (Lv 0 0)) (al : ∀ i, Lv 0 0 i → R i ∈ σ.1) : KO g σ R S0 := by
  obtain ⟨h0, h1, ⟨h2, h3⟩, ⟨y0, y1, y2, y3, y4, y5⟩, ⟨k0, k1, k2, k3, k4⟩, p, sh, m⟩ := h
  have ne : ∀ i j, i < 33 → j < 33 → i ≠ j → R i ≠ R j := fun i j hi hj hn z => hn (I i j (lvs33 hi) (lvs33 hj) z)
  rw [← oQ_0 R] at h3
  rw [← qQ_0 R] at k1
  exact ⟨h0, ⟨(0, z32, z32, z32, z32, fun _ => 0), z32, z32, z32, 0, ⟨h1, ⟨h2, h3, Nat.zero_le _, fun o ho => absurd ho (Nat.not_lt_zero _), fun o ho => absurd ho (Nat.not_lt_zero _), fun i j a b => absurd b (by show ¬ i < 100 + 8 * 0; omega)⟩, ⟨y0, y1, y2, y3, y4, y5, ne 8 10 (by decide) (by decide) (by decide), ne 8 12 (by decide) (by decide) (by decide), ne 10 12 (by decide) (by decide) (by decide)⟩, ⟨k0, k1, fun i hi => absurd hi (Nat.not_lt_zero _), k2, k3, k4, Nat.zero_le _⟩⟩, I, ⟨by decide, by decide⟩, fun i hi => absurd hi (Nat.not_lt_zero _), by decide⟩, ⟨z32, p⟩, sh, m, al⟩
theorem RMk.rm (h : RMk g σ R) (I : IR R) : RM g σ R S0 := by
  refine ⟨X0, fun _ => z32, 0, ⟨h.1, h.2, I⟩, ⟨?_, rfl, fun s _ => rfl, fun k _ => rfl⟩, ⟨rfl, fun o ho => absurd ho (Nat.not_lt_zero _)⟩, ⟨rfl, fun k hk => absurd hk (Nat.not_lt_zero _)⟩, ⟨rfl, fun q hq => absurd hq (Nat.not_lt_zero _)⟩, ⟨rfl, rfl, rfl⟩, ⟨rfl, fun c _ => ⟨rfl, fun _ i _ => rfl, fun z => by cases z⟩⟩, ⟨rfl, fun m hm => absurd hm (Nat.not_lt_zero _)⟩⟩
  have : fa_cnt (fun _ => false) 64 = 0 := by decide +kernel
  show X0 2 = nI (fa_cnt (fun _ => false) 64)
  rw [this]
  rfl
/-- both made -/
theorem both_made {σ0 σ1 σ2 : Hs} {r0 m0 : Nat} {e e' : va_E} {R1 R2 : Nat → Nat} (h0 : σ0.1 = []) (hr : r0 ∉ σ0.1) (W1 : Nw (hpush σ0 r0 e) σ1 (rlC.map R1) (fun b => b = r0)) (e1 : R1 0 = r0) (K : KC g σ1 R1) (hm : m0 ∉ σ1.1) (W2 : Nw (hpush σ1 m0 e') σ2 (rlM.map R2) (fun b => b = m0)) (e2 : R2 300 = m0) (M : RMk g σ2 R2) : ∃ R, R 0 = r0 ∧ R 300 = m0 ∧ KO g σ2 R S0 ∧ RM g σ2 R S0 := by
  have V1 := W1.own hr
  have V2 := W2.own hm
  have eC : rlC.map R1 = rlC.map (fun i => if i < 300 then R1 i else R2 i) := List.map_congr_left fun i hi => (if_pos (rlC_lt i hi)).symm
  have eM : rlM.map R2 = rlM.map (fun i => if i < 300 then R1 i else R2 i) := List.map_congr_left fun i hi => (if_neg (rlM_ge i hi)).symm
  have el : σ2.1 = allR.map (fun i => if i < 300 then R1 i else R2 i) := by
    rw [V2.1.1, V1.1.1, h0, eC, eM, ← e1, ← e2]
    unfold allR
    rw [List.map_append, List.map_cons, List.map_cons]
    rfl
  have nd : σ2.1.Nodup := V2.1.2 (V1.1.2 (by rw [h0]; exact List.nodup_nil))
  rw [el] at nd
  have hin : ∀ i, Lv 0 0 i → i ∈ allR := fun i hi => by
    have hi : i < 33 ∨ (40 ≤ i ∧ i < 49) ∨ (50 ≤ i ∧ i < 78) ∨ (190 ≤ i ∧ i < 195) ∨ (300 ≤ i ∧ i < 323) := by unfold Lv at hi; omega
    exact List.mem_of_elem_eq_true (allR_in i (by omega) hi)
  have I : Ij (fun i => if i < 300 then R1 i else R2 i) (Lv 0 0) := fun i j hi hj e => nodup_inj nd (hin i hi) (hin j hj) e
  have lv3 : ∀ i, 300 ≤ i → i < 323 → Lv 0 0 i := fun i a b => by unfold Lv; omega
  refine ⟨fun i => if i < 300 then R1 i else R2 i, e1, e2, ((K.gr V2.2).re fun i hi => if_pos hi).ko I fun i hi => ?_, RMk.rm ⟨?_, fun k hk => ?_⟩ fun i j a b c d z => I i j (lv3 i a b) (lv3 j c d) z⟩
  · rw [el]
    exact List.mem_map_of_mem (hin i hi)
  · exact M.1
  · have := rx_lt k (isA_lt hk) hk
    show Ce σ2 (if rx k < 300 then R1 (rx k) else R2 (rx k)) _
    rw [if_neg (by omega)]
    exact M.2 k hk
/-- the class is as it was, when only the reference changed -/
theorem KO.t3 (h : KO g σ R S) (s : Sm R T3 σ σ') : KO g σ' R S := by
  have sf : Sf R (Lv (zo S) (zq S)) T3 σ σ' := ⟨s, h.ij, fun i hi => by unfold T3 at hi; unfold Lv; omega⟩
  have nL : ∀ i, Lv (zo S) (zq S) i → i < 300 → Lv (zo S) (zq S) i ∧ ¬ T3 i := fun i a b => ⟨a, fun z => by unfold T3 at z; omega⟩
  obtain ⟨h0, ⟨u, F, G, T, s1, ⟨k1, k2, k3, k4⟩, k5⟩, ⟨F2, hp⟩, hs, hm, al⟩ := h
  refine ⟨h0.sf sf (nL 0 (lvs33 (by omega)) (by omega)), ⟨u, F, G, T, s1, ⟨k1.sf sf (nL 1 (lvs33 (by omega)) (by omega)) (nL 2 (lvs33 (by omega)) (by omega)) (nL 3 (lvs33 (by omega)) (by omega)), k2.sf sf fun i hi => ?_, k3.sf sf fun i a b => nL i (lvs33 (by omega)) (by omega), k4.sf sf fun i hi => ?_⟩, k5⟩, ⟨F2, hp.sf sf fun i hi z => by unfold T3 at hi; omega⟩, hs.sf sf fun i hi z => by unfold T3 at hi; omega, hm.sf sf fun i hi z => by unfold T3 at hi; omega, fun i hi => s.1 _ (al i hi)⟩
  · have h8 := k2.2.2.1
    exact nL i (by unfold Lv; omega) (by omega)
  · have h8 := k4.2.2.2.2.2.2
    have hi : (16 ≤ i ∧ i < 24) ∨ (200 ≤ i ∧ i < 200 + 5 * zq S) := hi
    have h8 : zq S ≤ 8 := h8
    exact nL i (by unfold Lv; omega) (by omega)
/-- the reference is as it was, when only the class changed -/
theorem RM.cls {R' : Nat → Nat} (h : RM g σ R S) (k : KO g σ R S) (s : Sm R (Tc S) σ σ') (e : ∀ i, 300 ≤ i → R' i = R i) : RM g σ' R' S := by
  obtain ⟨X, A, hh, ⟨h1, h2, h3⟩, rs⟩ := h
  have I := k.ij
  have off : ∀ i, 300 ≤ i → i < 323 → ∀ j, Tc S j → R i ≠ R j := fun i a b j hj z => by
    have := I i j (by unfold Lv; omega) hj.1 z
    have := hj.2
    omega
  refine ⟨X, A, hh, ⟨?_, fun k hk => ?_, fun i j a b c d z => h3 i j a b c d (by rw [← e i a, ← e j c]; exact z)⟩, rs⟩
  · have z := s.2 _ _ h1 (off 300 (by omega) (by omega))
    rw [e 300 (by omega)]
    have ef : flds R' X hh = flds R X hh := by
      unfold flds
      rw [e (rx 0) (by decide), e (rx 1) (by decide), e (rx 5) (by decide), e (rx 6) (by decide), e (rx 7) (by decide), e (rx 8) (by decide), e (rx 9) (by decide), e (rx 10) (by decide), e (rx 11) (by decide), e (rx 13) (by decide), e (rx 15) (by decide), e (rx 16) (by decide), e (rx 17) (by decide), e (rx 18) (by decide), e (rx 22) (by decide), e (rx 23) (by decide), e (rx 26) (by decide), e (rx 27) (by decide), e (rx 31) (by decide), e (rx 34) (by decide), e (rx 37) (by decide), e (rx 38) (by decide)]
    rw [ef]
    exact z
  · have hx := rx_lt k (isA_lt hk) hk
    rw [e (rx k) (by omega)]
    exact s.2 _ _ (h2 k hk) (off (rx k) (by omega) (by omega))
end STA
