/-! The class beside the law's own arrays. -/
theorem nodup_inj {R : Nat → Nat} : ∀ {l : List Nat}, (l.map R).Nodup → ∀ {i j : Nat}, i ∈ l → j ∈ l → R i = R j → i = j
  | [], _, _, _, h, _, _ => absurd h List.not_mem_nil
  | a :: l, n, i, j, hi, hj, e => by
    rw [List.map_cons, List.nodup_cons] at n
    rcases List.mem_cons.mp hi with e1 | hi2
    · rcases List.mem_cons.mp hj with e2 | hj2
      · rw [e1, e2]
      · rw [e1] at e
        exact absurd (e ▸ List.mem_map_of_mem hj2) n.1
    · rcases List.mem_cons.mp hj with e2 | hj2
      · rw [e2] at e
        exact absurd (e ▸ List.mem_map_of_mem hi2) n.1
      · exact nodup_inj n.2 hi2 hj2 e
def allR : List Nat := 0 :: rlC
theorem allR_in : ∀ i, i < 195 → (i < 33 ∨ (40 ≤ i ∧ i < 49) ∨ (50 ≤ i ∧ i < 78) ∨ (190 ≤ i ∧ i < 195) → allR.elem i = true) := by decide +kernel
theorem Inv0 : Inv S0 := by
  refine ⟨⟨fun o ho => absurd ho (Nat.not_lt_zero _), fun s _ h => (by cases h), Nat.zero_le _⟩, ⟨fun i hi => absurd hi (Nat.not_lt_zero _), Nat.zero_le _⟩, ⟨fun c _ i _ => ?_, Nat.zero_le _⟩, ⟨Nat.zero_le _, fun k hk => absurd hk (Nat.not_lt_zero _)⟩, ⟨Nat.zero_le _, fun i hi => absurd hi (Nat.not_lt_zero _)⟩, Nat.zero_le _, Nat.zero_le _⟩
  exact ⟨Nat.zero_le _, by show (0 : Int) ≤ (0 : Int32).toInt; decide, by show (0 : Int32).toInt ≤ (0 : Int32).toInt; decide, by show (0 : Int32).toInt ≤ 99; decide⟩
section LBA
variable {g : GG} {σ σ' : Hs} {R : Nat → Nat} {S : SS}
theorem oQ_0 (R : Nat → Nat) : oQ R 0 = fun _ => none := funext fun i => if_neg (Nat.not_lt_zero i)
theorem qQ_0 (R : Nat → Nat) : qQ R 0 = fun _ => none := funext fun i => if_neg (Nat.not_lt_zero i)
theorem KC.ko (h : KC g σ R) (I : Ij R (Lv 0 0)) (al : ∀ i, Lv 0 0 i → R i ∈ σ.1) : KO g σ R S0 := by
  obtain ⟨h0, h1, ⟨h2, h3⟩, ⟨y0, y1, y2, y3, y4, y5⟩, ⟨k0, k1, k2, k3, k4⟩, p, sh, m⟩ := h
  have ne : ∀ i j, i < 33 → j < 33 → i ≠ j → R i ≠ R j := fun i j hi hj hn z => hn (I i j (lvs33 hi) (lvs33 hj) z)
  rw [← oQ_0 R] at h3
  rw [← qQ_0 R] at k1
  exact ⟨h0, ⟨(0, z32, z32, z32, z32, fun _ => 0), z32, z32, z32, 0, ⟨h1, ⟨h2, h3, Nat.zero_le _, fun o ho => absurd ho (Nat.not_lt_zero _), fun o ho => absurd ho (Nat.not_lt_zero _), fun i j a b => absurd b (by show ¬ i < 100 + 8 * 0; omega)⟩, ⟨y0, y1, y2, y3, y4, y5, ne 8 10 (by decide) (by decide) (by decide), ne 8 12 (by decide) (by decide) (by decide), ne 10 12 (by decide) (by decide) (by decide)⟩, ⟨k0, k1, fun i hi => absurd hi (Nat.not_lt_zero _), k2, k3, k4, Nat.zero_le _⟩⟩, I, ⟨by decide, by decide⟩, fun i hi => absurd hi (Nat.not_lt_zero _), by decide⟩, ⟨z32, p⟩, sh, m, al⟩
theorem made {σ0 σ1 : Hs} {r0 : Nat} {e : va_E} {R1 : Nat → Nat} (h0 : σ0.1 = []) (hr : r0 ∉ σ0.1) (W1 : Nw (hpush σ0 r0 e) σ1 (rlC.map R1) (fun b => b = r0)) (e1 : R1 0 = r0) (K : KC g σ1 R1) : KO g σ1 R1 S0 := by
  have V1 := W1.own hr
  have el : σ1.1 = allR.map R1 := by
    rw [V1.1.1, h0, ← e1]
    rfl
  have nd : σ1.1.Nodup := V1.1.2 (by rw [h0]; exact List.nodup_nil)
  rw [el] at nd
  have hin : ∀ i, Lv 0 0 i → i ∈ allR := fun i hi => by
    have hi : i < 33 ∨ (40 ≤ i ∧ i < 49) ∨ (50 ≤ i ∧ i < 78) ∨ (190 ≤ i ∧ i < 195) := by unfold Lv at hi; omega
    exact List.mem_of_elem_eq_true (allR_in i (by omega) hi)
  refine K.ko (fun i j hi hj e => nodup_inj nd (hin i hi) (hin j hj) e) fun i hi => ?_
  rw [el]
  exact List.mem_map_of_mem (hin i hi)
theorem list_big : ∀ l : List Nat, ∃ M, ∀ a, a ∈ l → a < M
  | [] => ⟨0, fun a h => absurd h List.not_mem_nil⟩
  | b :: l => by
    obtain ⟨M, hM⟩ := list_big l
    refine ⟨M + b + 1, fun a h => ?_⟩
    rcases List.mem_cons.mp h with rfl | h
    · omega
    · have := hM a h; omega
/-- one cell that is no role's changes, others come: the class stays -/
theorem KO.gr1 {p : Nat} (h : KO g σ R S) (s : Gr (fun b => b = p) σ σ') (hp : ∀ i, Lv (zo S) (zq S) i → R i ≠ p) : KO g σ' R S := by
  obtain ⟨M, hM⟩ := list_big (p :: σ.1)
  have hal := h.2.2.2.2.2
  have hq8 := h.q8
  have ho8 := h.ords.2.2.1
  have I := h.ij
  obtain ⟨R', hR'⟩ : ∃ R' : Nat → Nat, R' = fun i => if 200 + 5 * zq S ≤ i ∧ i < 205 + 5 * zq S then (if i = 200 + 5 * zq S then p else M + i) else R i := ⟨_, rfl⟩
  have eo : ∀ i, Lv (zo S) (zq S) i → R' i = R i := fun i hi => by
    rw [hR']
    exact if_neg (by unfold Lv at hi; omega)
  have er : ∀ i, i < 200 + 5 * zq S → R' i = R i := fun i hi => by
    rw [hR']
    exact if_neg (by omega)
  have ep : R' (200 + 5 * zq S) = p := by
    rw [hR']
    exact (if_pos (by omega)).trans (if_pos rfl)
  have en : ∀ i, 200 + 5 * zq S < i → i < 205 + 5 * zq S → R' i = M + i := fun i h1 h2 => by
    rw [hR']
    exact (if_pos (by omega)).trans (if_neg (by omega))
  have pM := hM p List.mem_cons_self
  have lvc : ∀ i, Lv (zo S) (zq S + 1) i → Lv (zo S) (zq S) i ∨ i = 200 + 5 * zq S ∨ (200 + 5 * zq S < i ∧ i < 205 + 5 * zq S) := fun i hi => by unfold Lv at hi ⊢; omega
  have big : ∀ i, Lv (zo S) (zq S) i → R i < M := fun i hi => hM _ (List.mem_cons_of_mem _ (hal i hi))
  have I' : Ij R' (Lv (zo S) (zq S + 1)) := fun i j hi hj e => by
    rcases lvc i hi with a | a | a <;> rcases lvc j hj with b | b | b
    · rw [eo i a, eo j b] at e; exact I i j a b e
    · rw [eo i a, b, ep] at e; exact absurd e (hp i a)
    · rw [eo i a, en j b.1 b.2] at e; have := big i a; omega
    · rw [eo j b, a, ep] at e; exact absurd e.symm (hp j b)
    · omega
    · rw [a, ep, en j b.1 b.2] at e; omega
    · rw [eo j b, en i a.1 a.2] at e; have := big j b; omega
    · rw [b, ep, en i a.1 a.2] at e; omega
    · rw [en i a.1 a.2, en j b.1 b.2] at e; omega
  have sf : Sf R' (Lv (zo S) (zq S + 1)) (fun i => i = 200 + 5 * zq S) σ σ' := ⟨s.sm fun a ha => ⟨_, rfl, by rw [ha, ep]⟩, I', fun i hi => by rw [hi]; unfold Lv; omega⟩
  have nL : ∀ i, i < 200 + 5 * zq S → Lv (zo S) (zq S + 1) i → Lv (zo S) (zq S + 1) i ∧ ¬ i = 200 + 5 * zq S := fun i a b => ⟨b, by omega⟩
  have n33 : ∀ i, i < 33 → Lv (zo S) (zq S + 1) i ∧ ¬ i = 200 + 5 * zq S := fun i a => ⟨lvs33 a, by omega⟩
  obtain ⟨h0, ⟨u, F, G, T, s1, ⟨k1, k2, k3, k4⟩, k5, k6⟩, ⟨F2, hp1⟩, hs, hm, al⟩ := h
  have q2 : OrdsC g σ' R' (zo S) (zB S) := (k2.re fun i hi => er i (by omega)).sf sf fun i hi => nL i (by omega) (by unfold Lv; omega)
  have q3 : WayC g σ' R' u := (k3.re fun i hi => er i (by omega)).sf sf fun i a b => n33 i (by omega)
  have q4 : WorkC g σ' R' (zq S, zQ S, F, G, T, s1, zu S) := (k4.re fun i hi => er i (by have : i < 33 ∨ (200 ≤ i ∧ i < 200 + 5 * zq S) := hi; omega)).sf sf fun i hi => by
    have hi : (16 ≤ i ∧ i < 24) ∨ (200 ≤ i ∧ i < 200 + 5 * zq S) := hi
    exact nL i (by omega) (by unfold Lv; omega)
  have qp : PicsC g σ' R' (zr S) F2 (zP S) := (hp1.re fun i hi => er i (by omega)).sf sf fun i hi z => by omega
  have qs : ShC g σ' R' (zn S) (zC S) := (hs.re fun i hi => er i (by omega)).sf sf fun i hi z => by omega
  have qm : MarksC g σ' R' (zm S) (zM S) := (hm.re fun i hi => er i (by omega)).sf sf fun i hi z => by omega
  have q0 : Ce σ' (R 0) (koc R (zc S) (zs S)) := s.2 _ _ h0 (fun z => hp 0 (lvs33 (by omega)) z)
  have q1 : TabAt g σ' (R 1) (R 2) (R 3) (zf S) (zt S) (zw S) := ⟨s.2 _ _ k1.1 (fun z => hp 1 (lvs33 (by omega)) z), s.2 _ _ k1.2.1 (fun z => hp 2 (lvs33 (by omega)) z), s.2 _ _ k1.2.2.1 (fun z => hp 3 (lvs33 (by omega)) z), k1.2.2.2⟩
  exact ⟨q0, ⟨u, F, G, T, s1, ⟨q1, q2.re fun i hi => (er i (by omega)).symm, q3.re fun i hi => (er i (by omega)).symm, q4.re fun i hi => (er i (by have : i < 33 ∨ (200 ≤ i ∧ i < 200 + 5 * zq S) := hi; omega)).symm⟩, k5, k6⟩, ⟨F2, qp.re fun i hi => (er i (by omega)).symm⟩, qs.re fun i hi => (er i (by omega)).symm, qm.re fun i hi => (er i (by omega)).symm, fun i hi => s.1 _ (al i hi)⟩
theorem KO.gr0 (h : KO g σ R S) (s : Gr gN σ σ') : KO g σ' R S := by
  obtain ⟨M, hM⟩ := list_big σ.1
  exact h.gr1 (p := M) s.any fun i hi z => by
    have := hM _ (h.2.2.2.2.2 i hi)
    omega
end LBA
/-! the law's arrays: row 64, weight 4, answers 4, ways 64, work 8 -/
abbrev AE : Type := (Nat → Int32) × (Nat → Int32) × (Nat → Int32) × (Nat → Int32) × (Nat → Int32)
def aE (g : GG) (E : AE) (k : Nat) : va_E := if k = 0 then aI g 64 E.1 else if k = 1 then aI g 4 E.2.1 else if k = 2 then aI g 4 E.2.2.1 else if k = 3 then aI g 64 E.2.2.2.1 else aI g 8 E.2.2.2.2
def Lw (g : GG) (σ : Hs) (R : Nat → Nat) (S : SS) (n : Nat) (Q : Nat → Nat) (E : AE) : Prop := KO g σ R S ∧ (∀ k, k < n → Ce σ (Q k) (aE g E k) ∧ ∀ i, Lv (zo S) (zq S) i → Q k ≠ R i) ∧ ∀ j k, j < n → k < n → Q j = Q k → j = k
section LWS
variable {g : GG} {σ σ' : Hs} {R : Nat → Nat} {S : SS} {n : Nat} {Q : Nat → Nat} {E : AE}
theorem lv_300 {told qn i : Nat} (h1 : told ≤ 8) (h2 : qn ≤ 8) (h : Lv told qn i) : i < 300 := by unfold Lv at h; omega
theorem KO.lv3 (h : KO g σ R S) {i : Nat} (hi : Lv (zo S) (zq S) i) : Tc S i := ⟨hi, lv_300 h.ords.2.2.1 h.q8 hi⟩
theorem Lw.call {S' : SS} (h : Lw g σ R S n Q E) (k : KPb g σ R S S' σ') : ∃ R', R' 0 = R 0 ∧ Lw g σ' R' S' n Q E := by
  obtain ⟨R', k1, k2, k3, k4⟩ := k
  exact ⟨R', k2, k1, fun j hj => ⟨k3.2 _ _ (h.2.1 j hj).1 fun i hi => (h.2.1 j hj).2 i hi.1, fun i hi => k4 _ (h.2.1 j hj).1.1 (fun i hi => (h.2.1 j hj).2 i hi.1) i (k1.lv3 hi)⟩, h.2.2⟩
theorem Lw.gr (h : Lw g σ R S n Q E) (s : Gr gN σ σ') : Lw g σ' R S n Q E := ⟨h.1.gr0 s, fun j hj => ⟨s.2 _ _ (h.2.1 j hj).1 (fun z => z), (h.2.1 j hj).2⟩, h.2.2⟩
theorem Lw.hup {j : Nat} {E' : AE} (h : Lw g σ R S n Q E) (hj : j < n) (e : ∀ k, k < n → k ≠ j → aE g E' k = aE g E k) : Lw g (hup σ (Q j) (aE g E' j)) R S n Q E' := by
  refine ⟨h.1.gr1 Gr.hp fun i hi z => (h.2.1 j hj).2 i hi z.symm, fun k hk => ⟨?_, (h.2.1 k hk).2⟩, h.2.2⟩
  by_cases c : k = j
  · subst c
    exact (h.2.1 k hk).1.up _
  · rw [e k hk c]
    exact (h.2.1 k hk).1.upo fun z => c (h.2.2 k j hk hj z)
theorem Lw.psh {q : Nat} {E' : AE} (h : Lw g σ R S n Q E) (hq : q ∉ σ.1) (e : ∀ k, k < n → aE g E' k = aE g E k) : Lw g (hpush σ q (aE g E' n)) R S (n + 1) (fun k => if k = n then q else Q k) E' := by
  have s := Gr.push (aE g E' n) hq
  refine ⟨h.1.gr0 s, fun k hk => ?_, fun j k hj hk z => ?_⟩
  · by_cases c : k = n
    · subst c
      refine ⟨?_, fun i hi => ?_⟩
      · show Ce _ (if k = k then q else Q k) _
        rw [if_pos rfl]
        exact Ce.psh
      · show (if k = k then q else Q k) ≠ R i
        rw [if_pos rfl]
        intro z
        exact hq (z ▸ h.1.2.2.2.2.2 i hi)
    · refine ⟨?_, fun i hi => ?_⟩
      · show Ce _ (if k = n then q else Q k) _
        rw [if_neg c, e k (by omega)]
        exact s.2 _ _ (h.2.1 k (by omega)).1 (fun z => z)
      · show (if k = n then q else Q k) ≠ R i
        rw [if_neg c]
        exact (h.2.1 k (by omega)).2 i hi
  · have z : (if j = n then q else Q j) = (if k = n then q else Q k) := z
    by_cases c : j = n <;> by_cases d : k = n
    · omega
    · rw [if_pos c, if_neg d] at z
      exact absurd (z ▸ (h.2.1 k (by omega)).1.1) hq
    · rw [if_neg c, if_pos d] at z
      exact absurd (z.symm ▸ (h.2.1 j (by omega)).1.1) hq
    · rw [if_neg c, if_neg d] at z
      exact h.2.2 j k (by omega) (by omega) z
theorem Lw.c0 (h : Lw g σ R S n Q E) (hn : 0 < n) : Ce σ (Q 0) (aI g 64 E.1) := (h.2.1 0 hn).1
theorem Lw.c1 (h : Lw g σ R S n Q E) (hn : 1 < n) : Ce σ (Q 1) (aI g 4 E.2.1) := (h.2.1 1 hn).1
theorem Lw.c2 (h : Lw g σ R S n Q E) (hn : 2 < n) : Ce σ (Q 2) (aI g 4 E.2.2.1) := (h.2.1 2 hn).1
theorem Lw.c3 (h : Lw g σ R S n Q E) (hn : 3 < n) : Ce σ (Q 3) (aI g 64 E.2.2.2.1) := (h.2.1 3 hn).1
theorem Lw.c4 (h : Lw g σ R S n Q E) (hn : 4 < n) : Ce σ (Q 4) (aI g 8 E.2.2.2.2) := (h.2.1 4 hn).1
end LWS
