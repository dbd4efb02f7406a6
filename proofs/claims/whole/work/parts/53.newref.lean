/-! The reference made. -/
def X0 : Nat → Int32 := fun i => if i = 3 then 4 else 0
def rlM : List Nat := [301, 302, 303, 304, 305, 306, 307, 308, 309, 310, 311, 312, 313, 314, 315, 316, 317, 318, 319, 320, 321, 322]
section NMD
variable {g : GG} {σ : Hs}
/-- the reference's fields so far -/
def RI (g : GG) (σ s : Hs) (r : Nat) (fs : List Value) (l : List (Nat × Nat)) : Prop := Ce s r (.inr (12, fs)) ∧ (∀ q ∈ l, Ce s q.2 (.inl (g.2.2.1 (rT q.1), rL q.1, .inl z32))) ∧ (∀ q ∈ l, q.2 ≠ r) ∧ Nw σ s (l.map (·.2)) (fun b => b = r)
theorem RI.na {s : Hs} {r k t : Nat} {n : Int32} {fs : List Value} {l : List (Nat × Nat)} {φ : Hs → Prop} (h : RI g σ s r fs l) (hk : k < fs.length) (ht : rT k = t) (ht3 : t < 3) (hn : n.toNatClampNeg = rL k) (fs' : Nat → List Value) (l' : Nat → List (Nat × Nat)) (hf : ∀ q, fs.set k (.ref q) = fs' q) (hl : ∀ q, l ++ [(k, q)] = l' q) (K : ∀ q s', RI g σ s' r (fs' q) (l' q) → φ s') : NA g s t n ndef (fun q s2 => PF s2 r 12 k (.ref q) (fun s3 => φ s3)) := by
  intro q hq
  obtain ⟨a1, a2, a3, a4⟩ := h
  have e : ((.inl (g.2.2.1 t, n.toNatClampNeg, ndef t)) : va_E) = .inl (g.2.2.1 (rT k), rL k, .inl z32) := by
    rw [hn, ht]
    unfold ndef
    rw [if_pos ht3]
  have w1 := Nw.push (.inl (g.2.2.1 t, n.toNatClampNeg, ndef t)) hq
  have c1 := w1.2.2 _ _ a1 (fun z => z)
  have dq : q ≠ r := fun z => hq (z ▸ a1.1)
  have cq : Ce (hpush s q (.inl (g.2.2.1 t, n.toNatClampNeg, ndef t))) q (.inl (g.2.2.1 (rT k), rL k, .inl z32)) := e ▸ Ce.psh
  refine PF.of c1 hk (hf q) (K q _ ⟨c1.up _, fun p hp => ?_, fun p hp => ?_, ?_⟩)
  · rw [← hl q] at hp
    rcases List.mem_append.mp hp with z | z
    · exact (w1.2.2 _ _ (a2 p z) (fun y => y)).upo (a3 p z)
    · rw [List.mem_singleton.mp z]
      exact cq.upo dq
  · rw [← hl q] at hp
    rcases List.mem_append.mp hp with z | z
    · exact a3 p z
    · rw [List.mem_singleton.mp z]
      exact dq
  · rw [← hl q, List.map_append]
    exact a4.trans (w1.any.hup (X := fun b => b = r) rfl _)
def RMk (g : GG) (σ : Hs) (R : Nat → Nat) : Prop := Ce σ (R 300) (.inr (12, flds R X0 0)) ∧ ∀ k, isA k = true → Ce σ (R (rx k)) (.inl (g.2.2.1 (rT k), rL k, .inl z32))
set_option maxHeartbeats 4000000 in
set_option maxRecDepth 100000 in
theorem wr_minitM {r : Nat} (h : Ce σ r (.inr (12, [.null, .null, .int 0, .int 0, .int 0, .null, .null, .null, .null, .null, .null, .null, .int 0, .null, .int 0, .null, .null, .null, .null, .int 0, .int 0, .int 0, .null, .null, .int 0, .int 0, .null, .null, .int 0, .int 0, .int 0, .null, .int 0, .int 0, .null, .int 0, .int 0, .null, .null, .long 0]))) : Do g M_X12_init 22 3272 [.ref r] σ (kV fun σ' => ∃ R : Nat → Nat, R 300 = r ∧ RMk g σ' R ∧ Nw σ σ' (rlM.map R) (fun b => b = r)) := by
  have h0 : RI g σ σ r [.null, .null, .int 0, .int 0, .int 0, .null, .null, .null, .null, .null, .null, .null, .int 0, .null, .int 0, .null, .null, .null, .null, .int 0, .int 0, .int 0, .null, .null, .int 0, .int 0, .null, .null, .int 0, .int 0, .int 0, .null, .int 0, .int 0, .null, .int 0, .int 0, .null, .null, .long 0] [] := ⟨h, fun q hq => absurd hq List.not_mem_nil, fun q hq => absurd hq List.not_mem_nil, Nw.refl⟩
  refine q_X12_init 22 3272 r ⟨by omega, ?_⟩
  refine h0.na (k := 0) (by show 0 < 40; decide) rfl (by decide) rfl (fun q => [.ref q, .null, .int 0, .int 0, .int 0, .null, .null, .null, .null, .null, .null, .null, .int 0, .null, .int 0, .null, .null, .null, .null, .int 0, .int 0, .int 0, .null, .null, .int 0, .int 0, .null, .null, .int 0, .int 0, .int 0, .null, .int 0, .int 0, .null, .int 0, .int 0, .null, .null, .long 0]) (fun q => [(0, q)]) (fun _ => rfl) (fun _ => rfl) fun q0 s0 h1 => ?_
  refine ⟨by omega, ?_⟩
  refine h1.na (k := 1) (by show 1 < 40; decide) rfl (by decide) rfl (fun q => [.ref q0, .ref q, .int 0, .int 0, .int 0, .null, .null, .null, .null, .null, .null, .null, .int 0, .null, .int 0, .null, .null, .null, .null, .int 0, .int 0, .int 0, .null, .null, .int 0, .int 0, .null, .null, .int 0, .int 0, .int 0, .null, .int 0, .int 0, .null, .int 0, .int 0, .null, .null, .long 0]) (fun q => [(0, q0), (1, q)]) (fun _ => rfl) (fun _ => rfl) fun q1 s1 h2 => ?_
  obtain ⟨u1, u2, u3, u4⟩ := h2
  refine PF.of u1 (by show 3 < 40; decide) rfl ?_
  have h2 : RI g σ (hup s1 r (.inr (12, [.ref q0, .ref q1, .int 0, .int 4, .int 0, .null, .null, .null, .null, .null, .null, .null, .int 0, .null, .int 0, .null, .null, .null, .null, .int 0, .int 0, .int 0, .null, .null, .int 0, .int 0, .null, .null, .int 0, .int 0, .int 0, .null, .int 0, .int 0, .null, .int 0, .int 0, .null, .null, .long 0]))) r [.ref q0, .ref q1, .int 0, .int 4, .int 0, .null, .null, .null, .null, .null, .null, .null, .int 0, .null, .int 0, .null, .null, .null, .null, .int 0, .int 0, .int 0, .null, .null, .int 0, .int 0, .null, .null, .int 0, .int 0, .int 0, .null, .int 0, .int 0, .null, .int 0, .int 0, .null, .null, .long 0] _ := ⟨u1.up _, fun p hp => (u2 p hp).upo (u3 p hp), u3, u4.hup (X := fun b => b = r) rfl _⟩
  refine ⟨by omega, ?_⟩
  refine h2.na (k := 5) (by show 5 < 40; decide) rfl (by decide) rfl (fun q => [.ref q0, .ref q1, .int 0, .int 4, .int 0, .ref q, .null, .null, .null, .null, .null, .null, .int 0, .null, .int 0, .null, .null, .null, .null, .int 0, .int 0, .int 0, .null, .null, .int 0, .int 0, .null, .null, .int 0, .int 0, .int 0, .null, .int 0, .int 0, .null, .int 0, .int 0, .null, .null, .long 0]) (fun q => [(0, q0), (1, q1), (5, q)]) (fun _ => rfl) (fun _ => rfl) fun q2 s2 h3 => ?_
  refine ⟨by omega, ?_⟩
  refine h3.na (k := 6) (by show 6 < 40; decide) rfl (by decide) rfl (fun q => [.ref q0, .ref q1, .int 0, .int 4, .int 0, .ref q2, .ref q, .null, .null, .null, .null, .null, .int 0, .null, .int 0, .null, .null, .null, .null, .int 0, .int 0, .int 0, .null, .null, .int 0, .int 0, .null, .null, .int 0, .int 0, .int 0, .null, .int 0, .int 0, .null, .int 0, .int 0, .null, .null, .long 0]) (fun q => [(0, q0), (1, q1), (5, q2), (6, q)]) (fun _ => rfl) (fun _ => rfl) fun q3 s3 h4 => ?_
  refine ⟨by omega, ?_⟩
  refine h4.na (k := 7) (by show 7 < 40; decide) rfl (by decide) rfl (fun q => [.ref q0, .ref q1, .int 0, .int 4, .int 0, .ref q2, .ref q3, .ref q, .null, .null, .null, .null, .int 0, .null, .int 0, .null, .null, .null, .null, .int 0, .int 0, .int 0, .null, .null, .int 0, .int 0, .null, .null, .int 0, .int 0, .int 0, .null, .int 0, .int 0, .null, .int 0, .int 0, .null, .null, .long 0]) (fun q => [(0, q0), (1, q1), (5, q2), (6, q3), (7, q)]) (fun _ => rfl) (fun _ => rfl) fun q4 s4 h5 => ?_
  refine ⟨by omega, ?_⟩
  refine h5.na (k := 8) (by show 8 < 40; decide) rfl (by decide) rfl (fun q => [.ref q0, .ref q1, .int 0, .int 4, .int 0, .ref q2, .ref q3, .ref q4, .ref q, .null, .null, .null, .int 0, .null, .int 0, .null, .null, .null, .null, .int 0, .int 0, .int 0, .null, .null, .int 0, .int 0, .null, .null, .int 0, .int 0, .int 0, .null, .int 0, .int 0, .null, .int 0, .int 0, .null, .null, .long 0]) (fun q => [(0, q0), (1, q1), (5, q2), (6, q3), (7, q4), (8, q)]) (fun _ => rfl) (fun _ => rfl) fun q5 s5 h6 => ?_
  refine ⟨by omega, ?_⟩
  refine h6.na (k := 9) (by show 9 < 40; decide) rfl (by decide) rfl (fun q => [.ref q0, .ref q1, .int 0, .int 4, .int 0, .ref q2, .ref q3, .ref q4, .ref q5, .ref q, .null, .null, .int 0, .null, .int 0, .null, .null, .null, .null, .int 0, .int 0, .int 0, .null, .null, .int 0, .int 0, .null, .null, .int 0, .int 0, .int 0, .null, .int 0, .int 0, .null, .int 0, .int 0, .null, .null, .long 0]) (fun q => [(0, q0), (1, q1), (5, q2), (6, q3), (7, q4), (8, q5), (9, q)]) (fun _ => rfl) (fun _ => rfl) fun q6 s6 h7 => ?_
  refine ⟨by omega, ?_⟩
  refine h7.na (k := 10) (by show 10 < 40; decide) rfl (by decide) rfl (fun q => [.ref q0, .ref q1, .int 0, .int 4, .int 0, .ref q2, .ref q3, .ref q4, .ref q5, .ref q6, .ref q, .null, .int 0, .null, .int 0, .null, .null, .null, .null, .int 0, .int 0, .int 0, .null, .null, .int 0, .int 0, .null, .null, .int 0, .int 0, .int 0, .null, .int 0, .int 0, .null, .int 0, .int 0, .null, .null, .long 0]) (fun q => [(0, q0), (1, q1), (5, q2), (6, q3), (7, q4), (8, q5), (9, q6), (10, q)]) (fun _ => rfl) (fun _ => rfl) fun q7 s7 h8 => ?_
  refine ⟨by omega, ?_⟩
  refine h8.na (k := 11) (by show 11 < 40; decide) rfl (by decide) rfl (fun q => [.ref q0, .ref q1, .int 0, .int 4, .int 0, .ref q2, .ref q3, .ref q4, .ref q5, .ref q6, .ref q7, .ref q, .int 0, .null, .int 0, .null, .null, .null, .null, .int 0, .int 0, .int 0, .null, .null, .int 0, .int 0, .null, .null, .int 0, .int 0, .int 0, .null, .int 0, .int 0, .null, .int 0, .int 0, .null, .null, .long 0]) (fun q => [(0, q0), (1, q1), (5, q2), (6, q3), (7, q4), (8, q5), (9, q6), (10, q7), (11, q)]) (fun _ => rfl) (fun _ => rfl) fun q8 s8 h9 => ?_
  refine ⟨by omega, ?_⟩
  refine h9.na (k := 13) (by show 13 < 40; decide) rfl (by decide) rfl (fun q => [.ref q0, .ref q1, .int 0, .int 4, .int 0, .ref q2, .ref q3, .ref q4, .ref q5, .ref q6, .ref q7, .ref q8, .int 0, .ref q, .int 0, .null, .null, .null, .null, .int 0, .int 0, .int 0, .null, .null, .int 0, .int 0, .null, .null, .int 0, .int 0, .int 0, .null, .int 0, .int 0, .null, .int 0, .int 0, .null, .null, .long 0]) (fun q => [(0, q0), (1, q1), (5, q2), (6, q3), (7, q4), (8, q5), (9, q6), (10, q7), (11, q8), (13, q)]) (fun _ => rfl) (fun _ => rfl) fun q9 s9 h10 => ?_
  refine ⟨by omega, ?_⟩
  refine h10.na (k := 15) (by show 15 < 40; decide) rfl (by decide) rfl (fun q => [.ref q0, .ref q1, .int 0, .int 4, .int 0, .ref q2, .ref q3, .ref q4, .ref q5, .ref q6, .ref q7, .ref q8, .int 0, .ref q9, .int 0, .ref q, .null, .null, .null, .int 0, .int 0, .int 0, .null, .null, .int 0, .int 0, .null, .null, .int 0, .int 0, .int 0, .null, .int 0, .int 0, .null, .int 0, .int 0, .null, .null, .long 0]) (fun q => [(0, q0), (1, q1), (5, q2), (6, q3), (7, q4), (8, q5), (9, q6), (10, q7), (11, q8), (13, q9), (15, q)]) (fun _ => rfl) (fun _ => rfl) fun q10 s10 h11 => ?_
  refine ⟨by omega, ?_⟩
  refine h11.na (k := 16) (by show 16 < 40; decide) rfl (by decide) rfl (fun q => [.ref q0, .ref q1, .int 0, .int 4, .int 0, .ref q2, .ref q3, .ref q4, .ref q5, .ref q6, .ref q7, .ref q8, .int 0, .ref q9, .int 0, .ref q10, .ref q, .null, .null, .int 0, .int 0, .int 0, .null, .null, .int 0, .int 0, .null, .null, .int 0, .int 0, .int 0, .null, .int 0, .int 0, .null, .int 0, .int 0, .null, .null, .long 0]) (fun q => [(0, q0), (1, q1), (5, q2), (6, q3), (7, q4), (8, q5), (9, q6), (10, q7), (11, q8), (13, q9), (15, q10), (16, q)]) (fun _ => rfl) (fun _ => rfl) fun q11 s11 h12 => ?_
  refine ⟨by omega, ?_⟩
  refine h12.na (k := 17) (by show 17 < 40; decide) rfl (by decide) rfl (fun q => [.ref q0, .ref q1, .int 0, .int 4, .int 0, .ref q2, .ref q3, .ref q4, .ref q5, .ref q6, .ref q7, .ref q8, .int 0, .ref q9, .int 0, .ref q10, .ref q11, .ref q, .null, .int 0, .int 0, .int 0, .null, .null, .int 0, .int 0, .null, .null, .int 0, .int 0, .int 0, .null, .int 0, .int 0, .null, .int 0, .int 0, .null, .null, .long 0]) (fun q => [(0, q0), (1, q1), (5, q2), (6, q3), (7, q4), (8, q5), (9, q6), (10, q7), (11, q8), (13, q9), (15, q10), (16, q11), (17, q)]) (fun _ => rfl) (fun _ => rfl) fun q12 s12 h13 => ?_
  refine ⟨by omega, ?_⟩
  refine h13.na (k := 18) (by show 18 < 40; decide) rfl (by decide) rfl (fun q => [.ref q0, .ref q1, .int 0, .int 4, .int 0, .ref q2, .ref q3, .ref q4, .ref q5, .ref q6, .ref q7, .ref q8, .int 0, .ref q9, .int 0, .ref q10, .ref q11, .ref q12, .ref q, .int 0, .int 0, .int 0, .null, .null, .int 0, .int 0, .null, .null, .int 0, .int 0, .int 0, .null, .int 0, .int 0, .null, .int 0, .int 0, .null, .null, .long 0]) (fun q => [(0, q0), (1, q1), (5, q2), (6, q3), (7, q4), (8, q5), (9, q6), (10, q7), (11, q8), (13, q9), (15, q10), (16, q11), (17, q12), (18, q)]) (fun _ => rfl) (fun _ => rfl) fun q13 s13 h14 => ?_
  refine ⟨by omega, ?_⟩
  refine h14.na (k := 22) (by show 22 < 40; decide) rfl (by decide) rfl (fun q => [.ref q0, .ref q1, .int 0, .int 4, .int 0, .ref q2, .ref q3, .ref q4, .ref q5, .ref q6, .ref q7, .ref q8, .int 0, .ref q9, .int 0, .ref q10, .ref q11, .ref q12, .ref q13, .int 0, .int 0, .int 0, .ref q, .null, .int 0, .int 0, .null, .null, .int 0, .int 0, .int 0, .null, .int 0, .int 0, .null, .int 0, .int 0, .null, .null, .long 0]) (fun q => [(0, q0), (1, q1), (5, q2), (6, q3), (7, q4), (8, q5), (9, q6), (10, q7), (11, q8), (13, q9), (15, q10), (16, q11), (17, q12), (18, q13), (22, q)]) (fun _ => rfl) (fun _ => rfl) fun q14 s14 h15 => ?_
  refine ⟨by omega, ?_⟩
  refine h15.na (k := 23) (by show 23 < 40; decide) rfl (by decide) rfl (fun q => [.ref q0, .ref q1, .int 0, .int 4, .int 0, .ref q2, .ref q3, .ref q4, .ref q5, .ref q6, .ref q7, .ref q8, .int 0, .ref q9, .int 0, .ref q10, .ref q11, .ref q12, .ref q13, .int 0, .int 0, .int 0, .ref q14, .ref q, .int 0, .int 0, .null, .null, .int 0, .int 0, .int 0, .null, .int 0, .int 0, .null, .int 0, .int 0, .null, .null, .long 0]) (fun q => [(0, q0), (1, q1), (5, q2), (6, q3), (7, q4), (8, q5), (9, q6), (10, q7), (11, q8), (13, q9), (15, q10), (16, q11), (17, q12), (18, q13), (22, q14), (23, q)]) (fun _ => rfl) (fun _ => rfl) fun q15 s15 h16 => ?_
  refine ⟨by omega, ?_⟩
  refine h16.na (k := 26) (by show 26 < 40; decide) rfl (by decide) rfl (fun q => [.ref q0, .ref q1, .int 0, .int 4, .int 0, .ref q2, .ref q3, .ref q4, .ref q5, .ref q6, .ref q7, .ref q8, .int 0, .ref q9, .int 0, .ref q10, .ref q11, .ref q12, .ref q13, .int 0, .int 0, .int 0, .ref q14, .ref q15, .int 0, .int 0, .ref q, .null, .int 0, .int 0, .int 0, .null, .int 0, .int 0, .null, .int 0, .int 0, .null, .null, .long 0]) (fun q => [(0, q0), (1, q1), (5, q2), (6, q3), (7, q4), (8, q5), (9, q6), (10, q7), (11, q8), (13, q9), (15, q10), (16, q11), (17, q12), (18, q13), (22, q14), (23, q15), (26, q)]) (fun _ => rfl) (fun _ => rfl) fun q16 s16 h17 => ?_
  refine ⟨by omega, ?_⟩
  refine h17.na (k := 27) (by show 27 < 40; decide) rfl (by decide) rfl (fun q => [.ref q0, .ref q1, .int 0, .int 4, .int 0, .ref q2, .ref q3, .ref q4, .ref q5, .ref q6, .ref q7, .ref q8, .int 0, .ref q9, .int 0, .ref q10, .ref q11, .ref q12, .ref q13, .int 0, .int 0, .int 0, .ref q14, .ref q15, .int 0, .int 0, .ref q16, .ref q, .int 0, .int 0, .int 0, .null, .int 0, .int 0, .null, .int 0, .int 0, .null, .null, .long 0]) (fun q => [(0, q0), (1, q1), (5, q2), (6, q3), (7, q4), (8, q5), (9, q6), (10, q7), (11, q8), (13, q9), (15, q10), (16, q11), (17, q12), (18, q13), (22, q14), (23, q15), (26, q16), (27, q)]) (fun _ => rfl) (fun _ => rfl) fun q17 s17 h18 => ?_
  refine ⟨by omega, ?_⟩
  refine h18.na (k := 31) (by show 31 < 40; decide) rfl (by decide) rfl (fun q => [.ref q0, .ref q1, .int 0, .int 4, .int 0, .ref q2, .ref q3, .ref q4, .ref q5, .ref q6, .ref q7, .ref q8, .int 0, .ref q9, .int 0, .ref q10, .ref q11, .ref q12, .ref q13, .int 0, .int 0, .int 0, .ref q14, .ref q15, .int 0, .int 0, .ref q16, .ref q17, .int 0, .int 0, .int 0, .ref q, .int 0, .int 0, .null, .int 0, .int 0, .null, .null, .long 0]) (fun q => [(0, q0), (1, q1), (5, q2), (6, q3), (7, q4), (8, q5), (9, q6), (10, q7), (11, q8), (13, q9), (15, q10), (16, q11), (17, q12), (18, q13), (22, q14), (23, q15), (26, q16), (27, q17), (31, q)]) (fun _ => rfl) (fun _ => rfl) fun q18 s18 h19 => ?_
  refine ⟨by omega, ?_⟩
  refine h19.na (k := 34) (by show 34 < 40; decide) rfl (by decide) rfl (fun q => [.ref q0, .ref q1, .int 0, .int 4, .int 0, .ref q2, .ref q3, .ref q4, .ref q5, .ref q6, .ref q7, .ref q8, .int 0, .ref q9, .int 0, .ref q10, .ref q11, .ref q12, .ref q13, .int 0, .int 0, .int 0, .ref q14, .ref q15, .int 0, .int 0, .ref q16, .ref q17, .int 0, .int 0, .int 0, .ref q18, .int 0, .int 0, .ref q, .int 0, .int 0, .null, .null, .long 0]) (fun q => [(0, q0), (1, q1), (5, q2), (6, q3), (7, q4), (8, q5), (9, q6), (10, q7), (11, q8), (13, q9), (15, q10), (16, q11), (17, q12), (18, q13), (22, q14), (23, q15), (26, q16), (27, q17), (31, q18), (34, q)]) (fun _ => rfl) (fun _ => rfl) fun q19 s19 h20 => ?_
  refine ⟨by omega, ?_⟩
  refine h20.na (k := 37) (by show 37 < 40; decide) rfl (by decide) rfl (fun q => [.ref q0, .ref q1, .int 0, .int 4, .int 0, .ref q2, .ref q3, .ref q4, .ref q5, .ref q6, .ref q7, .ref q8, .int 0, .ref q9, .int 0, .ref q10, .ref q11, .ref q12, .ref q13, .int 0, .int 0, .int 0, .ref q14, .ref q15, .int 0, .int 0, .ref q16, .ref q17, .int 0, .int 0, .int 0, .ref q18, .int 0, .int 0, .ref q19, .int 0, .int 0, .ref q, .null, .long 0]) (fun q => [(0, q0), (1, q1), (5, q2), (6, q3), (7, q4), (8, q5), (9, q6), (10, q7), (11, q8), (13, q9), (15, q10), (16, q11), (17, q12), (18, q13), (22, q14), (23, q15), (26, q16), (27, q17), (31, q18), (34, q19), (37, q)]) (fun _ => rfl) (fun _ => rfl) fun q20 s20 h21 => ?_
  refine ⟨by omega, ?_⟩
  refine h21.na (k := 38) (by show 38 < 40; decide) rfl (by decide) rfl (fun q => [.ref q0, .ref q1, .int 0, .int 4, .int 0, .ref q2, .ref q3, .ref q4, .ref q5, .ref q6, .ref q7, .ref q8, .int 0, .ref q9, .int 0, .ref q10, .ref q11, .ref q12, .ref q13, .int 0, .int 0, .int 0, .ref q14, .ref q15, .int 0, .int 0, .ref q16, .ref q17, .int 0, .int 0, .int 0, .ref q18, .int 0, .int 0, .ref q19, .int 0, .int 0, .ref q20, .ref q, .long 0]) (fun q => [(0, q0), (1, q1), (5, q2), (6, q3), (7, q4), (8, q5), (9, q6), (10, q7), (11, q8), (13, q9), (15, q10), (16, q11), (17, q12), (18, q13), (22, q14), (23, q15), (26, q16), (27, q17), (31, q18), (34, q19), (37, q20), (38, q)]) (fun _ => rfl) (fun _ => rfl) fun q21 s21 h22 => ?_
  obtain ⟨u1, u2, u3, u4⟩ := h22
  refine ⟨by omega, rfl, fun i => if i = 300 then r else ([q0, q1, q2, q3, q4, q5, q6, q7, q8, q9, q10, q11, q12, q13, q14, q15, q16, q17, q18, q19, q20, q21] : List Nat).getD (i - 301) 0, rfl, ⟨u1, fun k hk => ?_⟩, u4⟩
  have hk := List.mem_of_elem_eq_true hk
  simp only [List.mem_cons, List.not_mem_nil, or_false] at hk
  rcases hk with rfl | rfl | rfl | rfl | rfl | rfl | rfl | rfl | rfl | rfl | rfl | rfl | rfl | rfl | rfl | rfl | rfl | rfl | rfl | rfl | rfl | rfl
  · exact u2 (0, q0) (List.mem_of_getElem? (i := 0) rfl)
  · exact u2 (1, q1) (List.mem_of_getElem? (i := 1) rfl)
  · exact u2 (5, q2) (List.mem_of_getElem? (i := 2) rfl)
  · exact u2 (6, q3) (List.mem_of_getElem? (i := 3) rfl)
  · exact u2 (7, q4) (List.mem_of_getElem? (i := 4) rfl)
  · exact u2 (8, q5) (List.mem_of_getElem? (i := 5) rfl)
  · exact u2 (9, q6) (List.mem_of_getElem? (i := 6) rfl)
  · exact u2 (10, q7) (List.mem_of_getElem? (i := 7) rfl)
  · exact u2 (11, q8) (List.mem_of_getElem? (i := 8) rfl)
  · exact u2 (13, q9) (List.mem_of_getElem? (i := 9) rfl)
  · exact u2 (15, q10) (List.mem_of_getElem? (i := 10) rfl)
  · exact u2 (16, q11) (List.mem_of_getElem? (i := 11) rfl)
  · exact u2 (17, q12) (List.mem_of_getElem? (i := 12) rfl)
  · exact u2 (18, q13) (List.mem_of_getElem? (i := 13) rfl)
  · exact u2 (22, q14) (List.mem_of_getElem? (i := 14) rfl)
  · exact u2 (23, q15) (List.mem_of_getElem? (i := 15) rfl)
  · exact u2 (26, q16) (List.mem_of_getElem? (i := 16) rfl)
  · exact u2 (27, q17) (List.mem_of_getElem? (i := 17) rfl)
  · exact u2 (31, q18) (List.mem_of_getElem? (i := 18) rfl)
  · exact u2 (34, q19) (List.mem_of_getElem? (i := 19) rfl)
  · exact u2 (37, q20) (List.mem_of_getElem? (i := 20) rfl)
  · exact u2 (38, q21) (List.mem_of_getElem? (i := 21) rfl)
end NMD
