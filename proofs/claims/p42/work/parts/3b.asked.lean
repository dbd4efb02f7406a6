/-! A question is asked: the draft becomes a question, and a new draft comes. -/
def qz (v1 v2 : Value) : va_E := .inr (6, [v1, v2, .int 0, .int 0, .int 0, .int 0, .int 0])
/-- a new question, not yet cleared -/
def QN (g : GG) (σ σ1 : Hs) (b : Nat → Nat) : Prop := QRaw g σ1 b (fun _ => 0) (fun _ => 0) 0 0 0 0 0 ∧ Gr (fun c => c = b 0) σ σ1 ∧ (∀ k, 1 ≤ k → k < 5 → b k ∉ σ.1) ∧ (∀ i j, i < 5 → j < 5 → b i = b j → i = j) ∧ ∀ i, i < 5 → b i ∈ σ1.1
theorem wr_qinit {g : GG} {σ : Hs} {r : Nat} (h : Ce σ r (qz .null .null)) : Do g M_X6_init 4 10 [.ref r] σ (kV fun σ' => ∃ b : Nat → Nat, b 0 = r ∧ QN g σ σ' b) := by
  refine q_X6_init 4 10 r ⟨by omega, ?_⟩
  refine NW.num (n := 4) (by omega) (by omega) (by omega) fun r1 q1 s3 f1 f2 f3 n1 g1 => ?_
  have c1 := g1.2 _ _ h (fun z => z)
  have d1 : r1 ≠ r := fun z => f1 (z ▸ h.1)
  have d2 : q1 ≠ r := fun z => f2 (z ▸ h.1)
  refine PF.of c1 (by show 0 < 7; decide) rfl ⟨by omega, ?_⟩
  have G1 : Gr (fun b => b = r) σ (hup s3 r (qz (.ref r1) .null)) := g1.any.trans Gr.hp
  have c2 : Ce (hup s3 r (qz (.ref r1) .null)) r (qz (.ref r1) .null) := c1.up _
  have n1 := n1.upo (qz (.ref r1) .null) d1 d2
  change NW (hup s3 r (qz (.ref r1) .null)) _ _ _
  generalize hup s3 r (qz (.ref r1) .null) = σ2 at *
  have e1 : r1 ∈ σ2.1 := n1.1.1
  have e2 : q1 ∈ σ2.1 := n1.2.1.1
  refine NW.num (n := 4) (by omega) (by omega) (by omega) fun r2 q2 s4 f4 f5 f6 n2 g2 => ?_
  have c3 := g2.2 _ _ c2 (fun z => z)
  have n1 := g2.num n1 (fun z => z) (fun z => z)
  have d3 : r2 ≠ r := fun z => f4 (z ▸ c2.1)
  have d4 : q2 ≠ r := fun z => f5 (z ▸ c2.1)
  have o1 : r2 ≠ r1 := fun z => f4 (z ▸ e1)
  have o2 : r2 ≠ q1 := fun z => f4 (z ▸ e2)
  have o3 : q2 ≠ r1 := fun z => f5 (z ▸ e1)
  have o4 : q2 ≠ q1 := fun z => f5 (z ▸ e2)
  refine PF.of c3 (by show 1 < 7; decide) rfl ⟨by omega, rfl, fun k => [r, r1, q1, r2, q2].getD k 0, rfl, ?_⟩
  have k0 : Ce (hup s4 r (qz (.ref r1) (.ref r2))) r (qz (.ref r1) (.ref r2)) := c3.up _
  have k1 := n1.upo (qz (.ref r1) (.ref r2)) d1 d2
  have k2 := n2.upo (qz (.ref r1) (.ref r2)) d3 d4
  refine ⟨⟨k0, k1, k2, fun z => o4 z.symm⟩, (G1.trans g2.any).trans Gr.hp, fun k h1 h5 => ?_, ?_, fun i hi => ?_⟩
  · match k, h1, h5 with
    | 0, z, _ => omega
    | 1, _, _ => exact f1
    | 2, _, _ => exact f2
    | 3, _, _ => exact fun z => f4 (G1.1 _ z)
    | 4, _, _ => exact fun z => f5 (G1.1 _ z)
    | n + 5, _, z => omega
  · have key5 : ∀ i, i < 5 → ∀ j, j < 5 → i < j → [r, r1, q1, r2, q2].getD i 0 ≠ [r, r1, q1, r2, q2].getD j 0 := by
      intro i hi j hj hij
      match i, j, hi, hj, hij with
      | 0, 1, _, _, _ => exact fun z => d1 z.symm
      | 0, 2, _, _, _ => exact fun z => d2 z.symm
      | 0, 3, _, _, _ => exact fun z => d3 z.symm
      | 0, 4, _, _, _ => exact fun z => d4 z.symm
      | 1, 2, _, _, _ => exact f3
      | 1, 3, _, _, _ => exact fun z => o1 z.symm
      | 1, 4, _, _, _ => exact fun z => o3 z.symm
      | 2, 3, _, _, _ => exact fun z => o2 z.symm
      | 2, 4, _, _, _ => exact fun z => o4 z.symm
      | 3, 4, _, _, _ => exact f6
      | i, 0, _, _, z => omega
      | i + 1, 1, _, _, z => omega
      | i + 2, 2, _, _, z => omega
      | i + 3, 3, _, _, z => omega
      | i + 4, 4, _, _, z => omega
      | i, j + 5, _, z, _ => omega
    intro i j hi hj he
    rcases Nat.lt_trichotomy i j with z | z | z
    · exact absurd he (key5 i hi j hj z)
    · exact z
    · exact absurd he.symm (key5 j hj i hi z)
  · match i, hi with
    | 0, _ => exact k0.1
    | 1, _ => exact k1.1.1
    | 2, _ => exact k1.2.1.1
    | 3, _ => exact k2.1.1
    | 4, _ => exact k2.2.1.1
    | n + 5, z => omega
/-- the roles when question qn has got the draft's parts, and the draft new ones -/
def Rask (R : Nat → Nat) (qn : Nat) (b : Nat → Nat) : Nat → Nat := fun i => if 200 + 5 * qn ≤ i ∧ i < 205 + 5 * qn then R (190 + (i - (200 + 5 * qn))) else if 190 ≤ i ∧ i < 195 then b (i - 190) else R i
theorem Rask_old {R : Nat → Nat} {qn : Nat} {b : Nat → Nat} {i : Nat} (h : i < 190 ∨ (195 ≤ i ∧ i < 200 + 5 * qn) ∨ 205 + 5 * qn ≤ i) : Rask R qn b i = R i := by
  unfold Rask
  rw [if_neg (by omega), if_neg (by omega)]
theorem Rask_q {R : Nat → Nat} {qn : Nat} {b : Nat → Nat} {k : Nat} (h : k < 5) : Rask R qn b (200 + 5 * qn + k) = R (190 + k) := by
  unfold Rask
  rw [if_pos (by omega), Nat.add_sub_cancel_left]
theorem Rask_d {R : Nat → Nat} {qn : Nat} {b : Nat → Nat} {k : Nat} (h : k < 5) : Rask R qn b (190 + k) = b k := by
  unfold Rask
  rw [if_neg (by omega), if_pos (by omega), Nat.add_sub_cancel_left]
theorem QAt.re {g : GG} {σ : Hs} {b b' : Nat → Nat} {d : QD} (h : QAt g σ b d) (e : ∀ k, k < 5 → b' k = b k) : QAt g σ b' d := by
  unfold QAt qc at *
  rw [e 0 (by omega), e 1 (by omega), e 2 (by omega), e 3 (by omega), e 4 (by omega)]
  exact h
theorem QRaw.re {g : GG} {σ : Hs} {b b' : Nat → Nat} {lo hi : Nat → Int32} {bd fx sh srt hf : Int32} (h : QRaw g σ b lo hi bd fx sh srt hf) (e : ∀ k, k < 5 → b' k = b k) : QRaw g σ b' lo hi bd fx sh srt hf := by
  unfold QRaw qc0 at *
  rw [e 0 (by omega), e 1 (by omega), e 2 (by omega), e 3 (by omega), e 4 (by omega)]
  exact h
/-- handing over the draft: its address; a new draft at b -/
theorem wr_handOver {g : GG} {σ : Hs} {R : Nat → Nat} {told qn n : Nat} {C : Nat → Nat} {s : AM} (h : ShA g σ R n C s) (I : Ij R (Lv told qn)) (al : ∀ i, Lv told qn i → R i ∈ σ.1) : Do g M_X7_handOver 5 17 [.ref (R 24)] σ (kA (fun _ => False) (fun r σ' => r = R 190 ∧ ∃ b, Sm R (fun i => i = 24) σ σ' ∧ (∀ k, k < 5 → b k ∉ σ.1 ∧ b k ∈ σ'.1) ∧ (∀ i j, i < 5 → j < 5 → b i = b j → i = j) ∧ Ce σ' (R 24) (.inr (7, [.ref (R 25), .int (nI n), .ref (b 0), .int (nI s.1), .int (nI s.2.1), .int (nI s.2.2.1), .int (nI s.2.2.2.1)])) ∧ QRaw g σ' b (fun _ => 0) (fun _ => 0) 0 0 0 0 0)) := by
  refine q_X7_handOver 5 17 _ (FR.of h.1 rfl ⟨by omega, fun r hr => ⟨4, 10, by omega, DoV.use (wr_qinit Ce.psh) ?_⟩⟩)
  rintro s4 ⟨b, rfl, hQ, hG, hF, hI, hM⟩
  have gp := Gr.push (qz .null .null) hr
  have fr : ∀ k, k < 5 → b k ∉ σ.1 := fun k h1 z => by
    rcases Nat.eq_zero_or_pos k with e | e
    · subst e; exact hr z
    · exact hF k (by omega) h1 (gp.1 _ z)
  have g4 : Gr gN σ s4 := ⟨fun c hc => hG.1 c (gp.1 c hc), fun c e z _ => hG.2 c e (gp.2 c e z (fun z => z)) (fun y => hr (y ▸ z.1))⟩
  have c1 := g4.2 _ _ h.1 (fun z => z)
  have a24 := al 24 (lvs33 (by omega))
  refine PF.of c1 (by show 2 < 7; decide) rfl ⟨by omega, Or.inr ⟨R 190, rfl, rfl, b, ?_, fun k hk => ⟨fr k hk, hM k hk⟩, hI, c1.up _, ?_⟩⟩
  · exact (g4.sm (T := fun i => i = 24) fun _ z => z.elim).trans (Sm.hup (T := fun i => i = 24) (i := 24) rfl _)
  · have hs : Sm R (fun i => i = 24) s4 (hup s4 (R 24) (.inr (7, [.ref (R 25), .int (nI n), .ref (b 0), .int (nI s.1), .int (nI s.2.1), .int (nI s.2.2.1), .int (nI s.2.2.2.1)]))) := Sm.hup (T := fun i => i = 24) (i := 24) rfl _
    refine hQ.sm hs fun k hk i hi z => ?_
    subst hi
    exact fr k hk (z ▸ a24)
theorem wr_wkadd {g : GG} {σ : Hs} {R : Nat → Nat} {v n s p : Nat} (h0 : Ce σ (R 16) (wkc R n s p)) (h1 : Ce σ (R 17) (aQ g 6 8 (qQ R n))) (hn : n < 8) (hv : Rc σ v 6) (hne : R 16 ≠ R 17) : Do g M_X10_add 0 0 [.ref (R 16), .ref v] σ (kI fun x σ' => x = nI n ∧ σ' = hup (hup σ (R 17) (aQ g 6 8 (va_up (qQ R n) n (some v)))) (R 16) (wkc R (n + 1) s p)) := by
  refine q_X10_add _ _ (FI.of h0 rfl ⟨fun c => absurd ((lt_n (n := 0) (by decide)).mp c) (by rw [I_n (by omega)]; omega), fun _ => FR.of h0 rfl (AN.of h1 ⟨fun _ => FR.of h0 rfl (SR.of h1 rfl hn (by decide) hv ?_), fun c => absurd (nI_lt hn (by decide)) c⟩)⟩)
  have c1 := h0.upo (e := aQ g 6 8 (va_up (qQ R n) n (some v))) hne
  refine FI.of c1 rfl (PF.of c1 (by show 6 < 9; decide) rfl ⟨_, rfl, rfl, ?_⟩)
  rw [nI_1]
  rfl
