/-! The class's parts made. -/
theorem Nw.tr {X Y : Nat → Prop} {σ σ1 σ2 : Hs} {l l' : List Nat} (h : Nw σ σ1 l X) (h2 : Nw σ1 σ2 l' Y) (k : ∀ a, a ∈ σ.1 → Y a → X a) : Nw σ σ2 (l ++ l') X := ⟨⟨by rw [h2.1.1, h.1.1, List.append_assoc], fun n => h2.1.2 (h.1.2 n)⟩, fun a ha => h2.2.1 a (h.2.1 a ha), fun a e c n => h2.2.2 a e (h.2.2 a e c n) (fun y => n (k a c.1 y))⟩
section NCL
variable {g : GG} {σ : Hs}
/-- marks: one more table -/
theorem mk_step {s : Hs} {post : Option Value → Hs → Prop} {kM nM i r l : Nat} {f : Nat → Option Nat} (hr : Ce s r (.inr (0, [.ref l, .int 0]))) (hl : Ce s l (aQ g 7 3 f)) (hi : i < 3) (hc : kM + 3 ≤ 10 ∧ nM + 260 ≤ 783) (K : ∀ t a q s', TabAt g s' t a q z32 (fun _ => false) 4 → (t ≠ l ∧ a ≠ l ∧ q ≠ l) → Ce s' r (.inr (0, [.ref l, .int 0])) → Ce s' l (aQ g 7 3 (va_up f i (some t))) → Nw s s' [t, a, q] (fun b => b = l) → J_X0_init_14 g post 10 783 (kM + 1 + 2) (nM + 3 + 257) s' r (nI (i + 1))) : J_X0_init_14 g post 10 783 kM nM s r (nI i) := by
  have hrl : r ≠ l := ne_oQ hr hl
  refine q_X0_init_14 _ _ _ _ _ _ (FR.of hr rfl (AN.of hl ⟨fun c => absurd ((nI_leI (a := 3) (by decide) (by omega)).mp c) (by omega), fun _ => FR.of hr rfl ⟨by omega, NW.tab (by omega) fun t a q s3 ht fr w => ?_⟩⟩))
  have l3 := w.2.2 _ _ hl (fun z => z)
  have r3 := w.2.2 _ _ hr (fun z => z)
  have d1 : t ≠ l := fun z => fr.1 (z ▸ hl.1)
  have d2 : a ≠ l := fun z => fr.2.1 (z ▸ hl.1)
  have d3 : q ≠ l := fun z => fr.2.2 (z ▸ hl.1)
  refine SR.of l3 rfl hi (by decide) (Rc.of ht.1) ?_
  rw [nI_1]
  exact K t a q _ (ht.gr (X := fun b => b = l) Gr.hp d1 d2 d3) ⟨d1, d2, d3⟩ (r3.upo hrl) (l3.up _) (w.any.hup (X := fun b => b = l) rfl _)
def mk3 (t0 t1 t2 : Nat) : Nat → Option Nat := va_up (va_up (va_up (fun _ => none) 0 (some t0)) 1 (some t1)) 2 (some t2)
theorem wr_minit {r : Nat} (h : Ce σ r (.inr (0, [.null, .int 0]))) : Do g M_X0_init 10 783 [.ref r] σ (kV fun σ' => ∃ l t0 a0 q0 t1 a1 q1 t2 a2 q2, Ce σ' r (.inr (0, [.ref l, .int 0])) ∧ Ce σ' l (aQ g 7 3 (mk3 t0 t1 t2)) ∧ TabAt g σ' t0 a0 q0 z32 (fun _ => false) 4 ∧ TabAt g σ' t1 a1 q1 z32 (fun _ => false) 4 ∧ TabAt g σ' t2 a2 q2 z32 (fun _ => false) 4 ∧ Nw σ σ' [l, t0, a0, q0, t1, a1, q1, t2, a2, q2] (fun b => b = r)) := by
  refine q_X0_init 10 783 r ⟨by omega, fun l hl => ?_⟩
  change PF (hpush σ l (aQ g 7 3 (fun _ => none))) _ _ _ _ _
  have w1 := Nw.push (aQ g 7 3 (fun _ => none)) hl
  have c1 := w1.2.2 _ _ h (fun z => z)
  have d1 : l ≠ r := fun z => hl (z ▸ h.1)
  refine PF.of c1 (by show 0 < 2; decide) rfl ?_
  have W1 := w1.any.hup (X := fun b => b = r) rfl (.inr (0, [.ref l, .int 0]))
  have r1 : Ce (hup (hpush σ l (aQ g 7 3 (fun _ => none))) r (.inr (0, [.ref l, .int 0]))) r (.inr (0, [.ref l, .int 0])) := c1.up _
  have l1 : Ce (hup (hpush σ l (aQ g 7 3 (fun _ => none))) r (.inr (0, [.ref l, .int 0]))) l (aQ g 7 3 (fun _ => none)) := Ce.psh.upo d1
  change J_X0_init_14 g _ _ _ _ _ (hup (hpush σ l (aQ g 7 3 (fun _ => none))) r (.inr (0, [.ref l, .int 0]))) _ _
  generalize hup (hpush σ l (aQ g 7 3 (fun _ => none))) r (.inr (0, [.ref l, .int 0])) = s1 at *
  have sub : ∀ a, a ∈ σ.1 → a = l → a = r := fun a ha z => absurd (z ▸ ha) hl
  refine mk_step (i := 0) r1 l1 (by omega) (by omega) fun t0 a0 q0 s2 T0 f0 r2 l2 w2 => ?_
  have W2 := W1.tr w2 sub
  refine mk_step (i := 1) r2 l2 (by omega) (by omega) fun t1 a1 q1 s3 T1 f1 r3 l3 w3 => ?_
  have W3 := W2.tr w3 sub
  have T0 := T0.gr w3.2 f0.1 f0.2.1 f0.2.2
  refine mk_step (i := 2) r3 l3 (by omega) (by omega) fun t2 a2 q2 s4 T2 f2 r4 l4 w4 => ?_
  have W4 := W3.tr w4 sub
  have T0 := T0.gr w4.2 f0.1 f0.2.1 f0.2.2
  have T1 := T1.gr w4.2 f1.1 f1.2.1 f1.2.2
  exact q_X0_init_14 _ _ _ _ _ _ (FR.of r4 rfl (AN.of l4 ⟨fun _ => ⟨by omega, rfl, l, t0, a0, q0, t1, a1, q1, t2, a2, q2, r4, l4, T0, T1, T2, W4⟩, fun c => absurd (nI_le (a := 3) (Nat.le_refl 3) (by decide)) c⟩))
/-! the page's draft, the page -/
theorem wr_qinitN {r : Nat} (h : Ce σ r (qz .null .null)) : Do g M_X6_init 4 10 [.ref r] σ (kV fun σ' => ∃ a q a2 q2, Ce σ' r (qz (.ref a) (.ref a2)) ∧ NumAt g σ' a q 4 z32 ∧ NumAt g σ' a2 q2 4 z32 ∧ q ≠ q2 ∧ (a ∉ σ.1 ∧ q ∉ σ.1 ∧ a2 ∉ σ.1 ∧ q2 ∉ σ.1) ∧ Nw σ σ' [a, q, a2, q2] (fun b => b = r)) := by
  refine q_X6_init 4 10 r ⟨by omega, NW.numF (n := 4) h (by show 0 < 7; decide) (by omega) (by omega) (by omega) fun r1 q1 s1 f1 f2 f3 n1 c1 w1 => ⟨by omega, NW.numF (n := 4) c1 (by show 1 < 7; decide) (by omega) (by omega) (by omega) fun r2 q2 s2 f4 f5 f6 n2 c2 w2 => ⟨by omega, rfl, r1, q1, r2, q2, c2, ?_, n2, ?_, ⟨f1, f2, w1.out f4, w1.out f5⟩, w1.trans w2⟩⟩⟩
  · exact w2.num n1 (fun z => f1 (z ▸ h.1)) (fun z => f2 (z ▸ h.1))
  · exact fun z => f5 (z ▸ n1.2.1.1)
theorem wr_shinit {r : Nat} (h : Ce σ r (.inr (7, [.null, .int 0, .null, .int 0, .int 0, .int 0, .int 0]))) : Do g M_X7_init 7 78 [.ref r] σ (kV fun σ' => ∃ a q d b1 b2 b3 b4, Ce σ' r (.inr (7, [.ref a, .int 0, .ref d, .int 0, .int 0, .int 0, .int 0])) ∧ NumAt g σ' a q 60 z32 ∧ Ce σ' d (qz (.ref b1) (.ref b3)) ∧ NumAt g σ' b1 b2 4 z32 ∧ NumAt g σ' b3 b4 4 z32 ∧ b2 ≠ b4 ∧ Nw σ σ' [a, q, d, b1, b2, b3, b4] (fun b => b = r)) := by
  refine q_X7_init 7 78 r ⟨by omega, NW.numF (n := 60) h (by show 0 < 7; decide) (by omega) (by omega) (by omega) fun a q s1 f1 f2 f3 n1 c1 w1 => ⟨by omega, fun d hd => ⟨4, 10, by omega, DoV.use (wr_qinitN Ce.psh) ?_⟩⟩⟩
  rintro s3 ⟨b1, b2, b3, b4, k0, k1, k2, k3, ⟨e1, e2, e3, e4⟩, w2⟩
  have w3 := w2.own hd
  have hp := Gr.push (σ := s1) (qz .null .null) hd
  have hr := c1.1
  have dr : d ≠ r := fun z => hd (z ▸ hr)
  have nr : ∀ x, x ∉ (hpush s1 d (qz .null .null)).1 → x ≠ r := fun x hx z => hx (hp.1 _ (z ▸ hr))
  have c3 := w3.2.2 _ _ c1 (fun z => z)
  refine PF.of c3 (by show 2 < 7; decide) rfl ⟨by omega, rfl, a, q, d, b1, b2, b3, b4, c3.up _, ?_, k0.upo dr, k1.upo _ (nr _ e1) (nr _ e2), k2.upo _ (nr _ e3) (nr _ e4), k3, ?_⟩
  · exact (w3.num n1 (fun z => z) (fun z => z)).upo _ (fun z => f1 (z ▸ h.1)) (fun z => f2 (z ▸ h.1))
  · exact w1.trans (w3.any.hup (X := fun b => b = r) rfl _)
/-! orders, ways, workload -/
theorem wr_osinit {r t : Nat} (h : Ce σ r (.inr (3, [.null, .null, .int 0]))) : Do g M_X3_init 1 8 [.ref r, .ref t] σ (kV fun σ' => ∃ l, Ce σ' r (.inr (3, [.ref t, .ref l, .int 0])) ∧ Ce σ' l (aQ g 4 8 (fun _ => none)) ∧ Nw σ σ' [l] (fun b => b = r)) := by
  refine q_X3_init 1 8 r t ⟨by omega, fun l hl => ?_⟩
  change PF (hpush σ l (aQ g 4 8 (fun _ => none))) _ _ _ _ _
  have w1 := Nw.push (aQ g 4 8 (fun _ => none)) hl
  have c1 := w1.2.2 _ _ h (fun z => z)
  have d1 : l ≠ r := fun z => hl (z ▸ h.1)
  refine PF.of c1 (by show 1 < 3; decide) rfl (PF.of (c1.up _) (by show 0 < 3; decide) rfl ⟨by omega, rfl, l, (c1.up _).up _, (Ce.psh.upo d1).upo d1, (w1.any.hup (X := fun b => b = r) rfl _).hup (X := fun b => b = r) rfl _⟩)
theorem wr_winit {r t o : Nat} (h : Ce σ r (.inr (9, [.null, .null, .null, .null, .null, .null, .null, .int 0]))) : Do g M_X9_init 9 131 [.ref r, .ref t, .ref o] σ (kV fun σ' => ∃ a1 q1 a2 q2 a3 q3 a4 q4 l, Ce σ' r (.inr (9, [.ref t, .ref o, .ref a1, .ref a2, .ref a3, .ref a4, .ref l, .int 0])) ∧ NumAt g σ' a1 q1 37 z32 ∧ NumAt g σ' a2 q2 37 z32 ∧ NumAt g σ' a3 q3 37 z32 ∧ NumAt g σ' a4 q4 8 z32 ∧ Ce σ' l (aJ g 8 (fun _ => 0)) ∧ Nw σ σ' [a1, q1, a2, q2, a3, q3, a4, q4, l] (fun b => b = r)) := by
  refine q_X9_init 9 131 r t o ⟨by omega, NW.numF (n := 37) h (by show 2 < 8; decide) (by omega) (by omega) (by omega) fun a1 q1 s1 f1 g1 e1 n1 c1 w1 => ⟨by omega, NW.numF (n := 37) c1 (by show 3 < 8; decide) (by omega) (by omega) (by omega) fun a2 q2 s2 f2 g2 e2 n2 c2 w2 => ⟨by omega, NW.numF (n := 37) c2 (by show 4 < 8; decide) (by omega) (by omega) (by omega) fun a3 q3 s3 f3 g3 e3 n3 c3 w3 => ⟨by omega, NW.numF (n := 8) c3 (by show 5 < 8; decide) (by omega) (by omega) (by omega) fun a4 q4 s4 f4 g4 e4 n4 c4 w4 => ⟨by omega, fun l hl => ?_⟩⟩⟩⟩⟩
  change PF (hpush s4 l (aJ g 8 (fun _ => 0))) _ _ _ _ _
  have nr : ∀ {s : Hs} {x : Nat} {e : va_E}, Ce s r e → x ∉ s.1 → x ≠ r := fun c hx z => hx (z ▸ c.1)
  have w5 := Nw.push (aJ g 8 (fun _ => 0)) hl
  have c5 := w5.2.2 _ _ c4 (fun z => z)
  have d1 : l ≠ r := nr c4 hl
  have W := (((w1.trans w2).trans w3).trans w4).trans w5.any
  have m1 := w5.num (w4.num (w3.num (w2.num n1 (nr h f1) (nr h g1)) (nr h f1) (nr h g1)) (nr h f1) (nr h g1)) (fun z => z) (fun z => z)
  have m2 := w5.num (w4.num (w3.num n2 (nr c1 f2) (nr c1 g2)) (nr c1 f2) (nr c1 g2)) (fun z => z) (fun z => z)
  have m3 := w5.num (w4.num n3 (nr c2 f3) (nr c2 g3)) (fun z => z) (fun z => z)
  have m4 := w5.num n4 (fun z => z) (fun z => z)
  refine PF.of c5 (by show 6 < 8; decide) rfl (PF.of (c5.up _) (by show 0 < 8; decide) rfl (PF.of ((c5.up _).up _) (by show 1 < 8; decide) rfl ⟨by omega, rfl, a1, q1, a2, q2, a3, q3, a4, q4, l, ((c5.up _).up _).up _, ?_, ?_, ?_, ?_, ((Ce.psh.upo d1).upo d1).upo d1, ((W.hup (X := fun b => b = r) rfl _).hup (X := fun b => b = r) rfl _).hup (X := fun b => b = r) rfl _⟩))
  · exact ((m1.upo _ (nr h f1) (nr h g1)).upo _ (nr h f1) (nr h g1)).upo _ (nr h f1) (nr h g1)
  · exact ((m2.upo _ (nr c1 f2) (nr c1 g2)).upo _ (nr c1 f2) (nr c1 g2)).upo _ (nr c1 f2) (nr c1 g2)
  · exact ((m3.upo _ (nr c2 f3) (nr c2 g3)).upo _ (nr c2 f3) (nr c2 g3)).upo _ (nr c2 f3) (nr c2 g3)
  · exact ((m4.upo _ (nr c3 f4) (nr c3 g4)).upo _ (nr c3 f4) (nr c3 g4)).upo _ (nr c3 f4) (nr c3 g4)
theorem wr_wkinit {r o y : Nat} (h : Ce σ r (.inr (10, [.null, .null, .null, .null, .null, .null, .int 0, .int 0, .int 0]))) : Do g M_X10_init 7 531 [.ref r, .ref o, .ref y] σ (kV fun σ' => ∃ l a1 q1 a2 q2 a3 q3, Ce σ' r (.inr (10, [.ref o, .ref y, .ref l, .ref a1, .ref a2, .ref a3, .int 0, .int 0, .int 0])) ∧ Ce σ' l (aQ g 6 8 (fun _ => none)) ∧ NumAt g σ' a1 q1 256 z32 ∧ NumAt g σ' a2 q2 256 z32 ∧ NumAt g σ' a3 q3 8 z32 ∧ Nw σ σ' [l, a1, q1, a2, q2, a3, q3] (fun b => b = r)) := by
  refine q_X10_init 7 531 r o y ⟨by omega, fun l hl => ?_⟩
  change PF (hpush σ l (aQ g 6 8 (fun _ => none))) _ _ _ _ _
  have w0 := Nw.push (aQ g 6 8 (fun _ => none)) hl
  have c0 := w0.2.2 _ _ h (fun z => z)
  have d1 : l ≠ r := fun z => hl (z ▸ h.1)
  have W0 := w0.any.hup (X := fun b => b = r) rfl (.inr (10, [.null, .null, .ref l, .null, .null, .null, .int 0, .int 0, .int 0]))
  refine PF.of (fs' := [.null, .null, .ref l, .null, .null, .null, .int 0, .int 0, .int 0]) c0 (by show 2 < 9; decide) rfl ⟨by omega, ?_⟩
  have k0 : Ce (hup (hpush σ l (aQ g 6 8 (fun _ => none))) r (.inr (10, [.null, .null, .ref l, .null, .null, .null, .int 0, .int 0, .int 0]))) r (.inr (10, [.null, .null, .ref l, .null, .null, .null, .int 0, .int 0, .int 0])) := c0.up _
  have l0 : Ce (hup (hpush σ l (aQ g 6 8 (fun _ => none))) r (.inr (10, [.null, .null, .ref l, .null, .null, .null, .int 0, .int 0, .int 0]))) l (aQ g 6 8 (fun _ => none)) := Ce.psh.upo d1
  generalize hup (hpush σ l (aQ g 6 8 (fun _ => none))) r (.inr (10, [.null, .null, .ref l, .null, .null, .null, .int 0, .int 0, .int 0])) = s0 at *
  refine NW.numF (n := 256) k0 (by show 3 < 9; decide) (by omega) (by omega) (by omega) fun a1 q1 s1 f1 g1 e1 n1 c1 w1 => ⟨by omega, NW.numF (n := 256) c1 (by show 4 < 9; decide) (by omega) (by omega) (by omega) fun a2 q2 s2 f2 g2 e2 n2 c2 w2 => ⟨by omega, NW.numF (n := 8) c2 (by show 5 < 9; decide) (by omega) (by omega) (by omega) fun a3 q3 s3 f3 g3 e3 n3 c3 w3 => ?_⟩⟩
  have nr : ∀ {s : Hs} {x : Nat} {e : va_E}, Ce s r e → x ∉ s.1 → x ≠ r := fun c hx z => hx (z ▸ c.1)
  have W := ((W0.trans w1).trans w2).trans w3
  have m1 := w3.num (w2.num n1 (nr k0 f1) (nr k0 g1)) (nr k0 f1) (nr k0 g1)
  have m2 := w3.num n2 (nr c1 f2) (nr c1 g2)
  have l3 := w3.2.2 _ _ (w2.2.2 _ _ (w1.2.2 _ _ l0 d1) d1) d1
  refine PF.of c3 (by show 0 < 9; decide) rfl (PF.of (c3.up _) (by show 1 < 9; decide) rfl ⟨by omega, rfl, l, a1, q1, a2, q2, a3, q3, (c3.up _).up _, (l3.upo d1).upo d1, (m1.upo _ (nr k0 f1) (nr k0 g1)).upo _ (nr k0 f1) (nr k0 g1), (m2.upo _ (nr c1 f2) (nr c1 g2)).upo _ (nr c1 f2) (nr c1 g2), (n3.upo _ (nr c2 f3) (nr c2 g3)).upo _ (nr c2 f3) (nr c2 g3), (W.hup (X := fun b => b = r) rfl _).hup (X := fun b => b = r) rfl _⟩)
/-! pictures -/
theorem wr_piinit {r : Nat} (h : Ce σ r (.inr (4, [.null, .null, .null, .int 0]))) : Do g M_X4_init 6 15 [.ref r] σ (kV fun σ' => ∃ a1 q1 a2 q2 a3 q3, (Ce σ' r (.inr (4, [.ref a1, .ref a2, .ref a3, .int 0])) ∧ NumAt g σ' a1 q1 4 z32 ∧ NumAt g σ' a2 q2 4 z32 ∧ NumAt g σ' a3 q3 4 z32) ∧ (a1 ∉ σ.1 ∧ q1 ∉ σ.1 ∧ a2 ∉ σ.1 ∧ q2 ∉ σ.1 ∧ a3 ∉ σ.1 ∧ q3 ∉ σ.1) ∧ Nw σ σ' [a1, q1, a2, q2, a3, q3] (fun b => b = r)) := by
  refine q_X4_init 6 15 r ⟨by omega, NW.numF (n := 4) h (by show 0 < 4; decide) (by omega) (by omega) (by omega) fun a1 q1 s1 f1 g1 e1 n1 c1 w1 => ⟨by omega, NW.numF (n := 4) c1 (by show 1 < 4; decide) (by omega) (by omega) (by omega) fun a2 q2 s2 f2 g2 e2 n2 c2 w2 => ⟨by omega, NW.numF (n := 4) c2 (by show 2 < 4; decide) (by omega) (by omega) (by omega) fun a3 q3 s3 f3 g3 e3 n3 c3 w3 => ⟨by omega, rfl, a1, q1, a2, q2, a3, q3, ⟨c3, ?_, ?_, n3⟩, ⟨f1, g1, w1.out f2, w1.out g2, w1.out (w2.out f3), w1.out (w2.out g3)⟩, (w1.trans w2).trans w3⟩⟩⟩⟩
  · exact w3.num (w2.num n1 (fun z => f1 (z ▸ h.1)) (fun z => g1 (z ▸ h.1))) (fun z => f1 (z ▸ h.1)) (fun z => g1 (z ▸ h.1))
  · exact w3.num n2 (fun z => f2 (z ▸ c1.1)) (fun z => g2 (z ▸ c1.1))
def Pic0 (g : GG) (σ : Hs) (p a1 q1 a2 q2 a3 q3 : Nat) : Prop := Ce σ p (.inr (4, [.ref a1, .ref a2, .ref a3, .int 0])) ∧ NumAt g σ a1 q1 4 z32 ∧ NumAt g σ a2 q2 4 z32 ∧ NumAt g σ a3 q3 4 z32
def al7 (l p a1 q1 a2 q2 a3 q3 : Nat) : Prop := p ≠ l ∧ a1 ≠ l ∧ q1 ≠ l ∧ a2 ≠ l ∧ q2 ≠ l ∧ a3 ≠ l ∧ q3 ≠ l
theorem Pic0.gr {l : Nat} {σ' : Hs} {p a1 q1 a2 q2 a3 q3 : Nat} (h : Pic0 g σ p a1 q1 a2 q2 a3 q3) (s : Gr (fun b => b = l) σ σ') (d : al7 l p a1 q1 a2 q2 a3 q3) : Pic0 g σ' p a1 q1 a2 q2 a3 q3 := by
  obtain ⟨d0, d1, d2, d3, d4, d5, d6⟩ := d
  exact ⟨s.2 _ _ h.1 d0, s.num h.2.1 d1 d2, s.num h.2.2.1 d3 d4, s.num h.2.2.2 d5 d6⟩
theorem pi_step {s : Hs} {post : Option Value → Hs → Prop} {kM nM i r l : Nat} {x1 x2 x3 : Value} {f : Nat → Option Nat} (hr : Ce s r (.inr (5, [x1, x2, .ref l, x3, .int 0]))) (hl : Ce s l (aQ g 5 4 f)) (hi : i < 4) (hc : kM + 7 ≤ 31 ∧ nM + 19 ≤ 145) (K : ∀ p a1 q1 a2 q2 a3 q3 s', Pic0 g s' p a1 q1 a2 q2 a3 q3 → al7 l p a1 q1 a2 q2 a3 q3 → Ce s' r (.inr (5, [x1, x2, .ref l, x3, .int 0])) → Ce s' l (aQ g 5 4 (va_up f i (some p))) → Nw s s' [p, a1, q1, a2, q2, a3, q3] (fun b => b = l) → J_X5_init_37 g post 31 145 (kM + 1 + 6) (nM + 4 + 15) s' r (nI (i + 1))) : J_X5_init_37 g post 31 145 kM nM s r (nI i) := by
  have hrl : r ≠ l := ne_oQ hr hl
  refine q_X5_init_37 _ _ _ _ _ _ (FR.of hr rfl (AN.of hl ⟨fun c => absurd ((nI_leI (a := 4) (by decide) (by omega)).mp c) (by omega), fun _ => FR.of hr rfl ⟨by omega, fun p hp => ⟨6, 15, by omega, DoV.use (wr_piinit Ce.psh) ?_⟩⟩⟩))
  rintro s3 ⟨a1, q1, a2, q2, a3, q3, P, ⟨e1, e2, e3, e4, e5, e6⟩, w⟩
  have w3 := w.own hp
  have l3 := w3.2.2 _ _ hl (fun z => z)
  have r3 := w3.2.2 _ _ hr (fun z => z)
  have hpp := Gr.push (σ := s) (.inr (4, [.null, .null, .null, .int 0])) hp
  have nl : ∀ x, x ∉ (hpush s p (.inr (4, [.null, .null, .null, .int 0]))).1 → x ≠ l := fun x hx z => hx (hpp.1 _ (z ▸ hl.1))
  have d : al7 l p a1 q1 a2 q2 a3 q3 := ⟨fun z => hp (z ▸ hl.1), nl _ e1, nl _ e2, nl _ e3, nl _ e4, nl _ e5, nl _ e6⟩
  refine SR.of l3 rfl hi (by decide) (Rc.of P.1) ?_
  rw [nI_1]
  exact K p a1 q1 a2 q2 a3 q3 _ (Pic0.gr P Gr.hp d) d (r3.upo hrl) (l3.up _) (w3.any.hup (X := fun b => b = l) rfl _)
def pi4 (p0 p1 p2 p3 : Nat) : Nat → Option Nat := va_up (va_up (va_up (va_up (fun _ => none) 0 (some p0)) 1 (some p1)) 2 (some p2)) 3 (some p3)
theorem wr_psinit {r t o : Nat} (h : Ce σ r (.inr (5, [.null, .null, .null, .null, .int 0]))) : Do g M_X5_init 31 145 [.ref r, .ref t, .ref o] σ (kV fun σ' => ∃ l s1 s2 p0 a0 b0 c0 d0 e0 f0 p1 a1 b1 c1 d1 e1 f1 p2 a2 b2 c2 d2 e2 f2 p3 a3 b3 c3 d3 e3 f3, Ce σ' r (.inr (5, [.ref t, .ref o, .ref l, .ref s1, .int 0])) ∧ Ce σ' l (aQ g 5 4 (pi4 p0 p1 p2 p3)) ∧ NumAt g σ' s1 s2 64 z32 ∧ Pic0 g σ' p0 a0 b0 c0 d0 e0 f0 ∧ Pic0 g σ' p1 a1 b1 c1 d1 e1 f1 ∧ Pic0 g σ' p2 a2 b2 c2 d2 e2 f2 ∧ Pic0 g σ' p3 a3 b3 c3 d3 e3 f3 ∧ Nw σ σ' [l, s1, s2, p0, a0, b0, c0, d0, e0, f0, p1, a1, b1, c1, d1, e1, f1, p2, a2, b2, c2, d2, e2, f2, p3, a3, b3, c3, d3, e3, f3] (fun b => b = r)) := by
  refine q_X5_init 31 145 r t o ⟨by omega, fun l hl => ?_⟩
  change PF (hpush σ l (aQ g 5 4 (fun _ => none))) _ _ _ _ _
  have w0 := Nw.push (aQ g 5 4 (fun _ => none)) hl
  have c0 := w0.2.2 _ _ h (fun z => z)
  have d1 : l ≠ r := fun z => hl (z ▸ h.1)
  have W0 := w0.any.hup (X := fun b => b = r) rfl (.inr (5, [.null, .null, .ref l, .null, .int 0]))
  refine PF.of (fs' := [.null, .null, .ref l, .null, .int 0]) c0 (by show 2 < 5; decide) rfl ⟨by omega, ?_⟩
  have k0 : Ce (hup (hpush σ l (aQ g 5 4 (fun _ => none))) r (.inr (5, [.null, .null, .ref l, .null, .int 0]))) r (.inr (5, [.null, .null, .ref l, .null, .int 0])) := c0.up _
  have l0 : Ce (hup (hpush σ l (aQ g 5 4 (fun _ => none))) r (.inr (5, [.null, .null, .ref l, .null, .int 0]))) l (aQ g 5 4 (fun _ => none)) := Ce.psh.upo d1
  generalize hup (hpush σ l (aQ g 5 4 (fun _ => none))) r (.inr (5, [.null, .null, .ref l, .null, .int 0])) = s0 at *
  refine NW.numF (n := 64) k0 (by show 3 < 5; decide) (by omega) (by omega) (by omega) fun x1 x2 y1 f1 g1 e1 n1 k1 w1 => ?_
  have l1 := w1.2.2 _ _ l0 d1
  have W1 := W0.trans w1
  have xr : x1 ≠ r := fun z => f1 (z ▸ k0.1)
  have yr : x2 ≠ r := fun z => g1 (z ▸ k0.1)
  have xl : x1 ≠ l := fun z => f1 (z ▸ l0.1)
  have yl : x2 ≠ l := fun z => g1 (z ▸ l0.1)
  refine PF.of k1 (by show 0 < 5; decide) rfl (PF.of (k1.up _) (by show 1 < 5; decide) rfl ?_)
  have k2 := (k1.up (.inr (5, [.ref t, .null, .ref l, .ref x1, .int 0]))).up (.inr (5, [.ref t, .ref o, .ref l, .ref x1, .int 0]))
  have l2 := (l1.upo (e := .inr (5, [.ref t, .null, .ref l, .ref x1, .int 0])) d1).upo (e := .inr (5, [.ref t, .ref o, .ref l, .ref x1, .int 0])) d1
  have n2 := (n1.upo (.inr (5, [.ref t, .null, .ref l, .ref x1, .int 0])) xr yr).upo (.inr (5, [.ref t, .ref o, .ref l, .ref x1, .int 0])) xr yr
  have W2 := (W1.hup (X := fun b => b = r) rfl (.inr (5, [.ref t, .null, .ref l, .ref x1, .int 0]))).hup (X := fun b => b = r) rfl (.inr (5, [.ref t, .ref o, .ref l, .ref x1, .int 0]))
  change J_X5_init_37 g _ _ _ _ _ (hup (hup y1 r (.inr (5, [.ref t, .null, .ref l, .ref x1, .int 0]))) r (.inr (5, [.ref t, .ref o, .ref l, .ref x1, .int 0]))) _ _
  generalize hup (hup y1 r (.inr (5, [.ref t, .null, .ref l, .ref x1, .int 0]))) r (.inr (5, [.ref t, .ref o, .ref l, .ref x1, .int 0])) = y2 at *
  have sub : ∀ a, a ∈ σ.1 → a = l → a = r := fun a ha z => absurd (z ▸ ha) hl
  refine pi_step (i := 0) k2 l2 (by omega) (by omega) fun p0 a0 b0 c0 d0 e0 f0 y3 P0 D0 k3 l3 w3 => ?_
  have W3 := W2.tr w3 sub
  have n3 := w3.num n2 xl yl
  refine pi_step (i := 1) k3 l3 (by omega) (by omega) fun p1 a1 b1 c1 d1 e1 f1 y4 P1 D1 k4 l4 w4 => ?_
  have W4 := W3.tr w4 sub
  have n4 := w4.num n3 xl yl
  have P0 := P0.gr w4.2 D0
  refine pi_step (i := 2) k4 l4 (by omega) (by omega) fun p2 a2 b2 c2 d2 e2 f2 y5 P2 D2 k5 l5 w5 => ?_
  have W5 := W4.tr w5 sub
  have n5 := w5.num n4 xl yl
  have P0 := P0.gr w5.2 D0
  have P1 := P1.gr w5.2 D1
  refine pi_step (i := 3) k5 l5 (by omega) (by omega) fun p3 a3 b3 c3 d3 e3 f3 y6 P3 D3 k6 l6 w6 => ?_
  have W6 := W5.tr w6 sub
  have n6 := w6.num n5 xl yl
  have P0 := P0.gr w6.2 D0
  have P1 := P1.gr w6.2 D1
  have P2 := P2.gr w6.2 D2
  exact q_X5_init_37 _ _ _ _ _ _ (FR.of k6 rfl (AN.of l6 ⟨fun _ => ⟨by omega, rfl, l, x1, x2, p0, a0, b0, c0, d0, e0, f0, p1, a1, b1, c1, d1, e1, f1, p2, a2, b2, c2, d2, e2, f2, p3, a3, b3, c3, d3, e3, f3, k6, l6, n6, P0, P1, P2, P3, W6⟩, fun c => absurd (nI_le (a := 4) (Nat.le_refl 4) (by decide)) c⟩))
end NCL
