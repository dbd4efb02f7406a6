/-! New things, in the order in which they come. -/
def Nw (σ σ' : Hs) (l : List Nat) (X : Nat → Prop) : Prop := (σ'.1 = σ.1 ++ l ∧ (σ.1.Nodup → σ'.1.Nodup)) ∧ Gr X σ σ'
theorem Nw.refl {X : Nat → Prop} {σ : Hs} : Nw σ σ [] X := ⟨⟨(List.append_nil _).symm, fun h => h⟩, Gr.refl⟩
theorem Nw.trans {X : Nat → Prop} {σ σ1 σ2 : Hs} {l l' : List Nat} (h : Nw σ σ1 l X) (h2 : Nw σ1 σ2 l' X) : Nw σ σ2 (l ++ l') X := ⟨⟨by rw [h2.1.1, h.1.1, List.append_assoc], fun n => h2.1.2 (h.1.2 n)⟩, h.2.trans h2.2⟩
theorem Nw.any {X : Nat → Prop} {σ σ' : Hs} {l : List Nat} (h : Nw σ σ' l gN) : Nw σ σ' l X := ⟨h.1, h.2.any⟩
theorem Nw.hup {X : Nat → Prop} {σ σ' : Hs} {l : List Nat} {a : Nat} (h : Nw σ σ' l X) (ha : X a) (e : va_E) : Nw σ (hup σ' a e) l X := ⟨h.1, h.2.trans (Gr.hp.mono fun b z => by rw [z]; exact ha)⟩
theorem Nw.push {σ : Hs} {q : Nat} (e : va_E) (hq : q ∉ σ.1) : Nw σ (hpush σ q e) [q] gN := ⟨⟨rfl, fun n => List.pairwise_append.mpr ⟨n, List.pairwise_singleton _ _, fun x hx y hy => by
  rw [List.mem_singleton.mp hy]
  exact fun z => hq (z ▸ hx)⟩⟩, Gr.push e hq⟩
/-- what is made new and then worked on is new all the same -/
theorem Nw.own {σ σ2 : Hs} {q : Nat} {e : va_E} {l : List Nat} (hq : q ∉ σ.1) (h : Nw (hpush σ q e) σ2 l (fun b => b = q)) : Nw σ σ2 (q :: l) gN := by
  have hp := Nw.push e hq
  refine ⟨⟨?_, fun n => h.1.2 (hp.1.2 n)⟩, fun a ha => h.2.1 a (hp.2.1 a ha), fun a e' c _ => h.2.2 a e' (hp.2.2 a e' c (fun z => z)) (fun z => hq (z ▸ c.1))⟩
  rw [h.1.1]
  show (σ.1 ++ [q]) ++ l = σ.1 ++ (q :: l)
  rw [List.append_assoc]
  rfl
theorem Nw.ne {X : Nat → Prop} {σ σ' : Hs} {l : List Nat} (h : Nw σ σ' l X) {a b : Nat} (ha : a ∈ σ.1) (hb : b ∉ σ'.1) : a ≠ b := fun z => hb (z ▸ h.2.1 a ha)
theorem Nw.out {X : Nat → Prop} {σ σ' : Hs} {l : List Nat} (h : Nw σ σ' l X) {b : Nat} (hb : b ∉ σ'.1) : b ∉ σ.1 := fun z => hb (h.2.1 b z)
section NWS
variable {g : GG} {σ : Hs}
theorem wr_ninitN {r n : Nat} (h : Ce σ r (.inr (1, [.null]))) (h0 : 0 < n) (hn : n ≤ 60000000) : Do g M_X1_init 1 n [.ref r, .int (nI n)] σ (kV fun σ' => ∃ q, q ∉ σ.1 ∧ NumAt g σ' r q n (fun _ => 0) ∧ Nw σ σ' [q] (fun b => b = r)) := by
  refine q_X1_init 1 n r (nI n) ⟨fun c => ?_, fun c => ⟨?_, ?_, ?_, fun q hq => ?_⟩⟩
  · have := (le_n (n := 0) (by decide)).mp c
    rw [I_n (by omega)] at this
    omega
  · exact fun z => by
      have := (lt_n (n := 0) (by decide)).mp z
      rw [I_n (by omega)] at this
      omega
  · rw [nI_clamp (by omega)]; exact hn
  · rw [nI_clamp (by omega)]; omega
  · rw [nI_clamp (by omega)]
    have hne : r ≠ q := fun z => hq (z ▸ h.1)
    have h1 : Ce (hpush σ q (aI g n (fun _ => 0))) r (.inr (1, [.null])) := (Gr.push _ hq).2 _ _ h (fun z => z)
    have h2 : Ce (hpush σ q (aI g n (fun _ => 0))) q (aI g n (fun _ => 0)) := Ce.psh
    refine PF.of h1 (by show 0 < 1; decide) rfl ⟨by omega, rfl, q, hq, ⟨h1.up _, h2.upo hne.symm, by omega⟩, ?_⟩
    exact (Nw.push _ hq).any.hup (X := fun b => b = r) rfl _
/-- a new row of numbers, put into a field of r -/
theorem NW.numF {r ci k n cM sM k0 k1 : Nat} {fs : List Value} {ψ : Nat → Nat → Nat → Hs → Prop} (h : Ce σ r (.inr (ci, fs))) (hk : k < fs.length) (h0 : 0 < n) (hn : n ≤ 60000000) (hc : k0 + 1 ≤ cM ∧ k1 + n ≤ sM) (K : ∀ r1 q1 s4, r1 ∉ σ.1 → q1 ∉ σ.1 → r1 ≠ q1 → NumAt g s4 r1 q1 n (fun _ => 0) → Ce s4 r (.inr (ci, fs.set k (.ref r1))) → Nw σ s4 [r1, q1] (fun b => b = r) → ψ 1 n r1 s4) : NW σ 1 [.null] (fun r1 s2 => ∃ mc ms : Nat, (k0 + mc ≤ cM ∧ k1 + ms ≤ sM) ∧ Do g M_X1_init mc ms [.ref r1, .int (nI n)] s2 (kV (fun s3 => PF s3 r ci k (.ref r1) (fun s4 => ψ mc ms r1 s4)))) := by
  intro r1 hr1
  refine ⟨1, n, hc, DoV.use (wr_ninitN Ce.psh h0 hn) ?_⟩
  rintro s3 ⟨q1, hq1, n1, w1⟩
  have hp := Gr.push (.inr (1, [.null])) hr1
  have w2 := w1.own hr1
  have q1n : q1 ∉ σ.1 := fun z => hq1 (hp.1 _ z)
  have c3 := w2.2.2 _ _ h (fun z => z)
  have d1 : r1 ≠ r := fun z => hr1 (z ▸ h.1)
  have d2 : q1 ≠ r := fun z => q1n (z ▸ h.1)
  exact PF.of c3 hk rfl (K r1 q1 _ hr1 q1n n1.ne (n1.upo _ d1 d2) (c3.up _) (w2.any.hup (X := fun b => b = r) rfl _))
theorem Nw.num {X : Nat → Prop} {σ' : Hs} {l : List Nat} {a q n : Nat} {f : Nat → Int32} (s : Nw σ σ' l X) (h : NumAt g σ a q n f) (ha : ¬ X a) (hq : ¬ X q) : NumAt g σ' a q n f := s.2.num h ha hq
/-! tables, marks -/
abbrev z32 : Nat → Int32 := fun _ => 0
theorem mk64_0 : mk64 (fun _ => false) = 0 := by decide +kernel
theorem wr_tinit {r : Nat} (h : Ce σ r (.inr (8, [.null, .long 0, .int 0]))) : Do g M_X8_init 2 257 [.ref r] σ (kV fun σ' => ∃ a q, TabAt g σ' r a q z32 (fun _ => false) 4 ∧ (a ≠ q ∧ a ∉ σ.1 ∧ q ∉ σ.1) ∧ Nw σ σ' [a, q] (fun b => b = r)) := by
  refine q_X8_init 2 257 r ⟨by omega, NW.numF (n := 256) h (by show 0 < 3; decide) (by omega) (by omega) (by omega) fun r1 q1 s4 f1 f2 f3 n1 c1 w1 => ?_⟩
  have d1 : r1 ≠ r := fun z => f1 (z ▸ h.1)
  have d2 : q1 ≠ r := fun z => f2 (z ▸ h.1)
  refine PF.of c1 (by show 2 < 3; decide) rfl ⟨by omega, rfl, r1, q1, ⟨?_, n1.upo _ d1 d2⟩, ⟨f3, f1, f2⟩, w1.hup (X := fun b => b = r) rfl _⟩
  rw [mk64_0]
  exact c1.up _
theorem NW.tab {cM sM k0 k1 : Nat} {ψ : Nat → Nat → Nat → Hs → Prop} (hc : k0 + 2 ≤ cM ∧ k1 + 257 ≤ sM) (K : ∀ r a q s3, TabAt g s3 r a q z32 (fun _ => false) 4 → (r ∉ σ.1 ∧ a ∉ σ.1 ∧ q ∉ σ.1) → Nw σ s3 [r, a, q] gN → ψ 2 257 r s3) : NW σ 8 [.null, .long 0, .int 0] (fun r s2 => ∃ mc ms : Nat, (k0 + mc ≤ cM ∧ k1 + ms ≤ sM) ∧ Do g M_X8_init mc ms [.ref r] s2 (kV (fun s3 => ψ mc ms r s3))) := by
  intro r hr
  refine ⟨2, 257, hc, DoV.use (wr_tinit Ce.psh) ?_⟩
  rintro s3 ⟨a, q, t, ⟨-, f1, f2⟩, w⟩
  have hp := Gr.push (.inr (8, [.null, .long 0, .int 0])) hr
  exact K r a q s3 t ⟨hr, fun z => f1 (hp.1 _ z), fun z => f2 (hp.1 _ z)⟩ (w.own hr)
theorem TabAt.gr {X : Nat → Prop} {σ' : Hs} {t a q wd : Nat} {f : Nat → Int32} {tk : Nat → Bool} (h : TabAt g σ t a q f tk wd) (s : Gr X σ σ') (ht : ¬ X t) (ha : ¬ X a) (hq : ¬ X q) : TabAt g σ' t a q f tk wd := ⟨s.2 _ _ h.1 ht, s.num h.2 ha hq⟩
end NWS
