/-! New things: numbers, orders, questions. -/
/-- only cells in X changed; what is there stays there -/
def Gr (X : Nat → Prop) (σ σ' : Hs) : Prop := (∀ a, a ∈ σ.1 → a ∈ σ'.1) ∧ ∀ a e, Ce σ a e → ¬ X a → Ce σ' a e
theorem Gr.refl {X : Nat → Prop} {σ : Hs} : Gr X σ σ := ⟨fun _ h => h, fun _ _ h _ => h⟩
theorem Gr.trans {X : Nat → Prop} {σ σ1 σ2 : Hs} (h1 : Gr X σ σ1) (h2 : Gr X σ1 σ2) : Gr X σ σ2 := ⟨fun a h => h2.1 a (h1.1 a h), fun a e h n => h2.2 a e (h1.2 a e h n) n⟩
theorem Gr.mono {X Y : Nat → Prop} {σ σ' : Hs} (h : Gr X σ σ') (k : ∀ a, X a → Y a) : Gr Y σ σ' := ⟨h.1, fun a e c n => h.2 a e c (fun z => n (k a z))⟩
def gN : Nat → Prop := fun _ => False
theorem Gr.any {X : Nat → Prop} {σ σ' : Hs} (h : Gr gN σ σ') : Gr X σ σ' := h.mono fun _ z => z.elim
theorem Gr.push {σ : Hs} {q : Nat} (e : va_E) (hq : q ∉ σ.1) : Gr gN σ (hpush σ q e) := ⟨fun a h => List.mem_append_left _ h, fun a e' c _ => ⟨List.mem_append_left _ c.1, by
  have hne : a ≠ q := fun z => hq (z ▸ c.1)
  show va_up σ.2 q e a = e'
  simp only [va_up, if_neg hne]
  exact c.2⟩⟩
theorem Ce.psh {σ : Hs} {q : Nat} {e : va_E} : Ce (hpush σ q e) q e := ⟨List.mem_append_right _ (List.mem_singleton.mpr rfl), by show va_up σ.2 q e q = e; simp only [va_up, if_true]⟩
theorem Gr.hp {σ : Hs} {a : Nat} {e : va_E} : Gr (fun b => b = a) σ (hup σ a e) := ⟨fun _ h => h, fun _ _ c n => c.upo n⟩
theorem Gr.num {g : GG} {X : Nat → Prop} {σ σ' : Hs} {a q n : Nat} {f : Nat → Int32} (s : Gr X σ σ') (h : NumAt g σ a q n f) (ha : ¬ X a) (hq : ¬ X q) : NumAt g σ' a q n f := ⟨s.2 _ _ h.1 ha, s.2 _ _ h.2.1 hq, h.2.2⟩
theorem Gr.sm {R : Nat → Nat} {T : Nat → Prop} {X : Nat → Prop} {σ σ' : Hs} (s : Gr X σ σ') (k : ∀ a, X a → ∃ i, T i ∧ a = R i) : Sm R T σ σ' := ⟨s.1, fun a e c n => s.2 a e c (fun z => by obtain ⟨i, hi, he⟩ := k a z; exact n i hi he)⟩
theorem wr_ninit {g : GG} {σ : Hs} {r n : Nat} (h : Ce σ r (.inr (1, [.null]))) (h0 : 0 < n) (hn : n ≤ 60000000) : Do g M_X1_init 1 n [.ref r, .int (nI n)] σ (kV fun σ' => ∃ q, q ∉ σ.1 ∧ NumAt g σ' r q n (fun _ => 0) ∧ Gr (fun b => b = r) σ σ') := by
  refine q_X1_init 1 n r (nI n) ⟨fun c => ?_, fun c => ⟨?_, ?_, ?_, fun q hq => ?_⟩⟩
  · have := (le_n (n := 0) (by decide)).mp c
    rw [I_n (by omega)] at this
    omega
  · exact fun z => by
      have := (lt_n (n := 0) (by decide)).mp z
      rw [I_n (by omega)] at this
      omega
  · rw [nI_clamp (by omega)]; exact hn
  · rw [nI_clamp (by omega)]; omega
  · rw [nI_clamp (by omega)]
    have hne : r ≠ q := fun z => hq (z ▸ h.1)
    have h1 : Ce (hpush σ q (aI g n (fun _ => 0))) r (.inr (1, [.null])) := (Gr.push _ hq).2 _ _ h (fun z => z)
    have h2 : Ce (hpush σ q (aI g n (fun _ => 0))) q (aI g n (fun _ => 0)) := Ce.psh
    refine PF.of h1 (by show 0 < 1; decide) rfl ⟨by omega, rfl, q, hq, ⟨h1.up _, h2.upo hne.symm, by omega⟩, ?_⟩
    exact ((Gr.push _ hq).any).trans Gr.hp
/-- a new row of numbers -/
theorem NW.num {g : GG} {σ : Hs} {n cM sM k0 k1 : Nat} {ψ : Nat → Nat → Nat → Hs → Prop} (h0 : 0 < n) (hn : n ≤ 60000000) (hc : k0 + 1 ≤ cM ∧ k1 + n ≤ sM) (K : ∀ r1 q1 s3, r1 ∉ σ.1 → q1 ∉ σ.1 → r1 ≠ q1 → NumAt g s3 r1 q1 n (fun _ => 0) → Gr gN σ s3 → ψ 1 n r1 s3) : NW σ 1 [.null] (fun r1 s2 => ∃ mc ms : Nat, (k0 + mc ≤ cM ∧ k1 + ms ≤ sM) ∧ Do g M_X1_init mc ms [.ref r1, .int (nI n)] s2 (kV (fun s3 => ψ mc ms r1 s3))) := by
  intro r1 hr1
  refine ⟨1, n, hc, DoV.use (wr_ninit Ce.psh h0 hn) ?_⟩
  rintro s3 ⟨q1, hq1, n1, g1⟩
  have hp := Gr.push (.inr (1, [.null])) hr1
  refine K r1 q1 s3 hr1 (fun z => hq1 (hp.1 _ z)) n1.ne n1 ⟨fun a h => g1.1 a (hp.1 a h), fun a e c _ => g1.2 a e (hp.2 a e c (fun z => z)) (fun z => hr1 (z ▸ c.1))⟩
/-! keys -/
def keyB (key : Nat) : Bool := decide (1 ≤ key ∧ key ≤ 124 ∧ (∀ i, i < kw key → 1 ≤ kfig key i) ∧ ∀ i, i < kw key → ∀ j, j < kw key → kfig key i = kfig key j → i = j)
theorem keyB_ok {key : Nat} : keyB key = true ↔ kok key := by
  unfold keyB kok
  rw [decide_eq_true_eq]
  exact ⟨fun h => ⟨h.1, h.2.1, h.2.2.1, fun i j hi hj => h.2.2.2 i hi j hj⟩, fun h => ⟨h.1, h.2.1, h.2.2.1, fun i hi j hj => h.2.2.2 i j hi hj⟩⟩
def keyL : Nat → Nat → Nat → Bool
  | 0, _, _ => true
  | r + 1, seen, fig => if fig = 0 then true else if fig % 5 = 0 then false else if seen.testBit (fig % 5) then false else keyL r (seen ||| 2 ^ (fig % 5)) (fig / 5)
theorem keyL_s (r seen fig : Nat) : keyL (r + 1) seen fig = if fig = 0 then true else if fig % 5 = 0 then false else if seen.testBit (fig % 5) then false else keyL r (seen ||| 2 ^ (fig % 5)) (fig / 5) := rfl
theorem keyL_is : ∀ key, key < 125 → (1 ≤ key → keyL 3 0 key = keyB key) := by decide +kernel
def isKy (x : Int32) : Bool := inR x 125 && keyB x.toInt.toNat
theorem rd_isKey {g : GG} {σ : Hs} (x : Int32) : Rd g M_X2_isKey [.int x] σ (b2 (isKy x)) := by
  have loop : ∀ (r i seen fig : Nat), i + r = 3 → seen < 32 → fig < 125 → J_X2_isKey_19 g (kI fun y σ' => σ' = σ ∧ y = b2 (keyL r seen fig)) σ (nI seen) (nI fig) (nI i) := by
    intro r
    induction r with
    | zero =>
      intro i seen fig hi hs hf
      exact q_X2_isKey_19 _ _ _ ⟨fun _ => rd_i rfl, fun c => absurd (nI_le (a := 3) (by omega) (by omega)) c⟩
    | succ r ih =>
      intro i seen fig hi hs hf
      rw [keyL_s]
      refine q_X2_isKey_19 _ _ _ ⟨fun c => absurd ((nI_leI (a := 3) (by decide) (by omega)).mp c) (by omega), fun _ => ⟨fun c => rd_i ?_, fun c => ?_⟩⟩
      · have c := (nI_leI (b := 0) (by omega) (by decide)).mp c
        rw [if_pos (by omega)]
        rfl
      · have c : fig ≠ 0 := fun z => c (by rw [z]; exact Int32.le_refl _)
        rw [if_neg c, show nI fig - nI fig / 5 * 5 = nI (fig % 5) from pk_rem (d := 5) (by omega) (by decide) (by decide)]
        refine ⟨fun c2 => rd_i ?_, fun c2 => ?_⟩
        · have c2 := (nI_eq (b := 0) (by omega) (by decide)).mp c2
          rw [if_pos c2]
          rfl
        · have c2 : fig % 5 ≠ 0 := fun z => c2 (by rw [z]; rfl)
          rw [if_neg c2]
          refine (rd_has (by omega) (by omega)).use ⟨fun c3 => ?_, fun c3 => rd_i ?_⟩
          · rw [b2_0.mp c3, if_neg (by decide)]
            refine (rd_with (by omega) (by omega)).use ?_
            rw [nI_1, show nI fig / 5 = nI (fig / 5) from pk_div (d := 5) (by omega) (by decide) (by decide)]
            refine ih (i + 1) _ _ (by omega) ?_ (by omega)
            exact Nat.or_lt_two_pow (n := 5) hs (Nat.pow_lt_pow_right (by decide) (by omega))
          · rw [b2_n0.mp c3, if_pos rfl]
            rfl
  refine q_X2_isKey x ⟨fun c => rd_i ?_, fun c => ⟨fun c2 => ?_, fun c2 => rd_i ?_⟩⟩
  · have c := (lt_n (n := 1) (by decide)).mp c
    have e : isKy x = false := by
      unfold isKy
      rcases Bool.eq_false_or_eq_true (inR x 125) with h | h
      · obtain ⟨k, hk, rfl⟩ := inR_of h (by decide)
        rw [I_n (by omega)] at c ⊢
        rw [show k = 0 by omega]
        exact Bool.and_false _
      · rw [h]; rfl
    rw [e]; rfl
  · have c := nlt_n (n := 1) (by decide) c
    have c2 := (le_n (n := 124) (by decide)).mp c2
    obtain ⟨k, hk, rfl⟩ := I_of (x := x) (n := 125) (by omega) (by omega) (by decide)
    rw [I_n (by omega)] at c
    have h0 := loop 3 0 0 k rfl (by omega) hk
    have e : isKy (nI k) = keyL 3 0 k := by
      unfold isKy
      rw [inR_n (by omega), decide_eq_true hk, Bool.true_and, I_n (by omega), show ((k : Int).toNat) = k by omega, keyL_is k hk (by omega)]
    rw [e]
    exact h0
  · have c2 := nle_n (n := 124) (by decide) c2
    rw [show isKy x = false from by unfold isKy inR; rw [decide_eq_false (by omega)]; rfl]
    rfl
theorem rd_haveKey {g : GG} {σ : Hs} {R : Nat → Nat} {told : Nat} {B : Nat → OD} (h : OrdsC g σ R told B) {key : Nat} (hk : key < 125) (hB : ∀ o, o < told → (B o).1 < 125) : Rd g M_X3_haveKey [.ref (R 4), .int (nI key)] σ (b2 (hasK B key told)) := by
  have h3 := h.2.2.1
  have loop : ∀ (d k : Nat), k + d = told → (∀ o, o < k → ¬ ((B o).2.2 = false ∧ (B o).1 = key)) → J_X3_haveKey_2 g (kI fun x σ' => σ' = σ ∧ x = b2 (hasK B key told)) σ (R 4) (nI key) (nI k) := by
    intro d
    induction d with
    | zero =>
      intro k hk2 hno
      refine q_X3_haveKey_2 _ _ _ (FI.of h.1 rfl ⟨fun _ => rd_i ?_, fun c => absurd (nI_le (by omega) (by omega)) c⟩)
      have e : hasK B key told = false := by
        unfold hasK
        exact decide_eq_false (fun ⟨o, ho, z⟩ => hno o (by omega) z)
      rw [e]; rfl
    | succ d ih =>
      intro k hk2 hno
      have next : ¬ ((B k).2.2 = false ∧ (B k).1 = key) → J_X3_haveKey_2 g (kI fun x σ' => σ' = σ ∧ x = b2 (hasK B key told)) σ (R 4) (nI key) (nI (k + 1)) := fun z => ih (k + 1) (by omega) (fun o ho => by
        rcases Nat.lt_or_ge o k with h1 | h1
        · exact hno o h1
        · rw [show o = k by omega]; exact z)
      refine q_X3_haveKey_2 _ _ _ (FI.of h.1 rfl ⟨fun c => absurd ((nI_leI (by omega) (by omega)).mp c) (by omega), fun _ => ⟨Rc.of h.1, ?_⟩⟩)
      by_cases hd : (B k).2.2 = true
      · refine (rd_okeptT h (by omega) hd).none ?_
        rw [nI_1]
        exact next (fun z => by rw [hd] at z; cases z.1)
      · have hd : (B k).2.2 = false := by simpa using hd
        have ho := h.2.2.2.1 k (by omega)
        have hb := hB k (by omega)
        refine (rd_okeptF h (by omega) hd).some ⟨Rc.of ho.1, (rd_okey ho).use ⟨fun c => ?_, fun c => rd_i ?_⟩⟩
        · rw [nI_1]
          exact next (fun z => c (by rw [z.2]))
        · have c := (nI_eq (by omega) (by omega)).mp c
          have e : hasK B key told = true := by
            unfold hasK
            exact decide_eq_true ⟨k, by omega, hd, c⟩
          rw [e]; rfl
  exact q_X3_haveKey _ _ (loop told 0 (by omega) (fun o ho => absurd ho (by omega)))
/-! a new order -/
def w0 : OS := (0, fun _ => 0, 0, fun _ => 0, 0)
def oi (t a2 a3 a4 : Value) (key wd rm cm : Int32) : va_E := .inr (2, [t, .int key, .int wd, .int rm, .int cm, a2, a3, a4, .int 0, .int 0, .int 0, .int 0])
/-- the parts of a new order laid, its columns still wanting -/
def OI (g : GG) (σ σ1 : Hs) (a : Nat → Nat) (key : Nat) (A : Nat → Int32) : Prop := Ce σ1 (a 0) (oi (.ref (a 1)) (.ref (a 2)) (.ref (a 3)) (.ref (a 4)) (nI key) (nI (kw key)) (nI (rmk key)) 0) ∧ NumAt g σ1 (a 2) (a 5) 3 A ∧ NumAt g σ1 (a 3) (a 6) 64 (fun _ => 0) ∧ NumAt g σ1 (a 4) (a 7) 64 (fun _ => 0) ∧ Gr (fun b => b = a 0) σ σ1 ∧ (∀ k, 2 ≤ k → k < 8 → a k ∉ σ.1) ∧ ∀ i j, i < 8 → j < 8 → i ≠ 1 → j ≠ 1 → a i = a j → i = j
/-- a new order -/
def ON (g : GG) (σ σ1 : Hs) (a : Nat → Nat) (key : Nat) : Prop := OrdC g σ1 a key w0 false ∧ Gr (fun b => b = a 0) σ σ1 ∧ (∀ k, 2 ≤ k → k < 8 → a k ∉ σ.1) ∧ (∀ i j, i < 8 → j < 8 → i ≠ 1 → j ≠ 1 → a i = a j → i = j) ∧ ∀ i, i < 8 → i ≠ 1 → a i ∈ σ1.1
theorem nF_0 : nF (fun _ => 0) = fun _ => (0 : Int32) := rfl
theorem oi_loop {g : GG} {σ : Hs} {a : Nat → Nat} {key : Nat} {P : Hs → Prop} (hP : ∀ σ', ON g σ σ' a key → P σ') (hk : kok key) : ∀ (i : Nat) (σ1 : Hs) (A : Nat → Int32) (m : Nat), i < kw key → OI g σ σ1 a key A → m < 16 → m ||| kmaskN key (i + 1) = kmask key → (∀ j, i < j → j < kw key → A j = nI (kcol key j)) → J_X2_init_119 g (kV P) 6 134 6 134 σ1 (a 0) (nI (key / 5 ^ (kw key - 1 - i))) (nI m) (nI i) := by
  have hw := kw_le key
  have hkey : key < 125 := by have := hk.2.1; omega
  have hstep : ∀ (i : Nat) (σ1 : Hs) (A : Nat → Int32) (m : Nat), i < kw key → OI g σ σ1 a key A → m < 16 → m ||| kmaskN key (i + 1) = kmask key → (∀ j, i < j → j < kw key → A j = nI (kcol key j)) → (∀ (σ2 : Hs) (A2 : Nat → Int32) (m2 : Nat), OI g σ σ2 a key A2 → m2 < 16 → m2 ||| kmaskN key i = kmask key → (∀ j, i ≤ j → j < kw key → A2 j = nI (kcol key j)) → J_X2_init_119 g (kV P) 6 134 6 134 σ2 (a 0) (nI (key / 5 ^ (kw key - 1 - i) / 5)) (nI m2) (nI i + (-1))) → J_X2_init_119 g (kV P) 6 134 6 134 σ1 (a 0) (nI (key / 5 ^ (kw key - 1 - i))) (nI m) (nI i) := by
    intro i σ1 A m hi h hm hmk hA hnext
    obtain ⟨h0, h1, h2, h3, h4, h5, h6⟩ := h
    have hd : key / 5 ^ (kw key - 1 - i) ≤ key := Nat.div_le_self _ _
    have hf := hk.2.2.1 i hi
    have hc := kcol_lt key i
    refine q_X2_init_119 _ _ _ _ _ _ _ _ ⟨fun c => absurd ((lt_n (n := 0) (by decide)).mp c) (by rw [I_n (by omega)]; omega), fun _ => FR.of h0 rfl ⟨by omega, Rc.of h1.1, ?_⟩⟩
    rw [show nI (key / 5 ^ (kw key - 1 - i)) - nI (key / 5 ^ (kw key - 1 - i)) / 5 * 5 = nI (kfig key i) from pk_rem (d := 5) (by omega) (by decide) (by decide), show nI (kfig key i) - 1 = nI (kcol key i) from nI_s1 (by omega)]
    refine (wr_put h1 (k := i) (by omega) _).use ⟨by omega, (rd_with (by omega) (by omega)).use ?_⟩
    rw [show nI (key / 5 ^ (kw key - 1 - i)) / 5 = nI (key / 5 ^ (kw key - 1 - i) / 5) from pk_div (d := 5) (by omega) (by decide) (by decide)]
    have n05 : a 0 ≠ a 5 := fun z => absurd (h6 0 5 (by omega) (by omega) (by omega) (by omega) z) (by omega)
    have n35 : a 3 ≠ a 5 := fun z => absurd (h6 3 5 (by omega) (by omega) (by omega) (by omega) z) (by omega)
    have n65 : a 6 ≠ a 5 := fun z => absurd (h6 6 5 (by omega) (by omega) (by omega) (by omega) z) (by omega)
    have n45 : a 4 ≠ a 5 := fun z => absurd (h6 4 5 (by omega) (by omega) (by omega) (by omega) z) (by omega)
    have n75 : a 7 ≠ a 5 := fun z => absurd (h6 7 5 (by omega) (by omega) (by omega) (by omega) z) (by omega)
    refine hnext _ _ _ ⟨h0.upo n05, h1.put _, h2.upo _ n35 n65, h3.upo _ n45 n75, ?_, h5, h6⟩ (Nat.or_lt_two_pow (n := 4) hm (Nat.pow_lt_pow_right (by decide) hc)) ?_ ?_
    · refine ⟨fun b hb => h4.1 b hb, fun b e c n => (h4.2 b e c n).upo (fun z => h5 5 (by omega) (by omega) (z ▸ c.1))⟩
    · have e : kmaskN key (i + 1) = kmaskN key i ||| 2 ^ kcol key i := rfl
      rw [← hmk, e, Nat.or_assoc, Nat.or_comm (2 ^ kcol key i)]
    · intro j hj hj2
      by_cases e : j = i
      · subst e; exact upd_same _ _ _
      · rw [upd_ne _ _ e]; exact hA j (by omega) hj2
  intro i
  induction i with
  | zero =>
    intro σ1 A m hi h hm hmk hA
    refine hstep 0 σ1 A m hi h hm hmk hA fun σ2 A2 m2 z hm2 hmk2 hA2 => ?_
    obtain ⟨h0, h1, h2, h3, h4, h5, h6⟩ := z
    refine q_X2_init_119 _ _ _ _ _ _ _ _ ⟨fun _ => ?_, fun c => absurd (show nI 0 + (-1) < 0 by decide) c⟩
    have e2 : m2 = kmask key := by
      rw [← hmk2]
      exact (Nat.or_zero m2).symm
    refine PF.of h0 (by show 4 < 12; decide) rfl ⟨by omega, rfl, hP _ ?_⟩
    have n50 : a 5 ≠ a 0 := fun z => absurd (h6 5 0 (by omega) (by omega) (by omega) (by omega) z) (by omega)
    have n20 : a 2 ≠ a 0 := fun z => absurd (h6 2 0 (by omega) (by omega) (by omega) (by omega) z) (by omega)
    have n30 : a 3 ≠ a 0 := fun z => absurd (h6 3 0 (by omega) (by omega) (by omega) (by omega) z) (by omega)
    have n60 : a 6 ≠ a 0 := fun z => absurd (h6 6 0 (by omega) (by omega) (by omega) (by omega) z) (by omega)
    have n40 : a 4 ≠ a 0 := fun z => absurd (h6 4 0 (by omega) (by omega) (by omega) (by omega) z) (by omega)
    have n70 : a 7 ≠ a 0 := fun z => absurd (h6 7 0 (by omega) (by omega) (by omega) (by omega) z) (by omega)
    have n67 : a 6 ≠ a 7 := fun z => absurd (h6 6 7 (by omega) (by omega) (by omega) (by omega) z) (by omega)
    rw [e2]
    have k0 : Ce (hup σ2 (a 0) (oc a key w0 false)) (a 0) (oc a key w0 false) := h0.up _
    have k1 := h1.upo (oc a key w0 false) n20 n50
    have k2 := h2.upo (oc a key w0 false) n30 n60
    have k3 := h3.upo (oc a key w0 false) n40 n70
    refine ⟨⟨k0, ⟨A2, k1, fun j hj => hA2 j (by omega) hj⟩, k2, k3, n67⟩, h4.trans Gr.hp, h5, h6, fun j hj hj1 => ?_⟩
    match j, hj, hj1 with
    | 0, _, _ => exact k0.1
    | 1, _, z => exact absurd rfl z
    | 2, _, _ => exact k1.1.1
    | 3, _, _ => exact k2.1.1
    | 4, _, _ => exact k3.1.1
    | 5, _, _ => exact k1.2.1.1
    | 6, _, _ => exact k2.2.1.1
    | 7, _, _ => exact k3.2.1.1
    | n + 8, z, _ => omega
  | succ i ih =>
    intro σ1 A m hi h hm hmk hA
    refine hstep (i + 1) σ1 A m hi h hm hmk hA fun σ2 A2 m2 z hm2 hmk2 hA2 => ?_
    have h1 := ih σ2 A2 m2 (by omega) z hm2 hmk2 (fun j hj hj2 => hA2 j (by omega) hj2)
    rw [nI_m1 (by omega), Nat.add_sub_cancel, Nat.div_div_eq_div_mul, ← Nat.pow_succ, show (kw key - 1 - (i + 1)).succ = kw key - 1 - i by omega]
    exact h1
theorem wr_oinit {g : GG} {σ : Hs} {r t key : Nat} (h : Ce σ r (oi .null .null .null .null 0 0 0 0)) (hk : kok key) : Do g M_X2_init 6 134 [.ref r, .ref t, .int (nI key)] σ (kV fun σ' => ∃ a : Nat → Nat, a 0 = r ∧ a 1 = t ∧ ON g σ σ' a key) := by
  have hkey : key < 125 := by have := hk.2.1; omega
  refine q_X2_init 6 134 r t (nI key) ⟨by omega, ?_⟩
  refine NW.num (n := 3) (by omega) (by omega) (by omega) fun r1 q1 s3 f1 f2 f3 n1 g1 => ?_
  have c1 := g1.2 _ _ h (fun z => z)
  have d1 : r1 ≠ r := fun z => f1 (z ▸ h.1)
  have d2 : q1 ≠ r := fun z => f2 (z ▸ h.1)
  refine PF.of c1 (by show 5 < 12; decide) rfl ⟨by omega, ?_⟩
  have G1 : Gr (fun b => b = r) σ (hup s3 r (oi .null (.ref r1) .null .null 0 0 0 0)) := g1.any.trans Gr.hp
  have c2 : Ce (hup s3 r (oi .null (.ref r1) .null .null 0 0 0 0)) r (oi .null (.ref r1) .null .null 0 0 0 0) := c1.up _
  have n1 := n1.upo (oi .null (.ref r1) .null .null 0 0 0 0) d1 d2
  change NW (hup s3 r (oi .null (.ref r1) .null .null 0 0 0 0)) _ _ _
  generalize hup s3 r (oi .null (.ref r1) .null .null 0 0 0 0) = σ2 at *
  refine NW.num (n := 64) (by omega) (by omega) (by omega) fun r2 q2 s4 f4 f5 f6 n2 g2 => ?_
  have c3 := g2.2 _ _ c2 (fun z => z)
  have n1 := g2.num n1 (fun z => z) (fun z => z)
  have d3 : r2 ≠ r := fun z => f4 (z ▸ c2.1)
  have d4 : q2 ≠ r := fun z => f5 (z ▸ c2.1)
  have d5 : r2 ≠ r1 ∧ q2 ≠ r1 ∧ r2 ≠ q1 ∧ q2 ≠ q1 := ⟨fun z => f4 (z ▸ (by assumption : NumAt g σ2 r1 q1 3 _).1.1), fun z => f5 (z ▸ (by assumption : NumAt g σ2 r1 q1 3 _).1.1), fun z => f4 (z ▸ (by assumption : NumAt g σ2 r1 q1 3 _).2.1.1), fun z => f5 (z ▸ (by assumption : NumAt g σ2 r1 q1 3 _).2.1.1)⟩
  refine PF.of c3 (by show 6 < 12; decide) rfl ⟨by omega, ?_⟩
  have G2 : Gr (fun b => b = r) σ (hup s4 r (oi .null (.ref r1) (.ref r2) .null 0 0 0 0)) := (G1.trans g2.any).trans Gr.hp
  have c4 : Ce (hup s4 r (oi .null (.ref r1) (.ref r2) .null 0 0 0 0)) r (oi .null (.ref r1) (.ref r2) .null 0 0 0 0) := c3.up _
  have n1 := n1.upo (oi .null (.ref r1) (.ref r2) .null 0 0 0 0) d1 d2
  have n2 := n2.upo (oi .null (.ref r1) (.ref r2) .null 0 0 0 0) d3 d4
  change NW (hup s4 r (oi .null (.ref r1) (.ref r2) .null 0 0 0 0)) _ _ _
  generalize hup s4 r (oi .null (.ref r1) (.ref r2) .null 0 0 0 0) = σ3 at *
  have e1 : r1 ∈ σ3.1 := n1.1.1
  have e2 : q1 ∈ σ3.1 := n1.2.1.1
  have e3 : r2 ∈ σ3.1 := n2.1.1
  have e4 : q2 ∈ σ3.1 := n2.2.1.1
  refine NW.num (n := 64) (by omega) (by omega) (by omega) fun r3 q3 s5 f7 f8 f9 n3 g3 => ?_
  have c5 := g3.2 _ _ c4 (fun z => z)
  have n1 := g3.num n1 (fun z => z) (fun z => z)
  have n2 := g3.num n2 (fun z => z) (fun z => z)
  have d6 : r3 ≠ r := fun z => f7 (z ▸ c4.1)
  have d7 : q3 ≠ r := fun z => f8 (z ▸ c4.1)
  refine PF.of c5 (by show 7 < 12; decide) rfl (PF.of (c5.up _) (by show 0 < 12; decide) rfl (PF.of ((c5.up _).up _) (by show 1 < 12; decide) rfl ?_))
  have G3 : Gr (fun b => b = r) σ s5 := G2.trans g3.any
  have fin : ∀ (σ4 : Hs), Ce σ4 r (oi (.ref t) (.ref r1) (.ref r2) (.ref r3) (nI key) 0 0 0) → NumAt g σ4 r1 q1 3 (fun _ => 0) → NumAt g σ4 r2 q2 64 (fun _ => 0) → NumAt g σ4 r3 q3 64 (fun _ => 0) → Gr (fun b => b = r) σ σ4 → J_X2_init_73 g (kV fun σ' => ∃ a : Nat → Nat, a 0 = r ∧ a 1 = t ∧ ON g σ σ' a key) 6 134 6 134 σ4 r (nI key) (nI (kw key)) r := by
    intro σ4 k0 k1 k2 k3 k4
    refine q_X2_init_73 _ _ _ _ _ _ _ _ (PF.of k0 (by show 2 < 12; decide) rfl ?_)
    have m0 : Ce (hup σ4 r (oi (.ref t) (.ref r1) (.ref r2) (.ref r3) (nI key) (nI (kw key)) 0 0)) r (oi (.ref t) (.ref r1) (.ref r2) (.ref r3) (nI key) (nI (kw key)) 0 0) := k0.up _
    have last : ∀ (σ5 : Hs), Ce σ5 r (oi (.ref t) (.ref r1) (.ref r2) (.ref r3) (nI key) (nI (kw key)) (nI (rmk key)) 0) → NumAt g σ5 r1 q1 3 (fun _ => 0) → NumAt g σ5 r2 q2 64 (fun _ => 0) → NumAt g σ5 r3 q3 64 (fun _ => 0) → Gr (fun b => b = r) σ σ5 → J_X2_init_119 g (kV fun σ' => ∃ a : Nat → Nat, a 0 = r ∧ a 1 = t ∧ ON g σ σ' a key) 6 134 6 134 σ5 r (nI key) 0 (nI (kw key) - 1) := by
      intro σ5 u0 u1 u2 u3 u4
      have hw := kw_le key
      have hI : OI g σ σ5 (fun k => [r, t, r1, r2, r3, q1, q2, q3].getD k 0) key (fun _ => 0) := by
        refine ⟨u0, u1, u2, u3, u4, fun k hk2 hk8 => ?_, ?_⟩
        · match k, hk2, hk8 with
          | 0, z, _ => omega
          | 1, z, _ => omega
          | 2, _, _ => exact f1
          | 3, _, _ => exact fun z => f4 (G1.1 _ z)
          | 4, _, _ => exact fun z => f7 (G2.1 _ z)
          | 5, _, _ => exact f2
          | 6, _, _ => exact fun z => f5 (G1.1 _ z)
          | 7, _, _ => exact fun z => f8 (G2.1 _ z)
          | n + 8, _, z => omega
        · have o1 : r3 ≠ r1 := fun z => f7 (z ▸ e1)
          have o2 : r3 ≠ q1 := fun z => f7 (z ▸ e2)
          have o3 : r3 ≠ r2 := fun z => f7 (z ▸ e3)
          have o4 : r3 ≠ q2 := fun z => f7 (z ▸ e4)
          have o5 : q3 ≠ r1 := fun z => f8 (z ▸ e1)
          have o6 : q3 ≠ q1 := fun z => f8 (z ▸ e2)
          have o7 : q3 ≠ r2 := fun z => f8 (z ▸ e3)
          have o8 : q3 ≠ q2 := fun z => f8 (z ▸ e4)
          obtain ⟨o9, o10, o11, o12⟩ := d5
          have key8 : ∀ i, i < 8 → i ≠ 1 → ∀ j, j < 8 → j ≠ 1 → i < j → [r, t, r1, r2, r3, q1, q2, q3].getD i 0 ≠ [r, t, r1, r2, r3, q1, q2, q3].getD j 0 := by
            intro i hi hi1 j hj hj1 hij
            match i, j, hi, hj, hi1, hj1, hij with
            | 0, 2, _, _, _, _, _ => exact fun z => d1 z.symm
            | 0, 3, _, _, _, _, _ => exact fun z => d3 z.symm
            | 0, 4, _, _, _, _, _ => exact fun z => d6 z.symm
            | 0, 5, _, _, _, _, _ => exact fun z => d2 z.symm
            | 0, 6, _, _, _, _, _ => exact fun z => d4 z.symm
            | 0, 7, _, _, _, _, _ => exact fun z => d7 z.symm
            | 2, 3, _, _, _, _, _ => exact fun z => o9 z.symm
            | 2, 4, _, _, _, _, _ => exact fun z => o1 z.symm
            | 2, 5, _, _, _, _, _ => exact f3
            | 2, 6, _, _, _, _, _ => exact fun z => o10 z.symm
            | 2, 7, _, _, _, _, _ => exact fun z => o5 z.symm
            | 3, 4, _, _, _, _, _ => exact fun z => o3 z.symm
            | 3, 5, _, _, _, _, _ => exact o11
            | 3, 6, _, _, _, _, _ => exact f6
            | 3, 7, _, _, _, _, _ => exact fun z => o7 z.symm
            | 4, 5, _, _, _, _, _ => exact o2
            | 4, 6, _, _, _, _, _ => exact o4
            | 4, 7, _, _, _, _, _ => exact f9
            | 5, 6, _, _, _, _, _ => exact fun z => o12 z.symm
            | 5, 7, _, _, _, _, _ => exact fun z => o6 z.symm
            | 6, 7, _, _, _, _, _ => exact fun z => o8 z.symm
            | 0, 0, _, _, _, _, z => omega
            | 0, 1, _, _, _, z, _ => omega
            | 1, j, _, _, z, _, _ => omega
            | i + 2, 0, _, _, _, _, z => omega
            | i + 2, 1, _, _, _, _, z => omega
            | 2, 2, _, _, _, _, z => omega
            | i + 3, 2, _, _, _, _, z => omega
            | i + 3, 3, _, _, _, _, z => omega
            | i + 4, 4, _, _, _, _, z => omega
            | i + 5, 5, _, _, _, _, z => omega
            | i + 6, 6, _, _, _, _, z => omega
            | i + 7, 7, _, _, _, _, z => omega
            | i, j + 8, _, z, _, _, _ => omega
          intro i j hi hj hi1 hj1 he
          rcases Nat.lt_trichotomy i j with z | z | z
          · exact absurd he (key8 i hi hi1 j hj hj1 z)
          · exact z
          · exact absurd he.symm (key8 j hj hj1 i hi hi1 z)
      have h1 := oi_loop (P := fun σ' => ∃ a : Nat → Nat, a 0 = r ∧ a 1 = t ∧ ON g σ σ' a key) (fun σ' z => ⟨_, rfl, rfl, z⟩) hk (kw key - 1) σ5 _ 0 (by omega) hI (by omega) (by rw [Nat.zero_or, Nat.sub_add_cancel (by omega)]; rfl) (fun j h1 h2 => absurd h1 (by omega))
      rw [nI_s1 (by omega)]
      rw [Nat.sub_self, Nat.pow_zero, Nat.div_one] at h1
      exact h1
    have hk3 : ∀ (rm : Int32), rm = nI (rmk key) → PF (hup σ4 r (oi (.ref t) (.ref r1) (.ref r2) (.ref r3) (nI key) (nI (kw key)) 0 0)) r 2 3 (.int rm) (fun s24 => FI s24 r 2 2 (fun i25 => J_X2_init_119 g (kV fun σ' => ∃ a : Nat → Nat, a 0 = r ∧ a 1 = t ∧ ON g σ σ' a key) 6 134 6 134 s24 r (nI key) 0 (i25 - 1))) := by
      intro rm hrm
      subst hrm
      refine PF.of m0 (by show 3 < 12; decide) rfl (FI.of (m0.up _) rfl ?_)
      exact last _ (m0.up _) ((k1.upo _ d1 d2).upo _ d1 d2) ((k2.upo _ d3 d4).upo _ d3 d4) ((k3.upo _ d6 d7).upo _ d6 d7) ((k4.trans Gr.hp).trans Gr.hp)
    have hw := kw_le key
    have hkr : rmk key = if kw key = 3 then 3 else if kw key = 2 then 4 else 6 := by
      unfold rmk kw
      split
      · rw [if_pos rfl]
      · split
        · rw [if_neg (by omega), if_pos rfl]
        · rw [if_neg (by omega), if_neg (by omega)]
    refine FI.of m0 rfl ⟨fun c => FI.of m0 rfl ⟨fun c2 => ?_, fun c2 => ?_⟩, fun c => ?_⟩
    · refine hk3 3 ?_
      have c : kw key ≠ 1 := fun z => c (by rw [z]; rfl)
      have c2 : kw key ≠ 2 := fun z => c2 (by rw [z]; rfl)
      rw [hkr, if_pos (by omega)]
      rfl
    · refine hk3 4 ?_
      have c2 := (nI_eq (b := 2) (by omega) (by decide)).mp c2
      rw [hkr, if_neg (by omega), if_pos c2]
      rfl
    · refine hk3 6 ?_
      have c := (nI_eq (b := 1) (by omega) (by decide)).mp c
      rw [hkr, if_neg (by omega), if_neg (by omega)]
      rfl
  have m3 : Ce (hup (hup (hup s5 r (oi .null (.ref r1) (.ref r2) (.ref r3) 0 0 0 0)) r (oi (.ref t) (.ref r1) (.ref r2) (.ref r3) 0 0 0 0)) r (oi (.ref t) (.ref r1) (.ref r2) (.ref r3) (nI key) 0 0 0)) r (oi (.ref t) (.ref r1) (.ref r2) (.ref r3) (nI key) 0 0 0) := ((c5.up _).up _).up _
  have f73 := fin _ m3 (((n1.upo _ d1 d2).upo _ d1 d2).upo _ d1 d2) (((n2.upo _ d3 d4).upo _ d3 d4).upo _ d3 d4) (((n3.upo _ d6 d7).upo _ d6 d7).upo _ d6 d7) (((G3.trans Gr.hp).trans Gr.hp).trans Gr.hp)
  refine ⟨fun c => ⟨fun c2 => ?_, fun c2 => ?_⟩, fun c => ?_⟩
  · have c2 := (lt_n (n := 5) (by decide)).mp c2
    rw [I_n (by omega)] at c2
    rw [show kw key = 1 from by unfold kw; rw [if_neg (by omega), if_neg (by omega)]] at f73
    exact f73
  · have c2 := nlt_n (n := 5) (by decide) c2
    have c := (lt_n (n := 25) (by decide)).mp c
    rw [I_n (by omega)] at c c2
    rw [show kw key = 2 from by unfold kw; rw [if_neg (by omega), if_pos (by omega)]] at f73
    exact f73
  · have c := nlt_n (n := 25) (by decide) c
    rw [I_n (by omega)] at c
    rw [show kw key = 3 from by unfold kw; rw [if_pos (by omega)]] at f73
    exact f73
