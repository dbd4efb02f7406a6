/-! The reference: a question read, good, asked. -/
def SgOk (s : AM) : Prop := 3 ≤ s.1 → s.1 ≤ 5 → s.2.2.1 = 60 ∨ s.2.2.1 = 61 ∨ s.2.2.1 = 62
theorem stpA_sg {k : Nat} : ∀ {s s' : AM}, SgOk s → stpA k s = some s' → SgOk s' := by
  rintro ⟨st, col, sg, nm, d⟩ s' hs h
  have big : ∀ t : AM, s' = t → (6 ≤ t.1 ∨ t.1 ≤ 2) → SgOk s' := fun t e z => by subst e; exact fun a b => absurd z (by omega)
  match st, hs, h with
  | 0, _, h =>
    have h : (if k = 58 then some (6, col, sg, nm, d) else if lett k then some (2, k - 97, sg, nm, d) else none) = some s' := h
    split at h
    · exact big _ (Option.some.inj h).symm (Or.inl (by show 6 ≤ 6; omega))
    · split at h
      · exact big _ (Option.some.inj h).symm (Or.inr (by show 2 ≤ 2; omega))
      · cases h
  | 1, _, h =>
    have h : (if lett k then some (2, k - 97, sg, nm, d) else none) = some s' := h
    split at h
    · exact big _ (Option.some.inj h).symm (Or.inr (by show 2 ≤ 2; omega))
    · cases h
  | 2, _, h =>
    have h : (if k = 60 ∨ k = 61 ∨ k = 62 then some (3, col, k, nm, d) else none) = some s' := h
    split at h
    · rename_i c
      cases h
      exact fun _ _ => c
    · cases h
  | 3, hs, h =>
    have h : (if digi k then some (4, col, sg, 0 + k - 48, d) else none) = some s' := h
    split at h
    · cases h
      exact fun _ _ => hs (by show 3 ≤ 3; omega) (by show 3 ≤ 5; omega)
    · cases h
  | 4, hs, h =>
    have h : (if digi k then (if digi k then some (5, col, sg, 10 * nm + k - 48, d) else none) else if k = 38 then some (1, col, sg, nm, endD col sg nm d) else if k = 58 then some (6, col, sg, nm, endD col sg nm d) else none) = some s' := h
    split at h
    · cases h
      exact fun _ _ => hs (by show 3 ≤ 4; omega) (by show 4 ≤ 5; omega)
    · split at h
      · exact big _ (Option.some.inj h).symm (Or.inr (by show 1 ≤ 2; omega))
      · split at h
        · exact big _ (Option.some.inj h).symm (Or.inl (by show 6 ≤ 6; omega))
        · cases h
  | 5, _, h =>
    have h : (if k = 38 then some (1, col, sg, nm, endD col sg nm d) else if k = 58 then some (6, col, sg, nm, endD col sg nm d) else none) = some s' := h
    split at h
    · exact big _ (Option.some.inj h).symm (Or.inr (by show 1 ≤ 2; omega))
    · split at h
      · exact big _ (Option.some.inj h).symm (Or.inl (by show 6 ≤ 6; omega))
      · cases h
  | 6, _, h =>
    have h : (if lett k && !d.2.2.1 (k - 97) then some (7, col, sg, nm, shwD d (k - 97)) else none) = some s' := h
    split at h
    · exact big _ (Option.some.inj h).symm (Or.inl (by show 6 ≤ 7; omega))
    · cases h
  | 7, _, h =>
    have h : (if k = 47 then some (8, col, sg, nm, d) else if lett k && !d.2.2.1 (k - 97) then some (7, col, sg, nm, shwD d (k - 97)) else none) = some s' := h
    split at h
    · exact big _ (Option.some.inj h).symm (Or.inl (by show 6 ≤ 8; omega))
    · split at h
      · exact big _ (Option.some.inj h).symm (Or.inl (by show 6 ≤ 7; omega))
      · cases h
  | 8, _, h =>
    have h : (if lett k then some (9, col, sg, nm, srtD d (k - 97)) else none) = some s' := h
    split at h
    · exact big _ (Option.some.inj h).symm (Or.inl (by show 6 ≤ 9; omega))
    · cases h
  | n + 9, _, h => cases h
def whR (S : SS) : Bool := decide (zn S ≤ (s_read S).1) && decide ((s_read S).2.1 = 7 ∨ (s_read S).2.1 = 9)
def QP (g : GG) (σ : Hs) (R : Nat → Nat) (S : SS) (X : Nat → Int32) (A : Nat → Nat → Int32) (hh : Int64) : Option Value → Hs → Prop := kV fun σ' => ∃ X' A', RC g σ' R X' A' hh ∧ Rfr X A X' A' ∧ rdR (s_read S).2.2.2.2.2 X' A' ∧ X' 29 = nI (s_read S).1 ∧ X' 30 = b2 (whR S) ∧ Sm R T3 σ σ'
section RRD
variable {g : GG} {σ : Hs} {R : Nat → Nat} {S : SS} {X : Nat → Int32} {A : Nat → Nat → Int32} {hh : Int64}
theorem rd_let (k : Nat) (hk : k < 128) : Rd g M_X12_in [.int (nI k), .int 97, .int 100] σ (b2 (lett k)) := by
  have := rd_in (g := g) (σ := σ) (nI k) 97 100 (by decide) (by decide)
  rw [show inL (nI k) 97 100 = lett k from Bool.ex (by unfold inL; rw [lett_iff, decide_eq_true_eq, I_n (by omega)]; omega)] at this
  exact this
theorem rd_dig (k : Nat) (hk : k < 128) : Rd g M_X12_in [.int (nI k), .int 48, .int 57] σ (b2 (digi k)) := by
  have := rd_in (g := g) (σ := σ) (nI k) 48 57 (by decide) (by decide)
  rw [show inL (nI k) 48 57 = digi k from Bool.ex (by unfold inL; rw [digi_iff, decide_eq_true_eq, I_n (by omega)]; omega)] at this
  exact this
theorem wr_readQuestion (h : RQ g σ R S X A hh) (v : Iv S) : Do g M_X12_readQuestion 0 0 [.ref (R 300)] σ (QP g σ R S X A hh) := by
  have h60 := v.1.2.2.2.1.1
  have hC := v.1.2.2.2.1.2
  have hrl : (s_read S).1 ≤ zn S := by
    have := runA_le (C := zC S) (zn S) 0 (0, 0, 0, 0, dq0)
    unfold s_read
    omega
  -- the end
  have j396 : ∀ (σ1 : Hs) (X1 : Nat → Int32) (A1 : Nat → Nat → Int32) (k : Nat) (s : AM), s_read S = (k, s) → s.1 < 10 → RC g σ1 R X1 A1 hh → Rfr X A X1 A1 → rdR s.2.2.2.2 X1 A1 → Sm R T3 σ σ1 → J_X12_readQuestion_396 g (QP g σ R S X A hh) σ1 (R 300) (nI s.1) (nI k) := by
    intro σ1 X1 A1 k s hr hst h1 f1 r1 s1
    rw [hr] at hrl
    have hrl : k ≤ zn S := hrl
    have e12 : X1 12 = nI (zn S) := (f1.1 12 (by decide) (by decide) (by decide) (by decide)).trans h.pag.1
    refine q_X12_readQuestion_396 _ _ _ (h1.px 29 _ (by omega) (fun _ _ _ => rfl) fun σ2 h2 s2 => h2.x 12 (fun _ _ _ => rfl) ?_)
    have fin : ∀ (x : Int32), x = b2 (whR S) → PF σ2 (R 300) 12 30 (.int x) (fun s => QP g σ R S X A hh none s) := by
      intro x hx
      refine h2.px 30 _ (by omega) (fun _ _ _ => rfl) fun σ3 h3 s3 => ⟨rfl, _, A1, h3, (f1.x _ (Or.inl rfl)).x _ (Or.inr (Or.inl rfl)), ?_, ?_, ?_, (s1.trans s2).trans s3⟩
      · rw [hr]; exact r1
      · rw [hr]; rfl
      · exact hx
    have ew : whR S = (decide (zn S ≤ k) && decide (s.1 = 7 ∨ s.1 = 9)) := by unfold whR; rw [hr]
    show (¬ nI k = upd X1 29 (nI k) 12 → _) ∧ _
    rw [show upd X1 29 (nI k) 12 = nI (zn S) from e12]
    refine ⟨fun c => fin 0 ?_, fun c => ⟨fun c2 => fin 1 ?_, fun c2 => ⟨fun c3 => fin 0 ?_, fun c3 => fin 1 ?_⟩⟩⟩
    · rw [ew, decide_eq_false (fun z => c (by rw [show k = zn S by omega]))]; rfl
    · have c := (nI_eq (by omega) (by omega)).mp c
      have c2 := st_of hst (by decide : 7 < 10) c2
      rw [ew, decide_eq_true (by omega), decide_eq_true (Or.inl c2)]; rfl
    · rw [ew, decide_eq_false (p := s.1 = 7 ∨ s.1 = 9) (fun z => z.elim (fun y => c2 (by rw [y]; rfl)) (fun y => c3 (by rw [y]; rfl))), Bool.and_false]; rfl
    · have c := (nI_eq (by omega) (by omega)).mp c
      have c3 := st_of hst (by decide : 9 < 10) c3
      rw [ew, decide_eq_true (by omega), decide_eq_true (Or.inr c3)]; rfl
  have loop : ∀ (e k : Nat) (s : AM) (σ1 : Hs) (X1 : Nat → Int32) (A1 : Nat → Nat → Int32), k + e = zn S → runA (zC S) e k s = s_read S → AOk s → DOk s.2.2.2.2 → SgOk s → RC g σ1 R X1 A1 hh → Rfr X A X1 A1 → rdR s.2.2.2.2 X1 A1 → Sm R T3 σ σ1 → J_X12_readQuestion_59 g (QP g σ R S X A hh) σ1 (R 300) (nI s.1) (nI s.2.1) (nI s.2.2.1) (nI s.2.2.2.1) (nI k) 1 := by
    intro e
    induction e with
    | zero =>
      intro k s σ1 X1 A1 hk hr ok dk sk h1 f1 r1 s1
      have hk : k = zn S := hk
      have e12 : X1 12 = nI (zn S) := (f1.1 12 (by decide) (by decide) (by decide) (by decide)).trans h.pag.1
      refine q_X12_readQuestion_59 _ _ _ _ _ _ _ (h1.x 12 (fun _ _ _ => rfl) ?_)
      rw [e12]
      exact ⟨fun _ => j396 σ1 X1 A1 k s hr.symm ok.1 h1 f1 r1 s1, fun c => absurd (nI_le (by omega) (by omega)) c⟩
    | succ e ih =>
      intro k s σ1 X1 A1 hk hr ok dk sk h1 f1 r1 s1
      have e12 : X1 12 = nI (zn S) := (f1.1 12 (by decide) (by decide) (by decide) (by decide)).trans h.pag.1
      have e13 : A1 13 k = nI (zC S k) := by rw [f1.2 13 (by decide)]; exact h.pag.2 k (by omega)
      have hc := hC k (by omega)
      have sok := fun s' => stpA_ok (k := zC S k) (by omega) (s := s) (s' := s') ok
      have sdk := fun s' => stpA_dok (k := zC S k) (s := s) (s' := s') ok dk
      have ssk := fun s' => stpA_sg (k := zC S k) (s := s) (s' := s') sk
      have hrs := fun s' => runA_some (C := zC S) (e := e) (k := k) (s := s) (s' := s')
      have hrn := runA_none (C := zC S) (e := e) (k := k) (s := s)
      generalize hcc : zC S k = c at *
      have stop : stpA c s = none → J_X12_readQuestion_375 g (QP g σ R S X A hh) σ1 (R 300) (nI s.1) (nI s.2.1) (nI s.2.2.1) (nI s.2.2.2.1) (nI k) := by
        intro z
        have hz := hrn z
        rw [hr] at hz
        refine q_X12_readQuestion_375 _ _ _ _ _ _ (q_X12_readQuestion_59 _ _ _ _ _ _ _ (h1.x 12 (fun _ _ _ => rfl) ?_))
        rw [e12, nI_p0]
        exact ⟨fun _ => j396 σ1 X1 A1 k s hz ok.1 h1 f1 r1 s1, fun _ => ⟨fun _ => j396 σ1 X1 A1 k s hz ok.1 h1 f1 r1 s1, fun y => absurd rfl y⟩⟩
      have go : ∀ (s' : AM) (σ2 : Hs) (X2 : Nat → Int32) (A2 : Nat → Nat → Int32), stpA c s = some s' → RC g σ2 R X2 A2 hh → Rfr X A X2 A2 → rdR s'.2.2.2.2 X2 A2 → Sm R T3 σ1 σ2 → J_X12_readQuestion_59 g (QP g σ R S X A hh) σ2 (R 300) (nI s'.1) (nI s'.2.1) (nI s'.2.2.1) (nI s'.2.2.2.1) (nI k + 1) 1 := by
        intro s' σ2 X2 A2 z h2 f2 r2 s2
        rw [nI_1]
        have hz := hrs s' z
        rw [hr] at hz
        exact ih (k + 1) s' σ2 X2 A2 (by omega) hz.symm (sok s' z) (sdk s' z) (ssk s' z) h2 f2 r2 (s1.trans s2)
      obtain ⟨st, col, sg, nm, d⟩ := s
      have hcol : col < 4 := ok.2.1
      have hnm : nm < 100 := ok.2.2.2.1
      have hl := lett_iff (k := c)
      have hdg := digi_iff (k := c)
      have one : ∀ {φ : Prop}, φ → ((1 : Int32) = 0 → J_X12_readQuestion_375 g (QP g σ R S X A hh) σ1 (R 300) 0 0 0 0 0) ∧ (¬ (1 : Int32) = 0 → φ) := fun z => ⟨fun y => absurd y (by decide), fun _ => z⟩
      -- the ends of the chain of tests
      have j349 : st ≠ 8 → stpA c (st, col, sg, nm, d) = none → J_X12_readQuestion_349 g (QP g σ R S X A hh) σ1 (R 300) (nI st) (nI col) (nI sg) (nI nm) (nI k) 1 (nI c) (b2 (lett c)) := fun n8 z => q_X12_readQuestion_349 _ _ _ _ _ _ _ _ _ ⟨fun _ => stop z, fun y => absurd (st_of ok.1 (by decide : 8 < 10) y) n8⟩
      have j330 : st ≠ 8 → st ≠ 7 → stpA c (st, col, sg, nm, d) = none → J_X12_readQuestion_330 g (QP g σ R S X A hh) σ1 (R 300) (nI st) (nI col) (nI sg) (nI nm) (nI k) 1 (nI c) (b2 (lett c)) := fun n8 n7 z => q_X12_readQuestion_330 _ _ _ _ _ _ _ _ _ ⟨fun _ => j349 n8 z, fun y => absurd (st_of ok.1 (by decide : 7 < 10) y) n7⟩
      have j237n : st ≠ 8 → st ≠ 7 → st ≠ 6 → st ≠ 0 → st ≠ 4 → st ≠ 5 → stpA c (st, col, sg, nm, d) = none → J_X12_readQuestion_237 g (QP g σ R S X A hh) σ1 (R 300) (nI st) (nI col) (nI sg) (nI nm) (nI k) 1 (nI c) (b2 (lett c)) := fun n8 n7 n6 n0 n4 n5 z => q_X12_readQuestion_237 _ _ _ _ _ _ _ _ _ ⟨fun y => absurd (st_of ok.1 (by decide : 0 < 10) y) n0, fun _ => ⟨fun y => absurd (st_of ok.1 (by decide : 4 < 10) y) n4, fun _ => ⟨fun _ => ⟨fun y => absurd (st_of ok.1 (by decide : 6 < 10) y) n6, fun _ => ⟨fun _ => j330 n8 n7 z, fun y => absurd (st_of ok.1 (by decide : 7 < 10) y) n7⟩⟩, fun y => absurd (st_of ok.1 (by decide : 5 < 10) y) n5⟩⟩⟩
      have j179 : st ≠ 4 → st ≠ 5 → J_X12_readQuestion_237 g (QP g σ R S X A hh) σ1 (R 300) (nI st) (nI col) (nI sg) (nI nm) (nI k) 1 (nI c) (b2 (lett c)) → J_X12_readQuestion_179 g (QP g σ R S X A hh) σ1 (R 300) (nI st) (nI col) (nI sg) (nI nm) (nI k) 1 (nI c) (b2 (lett c)) (b2 (digi c)) := fun n4 n5 z => q_X12_readQuestion_179 _ _ _ _ _ _ _ _ _ _ ⟨fun y => ⟨fun y2 => absurd y2 y, fun _ => ⟨fun _ => z, fun y => absurd (st_of ok.1 (by decide : 5 < 10) y) n5⟩⟩, fun y => absurd (st_of ok.1 (by decide : 4 < 10) y) n4⟩
      have j157 : st ≠ 3 → J_X12_readQuestion_179 g (QP g σ R S X A hh) σ1 (R 300) (nI st) (nI col) (nI sg) (nI nm) (nI k) 1 (nI c) (b2 (lett c)) (b2 (digi c)) → J_X12_readQuestion_157 g (QP g σ R S X A hh) σ1 (R 300) (nI st) (nI col) (nI sg) (nI nm) (nI k) 1 (nI c) (b2 (lett c)) (b2 (digi c)) := fun n3 z => q_X12_readQuestion_157 _ _ _ _ _ _ _ _ _ _ ⟨fun _ => z, fun y => absurd (st_of ok.1 (by decide : 3 < 10) y) n3⟩
      have j132 : st ≠ 2 → J_X12_readQuestion_157 g (QP g σ R S X A hh) σ1 (R 300) (nI st) (nI col) (nI sg) (nI nm) (nI k) 1 (nI c) (b2 (lett c)) (b2 (digi c)) → J_X12_readQuestion_132 g (QP g σ R S X A hh) σ1 (R 300) (nI st) (nI col) (nI sg) (nI nm) (nI k) 1 (nI c) (b2 (lett c)) (b2 (digi c)) := fun n2 z => q_X12_readQuestion_132 _ _ _ _ _ _ _ _ _ _ ⟨fun _ => z, fun y => absurd (st_of ok.1 (by decide : 2 < 10) y) n2⟩
      have j116 : (lett c = true → stpA c (st, col, sg, nm, d) = some (2, c - 97, sg, nm, d)) → (lett c = false → J_X12_readQuestion_132 g (QP g σ R S X A hh) σ1 (R 300) (nI st) (nI col) (nI sg) (nI nm) (nI k) 1 (nI c) (b2 (lett c)) (b2 (digi c))) → J_X12_readQuestion_116 g (QP g σ R S X A hh) σ1 (R 300) (nI st) (nI col) (nI sg) (nI nm) (nI k) 1 (nI c) (b2 (lett c)) (b2 (digi c)) := fun a b => q_X12_readQuestion_116 _ _ _ _ _ _ _ _ _ _ ⟨fun y => b (b2_0.mp y), fun y => ⟨fun z => absurd z (by decide), fun _ => by
        have hlt := hl.mp (b2_n0.mp y)
        rw [show nI c - 97 = nI (c - 97) from pk_sub (b := 97) hlt.1]
        exact go (2, c - 97, sg, nm, d) σ1 X1 A1 (a (b2_n0.mp y)) h1 f1 r1 Sm.refl⟩⟩
      have start : (st = 0 ∨ st = 1 → J_X12_readQuestion_116 g (QP g σ R S X A hh) σ1 (R 300) (nI st) (nI col) (nI sg) (nI nm) (nI k) 1 (nI c) (b2 (lett c)) (b2 (digi c))) → (¬ (st = 0 ∨ st = 1) → J_X12_readQuestion_132 g (QP g σ R S X A hh) σ1 (R 300) (nI st) (nI col) (nI sg) (nI nm) (nI k) 1 (nI c) (b2 (lett c)) (b2 (digi c))) → J_X12_readQuestion_59 g (QP g σ R S X A hh) σ1 (R 300) (nI st) (nI col) (nI sg) (nI nm) (nI k) 1 := by
        intro a b
        refine q_X12_readQuestion_59 _ _ _ _ _ _ _ (h1.x 12 (fun _ _ _ => rfl) ?_)
        rw [e12]
        refine ⟨fun y => absurd ((nI_leI (by omega) (by omega)).mp y) (by omega), fun _ => ⟨fun y => absurd y (by decide), fun _ => h1.r 13 (fun _ _ _ => rfl) (h1.a 13 rfl rfl rfl (show k < 60 by omega) ?_)⟩⟩
        rw [e13]
        refine (rd_let c (by omega)).use ((rd_dig c (by omega)).use ⟨fun y => a (Or.inl (st_of ok.1 (by decide : 0 < 10) y)), fun y => ⟨fun y2 => b (fun z => z.elim (fun w => y (by rw [w]; rfl)) (fun w => y2 (by rw [w]; rfl))), fun y2 => a (Or.inr (st_of ok.1 (by decide : 1 < 10) y2))⟩⟩)
      have shw : (st = 6 ∨ (st = 7 ∧ c ≠ 47)) → (lett c = true → d.2.2.1 (c - 97) = false → stpA c (st, col, sg, nm, d) = some (7, col, sg, nm, shwD d (c - 97))) → ((lett c = false ∨ d.2.2.1 (c - 97) = true) → J_X12_readQuestion_330 g (QP g σ R S X A hh) σ1 (R 300) (nI st) (nI col) (nI sg) (nI nm) (nI k) 1 (nI c) (b2 (lett c))) → J_X12_readQuestion_288 g (QP g σ R S X A hh) σ1 (R 300) (nI st) (nI col) (nI sg) (nI nm) (nI k) 1 (nI c) (b2 (lett c)) := by
        intro _ a b
        have hm := mk4_lt d.2.2.1
        refine q_X12_readQuestion_288 _ _ _ _ _ _ _ _ _ ⟨fun y => b (Or.inl (b2_0.mp y)), fun y => h1.x 32 (fun _ _ _ => rfl) ?_⟩
        have y := b2_n0.mp y
        have hlt := hl.mp y
        rw [r1.2.1, show nI c - 97 = nI (c - 97) from pk_sub (b := 97) hlt.1]
        have hb := bs_has (mk4 d.2.2.1) (by omega) (c - 97) (by omega)
        rw [mk4_bit _ _ (by omega)] at hb
        refine ⟨fun y2 => b (Or.inr ?_), fun y2 => h1.x 32 (fun _ _ _ => rfl) ?_⟩
        · rcases Bool.eq_false_or_eq_true (d.2.2.1 (c - 97)) with z | z
          · exact z
          · exact absurd (hb.mpr z) y2
        · rw [show X1 32 = nI (mk4 d.2.2.1) from r1.2.1, bs_with (mk4 d.2.2.1) (by omega) _ (by omega), mk4_set _ _ (by omega)]
          refine h1.px 32 _ (by omega) (fun _ _ _ => rfl) fun σ2 h2 s2 => ⟨fun z => absurd z (by decide), fun _ => ?_⟩
          exact go (7, col, sg, nm, shwD d (c - 97)) σ2 _ A1 (a y (hb.mp y2)) h2 (f1.x _ (Or.inr (Or.inr (Or.inl rfl)))) ⟨r1.1, upd_same _ _ _, r1.2.2⟩ s2
      have endc : (st = 4 ∨ st = 5) → ∀ (to : Nat) (φ : Hs → Prop), stpA c (st, col, sg, nm, d) = some (to, col, sg, nm, endD col sg nm d) → (∀ σ2 A2, RC g σ2 R X1 A2 hh → rdR (endD col sg nm d) X1 A2 → (∀ j, j ≠ 31 → A2 j = A1 j) → Sm R T3 σ1 σ2 → φ σ2) → Rc σ1 (R 300) 12 ∧ Do g M_X12_narrow 0 0 [.ref (R 300), .int (nI col), .int (nI sg), .int (nI nm)] σ1 (kV φ) := by
        intro hst to φ _ hφ
        refine ⟨h1.rc, Do.mono (wr_narrow h1 r1 hcol (sk (by show 3 ≤ st; omega) (by show st ≤ 5; omega)) hnm dk) ?_⟩
        rintro vv σ2 ⟨rfl, A2, h2, r2, k2, s2⟩
        exact ⟨rfl, hφ σ2 A2 h2 r2 k2 s2⟩
      have endf : ∀ A2 : Nat → Nat → Int32, (∀ j, j ≠ 31 → A2 j = A1 j) → Rfr X A X1 A2 := fun A2 k2 => ⟨f1.1, fun j hj => (k2 j hj).trans (f1.2 j hj)⟩
      have j251 : (st = 4 ∨ st = 5) → (c = 58 → stpA c (st, col, sg, nm, d) = some (6, col, sg, nm, endD col sg nm d)) → (c ≠ 58 → stpA c (st, col, sg, nm, d) = none) → J_X12_readQuestion_251 g (QP g σ R S X A hh) σ1 (R 300) (nI st) (nI col) (nI sg) (nI nm) (nI k) 1 (nI c) (b2 (lett c)) := by
        intro hst a b
        refine q_X12_readQuestion_251 _ _ _ _ _ _ _ _ _ ⟨fun y => ⟨fun y2 => absurd (st_of ok.1 (by decide : 6 < 10) y2) (by omega), fun _ => ⟨fun _ => j330 (by omega) (by omega) (b fun z => y (by rw [z]; rfl)), fun y2 => absurd (st_of ok.1 (by decide : 7 < 10) y2) (by omega)⟩⟩, fun y => ⟨fun y2 => ?_, fun _ => ?_⟩⟩
        · have := (nI_leI (b := 0) (by omega) (by decide)).mp y2
          omega
        · have y := (nI_eq (b := 58) (by omega) (by decide)).mp y
          refine endc hst 6 _ (a y) fun σ2 A2 h2 r2 k2 s2 => q_X12_readQuestion_270 _ _ _ _ _ _ ⟨fun z => absurd z (by decide), fun _ => ?_⟩
          exact go (6, col, sg, nm, endD col sg nm d) σ2 X1 A2 (a y) h2 (endf A2 k2) r2 s2
      have j217 : (st = 4 ∨ st = 5) → (c = 38 → stpA c (st, col, sg, nm, d) = some (1, col, sg, nm, endD col sg nm d)) → (c = 58 → stpA c (st, col, sg, nm, d) = some (6, col, sg, nm, endD col sg nm d)) → (c ≠ 38 → c ≠ 58 → stpA c (st, col, sg, nm, d) = none) → J_X12_readQuestion_217 g (QP g σ R S X A hh) σ1 (R 300) (nI st) (nI col) (nI sg) (nI nm) (nI k) 1 (nI c) (b2 (lett c)) := by
        intro hst a b n
        refine q_X12_readQuestion_217 _ _ _ _ _ _ _ _ _ ⟨fun y => ?_, fun y => ?_⟩
        · have y : c ≠ 38 := fun z => y (by rw [z]; rfl)
          have z := j251 hst b (n y)
          refine q_X12_readQuestion_237 _ _ _ _ _ _ _ _ _ ⟨fun y => absurd (st_of ok.1 (by decide : 0 < 10) y) (by omega), fun _ => ⟨fun _ => z, fun y4 => ⟨fun y5 => ?_, fun _ => z⟩⟩⟩
          rcases hst with w | w
          · exact absurd (by rw [w]; rfl) y4
          · exact absurd (by rw [w]; rfl) y5
        · have y := (nI_eq (b := 38) (by omega) (by decide)).mp y
          refine endc hst 1 _ (a y) fun σ2 A2 h2 r2 k2 s2 => ⟨fun z => absurd z (by decide), fun _ => ?_⟩
          exact go (1, col, sg, nm, endD col sg nm d) σ2 X1 A2 (a y) h2 (endf A2 k2) r2 s2
      have lf : ∀ b : Bool, lett c = b → b = true ∨ b = false := fun b _ => by cases b <;> simp
      rcases (show st = 0 ∨ st = 1 ∨ st = 2 ∨ st = 3 ∨ st = 4 ∨ st = 5 ∨ st = 6 ∨ st = 7 ∨ st = 8 ∨ st = 9 by have : st < 10 := ok.1; omega) with e0 | e0 | e0 | e0 | e0 | e0 | e0 | e0 | e0 | e0
      · subst e0
        refine start (fun _ => j116 (fun z => ?_) fun z => ?_) (fun z => absurd (Or.inl rfl) z)
        · have := hl.mp z
          show (if c = 58 then _ else if lett c then some (2, c - 97, sg, nm, d) else none) = _
          rw [if_neg (by omega), if_t z]
        · refine j132 (by decide) (j157 (by decide) (j179 (by decide) (by decide) (q_X12_readQuestion_237 _ _ _ _ _ _ _ _ _ ⟨fun _ => ?_, fun y => absurd rfl y⟩)))
          refine q_X12_readQuestion_251 _ _ _ _ _ _ _ _ _ ⟨fun y => ⟨fun y2 => absurd y2 (by decide), fun _ => ⟨fun _ => j330 (by decide) (by decide) ?_, fun y2 => absurd y2 (by decide)⟩⟩, fun y => ⟨fun _ => q_X12_readQuestion_270 _ _ _ _ _ _ ⟨fun z => absurd z (by decide), fun _ => ?_⟩, fun y2 => absurd (nI_le (a := 0) (b := 0) (by decide) (by decide)) y2⟩⟩
          · have y : c ≠ 58 := fun w => y (by rw [w]; rfl)
            show (if c = 58 then _ else if lett c then some (2, c - 97, sg, nm, d) else none) = _
            rw [if_neg y, if_f z]
          · have y := (nI_eq (b := 58) (by omega) (by decide)).mp y
            exact go (6, col, sg, nm, d) σ1 X1 A1 (if_pos y) h1 f1 r1 Sm.refl
      · subst e0
        refine start (fun _ => j116 (fun z => ?_) fun z => ?_) (fun z => absurd (Or.inr rfl) z)
        · exact if_t z
        · exact j132 (by decide) (j157 (by decide) (j179 (by decide) (by decide) (j237n (by decide) (by decide) (by decide) (by decide) (by decide) (by decide) (if_f z))))
      · subst e0
        refine start (fun z => absurd z (by decide)) fun _ => ?_
        refine q_X12_readQuestion_132 _ _ _ _ _ _ _ _ _ _ ⟨fun y => absurd rfl y, fun _ => ?_⟩
        have hin := rd_in (g := g) (σ := σ1) (nI c) 60 62 (by decide) (by decide)
        have ein : inL (nI c) 60 62 = decide (c = 60 ∨ c = 61 ∨ c = 62) := by unfold inL; rw [I_n (by omega)]; exact decide_eq_decide.mpr (by omega)
        rw [ein] at hin
        refine hin.use ⟨fun y => ?_, fun y => ⟨fun z => absurd z (by decide), fun _ => ?_⟩⟩
        · have y := of_decide_eq_false (b2_0.mp y)
          exact j157 (by decide) (j179 (by decide) (by decide) (j237n (by decide) (by decide) (by decide) (by decide) (by decide) (by decide) (if_neg y)))
        · have y := of_decide_eq_true (b2_n0.mp y)
          exact go (3, col, c, nm, d) σ1 X1 A1 (if_pos y) h1 f1 r1 Sm.refl
      · subst e0
        refine start (fun z => absurd z (by decide)) fun _ => j132 (by decide) ?_
        refine q_X12_readQuestion_157 _ _ _ _ _ _ _ _ _ _ ⟨fun y => absurd rfl y, fun _ => ⟨fun y => ?_, fun y => ⟨fun z => absurd z (by decide), fun _ => ?_⟩⟩⟩
        · exact j179 (by decide) (by decide) (j237n (by decide) (by decide) (by decide) (by decide) (by decide) (by decide) (if_f (b2_0.mp y)))
        · have y := b2_n0.mp y
          have hlt := hdg.mp y
          rw [show nI c - 48 = nI (0 + c - 48) from by rw [Nat.zero_add]; exact pk_sub (b := 48) hlt.1]
          exact go (4, col, sg, 0 + c - 48, d) σ1 X1 A1 (if_t y) h1 f1 r1 Sm.refl
      · subst e0
        refine start (fun z => absurd z (by decide)) fun _ => j132 (by decide) (j157 (by decide) ?_)
        refine q_X12_readQuestion_179 _ _ _ _ _ _ _ _ _ _ ⟨fun y => absurd rfl y, fun _ => ⟨fun y => ⟨fun _ => ?_, fun y2 => absurd rfl y2⟩, fun y => ⟨fun z => absurd z (by decide), fun _ => ?_⟩⟩⟩
        · have y := b2_0.mp y
          have es : stpA c (4, col, sg, nm, d) = if c = 38 then some (1, col, sg, nm, endD col sg nm d) else if c = 58 then some (6, col, sg, nm, endD col sg nm d) else none := if_f y
          exact j217 (Or.inl rfl) (fun z => by rw [es, if_pos z]) (fun z => by rw [es, if_neg (by omega), if_pos z]) (fun z1 z2 => by rw [es, if_neg z1, if_neg z2])
        · have y := b2_n0.mp y
          have hlt := hdg.mp y
          have es : stpA c (4, col, sg, nm, d) = some (5, col, sg, 10 * nm + c - 48, d) := (if_t y).trans (if_t y)
          rw [show (10 * nI nm + nI c) - 48 = nI (10 * nm + c - 48) from by rw [show (10 : Int32) * nI nm = nI (10 * nm) from pk_mul 10 nm, nI_add]; exact pk_sub (b := 48) (by omega)]
          exact go (5, col, sg, 10 * nm + c - 48, d) σ1 X1 A1 es h1 f1 r1 Sm.refl
      · subst e0
        refine start (fun z => absurd z (by decide)) fun _ => j132 (by decide) (j157 (by decide) ?_)
        have es : stpA c (5, col, sg, nm, d) = if c = 38 then some (1, col, sg, nm, endD col sg nm d) else if c = 58 then some (6, col, sg, nm, endD col sg nm d) else none := rfl
        refine q_X12_readQuestion_179 _ _ _ _ _ _ _ _ _ _ ⟨fun _ => ⟨fun y => absurd y (by decide), fun _ => ⟨fun y => absurd rfl y, fun _ => ?_⟩⟩, fun y => absurd y (by decide)⟩
        exact j217 (Or.inr rfl) (fun z => by rw [es, if_pos z]) (fun z => by rw [es, if_neg (by omega), if_pos z]) (fun z1 z2 => by rw [es, if_neg z1, if_neg z2])
      · subst e0
        refine start (fun z => absurd z (by decide)) fun _ => j132 (by decide) (j157 (by decide) (j179 (by decide) (by decide) ?_))
        have es : stpA c (6, col, sg, nm, d) = if lett c && !d.2.2.1 (c - 97) then some (7, col, sg, nm, shwD d (c - 97)) else none := rfl
        refine q_X12_readQuestion_237 _ _ _ _ _ _ _ _ _ ⟨fun y => absurd y (by decide), fun _ => ⟨fun y => absurd y (by decide), fun _ => ⟨fun _ => ⟨fun _ => ?_, fun y => absurd rfl y⟩, fun y => absurd y (by decide)⟩⟩⟩
        refine shw (Or.inl rfl) (fun z z2 => by rw [es, z, z2]; rfl) fun z => j330 (by decide) (by decide) ?_
        rw [es]
        rcases z with z | z
        · rw [z]; rfl
        · rw [z, Bool.not_true, Bool.and_false]; rfl
      · subst e0
        refine start (fun z => absurd z (by decide)) fun _ => j132 (by decide) (j157 (by decide) (j179 (by decide) (by decide) ?_))
        have es : stpA c (7, col, sg, nm, d) = if c = 47 then some (8, col, sg, nm, d) else if lett c && !d.2.2.1 (c - 97) then some (7, col, sg, nm, shwD d (c - 97)) else none := rfl
        have j330' : (lett c = false ∨ d.2.2.1 (c - 97) = true) → J_X12_readQuestion_330 g (QP g σ R S X A hh) σ1 (R 300) (nI 7) (nI col) (nI sg) (nI nm) (nI k) 1 (nI c) (b2 (lett c)) := by
          intro z
          refine q_X12_readQuestion_330 _ _ _ _ _ _ _ _ _ ⟨fun y => absurd rfl y, fun _ => ⟨fun y => j349 (by decide) ?_, fun y => ⟨fun z => absurd z (by decide), fun _ => ?_⟩⟩⟩
          · have y : c ≠ 47 := fun w => y (by rw [w]; rfl)
            rw [es, if_neg y]
            rcases z with z | z
            · rw [z]; rfl
            · rw [z, Bool.not_true, Bool.and_false]; rfl
          · have y := (nI_eq (b := 47) (by omega) (by decide)).mp y
            exact go (8, col, sg, nm, d) σ1 X1 A1 (by rw [es, if_pos y]) h1 f1 r1 Sm.refl
        have j288 : J_X12_readQuestion_288 g (QP g σ R S X A hh) σ1 (R 300) (nI 7) (nI col) (nI sg) (nI nm) (nI k) 1 (nI c) (b2 (lett c)) := by
          by_cases c47 : c = 47
          · refine q_X12_readQuestion_288 _ _ _ _ _ _ _ _ _ ⟨fun y => j330' (Or.inl (b2_0.mp y)), fun y => absurd (hl.mp (b2_n0.mp y)) (by omega)⟩
          · exact shw (Or.inr ⟨rfl, c47⟩) (fun z z2 => by rw [es, if_neg c47, z, z2]; rfl) j330'
        refine q_X12_readQuestion_237 _ _ _ _ _ _ _ _ _ ⟨fun y => absurd y (by decide), fun _ => ⟨fun y => absurd y (by decide), fun _ => ⟨fun _ => ⟨fun y => absurd y (by decide), fun _ => ⟨fun y => absurd rfl y, fun _ => j288⟩⟩, fun y => absurd y (by decide)⟩⟩⟩
      · subst e0
        refine start (fun z => absurd z (by decide)) fun _ => j132 (by decide) (j157 (by decide) (j179 (by decide) (by decide) ?_))
        have j330' : J_X12_readQuestion_330 g (QP g σ R S X A hh) σ1 (R 300) (nI 8) (nI col) (nI sg) (nI nm) (nI k) 1 (nI c) (b2 (lett c)) := by
          refine q_X12_readQuestion_330 _ _ _ _ _ _ _ _ _ ⟨fun _ => q_X12_readQuestion_349 _ _ _ _ _ _ _ _ _ ⟨fun y => absurd rfl y, fun _ => ⟨fun y => stop (if_f (b2_0.mp y)), fun y => ?_⟩⟩, fun y => absurd y (by decide)⟩
          have y := b2_n0.mp y
          have hlt := hl.mp y
          rw [show nI c - 97 = nI (c - 97) from pk_sub (b := 97) hlt.1]
          refine h1.px 33 _ (by omega) (fun _ _ _ => rfl) fun σ2 h2 s2 => ⟨fun z => absurd z (by decide), fun _ => ?_⟩
          exact go (9, col, sg, nm, srtD d (c - 97)) σ2 _ A1 (if_t y) h2 (f1.x _ (Or.inr (Or.inr (Or.inr rfl)))) ⟨r1.1, r1.2.1, upd_same _ _ _⟩ s2
        exact q_X12_readQuestion_237 _ _ _ _ _ _ _ _ _ ⟨fun y => absurd y (by decide), fun _ => ⟨fun y => absurd y (by decide), fun _ => ⟨fun _ => ⟨fun y => absurd y (by decide), fun _ => ⟨fun _ => j330', fun y => absurd y (by decide)⟩⟩, fun y => absurd y (by decide)⟩⟩⟩
      · subst e0
        exact start (fun z => absurd z (by decide)) fun _ => j132 (by decide) (j157 (by decide) (j179 (by decide) (by decide) (j237n (by decide) (by decide) (by decide) (by decide) (by decide) (by decide) rfl)))
  -- the bounds laid
  have j2 : ∀ (e c : Nat) (σ1 : Hs) (A1 : Nat → Nat → Int32), c + e = 4 → RC g σ1 R X A1 hh → (∀ k, k ≠ 31 → A1 k = A k) → (∀ j, j < c → A1 31 (2 * j) = 0 ∧ A1 31 (2 * j + 1) = 99) → Sm R T3 σ σ1 → J_X12_readQuestion_2 g (QP g σ R S X A hh) σ1 (R 300) (nI c) := by
    intro e
    induction e with
    | zero =>
      intro c σ1 A1 hc h1 k1 b1 s1
      have hc : c = 4 := hc
      refine q_X12_readQuestion_2 _ _ ⟨fun _ => h1.px 32 _ (by omega) (fun _ _ _ => rfl) fun σ2 h2 s2 => h2.px 33 _ (by omega) (fun _ _ _ => rfl) fun σ3 h3 s3 => ?_, fun y => absurd (nI_le (a := 4) (by omega) (by omega)) y⟩
      have hA0 : AOk (0, 0, 0, 0, dq0) := ⟨by show 0 < 10; omega, by show 0 < 4; omega, by show 0 < 128; omega, by show 0 < 100; omega, fun _ => by show 0 < 10; omega, Or.inl rfl⟩
      exact loop (zn S) 0 (0, 0, 0, 0, dq0) σ3 _ A1 (by omega) rfl hA0 dq0_ok (fun z => absurd z (by show ¬ 3 ≤ 0; omega)) h3 (Rfr.x (Rfr.x ⟨fun _ _ _ _ _ => rfl, k1⟩ _ (Or.inr (Or.inr (Or.inl rfl)))) _ (Or.inr (Or.inr (Or.inr rfl)))) ⟨fun j hj => ⟨(b1 j (by omega)).1, ((b1 j (by omega)).2).trans (if_pos hj).symm⟩, rfl, rfl⟩ ((s1.trans s2).trans s3)
    | succ e ih =>
      intro c σ1 A1 hc h1 k1 b1 s1
      refine q_X12_readQuestion_2 _ _ ⟨fun y => absurd ((nI_leI (a := 4) (by decide) (by omega)).mp y) (by omega), fun _ => h1.r 31 (fun _ _ _ => rfl) (h1.s 31 rfl rfl (i2m c) (show _ < 8 by omega) fun σ2 h2 s2 => h2.r 31 (fun _ _ _ => rfl) (h2.s 31 rfl rfl (i2m1 c) (show _ < 8 by omega) fun σ3 h3 s3 => ?_))⟩
      rw [nI_1]
      refine ih (c + 1) σ3 _ (by omega) h3 (fun k hk => by rw [setA_ne _ _ hk, setA_ne _ _ hk]; exact k1 k hk) (fun j hj => ?_) ((s1.trans s2).trans s3)
      show upd (upd (A1 31) (2 * c) 0) (2 * c + 1) 99 (2 * j) = 0 ∧ upd (upd (A1 31) (2 * c) 0) (2 * c + 1) 99 (2 * j + 1) = 99
      by_cases z : j = c
      · subst z
        rw [upd_ne _ _ (by omega), upd_same, upd_same]
        exact ⟨rfl, rfl⟩
      · rw [upd_ne _ _ (by omega), upd_ne _ _ (by omega), upd_ne _ _ (by omega), upd_ne _ _ (by omega)]
        exact b1 j (by omega)
  exact q_X12_readQuestion _ (j2 4 0 σ A rfl h.1 (fun _ _ => rfl) (fun j hj => absurd hj (by omega)) Sm.refl)
end RRD
