/-! The reference: the page read as a question. -/
def rdR (d : QD) (X : Nat → Int32) (A : Nat → Nat → Int32) : Prop := (∀ c, c < 4 → A 31 (2 * c) = d.1 c ∧ A 31 (2 * c + 1) = d.2.1 c) ∧ X 32 = nI (mk4 d.2.2.1) ∧ X 33 = d.2.2.2.1
def Rfr (X : Nat → Int32) (A : Nat → Nat → Int32) (X' : Nat → Int32) (A' : Nat → Nat → Int32) : Prop := (∀ i, i ≠ 29 → i ≠ 30 → i ≠ 32 → i ≠ 33 → X' i = X i) ∧ ∀ k, k ≠ 31 → A' k = A k
theorem Rfr.rfl {X : Nat → Int32} {A : Nat → Nat → Int32} : Rfr X A X A := ⟨fun _ _ _ _ _ => Eq.refl _, fun _ _ => Eq.refl _⟩
theorem Rfr.x {X X1 : Nat → Int32} {A A1 : Nat → Nat → Int32} (h : Rfr X A X1 A1) {k : Nat} (x : Int32) (hk : k = 29 ∨ k = 30 ∨ k = 32 ∨ k = 33) : Rfr X A (upd X1 k x) A1 := ⟨fun i a b c d => (upd_ne _ _ (by omega)).trans (h.1 i a b c d), h.2⟩
theorem Rfr.a {X X1 : Nat → Int32} {A A1 : Nat → Nat → Int32} (h : Rfr X A X1 A1) (F : Nat → Int32) : Rfr X A X1 (setA A1 31 F) := ⟨h.1, fun k a => (setA_ne _ _ a).trans (h.2 k a)⟩
theorem i2m (c : Nat) : 2 * nI c = nI (2 * c) := pk_mul 2 c
theorem i2m1 (c : Nat) : 2 * nI c + 1 = nI (2 * c + 1) := by rw [i2m, nI_1]
section RRQ
variable {g : GG} {σ : Hs} {R : Nat → Nat} {S : SS} {X : Nat → Int32} {A : Nat → Nat → Int32} {hh : Int64}
theorem upd31 {F : Nat → Int32} {d1 d2 : Nat → Int32} {col : Nat} {x : Int32} (h : ∀ c, c < 4 → F (2 * c) = d1 c ∧ F (2 * c + 1) = d2 c) : (∀ c, c < 4 → upd F (2 * col) x (2 * c) = upd d1 col x c ∧ upd F (2 * col) x (2 * c + 1) = d2 c) ∧ ∀ c, c < 4 → upd F (2 * col + 1) x (2 * c) = d1 c ∧ upd F (2 * col + 1) x (2 * c + 1) = upd d2 col x c := by
  refine ⟨fun c hc => ⟨?_, ?_⟩, fun c hc => ⟨?_, ?_⟩⟩
  · by_cases e : c = col
    · rw [e, upd_same, upd_same]
    · rw [upd_ne _ _ e, upd_ne _ _ (by omega)]; exact (h c hc).1
  · rw [upd_ne _ _ (by omega)]; exact (h c hc).2
  · rw [upd_ne _ _ (by omega)]; exact (h c hc).1
  · by_cases e : c = col
    · rw [e, upd_same, upd_same]
    · rw [upd_ne _ _ e, upd_ne _ _ (by omega)]; exact (h c hc).2
theorem upd_id {F : Nat → Int32} {k : Nat} {x : Int32} (h : x = F k) : upd F k x = F := by
  funext j
  by_cases e : j = k
  · rw [e, upd_same, h]
  · rw [upd_ne _ _ e]
def NP (g : GG) (σ : Hs) (R : Nat → Nat) (X : Nat → Int32) (hh : Int64) (d : QD) (A : Nat → Nat → Int32) : Option Value → Hs → Prop := kV fun σ' => ∃ A', RC g σ' R X A' hh ∧ rdR d X A' ∧ (∀ k, k ≠ 31 → A' k = A k) ∧ Sm R T3 σ σ'
theorem wr_narrow {col sg nm : Nat} {d : QD} (h : RC g σ R X A hh) (rd : rdR d X A) (hc : col < 4) (hs : sg = 60 ∨ sg = 61 ∨ sg = 62) (hn : nm < 100) (dk : DOk d) : Do g M_X12_narrow 0 0 [.ref (R 300), .int (nI col), .int (nI sg), .int (nI nm)] σ (NP g σ R X hh (endD col sg nm d) A) := by
  obtain ⟨r1, r2, r3⟩ := rd
  have dc := dk.2.1 col hc
  obtain ⟨lo0, lo1⟩ := dc.1
  obtain ⟨hi0, hi1⟩ := dc.2
  -- the high side
  have high : ∀ (σ1 : Hs) (A1 : Nat → Nat → Int32) (d1 : Nat → Int32) (v : Int32), (∀ c, c < 4 → A1 31 (2 * c) = d1 c ∧ A1 31 (2 * c + 1) = d.2.1 c) → RC g σ1 R X A1 hh → (∀ k, k ≠ 31 → A1 k = A k) → Sm R T3 σ σ1 → v = (if sg = 61 then nI nm else nI nm - 1) → endD col sg nm d = (d1, upd d.2.1 col (mnI (d.2.1 col) v), d.2.2) → J_X12_narrow_86 g (NP g σ R X hh (endD col sg nm d) A) σ1 (R 300) (nI col) (nI sg) (nI nm) (d.2.1 col) v := by
    intro σ1 A1 d1 v ha h1 k1 s1 hv he
    rw [he]
    refine q_X12_narrow_86 _ _ _ _ _ _ ⟨fun c => ⟨rfl, A1, h1, ⟨?_, r2, r3⟩, k1, s1⟩, fun c => h1.r 31 (fun _ _ _ => rfl) ⟨fun c2 => h1.s 31 rfl rfl (i2m1 col) (show _ < 8 by omega) fun σ2 h2 s2 => ?_, fun c2 => h1.s 31 rfl rfl (i2m1 col) (show _ < 8 by omega) fun σ2 h2 s2 => ?_⟩⟩
    · rw [show mnI (d.2.1 col) v = d.2.1 col from if_neg (fun z => by rw [I_lt] at z; rw [I_le] at c; omega), upd_id rfl]
      exact ha
    · have c2 : sg ≠ 61 := fun z => c2 (by rw [z]; rfl)
      rw [if_neg c2] at hv
      have hm : mnI (d.2.1 col) v = v := if_pos (by rw [I_lt]; rw [I_le] at c; omega)
      rw [hm]
      refine ⟨rfl, _, h2, ⟨?_, r2, r3⟩, fun k hk => (setA_ne _ _ hk).trans (k1 k hk), s1.trans s2⟩
      rw [← hv]
      exact (upd31 ha).2
    · have c2 : sg = 61 := (nI_eq (b := 61) (by omega) (by decide)).mp c2
      rw [if_pos c2] at hv
      have hm : mnI (d.2.1 col) v = v := if_pos (by rw [I_lt]; rw [I_le] at c; omega)
      rw [hm]
      refine ⟨rfl, _, h2, ⟨?_, r2, r3⟩, fun k hk => (setA_ne _ _ hk).trans (k1 k hk), s1.trans s2⟩
      rw [← hv]
      exact (upd31 ha).2
  refine q_X12_narrow _ _ _ _ (h.r 31 (fun _ _ _ => rfl) (h.a 31 rfl rfl (i2m col) (show _ < 8 by omega) (h.r 31 (fun _ _ _ => rfl) (h.a 31 rfl rfl (i2m1 col) (show _ < 8 by omega) ?_))))
  rw [(r1 col hc).1, (r1 col hc).2]
  have hnm : (nI nm).toInt = nm := I_n (by omega)
  have hn1 : (nI (nm + 1)).toInt = ((nm + 1 : Nat) : Int) := I_n (by omega)
  rcases hs with e | e | e
  · subst e
    refine ⟨fun _ => ⟨fun z => absurd z (by decide), fun _ => ⟨fun _ => high σ A d.1 _ r1 h (fun _ _ => rfl) Sm.refl rfl ?_, fun z => absurd z (by decide)⟩⟩, fun z => absurd rfl z⟩
    have h0 : mxI (d.1 col) 0 = d.1 col := if_neg (fun z => by rw [I_lt, show (0 : Int32).toInt = 0 from rfl] at z; omega)
    unfold endD
    rw [if_pos rfl]
    unfold qnar
    rw [h0, upd_id rfl]
  · subst e
    have ee : endD col 61 nm d = (upd d.1 col (mxI (d.1 col) (nI nm)), upd d.2.1 col (mnI (d.2.1 col) (nI nm)), d.2.2) := by unfold endD; rw [if_neg (by decide), if_neg (by decide)]; rfl
    refine ⟨fun z => absurd z (by decide), fun _ => ⟨fun z => absurd rfl z, fun _ => ?_⟩⟩
    refine q_X12_narrow_41 _ _ _ _ _ _ _ ⟨fun c => ⟨fun z => absurd z (by decide), fun _ => ⟨fun z => absurd rfl z, fun _ => high σ A d.1 _ r1 h (fun _ _ => rfl) Sm.refl rfl ?_⟩⟩, fun c => h.r 31 (fun _ _ _ => rfl) ⟨fun z => absurd rfl z, fun _ => q_X12_narrow_66 _ _ _ _ _ _ _ _ (h.s 31 rfl rfl (i2m col) (show _ < 8 by omega) fun σ2 h2 s2 => ⟨fun z => absurd z (by decide), fun _ => ⟨fun z => absurd rfl z, fun _ => high σ2 _ (upd d.1 col (nI nm)) _ ?_ h2 (fun k hk => setA_ne _ _ hk) s2 rfl ?_⟩⟩)⟩⟩
    · rw [ee, show mxI (d.1 col) (nI nm) = d.1 col from if_neg (fun z => by rw [I_lt] at z; rw [I_le] at c; omega), upd_id rfl]
    · exact (upd31 r1).1
    · rw [ee, show mxI (d.1 col) (nI nm) = nI nm from if_pos (by rw [I_lt]; rw [I_le] at c; omega)]
  · subst e
    have h99 : mnI (d.2.1 col) 99 = d.2.1 col := if_neg (fun z => by rw [I_lt, show (99 : Int32).toInt = 99 from rfl] at z; omega)
    have ee : endD col 62 nm d = (upd d.1 col (mxI (d.1 col) (nI (nm + 1))), d.2.1, d.2.2) := by
      unfold endD
      rw [if_neg (by decide), if_pos rfl]
      unfold qnar
      rw [h99, upd_id rfl]
    refine ⟨fun z => absurd z (by decide), fun _ => ⟨fun _ => ?_, fun z => absurd z (by decide)⟩⟩
    rw [ee]
    rw [nI_1]
    refine q_X12_narrow_41 _ _ _ _ _ _ _ ⟨fun c => ⟨fun _ => ⟨rfl, A, h, ⟨?_, r2, r3⟩, fun _ _ => rfl, Sm.refl⟩, fun z => absurd rfl z⟩, fun c => h.r 31 (fun _ _ _ => rfl) ⟨fun _ => q_X12_narrow_66 _ _ _ _ _ _ _ _ (h.s 31 rfl rfl (i2m col) (show _ < 8 by omega) fun σ2 h2 s2 => ⟨fun _ => ⟨rfl, _, h2, ⟨?_, r2, r3⟩, fun k hk => setA_ne _ _ hk, s2⟩, fun z => absurd rfl z⟩), fun z => absurd z (by decide)⟩⟩
    · rw [show mxI (d.1 col) (nI (nm + 1)) = d.1 col from if_neg (fun z => by rw [I_lt] at z; rw [I_le] at c; omega), upd_id rfl]
      exact r1
    · rw [show mxI (d.1 col) (nI (nm + 1)) = nI (nm + 1) from if_pos (by rw [I_lt]; rw [I_le] at c; omega), nI_1]
      exact (upd31 r1).1
end RRQ
