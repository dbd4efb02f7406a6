/-! The reference: looks of all ways laid beside one another. -/
def wT (S : SS) (q : Nat) : Nat := tabL (zf S) (zt S) (zw S) (zQ S q)
def w1 (S : SS) (q o : Nat) : Nat := oneO (zf S) (zt S) (zw S) (zQ S q) (zB S o)
def w2 (S : SS) (q o p : Nat) : Nat := twoO (zf S) (zt S) (zw S) (zQ S q) (zB S o) (zB S p)
def TbK (S : SS) (q a b p : Nat) (F : Nat → Int32) : Prop := F (81 * q) = nI (wT S q) ∧ (∀ o, o < a → (zB S o).2.2 = false → F (81 * q + 1 + o) = nI (w1 S q o)) ∧ ∀ o' p', o' < p' → p' < zo S → (o' < b ∨ (o' = b ∧ p' < p)) → (zB S o').2.2 = false → (zB S p').2.2 = false → F (81 * q + 9 + 8 * o' + p') = nI (w2 S q o' p')
def TbQ (S : SS) (q : Nat) (F : Nat → Int32) : Prop := F (81 * q) = nI (wT S q) ∧ (∀ o, o < zo S → (zB S o).2.2 = false → F (81 * q + 1 + o) = nI (w1 S q o)) ∧ ∀ o p, o < p → p < zo S → (zB S o).2.2 = false → (zB S p).2.2 = false → F (81 * q + 9 + 8 * o + p) = nI (w2 S q o p)
theorem TbQ.cong {S : SS} {q : Nat} {F F' : Nat → Int32} (h8 : zo S ≤ 8) (t : TbQ S q F) (h : ∀ i, 81 * q ≤ i → i < 81 * q + 81 → F' i = F i) : TbQ S q F' := ⟨(h _ (by omega) (by omega)).trans t.1, fun o ho d => (h _ (by omega) (by omega)).trans (t.2.1 o ho d), fun o p h1 h2 d1 d2 => (h _ (by omega) (by omega)).trans (t.2.2 o p h1 h2 d1 d2)⟩
theorem TbK.put2 {S : SS} {q o p : Nat} {x : Int32} {F : Nat → Int32} (t : TbK S q (o + 1) o p F) (h8 : zo S ≤ 8) (hop : o < p) (hp : p < zo S) (hx : (zB S o).2.2 = false → (zB S p).2.2 = false → x = nI (w2 S q o p)) : TbK S q (o + 1) o (p + 1) (upd F (81 * q + 9 + 8 * o + p) x) := by
  refine ⟨(upd_ne _ _ (by omega)).trans t.1, fun o' h1 d => (upd_ne _ _ (by omega)).trans (t.2.1 o' h1 d), fun o' p' h1 h2 h3 d1 d2 => ?_⟩
  by_cases z : o' = o ∧ p' = p
  · obtain ⟨rfl, rfl⟩ := z
    rw [upd_same]
    exact hx d1 d2
  · rw [upd_ne _ _ (by omega)]
    exact t.2.2 o' p' h1 h2 (by omega) d1 d2
theorem TbK.put1 {S : SS} {q o : Nat} {x : Int32} {F : Nat → Int32} (t : TbK S q o o 0 F) (h8 : zo S ≤ 8) (ho : o < zo S) (hx : (zB S o).2.2 = false → x = nI (w1 S q o)) : TbK S q (o + 1) o (o + 1) (upd F (81 * q + 1 + o) x) := by
  refine ⟨(upd_ne _ _ (by omega)).trans t.1, fun o' h1 d => ?_, fun o' p' h1 h2 h3 d1 d2 => (upd_ne _ _ (by omega)).trans (t.2.2 o' p' h1 h2 (by omega) d1 d2)⟩
  by_cases z : o' = o
  · subst z
    rw [upd_same]
    exact hx d
  · rw [upd_ne _ _ (by omega)]
    exact t.2.1 o' (by omega) d
theorem TbK.next {S : SS} {q o : Nat} {F : Nat → Int32} (t : TbK S q (o + 1) o (zo S) F) : TbK S q (o + 1) (o + 1) 0 F := ⟨t.1, t.2.1, fun o' p' h1 h2 h3 d1 d2 => t.2.2 o' p' h1 h2 (by omega) d1 d2⟩
theorem TbK.ends {S : SS} {q : Nat} {F : Nat → Int32} (t : TbK S q (zo S) (zo S) 0 F) : TbQ S q F := ⟨t.1, t.2.1, fun o p h1 h2 d1 d2 => t.2.2 o p h1 h2 (by omega) d1 d2⟩
theorem i81 (q : Nat) : 81 * nI q = nI (81 * q) := pk_mul 81 q
theorem i811 (q o : Nat) : (81 * nI q + 1) + nI o = nI (81 * q + 1 + o) := by rw [i81, nI_1, nI_add]
theorem i819 (q o p : Nat) : ((81 * nI q + 9) + 8 * nI o) + nI p = nI (81 * q + 9 + 8 * o + p) := by rw [i81, show nI (81 * q) + 9 = nI (81 * q + 9) from nI_add _ 9, show 8 * nI o = nI (8 * o) from pk_mul 8 o, nI_add, nI_add]
def LkP (g : GG) (σ : Hs) (R : Nat → Nat) (S : SS) (q : Nat) (X : Nat → Int32) (A : Nat → Nat → Int32) (hh : Int64) : Option Value → Hs → Prop := kV fun σ' => ∃ A', RC g σ' R X A' hh ∧ (∀ k, k ≠ 34 → A' k = A k) ∧ TbQ S q (A' 34) ∧ (∀ i, (i < 81 * q ∨ 81 * q + 81 ≤ i) → A' 34 i = A 34 i) ∧ Sm R T3 σ σ'
section RLY
variable {g : GG} {σ : Hs} {R : Nat → Nat} {S : SS} {X : Nat → Int32} {A : Nat → Nat → Int32} {hh : Int64}
theorem RQ.a34 {σ1 : Hs} {A1 : Nat → Nat → Int32} (h : RQ g σ R S X A hh) (h1 : RC g σ1 R X A1 hh) (k1 : ∀ k, k ≠ 34 → A1 k = A k) : RQ g σ1 R S X A1 hh := ⟨h1, h.2.eqs (fun _ _ => rfl) (fun k hk => k1 k (by omega))⟩
theorem wr_lookAll (h : RQ g σ R S X A hh) (v : Iv S) {q : Nat} (hq : q < zq S) : Do g M_X12_lookAll 0 0 [.ref (R 300), .int (nI q)] σ (LkP g σ R S q X A hh) := by
  have h8 := v.o8
  have q8 := v.q8
  have inner : ∀ (o : Nat), o < zo S → (∀ (σ1 : Hs) (A1 : Nat → Nat → Int32), RC g σ1 R X A1 hh → (∀ k, k ≠ 34 → A1 k = A k) → TbK S q (o + 1) (o + 1) 0 (A1 34) → (∀ i, (i < 81 * q ∨ 81 * q + 81 ≤ i) → A1 34 i = A 34 i) → Sm R T3 σ σ1 → J_X12_lookAll_16 g (LkP g σ R S q X A hh) σ1 (R 300) (nI q) (nI (o + 1))) → ∀ (e p : Nat) (σ1 : Hs) (A1 : Nat → Nat → Int32), p + e = zo S → o < p → RC g σ1 R X A1 hh → (∀ k, k ≠ 34 → A1 k = A k) → TbK S q (o + 1) o p (A1 34) → (∀ i, (i < 81 * q ∨ 81 * q + 81 ≤ i) → A1 34 i = A 34 i) → Sm R T3 σ σ1 → J_X12_lookAll_60 g (LkP g σ R S q X A hh) σ1 (R 300) (nI q) (nI o) (nI p) := by
    intro o ho next e
    induction e with
    | zero =>
      intro p σ1 A1 hp hop h1 k1 t1 f1 s1
      have hp : p = zo S := hp
      subst hp
      refine q_X12_lookAll_60 _ _ _ _ (h1.x 4 (fun _ _ _ => rfl) ?_)
      rw [h.ord.1]
      refine ⟨fun _ => ?_, fun c => absurd (nI_le (Nat.le_refl _) (by omega)) c⟩
      rw [nI_1]
      exact next σ1 A1 h1 k1 t1.next f1 s1
    | succ e ih =>
      intro p σ1 A1 hp hop h1 k1 t1 f1 s1
      have r1 := h.a34 h1 k1
      have e6 := fun j (hj : j < zo S) => (r1.ord.2 j hj).2.1
      have go : ∀ (x : Int32), ((zB S o).2.2 = false → (zB S p).2.2 = false → x = nI (w2 S q o p)) → SI g σ1 (R (rx 34)) 0 (((81 * nI q + 9) + 8 * nI o) + nI p) x (fun s => J_X12_lookAll_60 g (LkP g σ R S q X A hh) s (R 300) (nI q) (nI o) (nI p + 1)) := by
        intro x hx
        refine h1.s 34 rfl rfl (i819 q o p) (show _ < 648 by omega) fun σ2 h2 s2 => ?_
        rw [nI_1]
        exact ih (p + 1) σ2 _ (by omega) (by omega) h2 (fun k hk => (setA_ne _ _ hk).trans (k1 k hk)) (t1.put2 h8 hop (by omega) hx) (fun i hi => (upd_ne _ _ (by omega)).trans (f1 i hi)) (s1.trans s2)
      refine q_X12_lookAll_60 _ _ _ _ (h1.x 4 (fun _ _ _ => rfl) ?_)
      rw [h.ord.1]
      refine ⟨fun c => absurd ((nI_leI (by omega) (by omega)).mp c) (by omega), fun _ => h1.r 34 (fun _ _ _ => rfl) (h1.r 6 (fun _ _ _ => rfl) (h1.a 6 rfl rfl rfl (show o < 8 by omega) ?_))⟩
      rw [e6 o ho]
      refine ⟨fun c => go _ fun z => ?_, fun c => h1.r 6 (fun _ _ _ => rfl) (h1.a 6 rfl rfl rfl (show p < 8 by omega) ?_)⟩
      · rw [b2_n0.mp c] at z; cases z
      · rw [e6 p (by omega)]
        refine ⟨fun c2 => ⟨h1.rc, (rr_looksByBoth r1 v hq ho (b2_0.mp c) (by omega) (b2_0.mp c2)).use (go _ fun _ _ => rfl)⟩, fun c2 => go _ fun _ z => ?_⟩
        rw [b2_n0.mp c2] at z; cases z
  have outer : ∀ (e o : Nat) (σ1 : Hs) (A1 : Nat → Nat → Int32), o + e = zo S → RC g σ1 R X A1 hh → (∀ k, k ≠ 34 → A1 k = A k) → TbK S q o o 0 (A1 34) → (∀ i, (i < 81 * q ∨ 81 * q + 81 ≤ i) → A1 34 i = A 34 i) → Sm R T3 σ σ1 → J_X12_lookAll_16 g (LkP g σ R S q X A hh) σ1 (R 300) (nI q) (nI o) := by
    intro e
    induction e with
    | zero =>
      intro o σ1 A1 ho h1 k1 t1 f1 s1
      have ho : o = zo S := ho
      subst ho
      refine q_X12_lookAll_16 _ _ _ (h1.x 4 (fun _ _ _ => rfl) ?_)
      rw [h.ord.1]
      exact ⟨fun _ => ⟨rfl, A1, h1, k1, t1.ends, f1, s1⟩, fun c => absurd (nI_le (Nat.le_refl _) (by omega)) c⟩
    | succ e ih =>
      intro o σ1 A1 ho h1 k1 t1 f1 s1
      have r1 := h.a34 h1 k1
      have e6 := fun j (hj : j < zo S) => (r1.ord.2 j hj).2.1
      have go : ∀ (x : Int32), ((zB S o).2.2 = false → x = nI (w1 S q o)) → SI g σ1 (R (rx 34)) 0 ((81 * nI q + 1) + nI o) x (fun s => J_X12_lookAll_60 g (LkP g σ R S q X A hh) s (R 300) (nI q) (nI o) (nI o + 1)) := by
        intro x hx
        refine h1.s 34 rfl rfl (i811 q o) (show _ < 648 by omega) fun σ2 h2 s2 => ?_
        rw [nI_1]
        exact inner o (by omega) (fun σ3 A3 h3 k3 t3 f3 s3 => ih (o + 1) σ3 A3 (by omega) h3 k3 t3 f3 s3) (zo S - (o + 1)) (o + 1) σ2 _ (by omega) (by omega) h2 (fun k hk => (setA_ne _ _ hk).trans (k1 k hk)) (t1.put1 h8 (by omega) hx) (fun i hi => (upd_ne _ _ (by omega)).trans (f1 i hi)) (s1.trans s2)
      refine q_X12_lookAll_16 _ _ _ (h1.x 4 (fun _ _ _ => rfl) ?_)
      rw [h.ord.1]
      refine ⟨fun c => absurd ((nI_leI (by omega) (by omega)).mp c) (by omega), fun _ => h1.r 34 (fun _ _ _ => rfl) (h1.r 6 (fun _ _ _ => rfl) (h1.a 6 rfl rfl rfl (show o < 8 by omega) ?_))⟩
      rw [e6 o (by omega)]
      refine ⟨fun c => ⟨h1.rc, (rr_looksBy r1 v hq (by omega) (b2_0.mp c)).use (go _ fun _ => rfl)⟩, fun c => go _ fun z => ?_⟩
      rw [b2_n0.mp c] at z; cases z
  refine q_X12_lookAll _ _ (h.1.r 34 (fun _ _ _ => rfl) ⟨h.1.rc, (rr_looksByTable h v hq).use (h.1.s 34 rfl rfl (i81 q) (show _ < 648 by omega) fun σ2 h2 s2 => ?_)⟩)
  exact outer (zo S) 0 σ2 _ (by omega) h2 (fun k hk => setA_ne _ _ hk) ⟨upd_same _ _ _, fun o ho => absurd ho (Nat.not_lt_zero _), fun o' p' h1 h2 h3 => absurd h3 (by omega)⟩ (fun i hi => upd_ne _ _ (by omega)) s2
def LkA (g : GG) (σ : Hs) (R : Nat → Nat) (S : SS) (X : Nat → Int32) (A : Nat → Nat → Int32) (hh : Int64) : Option Value → Hs → Prop := kV fun σ' => ∃ A', RC g σ' R X A' hh ∧ (∀ k, k ≠ 34 → A' k = A k) ∧ (∀ q, q < zq S → TbQ S q (A' 34)) ∧ Sm R T3 σ σ'
theorem wr_lookAtAll (h : RQ g σ R S X A hh) (v : Iv S) : Do g M_X12_lookAtAll 0 0 [.ref (R 300)] σ (LkA g σ R S X A hh) := by
  have h8 := v.o8
  have q8 := v.q8
  have loop : ∀ (e q : Nat) (σ1 : Hs) (A1 : Nat → Nat → Int32), q + e = zq S → RC g σ1 R X A1 hh → (∀ k, k ≠ 34 → A1 k = A k) → (∀ j, j < q → TbQ S j (A1 34)) → Sm R T3 σ σ1 → J_X12_lookAtAll_2 g (LkA g σ R S X A hh) σ1 (R 300) (nI q) := by
    intro e
    induction e with
    | zero =>
      intro q σ1 A1 hq h1 k1 t1 s1
      have hq : q = zq S := hq
      subst hq
      refine q_X12_lookAtAll_2 _ _ (h1.x 14 (fun _ _ _ => rfl) ?_)
      rw [h.que.1]
      exact ⟨fun _ => ⟨rfl, A1, h1, k1, t1, s1⟩, fun c => absurd (nI_le (Nat.le_refl _) (by omega)) c⟩
    | succ e ih =>
      intro q σ1 A1 hq h1 k1 t1 s1
      have r1 := h.a34 h1 k1
      refine q_X12_lookAtAll_2 _ _ (h1.x 14 (fun _ _ _ => rfl) ?_)
      rw [h.que.1]
      refine ⟨fun c => absurd ((nI_leI (by omega) (by omega)).mp c) (by omega), fun _ => ⟨h1.rc, DoV.use (wr_lookAll r1 v (by omega)) ?_⟩⟩
      rintro σ2 ⟨A2, h2, k2, t2, f2, s2⟩
      rw [nI_1]
      refine ih (q + 1) σ2 A2 (by omega) h2 (fun k hk => (k2 k hk).trans (k1 k hk)) (fun j hj => ?_) (s1.trans s2)
      by_cases z : j = q
      · rw [z]; exact t2
      · exact (t1 j (by omega)).cong h8 fun i i1 i2 => f2 i (by omega)
  exact q_X12_lookAtAll _ (loop (zq S) 0 σ A (by omega) h.1 (fun _ _ => rfl) (fun j hj => absurd hj (Nat.not_lt_zero _)) Sm.refl)
end RLY
