/-! The reference: the digest. -/
theorem vget_n (S : SS) {s c : Nat} (hs : s < 64) (hc : c < 4) : v_get S (nI s) (nI c) = if zt S s then zf S (4 * s + c) else -1 := by
  unfold v_get
  rw [if_t (inR_y hs (by decide)), if_t (inR_y hc (by decide)), nn_i (by omega), nn_i (by omega)]
theorem mixOs_ge (S : SS) (h : Int64) : ∀ j, mixOs S (zo S + j) h = mixOs S (zo S) h
  | 0 => rfl
  | j + 1 => by
    have ih := mixOs_ge S h j
    rw [← ih]
    show mixOr S (zo S + j) (mixOs S (zo S + j) h) = _
    unfold mixOr
    rw [if_f (keptB_ge (zo S) (zB S) (show zo S ≤ zo S + j by omega))]
theorem pt_e (p : PD) (i : Nat) : ∀ w, w < 3 → (if p.2.1 i = 0 then (-1 : Int32) else if w = 0 then nI (p.2.1 i) else if w = 1 then p.2.2.1 i else p.2.2.2 i) = v_pt p i (nI w) := by
  intro w hw
  unfold v_pt
  rcases (show w = 0 ∨ w = 1 ∨ w = 2 by omega) with rfl | rfl | rfl
  · rw [if_pos rfl, if_pos (show nI 0 = 0 from rfl)]
  · rw [if_neg (show ¬ (1 : Nat) = 0 by decide), if_pos rfl, if_neg (show ¬ nI 1 = 0 by decide), if_pos (show nI 1 = 1 from rfl)]
  · rw [if_neg (show ¬ (2 : Nat) = 0 by decide), if_neg (show ¬ (2 : Nat) = 1 by decide), if_neg (show ¬ nI 2 = 0 by decide), if_neg (show ¬ nI 2 = 1 by decide)]
theorem mixPr_3 (p : PD) (i : Nat) (h : Int64) : mixPr p i h = mixd (mixd (mixd h (v_pt p i (nI 0)).toInt64) (v_pt p i (nI 1)).toInt64) (v_pt p i (nI 2)).toInt64 := by
  rw [← pt_e p i 0 (by decide), ← pt_e p i 1 (by decide), ← pt_e p i 2 (by decide)]
  rfl
def RPL (g : GG) (σ : Hs) (R : Nat → Nat) (S : SS) (y : Int64) : Option Value → Hs → Prop := kL fun x σ' => x = y ∧ RM g σ' R S ∧ Sm R T3 σ σ'
section RDG
variable {g : GG} {σ : Hs} {R : Nat → Nat} {S : SS} {X : Nat → Int32} {A : Nat → Nat → Int32} {hh : Int64}
theorem RC.l (h : RC g σ R X A hh) {φ : Int64 → Prop} (z : φ hh) : FL σ (R 300) 12 39 φ := FL.of h.1 rfl z
theorem RC.upH (h : RC g σ R X A hh) (v : Int64) : RC g (hup σ (R 300) (.inr (12, (flds R X hh).set 39 (.long v)))) R X A v := by
  rw [show (flds R X hh).set 39 (.long v) = flds R X v from rfl]
  exact ⟨h.1.up _, fun j hj => (h.2.1 j hj).upo (fun z => by have := rx_lt j (isA_lt hj) hj; have := h.2.2 (rx j) 300 (by omega) (by omega) (by omega) (by omega) z; omega), h.2.2⟩
theorem RC.ph (h : RC g σ R X A hh) (v : Int64) {φ : Hs → Prop} (z : ∀ σ', RC g σ' R X A v → Sm R T3 σ σ' → φ σ') : PF σ (R 300) 12 39 (.long v) φ := PF.of h.1 (by show 39 < 40; decide) rfl (z _ (h.upH v) (Sm.hup (show T3 300 from ⟨by omega, by omega⟩) _))
theorem wr_mix (h : RC g σ R X A hh) (x : Int64) {φ : Hs → Prop} (z : ∀ σ', RC g σ' R X A (mixd hh x) → Sm R T3 σ σ' → φ σ') : Do g M_X12_mix 0 0 [.ref (R 300), .long x] σ (kV φ) := q_X12_mix _ _ (h.l (h.ph _ fun σ' h' s' => ⟨rfl, z σ' h' s'⟩))
theorem wr_mixTable (h : RQ g σ R S X A hh) (v : Iv S) {φ : Hs → Prop} (fin : ∀ σ', RC g σ' R X A (mixOs S 8 (mixTb S 64 (mixd hh (nI (zw S)).toInt64))) → Sm R T3 σ σ' → φ σ') : Do g M_X12_mixTable 0 0 [.ref (R 300)] σ (kV φ) := by
  have h8 := v.o8
  generalize hH : mixTb S 64 (mixd hh (nI (zw S)).toInt64) = H at *
  have l68 : ∀ (d o : Nat) (σ1 : Hs), o + d = zo S → RC g σ1 R X A (mixOs S o H) → Sm R T3 σ σ1 → J_X12_mixTable_68 g (kV φ) σ1 (R 300) (nI o) := by
    intro d
    induction d with
    | zero =>
      intro o σ1 ho h1 s1
      have ho : o = zo S := ho
      subst ho
      have e := mixOs_ge S H (8 - zo S)
      rw [show zo S + (8 - zo S) = 8 by omega] at e
      rw [← e] at h1
      refine q_X12_mixTable_68 _ _ (h1.x 4 (fun _ _ _ => rfl) ?_)
      rw [h.ord.1]
      exact ⟨fun _ => ⟨rfl, fin σ1 h1 s1⟩, fun c => absurd (nI_le (Nat.le_refl _) (by omega)) c⟩
    | succ d ih =>
      intro o σ1 ho h1 s1
      have ho2 : o < zo S := by omega
      have ih := ih (o + 1)
      obtain ⟨e5, e6, e9, e11, e7, e8, e10⟩ := h.ord.2 o ho2
      have hn := (v.os ho2).1
      refine q_X12_mixTable_68 _ _ (h1.x 4 (fun _ _ _ => rfl) ?_)
      rw [h.ord.1]
      refine ⟨fun c => absurd ((nI_leI (by omega) (by omega)).mp c) (by omega), fun _ => h1.r 6 (fun _ _ _ => rfl) (h1.a 6 rfl rfl rfl (show o < 8 by omega) ?_)⟩
      rw [e6]
      have eS : mixOs S (o + 1) H = mixOr S o (mixOs S o H) := rfl
      unfold mixOr at eS
      rw [keptB_of ho2] at eS
      refine ⟨fun c => ?_, fun c => ?_⟩
      · have c := b2_n0.mp c
        rw [c] at eS
        have eS : mixOs S (o + 1) H = mixOs S o H := eS
        rw [nI_1]
        refine ih σ1 (by omega) ?_ s1
        rw [eS]
        exact h1
      · have c := b2_0.mp c
        rw [c] at eS
        have eS : mixOs S (o + 1) H = mixN (fun i => nI ((zB S o).2.1.2.1 i)) (zB S o).2.1.1 (mixN (fun w => v_abo (zB S o) (nI w)) 5 (mixOs S o H)) := eS
        have l111 : ∀ (e i : Nat) (σ2 : Hs), i + e = (zB S o).2.1.1 → RC g σ2 R X A (mixN (fun i => nI ((zB S o).2.1.2.1 i)) i (mixN (fun w => v_abo (zB S o) (nI w)) 5 (mixOs S o H))) → Sm R T3 σ σ2 → J_X12_mixTable_111 g (kV φ) σ2 (R 300) (nI o) (nI i) := by
          intro e
          induction e with
          | zero =>
            intro i σ2 hi h2 s2
            have hi : i = (zB S o).2.1.1 := hi
            subst hi
            refine q_X12_mixTable_111 _ _ _ (h2.r 9 (fun _ _ _ => rfl) (h2.a 9 rfl rfl rfl (show o < 8 by omega) ?_))
            rw [e9]
            refine ⟨fun _ => ?_, fun c => absurd (nI_le (Nat.le_refl _) (by omega)) c⟩
            rw [nI_1]
            refine ih σ2 (by omega) ?_ s2
            rw [eS]
            exact h2
          | succ e ihe =>
            intro i σ2 hi h2 s2
            refine q_X12_mixTable_111 _ _ _ (h2.r 9 (fun _ _ _ => rfl) (h2.a 9 rfl rfl rfl (show o < 8 by omega) ?_))
            rw [e9]
            refine ⟨fun c => absurd ((nI_leI (by omega) (by omega)).mp c) (by omega), fun _ => h2.r 8 (fun _ _ _ => rfl) (h2.a 8 rfl rfl (i64 o i) (show _ < 512 by omega) ⟨h2.rc, ?_⟩)⟩
            rw [e8 i (by omega)]
            refine wr_mix h2 _ fun σ3 h3 s3 => ?_
            rw [nI_1]
            exact ihe (i + 1) σ3 (by omega) h3 (s2.trans s3)
        have l87 : ∀ (e w : Nat) (σ2 : Hs), w + e = 5 → RC g σ2 R X A (mixN (fun w => v_abo (zB S o) (nI w)) w (mixOs S o H)) → Sm R T3 σ σ2 → J_X12_mixTable_87 g (kV φ) σ2 (R 300) (nI o) (nI w) := by
          intro e
          induction e with
          | zero =>
            intro w σ2 hw h2 s2
            have hw : w = 5 := hw
            subst hw
            exact q_X12_mixTable_87 _ _ _ ⟨fun _ => l111 (zB S o).2.1.1 0 σ2 (by omega) h2 s2, fun c => absurd (nI_le (a := 5) (by omega) (by omega)) c⟩
          | succ e ihe =>
            intro w σ2 hw h2 s2
            refine q_X12_mixTable_87 _ _ _ ⟨fun c => absurd ((nI_leI (a := 5) (by decide) (by omega)).mp c) (by omega), fun _ => ⟨h2.rc, (rr_aboutOf ⟨h2, h.2⟩ v ho2 (by omega)).use ⟨h2.rc, wr_mix h2 _ fun σ3 h3 s3 => ?_⟩⟩⟩
            rw [nI_1]
            exact ihe (w + 1) σ3 (by omega) h3 (s2.trans s3)
        exact l87 5 0 σ1 rfl h1 s1
  have l11 : ∀ (d s : Nat) (σ1 : Hs), s + d = 64 → RC g σ1 R X A (mixTb S s (mixd hh (nI (zw S)).toInt64)) → Sm R T3 σ σ1 → J_X12_mixTable_11 g (kV φ) σ1 (R 300) (nI s) := by
    intro d
    induction d with
    | zero =>
      intro s σ1 hs h1 s1
      have hs : s = 64 := hs
      subst hs
      rw [hH] at h1
      exact q_X12_mixTable_11 _ _ ⟨fun _ => l68 (zo S) 0 σ1 (by omega) h1 s1, fun c => absurd (nI_le (a := 64) (by omega) (by omega)) c⟩
    | succ d ih =>
      intro s σ1 hs h1 s1
      have ih := ih (s + 1)
      have l19 : ∀ (e c : Nat) (σ2 : Hs), c + e = 4 → RC g σ2 R X A (mixN (fun c => v_get S (nI s) (nI c)) c (mixTb S s (mixd hh (nI (zw S)).toInt64))) → Sm R T3 σ σ2 → J_X12_mixTable_19 g (kV φ) σ2 (R 300) (nI s) (nI c) := by
        intro e
        induction e with
        | zero =>
          intro c σ2 hc h2 s2
          have hc : c = 4 := hc
          subst hc
          refine q_X12_mixTable_19 _ _ _ ⟨fun _ => ?_, fun c => absurd (nI_le (a := 4) (by omega) (by omega)) c⟩
          rw [nI_1]
          exact ih σ2 (by omega) h2 s2
        | succ e ihe =>
          intro c σ2 hc h2 s2
          have eg := vget_n S (s := s) (c := c) (by omega) (by omega)
          have ihe := fun σ3 (h3 : RC g σ3 R X A (mixd (mixN (fun c => v_get S (nI s) (nI c)) c (mixTb S s (mixd hh (nI (zw S)).toInt64))) (v_get S (nI s) (nI c)).toInt64)) s3 => ihe (c + 1) σ3 (by omega) h3 s3
          rw [eg] at ihe
          refine q_X12_mixTable_19 _ _ _ ⟨fun z => absurd ((nI_leI (a := 4) (by decide) (by omega)).mp z) (by omega), fun _ => h2.r 0 (fun _ _ _ => rfl) (h2.a 0 rfl rfl rfl (show s < 64 by omega) ?_)⟩
          rw [h.tab.2.2.1 s (by omega)]
          refine ⟨fun z => ⟨h2.rc, ?_⟩, fun z => h2.r 1 (fun _ _ _ => rfl) (h2.a 1 rfl rfl (i4 s c) (show _ < 256 by omega) ⟨h2.rc, ?_⟩)⟩
          · rw [if_f (b2_0.mp z)] at ihe
            rw [nI_1]
            exact wr_mix h2 _ fun σ3 h3 s3 => ihe σ3 h3 (s2.trans s3)
          · rw [if_t (b2_n0.mp z)] at ihe
            rw [h.tab.2.2.2 _ (by omega), nI_1]
            exact wr_mix h2 _ fun σ3 h3 s3 => ihe σ3 h3 (s2.trans s3)
      exact q_X12_mixTable_11 _ _ ⟨fun c => absurd ((nI_leI (a := 64) (by decide) (by omega)).mp c) (by omega), fun _ => l19 4 0 σ1 rfl h1 s1⟩
  refine q_X12_mixTable _ (h.1.x 3 (fun _ _ _ => rfl) ⟨h.1.rc, ?_⟩)
  rw [h.tab.2.1]
  exact wr_mix h.1 _ fun σ1 h1 s1 => l11 64 0 σ1 rfl h1 s1
theorem rw_digest (h : RQ g σ R S X A hh) (v : Iv S) : Do g M_X12_digest 0 0 [.ref (R 300)] σ (RPL g σ R S (v_digest S)) := by
  have q8 := v.q8
  have h60 := v.1.2.2.2.1.1
  generalize h1H : mixOs S 8 (mixTb S 64 (mixd 241 (nI (zw S)).toInt64)) = H1
  generalize h2H : mixd (mixQs S (zq S) H1) (nI (zu S)).toInt64 = H2
  generalize h3H : mixPs S 4 H2 = H3
  generalize h4H : mixN (fun k => nI (zC S k)) (zn S) H3 = H4
  have eD : v_digest S = mixN (fun w => v_count S (nI w)) 9 H4 := by unfold v_digest; rw [h1H, h2H, h3H, h4H]
  rw [eD]
  generalize hpost : RPL g σ R S (mixN (fun w => v_count S (nI w)) 9 H4) = post
  have l168 : ∀ (d w : Nat) (σ1 : Hs), w + d = 9 → RC g σ1 R X A (mixN (fun w => v_count S (nI w)) w H4) → Sm R T3 σ σ1 → J_X12_digest_168 g post σ1 (R 300) (nI w) := by
    intro d
    induction d with
    | zero =>
      intro w σ1 hw h1 s1
      have hw : w = 9 := hw
      subst hw
      subst hpost
      exact q_X12_digest_168 _ _ ⟨fun _ => h1.l ⟨_, rfl, rfl, ⟨X, A, _, h1, h.2⟩, s1⟩, fun c => absurd (nI_le (a := 9) (by omega) (by omega)) c⟩
    | succ d ih =>
      intro w σ1 hw h1 s1
      refine q_X12_digest_168 _ _ ⟨fun c => absurd ((nI_leI (a := 9) (by decide) (by omega)).mp c) (by omega), fun _ => ⟨h1.rc, (rr_countOf ⟨h1, h.2⟩ v (nI w)).use ⟨h1.rc, wr_mix h1 _ fun σ2 h2 s2 => ?_⟩⟩⟩
      rw [nI_1]
      exact ih (w + 1) σ2 (by omega) h2 (s1.trans s2)
  have l141 : ∀ (d k : Nat) (σ1 : Hs), k + d = zn S → RC g σ1 R X A (mixN (fun k => nI (zC S k)) k H3) → Sm R T3 σ σ1 → J_X12_digest_141 g post σ1 (R 300) (nI k) := by
    intro d
    induction d with
    | zero =>
      intro k σ1 hk h1 s1
      have hk : k = zn S := hk
      subst hk
      refine q_X12_digest_141 _ _ (h1.x 12 (fun _ _ _ => rfl) ?_)
      rw [h.pag.1]
      rw [h4H] at h1
      exact ⟨fun _ => l168 9 0 σ1 rfl (by rw [mixN_0]; exact h1) s1, fun c => absurd (nI_le (Nat.le_refl _) (by omega)) c⟩
    | succ d ih =>
      intro k σ1 hk h1 s1
      refine q_X12_digest_141 _ _ (h1.x 12 (fun _ _ _ => rfl) ?_)
      rw [h.pag.1]
      refine ⟨fun c => absurd ((nI_leI (by omega) (by omega)).mp c) (by omega), fun _ => h1.r 13 (fun _ _ _ => rfl) (h1.a 13 rfl rfl rfl (show k < 60 by omega) ⟨h1.rc, ?_⟩)⟩
      rw [h.pag.2 k (by omega)]
      refine wr_mix h1 _ fun σ2 h2 s2 => ?_
      rw [nI_1]
      exact ih (k + 1) σ2 (by omega) h2 (s1.trans s2)
  have l79 : ∀ (d c : Nat) (σ1 : Hs), c + d = 4 → RC g σ1 R X A (mixPs S c H2) → Sm R T3 σ σ1 → J_X12_digest_79 g post σ1 (R 300) (nI c) := by
    intro d
    induction d with
    | zero =>
      intro c σ1 hc h1 s1
      have hc : c = 4 := hc
      subst hc
      rw [h3H] at h1
      exact q_X12_digest_79 _ _ ⟨fun _ => l141 (zn S) 0 σ1 (by omega) (by rw [mixN_0]; exact h1) s1, fun c => absurd (nI_le (a := 4) (by omega) (by omega)) c⟩
    | succ d ih =>
      intro c σ1 hc h1 s1
      have l86 : ∀ (e i : Nat) (σ2 : Hs), i + e = 4 → RC g σ2 R X A (mixPi (zP S c) i (mixPs S c H2)) → Sm R T3 σ σ2 → J_X12_digest_86 g post σ2 (R 300) (nI c) (nI i) := by
        intro e
        induction e with
        | zero =>
          intro i σ2 hi h2 s2
          have hi : i = 4 := hi
          subst hi
          refine q_X12_digest_86 _ _ _ ⟨fun _ => ?_, fun c => absurd (nI_le (a := 4) (by omega) (by omega)) c⟩
          rw [nI_1]
          exact ih (c + 1) σ2 (by omega) h2 s2
        | succ e ihe =>
          intro i σ2 hi h2 s2
          have hc4 : c < 4 := by omega
          have hi4 : i < 4 := by omega
          refine q_X12_digest_86 _ _ _ ⟨fun z => absurd ((nI_leI (a := 4) (by decide) (by omega)).mp z) (by omega), fun _ => ⟨h2.rc, (rr_partOf (w := 0) ⟨h2, h.2⟩ v hc4 hi4 (by decide)).use ⟨h2.rc, wr_mix h2 _ fun σ3 h3 s3 => ⟨h3.rc, (rr_partOf (w := 1) ⟨h3, h.2⟩ v hc4 hi4 (by decide)).use ⟨h3.rc, wr_mix h3 _ fun σ4 h4 s4 => ⟨h4.rc, (rr_partOf (w := 2) ⟨h4, h.2⟩ v hc4 hi4 (by decide)).use ⟨h4.rc, wr_mix h4 _ fun σ5 h5 s5 => ?_⟩⟩⟩⟩⟩⟩⟩
          rw [nI_1]
          refine ihe (i + 1) σ5 (by omega) ?_ (((s2.trans s3).trans s4).trans s5)
          show RC g σ5 R X A (mixPr (zP S c) i (mixPi (zP S c) i (mixPs S c H2)))
          rw [mixPr_3]
          exact h5
      exact q_X12_digest_79 _ _ ⟨fun z => absurd ((nI_leI (a := 4) (by decide) (by omega)).mp z) (by omega), fun _ => l86 4 0 σ1 rfl h1 s1⟩
  have l13 : ∀ (d q : Nat) (σ1 : Hs), q + d = zq S → RC g σ1 R X A (mixQs S q H1) → Sm R T3 σ σ1 → J_X12_digest_13 g post σ1 (R 300) (nI q) := by
    intro d
    induction d with
    | zero =>
      intro q σ1 hq h1 s1
      have hq : q = zq S := hq
      subst hq
      refine q_X12_digest_13 _ _ (h1.x 14 (fun _ _ _ => rfl) ?_)
      rw [h.que.1]
      refine ⟨fun _ => h1.x 19 (fun _ _ _ => rfl) ⟨h1.rc, ?_⟩, fun c => absurd (nI_le (Nat.le_refl _) (by omega)) c⟩
      rw [h.num.1]
      refine wr_mix h1 _ fun σ2 h2 s2 => ?_
      rw [h2H] at h2
      exact l79 4 0 σ2 rfl h2 (s1.trans s2)
    | succ d ih =>
      intro q σ1 hq h1 s1
      have hq2 : q < zq S := by omega
      obtain ⟨eb, e16, e17, e18⟩ := h.que.2 q hq2
      have l23 : ∀ (e c : Nat) (σ2 : Hs), c + e = 4 → RC g σ2 R X A (mixBd (zQ S q) c (mixQs S q H1)) → Sm R T3 σ σ2 → J_X12_digest_23 g post σ2 (R 300) (nI q) (nI (2 * c)) := by
        intro e
        induction e with
        | zero =>
          intro c σ2 hc h2 s2
          have hc : c = 4 := hc
          subst hc
          refine q_X12_digest_23 _ _ _ ⟨fun _ => h2.r 18 (fun _ _ _ => rfl) (h2.a 18 rfl rfl rfl (show q < 8 by omega) ⟨h2.rc, ?_⟩), fun c => absurd (nI_le (a := 8) (by omega) (by omega)) c⟩
          rw [e18, nI_1]
          exact wr_mix h2 _ fun σ3 h3 s3 => ih (q + 1) σ3 (by omega) h3 (s2.trans s3)
        | succ e ihe =>
          intro c σ2 hc h2 s2
          have hc4 : c < 4 := by omega
          refine q_X12_digest_23 _ _ _ ⟨fun z => absurd ((nI_leI (a := 8) (by decide) (by omega)).mp z) (by omega), fun _ => h2.r 15 (fun _ _ _ => rfl) (h2.a 15 rfl rfl (show 8 * nI q + nI (2 * c) = nI (8 * q + 2 * c) by rw [show (8 : Int32) * nI q = nI (8 * q) from pk_mul 8 q, nI_add]) (show _ < 64 by omega) ⟨h2.rc, ?_⟩)⟩
          rw [(eb c hc4).1, nI_1]
          refine wr_mix h2 _ fun σ3 h3 s3 => ?_
          refine q_X12_digest_23 _ _ _ ⟨fun z => absurd ((nI_leI (a := 8) (by decide) (by omega)).mp z) (by omega), fun _ => h3.r 15 (fun _ _ _ => rfl) (h3.a 15 rfl rfl (show 8 * nI q + nI (2 * c + 1) = nI (8 * q + 2 * c + 1) by rw [show (8 : Int32) * nI q = nI (8 * q) from pk_mul 8 q, nI_add]; rfl) (show _ < 64 by omega) ⟨h3.rc, ?_⟩)⟩
          rw [(eb c hc4).2, nI_1]
          refine wr_mix h3 _ fun σ4 h4 s4 => ?_
          exact ihe (c + 1) σ4 (by omega) h4 ((s2.trans s3).trans s4)
      refine q_X12_digest_13 _ _ (h1.x 14 (fun _ _ _ => rfl) ?_)
      rw [h.que.1]
      exact ⟨fun z => absurd ((nI_leI (by omega) (by omega)).mp z) (by omega), fun _ => l23 4 0 σ1 rfl h1 s1⟩
  refine q_X12_digest _ (h.1.ph 241 fun σ1 h1 s1 => ⟨h1.rc, wr_mixTable ⟨h1, h.2⟩ v fun σ2 h2 s2 => ?_⟩)
  rw [h1H] at h2
  exact l13 (zq S) 0 σ2 (by omega) h2 (s1.trans s2)
end RDG
