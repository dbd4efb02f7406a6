/-! The reference: marked, back. -/
theorem RS.mars {S : SS} {X X' : Nat → Int32} {A A' : Nat → Nat → Int32} {mk : Nat} {M : Nat → MT} (r : RS S X A) (hX : ∀ i, i ≠ 25 → i < 26 → X' i = X i) (hA : ∀ k, k < 28 → k ≠ 26 → k ≠ 27 → A' k = A k) (hp : marR mk M (X' 25) (A' 26) (A' 27)) : RS (zMk S mk M) X' A' := by
  obtain ⟨r1, r2, r3, r4, r5, r6, -⟩ := r
  refine ⟨?_, ?_, ?_, ?_, ?_, ?_, hp⟩
  · rw [hX 2 (by decide) (by decide), hX 3 (by decide) (by decide), hA 0 (by decide) (by decide) (by decide), hA 1 (by decide) (by decide) (by decide)]; exact r1
  · rw [hX 4 (by decide) (by decide), hA 5 (by decide) (by decide) (by decide), hA 6 (by decide) (by decide) (by decide), hA 7 (by decide) (by decide) (by decide), hA 8 (by decide) (by decide) (by decide), hA 9 (by decide) (by decide) (by decide), hA 10 (by decide) (by decide) (by decide), hA 11 (by decide) (by decide) (by decide)]; exact r2
  · rw [hX 12 (by decide) (by decide), hA 13 (by decide) (by decide) (by decide)]; exact r3
  · rw [hX 14 (by decide) (by decide), hA 15 (by decide) (by decide) (by decide), hA 16 (by decide) (by decide) (by decide), hA 17 (by decide) (by decide) (by decide), hA 18 (by decide) (by decide) (by decide)]; exact r4
  · rw [hX 19 (by decide) (by decide), hX 20 (by decide) (by decide), hX 21 (by decide) (by decide)]; exact r5
  · rw [hX 24 (by decide) (by decide), hA 22 (by decide) (by decide) (by decide), hA 23 (by decide) (by decide) (by decide)]; exact r6
theorem RS.tabs {S : SS} {X X' : Nat → Int32} {A A' : Nat → Nat → Int32} {f : Nat → Int32} {tk : Nat → Bool} (r : RS S X A) (hX : ∀ i, i ≠ 2 → i < 26 → X' i = X i) (hA : ∀ k, k < 28 → k ≠ 0 → k ≠ 1 → A' k = A k) (hp : tabR f tk (zw S) (X' 2) (X' 3) (A' 0) (A' 1)) : RS (zTO S f tk (zB S)) X' A' := by
  obtain ⟨-, r2, r3, r4, r5, r6, r7⟩ := r
  refine ⟨hp, ?_, ?_, ?_, ?_, ?_, ?_⟩
  · rw [hX 4 (by decide) (by decide), hA 5 (by decide) (by decide) (by decide), hA 6 (by decide) (by decide) (by decide), hA 7 (by decide) (by decide) (by decide), hA 8 (by decide) (by decide) (by decide), hA 9 (by decide) (by decide) (by decide), hA 10 (by decide) (by decide) (by decide), hA 11 (by decide) (by decide) (by decide)]; exact r2
  · rw [hX 12 (by decide) (by decide), hA 13 (by decide) (by decide) (by decide)]; exact r3
  · rw [hX 14 (by decide) (by decide), hA 15 (by decide) (by decide) (by decide), hA 16 (by decide) (by decide) (by decide), hA 17 (by decide) (by decide) (by decide), hA 18 (by decide) (by decide) (by decide)]; exact r4
  · rw [hX 19 (by decide) (by decide), hX 20 (by decide) (by decide), hX 21 (by decide) (by decide)]; exact r5
  · rw [hX 24 (by decide) (by decide), hA 22 (by decide) (by decide) (by decide), hA 23 (by decide) (by decide) (by decide)]; exact r6
  · rw [hX 25 (by decide) (by decide), hA 26 (by decide) (by decide) (by decide), hA 27 (by decide) (by decide) (by decide)]; exact r7
theorem nar_b2 (b : Bool) : vp_nar .boolean (b2 b) = b2 b := by cases b <;> rfl
theorem i256 (o k : Nat) : 256 * nI o + nI k = nI (256 * o + k) := by rw [show (256 : Int32) * nI o = nI (256 * o) from pk_mul 256 o, nI_add]
section RMK
variable {g : GG} {σ : Hs} {R : Nat → Nat} {S : SS} {X : Nat → Int32} {A : Nat → Nat → Int32} {hh : Int64}
theorem rw_mark (h : RQ g σ R S X A hh) (v : Iv S) : Do g M_X12_mark 0 0 [.ref (R 300)] σ (RP g σ R (s_mark S)) := by
  have h3 := v.1.2.2.2.2.1.1
  unfold s_mark
  refine q_X12_mark _ (h.1.x 25 (fun _ _ _ => rfl) ?_)
  rw [h.mar.1]
  refine ⟨fun c => ?_, fun c => ?_⟩
  · have c : zm S < 3 := Nat.lt_of_le_of_ne h3 fun z => c (by rw [z]; rfl)
    rw [if_pos c]
    generalize hpost : RP g σ R (nI (zm S + 1), zMk S (zm S + 1) (setM (zM S) (zm S) (cpT (zM S (zm S)).1 (zf S, zt S)))) = post
    have cells : ∀ (d k : Nat) (σ1 : Hs) (A1 : Nat → Nat → Int32), k + d = 256 → RC g σ1 R X A1 hh → (∀ k, k ≠ 26 → k ≠ 27 → A1 k = A k) → (∀ j, j < 64 * zm S → A1 26 j = A 26 j) → (∀ j, j < 64 → A1 26 (64 * zm S + j) = b2 (zt S j)) → (∀ j, j < 256 * zm S → A1 27 j = A 27 j) → (∀ j, j < k → A1 27 (256 * zm S + j) = zf S j) → Sm R T3 σ σ1 → J_X12_mark_47 g post σ1 (R 300) (nI k) := by
      intro d
      induction d with
      | zero =>
        intro k σ1 A1 hk h1 k1 f26 a26 f27 a27 s1
        have hk : k = 256 := hk
        subst hk
        refine q_X12_mark_47 _ _ ⟨fun _ => h1.x 25 (fun _ _ _ => rfl) (h1.px 25 _ (by omega) (fun _ _ _ => rfl) fun σ2 h2 s2 => h2.x 25 (fun _ _ _ => rfl) ?_), fun z => absurd (nI_le (a := 256) (by omega) (by omega)) z⟩
        subst hpost
        have e25 : upd X 25 (X 25 + 1) 25 = nI (zm S + 1) := (upd_same _ _ _).trans (by rw [h.mar.1, nI_1])
        refine RP.go h2 (h.2.mars (fun i i1 _ => upd_ne _ _ i1) (fun k _ k2 k3 => k1 k k2 k3) ⟨e25, fun m hm => ?_⟩) (s1.trans s2) e25
        by_cases z : m = zm S
        · subst z
          rw [setM_at]
          refine ⟨fun s hs => a26 s hs, fun k hk => ?_⟩
          rw [cpT_f hk]
          exact a27 k hk
        · obtain ⟨q1, q2⟩ := h.mar.2 m (by omega)
          rw [setM_ne _ _ z]
          refine ⟨fun s hs => ?_, fun k hk => ?_⟩
          · rw [f26 _ (by omega)]; exact q1 s hs
          · rw [f27 _ (by omega)]; exact q2 k hk
      | succ d ih =>
        intro k σ1 A1 hk h1 k1 f26 a26 f27 a27 s1
        refine q_X12_mark_47 _ _ ⟨fun z => absurd ((nI_leI (a := 256) (by decide) (by omega)).mp z) (by omega), fun _ => h1.r 27 (fun _ _ _ => rfl) (h1.x 25 (fun _ _ _ => rfl) (h1.r 1 (fun _ _ _ => rfl) (h1.a 1 rfl rfl rfl (show k < 256 by omega) ?_)))⟩
        rw [h.mar.1, i256, k1 1 (by decide) (by decide), h.tab.2.2.2 k (by omega)]
        refine h1.s 27 rfl rfl rfl (show _ < 768 by omega) fun σ2 h2 s2 => ?_
        rw [nI_1]
        refine ih (k + 1) σ2 _ (by omega) h2 (fun j j26 j27 => (setA_ne _ _ j27).trans (k1 j j26 j27)) (fun j hj => f26 j hj) (fun j hj => a26 j hj) (fun j hj => (upd_ne _ _ (by omega)).trans (f27 j hj)) (fun j hj => ?_) (s1.trans s2)
        show upd (A1 27) (256 * zm S + k) (zf S k) (256 * zm S + j) = _
        by_cases z : j = k
        · subst z; exact upd_same _ _ _
        · rw [upd_ne _ _ (by omega)]; exact a27 j (by omega)
    have slots : ∀ (d s : Nat) (σ1 : Hs) (A1 : Nat → Nat → Int32), s + d = 64 → RC g σ1 R X A1 hh → (∀ k, k ≠ 26 → A1 k = A k) → (∀ j, j < 64 * zm S → A1 26 j = A 26 j) → (∀ j, j < s → A1 26 (64 * zm S + j) = b2 (zt S j)) → Sm R T3 σ σ1 → J_X12_mark_13 g post σ1 (R 300) (nI s) := by
      intro d
      induction d with
      | zero =>
        intro s σ1 A1 hs h1 k1 f26 a26 s1
        have hs : s = 64 := hs
        subst hs
        exact q_X12_mark_13 _ _ ⟨fun _ => cells 256 0 σ1 A1 rfl h1 (fun k k26 _ => k1 k k26) f26 a26 (fun j _ => by rw [k1 27 (by decide)]) (fun j hj => absurd hj (Nat.not_lt_zero _)) s1, fun z => absurd (nI_le (a := 64) (by omega) (by omega)) z⟩
      | succ d ih =>
        intro s σ1 A1 hs h1 k1 f26 a26 s1
        refine q_X12_mark_13 _ _ ⟨fun z => absurd ((nI_leI (a := 64) (by decide) (by omega)).mp z) (by omega), fun _ => h1.r 26 (fun _ _ _ => rfl) (h1.x 25 (fun _ _ _ => rfl) (h1.r 0 (fun _ _ _ => rfl) (h1.a 0 rfl rfl rfl (show s < 64 by omega) ?_)))⟩
        rw [h.mar.1, i64, k1 0 (by decide), h.tab.2.2.1 s (by omega), nar_b2]
        refine h1.s 26 rfl rfl rfl (show _ < 192 by omega) fun σ2 h2 s2 => ?_
        rw [nI_1]
        refine ih (s + 1) σ2 _ (by omega) h2 (fun j j26 => (setA_ne _ _ j26).trans (k1 j j26)) (fun j hj => (upd_ne _ _ (by omega)).trans (f26 j hj)) (fun j hj => ?_) (s1.trans s2)
        show upd (A1 26) (64 * zm S + s) (b2 (zt S s)) (64 * zm S + j) = _
        by_cases z : j = s
        · subst z; exact upd_same _ _ _
        · rw [upd_ne _ _ (by omega)]; exact a26 j (by omega)
    exact slots 64 0 σ A rfl h.1 (fun _ _ => rfl) (fun _ _ => rfl) (fun j hj => absurd hj (Nat.not_lt_zero _)) Sm.refl
  · have c := (nI_eq (b := 3) (by omega) (by decide)).mp c
    rw [if_neg (by omega)]
    exact RP.no h
theorem rw_back (h : RQ g σ R S X A hh) (v : Iv S) (x : Int32) : Do g M_X12_back 0 0 [.ref (R 300), .int x] σ (RP g σ R (s_back S x)) := by
  have h3 := v.1.2.2.2.2.1.1
  have h8 := v.o8
  unfold s_back
  refine q_X12_back _ _ (h.1.x 25 (fun _ _ _ => rfl) ?_)
  rw [h.mar.1]
  refine (rd_inQ x (zm S) (by omega)).use ⟨fun c => h.1.px 2 _ (by omega) (fun _ _ _ => rfl) fun σ0 h0 s0 => ?_, fun c => ?_⟩
  · have c := b2_n0.mp c
    obtain ⟨i, hi, rfl⟩ := inR_of c (by omega)
    rw [if_t c, nn_i (by omega)]
    obtain ⟨m26, m27⟩ := h.mar.2 i hi
    generalize hpost : RP g σ R (nI (fa_cnt (zM S i).2 64), s_bk S i) = post
    -- the packing
    have packs : ∀ (X1 : Nat → Int32) (A1 : Nat → Nat → Int32) (σ1 : Hs), RQ g σ1 R (zTO S (cpT (zf S) (zM S i)).1 (zM S i).2 (zB S)) X1 A1 hh → Sm R T3 σ σ1 → ∀ (d o : Nat) (σ2 : Hs) (A2 : Nat → Nat → Int32), o + d = zo S → RC g σ2 R X1 A2 hh → Each (zo S) (eachTo (fun key w => rebS (cpT (zf S) (zM S i)).1 key (zM S i).2 w) (zB S) o) A1 A2 → Sm R T3 σ1 σ2 → J_X12_back_111 g post σ2 (R 300) (nI i) (nI o) := by
      intro X1 A1 σ1 q1 s1 d
      induction d with
      | zero =>
        intro o σ2 A2 ho h2 e2 s2
        have ho : o = zo S := ho
        subst ho
        refine q_X12_back_111 _ _ _ (h2.x 4 (fun _ _ _ => rfl) ?_)
        rw [show X1 4 = nI (zo S) from q1.ord.1]
        refine ⟨fun _ => h2.px 25 _ (by omega) (fun _ _ _ => rfl) fun σ3 h3 s3 => h3.x 2 (fun _ _ _ => rfl) ?_, fun c => absurd (nI_le (Nat.le_refl _) (by omega)) c⟩
        subst hpost
        have e3 := e2.ends
        have o3 := Each.ord (σ' := σ2) q1 e3 (fun o ho => eachO_same (F := fun key w => rebS (cpT (zf S) (zM S i)).1 key (zM S i).2 w) (B := zB S) o)
        have q3 := q1.reord (X' := X1) h2 (fun k k5 k6 k7 k8 k9 k10 k11 => e3.1 k k7 k8 k9 k10 k11) (fun _ _ => rfl) o3
        refine RP.go h3 (q3.2.mars (fun j j1 _ => upd_ne _ _ j1) (fun _ _ _ _ => rfl) ⟨?_, fun m hm => ?_⟩) ((s1.trans s2).trans s3) ?_
        · rw [upd_same, nI_1]
        · exact q3.mar.2 m (by show m < zm S; omega)
        · show upd X1 25 (nI i + 1) 2 = _
          rw [upd_ne _ _ (by decide)]
          exact q1.tab.1
      | succ d ih =>
        intro o σ2 A2 ho h2 e2 s2
        have ho2 : o < zo S := by omega
        have e6 : A2 6 o = b2 (zB S o).2.2 := by
          rw [e2.1 6 (by decide) (by decide) (by decide) (by decide) (by decide)]
          exact (q1.ord.2 o ho2).2.1
        refine q_X12_back_111 _ _ _ (h2.x 4 (fun _ _ _ => rfl) ?_)
        rw [show X1 4 = nI (zo S) from q1.ord.1]
        refine ⟨fun c => absurd ((nI_leI (by omega) (by omega)).mp c) (by omega), fun _ => h2.r 6 (fun _ _ _ => rfl) (h2.a 6 rfl rfl rfl (show o < 8 by omega) ?_)⟩
        rw [e6]
        refine ⟨fun c => ?_, fun c => ⟨h2.rc, ?_⟩⟩
        · rw [nI_1]
          exact ih (o + 1) σ2 A2 (by omega) h2 (e2.lost (b2_n0.mp c)) s2
        · have hd := b2_0.mp c
          have oa := e2.2 o ho2
          rw [eachTo_ge (Nat.le_refl o)] at oa
          refine Do.mono (wr_packOne (w := (zB S o).2.1) (f := (cpT (zf S) (zM S i)).1) (tk := (zM S i).2) (key := (zB S o).1) h2 (by omega) (fun k hk => ?_) (fun s hs => ?_) (v.ok ho2) ?_ oa.2.2.1) ?_
          · rw [e2.1 1 (by decide) (by decide) (by decide) (by decide) (by decide)]
            exact q1.tab.2.2.2 k hk
          · rw [e2.1 0 (by decide) (by decide) (by decide) (by decide) (by decide)]
            exact q1.tab.2.2.1 s hs
          · rw [e2.1 5 (by decide) (by decide) (by decide) (by decide) (by decide)]
            exact (q1.ord.2 o ho2).1
          · rintro vv σ3 ⟨rfl, A3, h3, oa3, f3, s3⟩
            refine ⟨rfl, ?_⟩
            rw [nI_1]
            exact ih (o + 1) σ3 A3 (by omega) h3 (e2.go hd (fun j hj => v.os hj) (fun j hj _ => (rebS_in _ _ _ _).1) oa3 f3) (s2.trans s3)
    have cells : ∀ (X1 : Nat → Int32), (∀ j, j ≠ 2 → X1 j = X j) → X1 2 = nI (fa_cnt (zM S i).2 64) → ∀ (d k : Nat) (σ1 : Hs) (A1 : Nat → Nat → Int32), k + d = 256 → RC g σ1 R X1 A1 hh → (∀ k, k ≠ 0 → k ≠ 1 → A1 k = A k) → (∀ j, j < 64 → A1 0 j = b2 ((zM S i).2 j)) → (∀ j, j < k → A1 1 j = (zM S i).1 j) → Sm R T3 σ σ1 → J_X12_back_78 g post σ1 (R 300) (nI i) (nI k) := by
      intro X1 x1 x2 d
      induction d with
      | zero =>
        intro k σ1 A1 hk h1 k1 a0 a1 s1
        have hk : k = 256 := hk
        subst hk
        have q1 : RQ g σ1 R (zTO S (cpT (zf S) (zM S i)).1 (zM S i).2 (zB S)) X1 A1 hh := ⟨h1, h.2.tabs (fun j j1 _ => x1 j j1) (fun j _ j0 j1 => k1 j j0 j1) ⟨x2, (x1 3 (by decide)).trans h.tab.2.1, a0, fun k hk => by rw [cpT_f hk]; exact a1 k hk⟩⟩
        exact q_X12_back_78 _ _ _ ⟨fun _ => packs X1 A1 σ1 q1 s1 (zo S) 0 σ1 A1 (by omega) h1 (Each.start fun j hj => (q1.ord.2 j hj).2.2) Sm.refl, fun z => absurd (nI_le (a := 256) (by omega) (by omega)) z⟩
      | succ d ih =>
        intro k σ1 A1 hk h1 k1 a0 a1 s1
        refine q_X12_back_78 _ _ _ ⟨fun z => absurd ((nI_leI (a := 256) (by decide) (by omega)).mp z) (by omega), fun _ => h1.r 1 (fun _ _ _ => rfl) (h1.r 27 (fun _ _ _ => rfl) (h1.a 27 rfl rfl (i256 i k) (show _ < 768 by omega) ?_))⟩
        rw [k1 27 (by decide) (by decide), m27 k (by omega)]
        refine h1.s 1 rfl rfl rfl (show k < 256 by omega) fun σ2 h2 s2 => ?_
        rw [nI_1]
        refine ih (k + 1) σ2 _ (by omega) h2 (fun j j0 j1 => (setA_ne _ _ j1).trans (k1 j j0 j1)) (fun j hj => a0 j hj) (fun j hj => ?_) (s1.trans s2)
        show upd (A1 1) k _ j = _
        by_cases z : j = k
        · subst z; exact upd_same _ _ _
        · rw [upd_ne _ _ z]; exact a1 j (by omega)
    have slots : ∀ (d s : Nat) (σ1 : Hs) (X1 : Nat → Int32) (A1 : Nat → Nat → Int32), s + d = 64 → RC g σ1 R X1 A1 hh → (∀ j, j ≠ 2 → X1 j = X j) → X1 2 = nI (fa_cnt (zM S i).2 s) → (∀ k, k ≠ 0 → A1 k = A k) → (∀ j, j < s → A1 0 j = b2 ((zM S i).2 j)) → Sm R T3 σ σ1 → J_X12_back_24 g post σ1 (R 300) (nI i) (nI s) := by
      intro d
      induction d with
      | zero =>
        intro s σ1 X1 A1 hs h1 x1 x2 k1 a0 s1
        have hs : s = 64 := hs
        subst hs
        exact q_X12_back_24 _ _ _ ⟨fun _ => cells X1 x1 x2 256 0 σ1 A1 rfl h1 (fun k k0 _ => k1 k k0) a0 (fun j hj => absurd hj (Nat.not_lt_zero _)) s1, fun z => absurd (nI_le (a := 64) (by omega) (by omega)) z⟩
      | succ d ih =>
        intro s σ1 X1 A1 hs h1 x1 x2 k1 a0 s1
        refine q_X12_back_24 _ _ _ ⟨fun z => absurd ((nI_leI (a := 64) (by decide) (by omega)).mp z) (by omega), fun _ => h1.r 0 (fun _ _ _ => rfl) (h1.r 26 (fun _ _ _ => rfl) (h1.a 26 rfl rfl (i64 i s) (show _ < 192 by omega) ?_))⟩
        rw [k1 26 (by decide), m26 s (by omega), nar_b2]
        refine h1.s 0 rfl rfl rfl (show s < 64 by omega) fun σ2 h2 s2 => h2.x 2 (fun _ _ _ => rfl) (h2.r 0 (fun _ _ _ => rfl) (h2.a 0 rfl rfl rfl (show s < 64 by omega) ?_))
        have e0 : setA A1 0 (upd (A1 0) s (b2 ((zM S i).2 s))) 0 s = b2 ((zM S i).2 s) := upd_same _ _ _
        have a0' : ∀ j, j < s + 1 → setA A1 0 (upd (A1 0) s (b2 ((zM S i).2 s))) 0 j = b2 ((zM S i).2 j) := fun j hj => by
          show upd (A1 0) s _ j = _
          by_cases z : j = s
          · subst z; exact upd_same _ _ _
          · rw [upd_ne _ _ z]; exact a0 j (by omega)
        rw [e0, x2, nI_p0]
        refine ⟨fun y => h2.px 2 _ (by omega) (fun _ _ _ => rfl) fun σ3 h3 s3 => ?_, fun y => h2.px 2 _ (by omega) (fun _ _ _ => rfl) fun σ3 h3 s3 => ?_⟩
        · rw [nI_1]
          exact ih (s + 1) σ3 _ _ (by omega) h3 (fun j j2 => (upd_ne _ _ j2).trans (x1 j j2)) (by rw [upd_same, fa_cnt_no (b2_0.mp y)]) (fun j j0 => (setA_ne _ _ j0).trans (k1 j j0)) a0' ((s1.trans s2).trans s3)
        · rw [nI_1]
          exact ih (s + 1) σ3 _ _ (by omega) h3 (fun j j2 => (upd_ne _ _ j2).trans (x1 j j2)) (by rw [upd_same, fa_cnt_yes (b2_n0.mp y), nI_1]) (fun j j0 => (setA_ne _ _ j0).trans (k1 j j0)) a0' ((s1.trans s2).trans s3)
    exact slots 64 0 σ0 _ A rfl h0 (fun j j2 => upd_ne _ _ j2) (upd_same _ _ _) (fun _ _ => rfl) (fun j hj => absurd hj (Nat.not_lt_zero _)) s0
  · rw [if_f (b2_0.mp c)]; exact RP.no h
end RMK
