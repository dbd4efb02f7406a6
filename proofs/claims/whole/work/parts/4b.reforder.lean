/-! The reference: orders told, lost, packed; weights, upkeep; the page's letters. -/
theorem hasK_iff (B : Nat → OD) (key told : Nat) : hasK B key told = true ↔ ∃ o, o < told ∧ (B o).2.2 = false ∧ (B o).1 = key := by unfold hasK; exact decide_eq_true_iff
theorem Q_set_at (Q : Nat → QD) (i : Nat) (d : QD) : Q_set Q i d i = d := if_pos rfl
theorem Q_set_ne (Q : Nat → QD) {i j : Nat} (d : QD) (h : j ≠ i) : Q_set Q i d j = Q j := if_neg h
section ROD
variable {g : GG} {σ : Hs} {R : Nat → Nat} {S : SS} {X : Nat → Int32} {A : Nat → Nat → Int32} {hh : Int64}
theorem rw_order (h : RQ g σ R S X A hh) (v : Iv S) (x : Int32) : Do g M_X12_order 0 0 [.ref (R 300), .int x] σ (RP g σ R (s_order S x)) := by
  have h8 := v.o8
  unfold s_order
  refine q_X12_order _ _ ((rr_isKey x).use ⟨fun c => ?_, fun c => ?_⟩)
  · have c := b2_n0.mp c
    rw [if_t c]
    have c0 := c
    unfold isKy at c0
    rw [Bool.and_eq_true] at c0
    obtain ⟨k, hk, rfl⟩ := inR_of c0.1 (by decide)
    have hok := c0.2
    rw [nn_i (by omega)] at hok ⊢
    have hok := keyB_ok.mp hok
    have loop : ∀ (d o : Nat), o + d = zo S → (∀ j, j < o → (zB S j).2.2 = false → (zB S j).1 ≠ k) → J_X12_order_12 g (RP g σ R (if hasK (zB S) k (zo S) then (-103, S) else if zo S < 8 then (nI (zo S), (S.1, (zo S + 1, fun o => if o = zo S then (k, rebS (zf S) k (zt S) w0, false) else zB S o), S.2.2)) else (-104, S))) σ (R 300) (nI k) (nI o) := by
      intro d
      induction d with
      | zero =>
        intro o ho hno
        have ho : o = zo S := ho
        have hf : hasK (zB S) k (zo S) = false := by
          rcases Bool.eq_false_or_eq_true (hasK (zB S) k (zo S)) with z | z
          · obtain ⟨j, h1, h2, h3⟩ := (hasK_iff _ _ _).mp z
            exact absurd h3 (hno j (by omega) h2)
          · exact z
        rw [if_f hf]
        refine q_X12_order_12 _ _ _ (h.1.x 4 (fun _ _ _ => rfl) ?_)
        rw [h.ord.1]
        refine ⟨fun _ => h.1.x 4 (fun _ _ _ => rfl) ?_, fun c => absurd (nI_le (by omega) (by omega)) c⟩
        rw [h.ord.1]
        refine ⟨fun c8 => ?_, fun c8 => ?_⟩
        · have c8 : zo S < 8 := Nat.lt_of_le_of_ne h8 fun z => c8 (by rw [z]; rfl)
          rw [if_pos c8]
          refine h.1.r 5 (fun _ _ _ => rfl) (h.1.x 4 (fun _ _ _ => rfl) (h.1.s 5 rfl rfl h.ord.1 (show zo S < 8 from c8) fun σ1 h1 s1 => h1.r 6 (fun _ _ _ => rfl) (h1.x 4 (fun _ _ _ => rfl) (h1.s 6 rfl rfl h.ord.1 (show zo S < 8 from c8) fun σ2 h2 s2 => h2.r 7 (fun _ _ _ => rfl) (h2.x 4 (fun _ _ _ => rfl) (h2.s 7 rfl rfl h.ord.1 (show zo S < 8 from c8) fun σ3 h3 s3 => h3.x 4 (fun _ _ _ => rfl) ⟨h3.rc, ?_⟩))))))
          rw [h.ord.1]
          refine Do.mono (wr_packOne (w := w0) (f := zf S) (tk := zt S) (key := k) h3 c8 h.tab.2.2.2 h.tab.2.2.1 hok (upd_same _ _ _) (upd_same _ _ _)) ?_
          rintro vv σ4 ⟨rfl, A4, h4, oa4, f4, s4⟩
          have e4 : X 4 + 1 = nI (zo S + 1) := by rw [h.ord.1, nI_1]
          refine ⟨rfl, h4.x 4 (fun _ _ _ => rfl) (h4.px 4 _ (by omega) (fun _ _ _ => rfl) fun σ5 h5 s5 => h5.x 4 (fun _ _ _ => rfl) ⟨_, rfl, ?_, ⟨upd X 4 (X 4 + 1), A4, hh, ?_⟩, (((s1.trans s2).trans s3).trans s4).trans s5⟩)⟩
          · show X 4 + 1 - 1 = nI (zo S)
            rw [e4, nI_s1 (by omega)]; rfl
          · refine h.reord h5 (fun i i5 i6 i7 i8 i9 i10 i11 => ?_) (fun i i4 => upd_ne _ _ i4) ⟨(upd_same _ _ _).trans e4, fun o ho => ?_⟩
            · rw [f4.1 i i7 i8 i9 i10 i11, setA_ne _ _ i7, setA_ne _ _ i6, setA_ne _ _ i5]
            · show A4 5 o = nI (if o = zo S then (k, rebS (zf S) k (zt S) w0, false) else zB S o : OD).1 ∧ A4 6 o = b2 (if o = zo S then (k, rebS (zf S) k (zt S) w0, false) else zB S o : OD).2.2 ∧ OA o (if o = zo S then (k, rebS (zf S) k (zt S) w0, false) else zB S o : OD).2.1 A4
              by_cases co : o = zo S
              · rw [if_pos co]
                refine ⟨?_, ?_, by rw [co]; exact oa4⟩
                · rw [f4.1 5 (by decide) (by decide) (by decide) (by decide) (by decide), co]
                  exact upd_same _ _ _
                · rw [f4.1 6 (by decide) (by decide) (by decide) (by decide) (by decide), co]
                  exact upd_same _ _ _
              · rw [if_neg co]
                obtain ⟨e5, e6, e9, e11, e7, e8, e10⟩ := h.ord.2 o (by omega)
                have hos := v.os (show o < zo S by omega)
                refine ⟨?_, ?_, (fun z => OA.fr (w := (zB S o).2.1) z f4 co (by have := hos.1; omega) (by have := hos.l_le; have := hos.1; omega)) ⟨e9, e11, ?_, e8, e10⟩⟩
                · rw [f4.1 5 (by decide) (by decide) (by decide) (by decide) (by decide)]
                  exact (upd_ne _ _ co).trans e5
                · rw [f4.1 6 (by decide) (by decide) (by decide) (by decide) (by decide)]
                  exact (upd_ne _ _ co).trans e6
                · exact (upd_ne _ _ co).trans e7
        · have c8 := (nI_eq (b := 8) (by omega) (by decide)).mp c8
          rw [if_neg (by omega)]
          exact RP.no h
      | succ d ih =>
        intro o ho hno
        obtain ⟨e5, e6, -⟩ := h.ord.2 o (by omega)
        have hb := (v.ok (show o < zo S by omega)).2.1
        refine q_X12_order_12 _ _ _ (h.1.x 4 (fun _ _ _ => rfl) ?_)
        rw [h.ord.1]
        refine ⟨fun c => absurd ((nI_leI (by omega) (by omega)).mp c) (by omega), fun _ => h.1.r 6 (fun _ _ _ => rfl) (h.1.a 6 rfl rfl rfl (show o < 8 by omega) ?_)⟩
        rw [e6, nI_1]
        refine ⟨fun c => ih (o + 1) (by omega) fun j hj hd => ?_, fun c => h.1.r 5 (fun _ _ _ => rfl) (h.1.a 5 rfl rfl rfl (show o < 8 by omega) ?_)⟩
        · by_cases z : j = o
          · rw [z, b2_n0.mp c] at hd; cases hd
          · exact hno j (by omega) hd
        · rw [e5]
          refine ⟨fun c2 => ih (o + 1) (by omega) fun j hj hd => ?_, fun c2 => ?_⟩
          · by_cases z : j = o
            · rw [z]; exact fun y => c2 (by rw [y])
            · exact hno j (by omega) hd
          · have c2 := (nI_eq (by omega) (by omega)).mp c2
            rw [if_t ((hasK_iff _ _ _).mpr ⟨o, by omega, b2_0.mp c, c2⟩)]
            exact RP.no h
    exact loop (zo S) 0 (by omega) (fun j hj => absurd hj (by omega))
  · rw [if_f (b2_0.mp c)]
    exact RP.no h
theorem rw_lose (h : RQ g σ R S X A hh) (v : Iv S) (x : Int32) : Do g M_X12_lose 0 0 [.ref (R 300), .int x] σ (RP g σ R (s_lose S x)) := by
  have h8 := v.o8
  unfold s_lose
  refine q_X12_lose _ _ ⟨h.1.rc, (rr_isOrder h h8 x).use ⟨fun c => ?_, fun c => ?_⟩⟩
  · have c := b2_n0.mp c
    obtain ⟨o, ho, h8', hd, rfl⟩ := isO_of h8 c
    rw [if_t c, nn_i (by omega)]
    obtain ⟨e5, e6, e9, e11, e7, e8, e10⟩ := h.ord.2 o ho
    have hl : (zB S o).2.1.2.2.1 ≤ 64 := by have := (v.os ho).l_le; have := (v.os ho).1; omega
    refine h.1.r 6 (fun _ _ _ => rfl) (h.1.s 6 rfl rfl rfl (show o < 8 from h8') fun σ2 h2 s2 => ⟨h2.rc, (rr_sizeOf h2 h8' e11 hl).use ⟨_, rfl, rfl, ⟨X, _, hh, h.reord h2 (fun i i5 i6 i7 i8 i9 i10 i11 => setA_ne _ _ i6) (fun _ _ => rfl) ⟨h.ord.1, fun j hj => ?_⟩⟩, s2⟩⟩)
    by_cases z : j = o
    · subst z
      rw [B_set_at]
      exact ⟨e5, upd_same _ _ _, e9, e11, e7, e8, e10⟩
    · rw [B_set_ne _ _ _ z]
      obtain ⟨q5, q6, q7⟩ := h.ord.2 j hj
      exact ⟨q5, (upd_ne _ _ z).trans q6, q7⟩
  · rw [if_f (b2_0.mp c)]
    exact RP.no h
theorem rw_pack (h : RQ g σ R S X A hh) (v : Iv S) (x : Int32) : Do g M_X12_pack 0 0 [.ref (R 300), .int x] σ (RP g σ R (s_pack S x)) := by
  have h8 := v.o8
  unfold s_pack
  refine q_X12_pack _ _ ⟨h.1.rc, (rr_isOrder h h8 x).use ⟨fun c => ?_, fun c => ?_⟩⟩
  · have c := b2_n0.mp c
    obtain ⟨o, ho, h8', hd, rfl⟩ := isO_of h8 c
    rw [if_t c, nn_i (by omega)]
    obtain ⟨e5, e6, e9, e11, e7, e8, e10⟩ := h.ord.2 o ho
    have hl : (zB S o).2.1.2.2.1 ≤ 64 := by have := (v.os ho).l_le; have := (v.os ho).1; omega
    have hin := v.oi ho hd
    refine ⟨h.1.rc, (rr_sizeOf h.1 h8' e11 hl).use ⟨h.1.rc, Do.mono (wr_packOne (w := (zB S o).2.1) (f := zf S) (tk := zt S) h.1 h8' h.tab.2.2.2 h.tab.2.2.1 (v.ok ho) e5 e7) ?_⟩⟩
    rintro vv σ2 ⟨rfl, A2, h2, oa2, f2, s2⟩
    have hreb := rebS_in (zf S) (zB S o).1 (zt S) (zB S o).2.1
    have hn : (zB S o).2.1.1 = (rebS (zf S) (zB S o).1 (zt S) (zB S o).2.1).1 := by rw [hin.2.num, hreb.2.num]
    have hre := hreb.2
    rw [← hn] at hre
    have oa3 : OA o (packS (zB S o).1 (zB S o).2.1) A2 := by
      refine oa2.cong hn (fun i hi => (hin.2.uniq hre i (by rw [hn]; exact hi))) ?_ (fun k hk => ?_) ?_
      · show lvs (rmk (zB S o).1) (zB S o).2.1.1 = lvs (rmk (zB S o).1) (rebS (zf S) (zB S o).1 (zt S) (zB S o).2.1).1
        rw [hn]
      · have hk : k < lvs (rmk (zB S o).1) (rebS (zf S) (zB S o).1 (zt S) (zB S o).2.1).1 := hk
        have hk2 := hk
        rw [← hn] at hk2
        show lay1 _ (rmk (zB S o).1) (zB S o).2.1.1 (lvs (rmk (zB S o).1) (zB S o).2.1.1) k = lay1 _ (rmk (zB S o).1) (rebS (zf S) (zB S o).1 (zt S) (zB S o).2.1).1 (lvs (rmk (zB S o).1) (rebS (zf S) (zB S o).1 (zt S) (zB S o).2.1).1) k
        rw [lay1_at _ _ _ _ k hk2, lay1_at _ _ _ _ k hk, hn]
      · have hWc : ∀ s, (reb1 (zf S) (zB S o).1 (zt S) (zB S o).2.1 s).2.2.2.2 = (zB S o).2.1.2.2.2.2 := by
          intro s
          induction s with
          | zero => rfl
          | succ s ih =>
            simp only [reb1]
            split
            · rfl
            · exact ih
        exact (hWc 64).symm
    have hpk : (packS (zB S o).1 (zB S o).2.1).2.2.1 ≤ 64 := by
      have := packS_in hin.2
      have h1 := this.1.l_le
      have h2 := this.1.1
      omega
    have e11' : A2 11 o = nI (lvs (rmk (zB S o).1) (zB S o).2.1.1) := oa3.2.1
    refine ⟨rfl, h2.rc, (rr_sizeOf h2 h8' e11' hpk).use ⟨_, rfl, rfl, ⟨X, A2, hh, h.reord h2 (fun i i5 i6 i7 i8 i9 i10 i11 => f2.1 i i7 i8 i9 i10 i11) (fun _ _ => rfl) ⟨h.ord.1, fun j hj => ?_⟩⟩, s2⟩⟩
    obtain ⟨q5, q6, q7⟩ := h.ord.2 j hj
    by_cases z : j = o
    · subst z
      rw [B_set_at]
      refine ⟨?_, ?_, oa3⟩
      · rw [f2.1 5 (by decide) (by decide) (by decide) (by decide) (by decide)]; exact q5
      · rw [f2.1 6 (by decide) (by decide) (by decide) (by decide) (by decide)]
        rw [hd] at q6
        exact q6
    · rw [B_set_ne _ _ _ z]
      have hos := v.os hj
      refine ⟨?_, ?_, OA.fr (w := (zB S j).2.1) q7 f2 z (by have := hos.1; omega) (by have := hos.l_le; have := hos.1; omega)⟩
      · rw [f2.1 5 (by decide) (by decide) (by decide) (by decide) (by decide)]; exact q5
      · rw [f2.1 6 (by decide) (by decide) (by decide) (by decide) (by decide)]; exact q6
  · rw [if_f (b2_0.mp c)]
    exact RP.no h
theorem rw_weight (h : RQ g σ R S X A hh) (v : Iv S) (x z : Int32) : Do g M_X12_weight 0 0 [.ref (R 300), .int x, .int z] σ (RP g σ R (s_weight S x z)) := by
  have h8 := v.q8
  unfold s_weight
  refine q_X12_weight _ _ _ ⟨h.1.rc, (rr_isQuestion h h8 x).use ⟨fun c => (rr_isNumber z).use ⟨fun c2 => h.1.r 18 (fun _ _ _ => rfl) ?_, fun c2 => ?_⟩, fun c => ?_⟩⟩
  · have c := b2_n0.mp c
    obtain ⟨q, hq, rfl⟩ := inR_of c (by omega)
    rw [if_t c, if_t (b2_n0.mp c2), nn_i (by omega)]
    obtain ⟨eb, e16, e17, e18⟩ := h.que.2 q hq
    refine h.1.a 18 rfl rfl rfl (show q < 8 by omega) (h.1.r 18 (fun _ _ _ => rfl) (h.1.s 18 rfl rfl rfl (show q < 8 by omega) fun σ2 h2 s2 => ?_))
    have hq' : queR (zq S) (Q_set (zQ S) q ((zQ S q).1, (zQ S q).2.1, (zQ S q).2.2.1, (zQ S q).2.2.2.1, z)) (X 14) (A 15) (A 16) (A 17) (upd (A 18) q z) := by
      refine ⟨h.que.1, fun j hj => ?_⟩
      obtain ⟨jb, j16, j17, j18⟩ := h.que.2 j hj
      by_cases y : j = q
      · subst y
        rw [Q_set_at]
        exact ⟨jb, j16, j17, upd_same _ _ _⟩
      · rw [Q_set_ne _ _ y]
        exact ⟨jb, j16, j17, (upd_ne _ _ y).trans j18⟩
    exact RP.go h2 ⟨h.tab, h.ord, h.pag, hq', h.num, h.pic, h.mar⟩ s2 e18
  · rw [if_t (b2_n0.mp c), if_f (b2_0.mp c2)]; exact RP.no h
  · rw [if_f (b2_0.mp c)]; exact RP.no h
theorem rw_upkeep (h : RQ g σ R S X A hh) (z : Int32) : Do g M_X12_upkeep 0 0 [.ref (R 300), .int z] σ (RP g σ R (s_upkeep S z)) := by
  unfold s_upkeep
  refine q_X12_upkeep _ _ ((rr_isNumber z).use ⟨fun c => h.1.x 19 (fun _ _ _ => rfl) (h.1.px 19 _ (by omega) (fun _ _ _ => rfl) fun σ2 h2 s2 => ?_), fun c => ?_⟩)
  · have c := b2_n0.mp c
    obtain ⟨n, hn, rfl⟩ := inR_of c (by decide)
    rw [if_t c, nn_i (by omega)]
    exact RP.go h2 ⟨h.tab, h.ord, h.pag, h.que, ⟨rfl, h.num.2⟩, h.pic, h.mar⟩ s2 h.num.1
  · rw [if_f (b2_0.mp c)]; exact RP.no h
theorem rw_blank (h : RQ g σ R S X A hh) : Do g M_X12_blank 0 0 [.ref (R 300)] σ (RP g σ R (s_blank S)) := by
  unfold s_blank
  refine q_X12_blank _ (h.1.x 12 (fun _ _ _ => rfl) (h.1.px 12 _ (by omega) (fun _ _ _ => rfl) fun σ2 h2 s2 => ?_))
  exact RP.go h2 ⟨h.tab, h.ord, ⟨rfl, fun k hk => absurd hk (Nat.not_lt_zero _)⟩, h.que, h.num, h.pic, h.mar⟩ s2 h.pag.1
end ROD
