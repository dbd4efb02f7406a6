/-! The reference: rows set, dropped, filled; orders told, lost, packed; weights. -/
theorem cnt_tkD {tk : Nat → Bool} {s : Nat} (hs : s < 64) (ht : tk s = true) : fa_cnt tk 64 = fa_cnt (tkD tk s) 64 + 1 := by
  rw [← cnt_tkS hs (tkD_f tk s)]
  exact fa_cnt_cong fun t _ => (tkSD ht t).symm
theorem lN_32 {k : Nat} (hk : k < 2147483648) : (lN k).toInt32 = nI k := by
  refine Int32.toInt_inj.mp ?_
  rw [Int64.toInt_toInt32, pf_lI (by omega), I_n (by omega)]
  refine Int.bmod_eq_of_le (by omega) (by omega)
theorem Iv.lay {S : SS} {s : Nat} {a b c d : Int32} (v : Iv S) (hs : s < 64) (ht : zt S s = false) (ha : inR a 100 = true) (hb : inR b 100 = true) (hc : inR c 100 = true) (hd : inR d 100 = true) : Iv (s_lay S s a b c d) := ⟨v.1.lay hs ht ha hb hc hd, v.2⟩
section RST2
variable {g : GG} {σ : Hs} {R : Nat → Nat} {S : SS} {X : Nat → Int32} {A : Nat → Nat → Int32} {hh : Int64}
theorem RQ.reord {σ' : Hs} {X' : Nat → Int32} {A' : Nat → Nat → Int32} {o' : Nat} {B' : Nat → OD} (h : RQ g σ R S X A hh) (h' : RC g σ' R X' A' hh) (hA : ∀ k, k ≠ 5 → k ≠ 6 → k ≠ 7 → k ≠ 8 → k ≠ 9 → k ≠ 10 → k ≠ 11 → A' k = A k) (hX : ∀ k, k ≠ 4 → X' k = X k) (ho : ordR o' B' (X' 4) (A' 5) (A' 6) (A' 7) (A' 8) (A' 9) (A' 10) (A' 11)) : RQ g σ' R (S.1, (o', B'), S.2.2) X' A' hh := by
  have k := fun i h1 h2 h3 h4 h5 h6 h7 => hA i h1 h2 h3 h4 h5 h6 h7
  refine ⟨h', ?_, ho, ?_, ?_, ?_, ?_, ?_⟩
  · rw [k 0 (by decide) (by decide) (by decide) (by decide) (by decide) (by decide) (by decide), k 1 (by decide) (by decide) (by decide) (by decide) (by decide) (by decide) (by decide), hX 2 (by decide), hX 3 (by decide)]; exact h.tab
  · rw [k 13 (by decide) (by decide) (by decide) (by decide) (by decide) (by decide) (by decide), hX 12 (by decide)]; exact h.pag
  · rw [k 15 (by decide) (by decide) (by decide) (by decide) (by decide) (by decide) (by decide), k 16 (by decide) (by decide) (by decide) (by decide) (by decide) (by decide) (by decide), k 17 (by decide) (by decide) (by decide) (by decide) (by decide) (by decide) (by decide), k 18 (by decide) (by decide) (by decide) (by decide) (by decide) (by decide) (by decide), hX 14 (by decide)]; exact h.que
  · rw [hX 19 (by decide), hX 20 (by decide), hX 21 (by decide)]; exact h.num
  · rw [k 22 (by decide) (by decide) (by decide) (by decide) (by decide) (by decide) (by decide), k 23 (by decide) (by decide) (by decide) (by decide) (by decide) (by decide) (by decide), hX 24 (by decide)]; exact h.pic
  · rw [k 26 (by decide) (by decide) (by decide) (by decide) (by decide) (by decide) (by decide), k 27 (by decide) (by decide) (by decide) (by decide) (by decide) (by decide) (by decide), hX 25 (by decide)]; exact h.mar
theorem Each.ord {σ' : Hs} {B' : Nat → OD} {A' : Nat → Nat → Int32} (h : RQ g σ R S X A hh) (e : Each (zo S) B' A A') (hb : ∀ o, o < zo S → (B' o).1 = (zB S o).1 ∧ (B' o).2.2 = (zB S o).2.2) : ordR (zo S) B' (X 4) (A' 5) (A' 6) (A' 7) (A' 8) (A' 9) (A' 10) (A' 11) := by
  refine ⟨h.ord.1, fun o ho => ⟨?_, ?_, e.2 o ho⟩⟩
  · rw [e.1 5 (by decide) (by decide) (by decide) (by decide) (by decide), (hb o ho).1]; exact (h.ord.2 o ho).1
  · rw [e.1 6 (by decide) (by decide) (by decide) (by decide) (by decide), (hb o ho).2]; exact (h.ord.2 o ho).2.1
theorem rw_set (h : RQ g σ R S X A hh) (v : Iv S) (x y z : Int32) : Do g M_X12_set 0 0 [.ref (R 300), .int x, .int y, .int z] σ (RP g σ R (s_set S x y z)) := by
  have h8 := v.o8
  unfold s_set
  refine q_X12_set _ _ _ _ ⟨h.1.rc, (rr_isSlot h x).use ⟨fun k => ?_, fun k => (rd_inR y 3 (by decide)).use ⟨fun k2 => (rr_isNumber z).use ⟨fun k3 => h.1.r 1 (fun _ _ _ => rfl) ?_, fun k3 => ?_⟩, fun k2 => ?_⟩⟩⟩
  · rw [if_f (b2_0.mp k)]; exact RP.no h
  · have k := b2_n0.mp k
    have k2 := b2_n0.mp k2
    rw [if_t k, if_t k2, if_t (b2_n0.mp k3)]
    obtain ⟨s, hs, rfl, ht⟩ := isR_of k
    obtain ⟨j, hj, rfl⟩ := inR_of k2 (by decide)
    rw [nn_i (by omega), nn_i (by omega)]
    refine h.1.a 1 rfl rfl (i4 s j) (show _ < 256 by omega) ?_
    rw [h.tab.2.2.2 _ (by omega)]
    have loop : ∀ (d o : Nat) (σ1 : Hs) (A1 : Nat → Nat → Int32), o + d = zo S → RC g σ1 R X A1 hh → Each (zo S) (eachTo (fun _ w => goS w s) (zB S) o) A A1 → Sm R T3 σ σ1 → J_X12_set_45 g (RP g σ R (zf S (4 * s + j), zTO S (upd (zf S) (4 * s + j) z) (zt S) (B_come (upd (zf S) (4 * s + j) z) s (B_go s (zB S))))) σ1 (R 300) (nI s) (nI j) z (zf S (4 * s + j)) (nI o) := by
      intro d
      induction d with
      | zero =>
        intro o σ1 A1 ho h1 e1 s1
        have ho : o = zo S := ho
        refine q_X12_set_45 _ _ _ _ _ _ (h1.x 4 (fun _ _ _ => rfl) ?_)
        rw [h.ord.1]
        refine ⟨fun _ => h1.r 1 (fun _ _ _ => rfl) (h1.s 1 rfl rfl (i4 s j) (show _ < 256 by omega) fun σ2 h2 s2 => ⟨h2.rc, ?_⟩), fun c => absurd (nI_le (by omega) (by omega)) c⟩
        rw [ho] at e1
        have e1 := e1.ends
        have b1 : BIn (zf S) (tkD (zt S) s) (zo S) (B_go s (zB S)) := v.1.1.1.go hs ht
        have bb2 := b1.u1 (v := z) (tkD_f (zt S) s) hj
        have kk := fun i h1 h2 h3 h4 h5 => e1.1 i h1 h2 h3 h4 h5
        have es := fun o => eachO_same (F := fun _ w => goS w s) (B := zB S) o
        have hc : ∀ k, k < 256 → upd (A1 1) (4 * s + j) z k = upd (zf S) (4 * s + j) z k := by
          intro k hk
          by_cases c : k = 4 * s + j
          · rw [c, upd_same, upd_same]
          · rw [upd_ne _ _ c, upd_ne _ _ c, kk 1 (by decide) (by decide) (by decide) (by decide) (by decide)]
            exact h.tab.2.2.2 k hk
        refine Do.mono (wr_comeIntoAll (told := zo S) (B := B_go s (zB S)) (f := upd (zf S) (4 * s + j) z) (tk := tkD (zt S) s) h2 h.ord.1 v.o8 hc (fun o ho => ?_) (fun o ho => e1.2 o ho) bb2 hs (tkD_f _ _)) ?_
        · refine ⟨?_, ?_⟩
          · show A1 5 o = _
            rw [kk 5 (by decide) (by decide) (by decide) (by decide) (by decide)]
            exact (h.ord.2 o ho).1.trans (congrArg nI (es o).1.symm)
          · show A1 6 o = _
            rw [kk 6 (by decide) (by decide) (by decide) (by decide) (by decide)]
            exact (h.ord.2 o ho).2.1.trans (congrArg b2 (es o).2.symm)
        · rintro vv σ3 ⟨rfl, A3, h3, e3, s3⟩
          have k3 := fun i h1 h2 h3 h4 h5 => (e3.1 i h1 h2 h3 h4 h5)
          have es2 := fun o => eachO_same (F := fun key w => comeS (upd (zf S) (4 * s + j) z) key w s) (B := B_go s (zB S)) o
          refine ⟨rfl, _, rfl, rfl, ⟨X, A3, hh, h3, ⟨h.tab.1, h.tab.2.1, ?_, ?_⟩, ⟨h.ord.1, fun o ho => ⟨?_, ?_, e3.2 o ho⟩⟩, ?_, ?_, h.num, ?_, ?_⟩, (s1.trans s2).trans s3⟩
          · rw [k3 0 (by decide) (by decide) (by decide) (by decide) (by decide)]
            show ∀ t, t < 64 → A1 0 t = _
            rw [kk 0 (by decide) (by decide) (by decide) (by decide) (by decide)]
            exact h.tab.2.2.1
          · rw [k3 1 (by decide) (by decide) (by decide) (by decide) (by decide)]
            exact hc
          · rw [k3 5 (by decide) (by decide) (by decide) (by decide) (by decide)]
            show A1 5 o = _
            rw [kk 5 (by decide) (by decide) (by decide) (by decide) (by decide)]
            exact (h.ord.2 o ho).1.trans (congrArg nI ((es2 o).1.trans (es o).1).symm)
          · rw [k3 6 (by decide) (by decide) (by decide) (by decide) (by decide)]
            show A1 6 o = _
            rw [kk 6 (by decide) (by decide) (by decide) (by decide) (by decide)]
            exact (h.ord.2 o ho).2.1.trans (congrArg b2 ((es2 o).2.trans (es o).2).symm)
          · rw [k3 13 (by decide) (by decide) (by decide) (by decide) (by decide)]
            show pagR _ _ _ (A1 13)
            rw [kk 13 (by decide) (by decide) (by decide) (by decide) (by decide)]
            exact h.pag
          · rw [k3 15 (by decide) (by decide) (by decide) (by decide) (by decide), k3 16 (by decide) (by decide) (by decide) (by decide) (by decide), k3 17 (by decide) (by decide) (by decide) (by decide) (by decide), k3 18 (by decide) (by decide) (by decide) (by decide) (by decide)]
            show queR _ _ _ (A1 15) (A1 16) (A1 17) (A1 18)
            rw [kk 15 (by decide) (by decide) (by decide) (by decide) (by decide), kk 16 (by decide) (by decide) (by decide) (by decide) (by decide), kk 17 (by decide) (by decide) (by decide) (by decide) (by decide), kk 18 (by decide) (by decide) (by decide) (by decide) (by decide)]
            exact h.que
          · rw [k3 22 (by decide) (by decide) (by decide) (by decide) (by decide), k3 23 (by decide) (by decide) (by decide) (by decide) (by decide)]
            show picR _ _ _ (A1 22) (A1 23)
            rw [kk 22 (by decide) (by decide) (by decide) (by decide) (by decide), kk 23 (by decide) (by decide) (by decide) (by decide) (by decide)]
            exact h.pic
          · rw [k3 26 (by decide) (by decide) (by decide) (by decide) (by decide), k3 27 (by decide) (by decide) (by decide) (by decide) (by decide)]
            show marR _ _ _ (A1 26) (A1 27)
            rw [kk 26 (by decide) (by decide) (by decide) (by decide) (by decide), kk 27 (by decide) (by decide) (by decide) (by decide) (by decide)]
            exact h.mar
      | succ d ih =>
        intro o σ1 A1 ho h1 e1 s1
        have e6 : A1 6 o = b2 (zB S o).2.2 := by rw [e1.1 6 (by decide) (by decide) (by decide) (by decide) (by decide)]; exact (h.ord.2 o (by omega)).2.1
        refine q_X12_set_45 _ _ _ _ _ _ (h1.x 4 (fun _ _ _ => rfl) ?_)
        rw [h.ord.1]
        refine ⟨fun c => absurd ((nI_leI (by omega) (by omega)).mp c) (by omega), fun _ => h1.r 6 (fun _ _ _ => rfl) (h1.a 6 rfl rfl rfl (show o < 8 by omega) ?_)⟩
        rw [e6, nI_1]
        refine ⟨fun c => ih (o + 1) σ1 A1 (by omega) h1 (e1.lost (b2_n0.mp c)) s1, fun c => ⟨h1.rc, ?_⟩⟩
        have c := b2_0.mp c
        have oo := e1.2 o (by omega)
        rw [eachTo_ge (Nat.le_refl o)] at oo
        refine Do.mono (wr_goFrom h1 (by omega) oo (v.oi (show o < zo S by omega) c) hs ht) ?_
        rintro vv σ2 ⟨rfl, A2, h2, oa2, f2, s2⟩
        exact ⟨rfl, ih (o + 1) σ2 A2 (by omega) h2 (e1.go c (fun j hj => v.os hj) (fun j hj z => (goS_in (v.oi hj z) hs ht).1) oa2 f2) (s1.trans s2)⟩
    exact loop (zo S) 0 σ A (by omega) h.1 (Each.start fun o ho => (h.ord.2 o ho).2.2) Sm.refl
  · rw [if_t (b2_n0.mp k), if_t (b2_n0.mp k2), if_f (b2_0.mp k3)]; exact RP.no h
  · rw [if_t (b2_n0.mp k), if_f (b2_0.mp k2)]; exact RP.no h
theorem rw_drop (h : RQ g σ R S X A hh) (v : Iv S) (x : Int32) : Do g M_X12_drop 0 0 [.ref (R 300), .int x] σ (RP g σ R (s_drop S x)) := by
  have h8 := v.o8
  unfold s_drop
  refine q_X12_drop _ _ ⟨h.1.rc, (rr_isSlot h x).use ⟨fun k => ?_, fun k => ?_⟩⟩
  · have k := b2_n0.mp k
    rw [if_t k]
    obtain ⟨s, hs, rfl, ht⟩ := isR_of k
    rw [nn_i (by omega)]
    have loop : ∀ (d o : Nat) (σ1 : Hs) (A1 : Nat → Nat → Int32), o + d = zo S → RC g σ1 R X A1 hh → Each (zo S) (eachTo (fun _ w => goS w s) (zB S) o) A A1 → Sm R T3 σ σ1 → J_X12_drop_13 g (RP g σ R (nI (fa_cnt (tkD (zt S) s) 64), zTO S (zf S) (tkD (zt S) s) (B_go s (zB S)))) σ1 (R 300) (nI s) (nI o) := by
      intro d
      induction d with
      | zero =>
        intro o σ1 A1 ho h1 e1 s1
        have ho : o = zo S := ho
        refine q_X12_drop_13 _ _ _ (h1.x 4 (fun _ _ _ => rfl) ?_)
        rw [h.ord.1]
        have hcn := cnt_tkD hs ht
        refine ⟨fun _ => h1.r 0 (fun _ _ _ => rfl) (h1.s 0 rfl rfl rfl (show s < 64 from hs) fun σ2 h2 s2 => h2.x 2 (fun _ _ _ => rfl) (h2.px 2 _ (by omega) (fun _ _ _ => rfl) fun σ3 h3 s3 => h3.x 2 (fun _ _ _ => rfl) ?_)), fun c => absurd (nI_le (by omega) (by omega)) c⟩
        rw [ho] at e1
        have e1 := e1.ends
        have kk := fun i h1 h2 h3 h4 h5 => e1.1 i h1 h2 h3 h4 h5
        have es := fun o => eachO_same (F := fun _ w => goS w s) (B := zB S) o
        have ex : X 2 - 1 = nI (fa_cnt (tkD (zt S) s) 64) := by rw [h.tab.1, hcn, nI_s1 (by omega)]; rfl
        refine ⟨_, rfl, ex, ⟨_, _, hh, h3, ⟨ex, h.tab.2.1, fun t htt => ?_, ?_⟩, ⟨h.ord.1, fun o ho => ⟨?_, ?_, e1.2 o ho⟩⟩, ?_, ?_, h.num, ?_, ?_⟩, (s1.trans s2).trans s3⟩
        · show upd (A1 0) s (vp_nar .boolean 0) t = b2 (tkD (zt S) s t)
          rw [kk 0 (by decide) (by decide) (by decide) (by decide) (by decide)]
          by_cases c : t = s
          · subst c
            rw [upd_same, tkD_f]; rfl
          · rw [upd_ne _ _ c]
            unfold tkD
            rw [decide_eq_false c, Bool.not_false, Bool.and_true]
            exact h.tab.2.2.1 t htt
        · show ∀ k, k < 256 → A1 1 k = _
          rw [kk 1 (by decide) (by decide) (by decide) (by decide) (by decide)]
          exact h.tab.2.2.2
        · show A1 5 o = _
          rw [kk 5 (by decide) (by decide) (by decide) (by decide) (by decide)]
          exact (h.ord.2 o ho).1.trans (congrArg nI (es o).1.symm)
        · show A1 6 o = _
          rw [kk 6 (by decide) (by decide) (by decide) (by decide) (by decide)]
          exact (h.ord.2 o ho).2.1.trans (congrArg b2 (es o).2.symm)
        · show pagR _ _ _ (A1 13)
          rw [kk 13 (by decide) (by decide) (by decide) (by decide) (by decide)]
          exact h.pag
        · show queR _ _ _ (A1 15) (A1 16) (A1 17) (A1 18)
          rw [kk 15 (by decide) (by decide) (by decide) (by decide) (by decide), kk 16 (by decide) (by decide) (by decide) (by decide) (by decide), kk 17 (by decide) (by decide) (by decide) (by decide) (by decide), kk 18 (by decide) (by decide) (by decide) (by decide) (by decide)]
          exact h.que
        · show picR _ _ _ (A1 22) (A1 23)
          rw [kk 22 (by decide) (by decide) (by decide) (by decide) (by decide), kk 23 (by decide) (by decide) (by decide) (by decide) (by decide)]
          exact h.pic
        · show marR _ _ _ (A1 26) (A1 27)
          rw [kk 26 (by decide) (by decide) (by decide) (by decide) (by decide), kk 27 (by decide) (by decide) (by decide) (by decide) (by decide)]
          exact h.mar
      | succ d ih =>
        intro o σ1 A1 ho h1 e1 s1
        have e6 : A1 6 o = b2 (zB S o).2.2 := by rw [e1.1 6 (by decide) (by decide) (by decide) (by decide) (by decide)]; exact (h.ord.2 o (by omega)).2.1
        refine q_X12_drop_13 _ _ _ (h1.x 4 (fun _ _ _ => rfl) ?_)
        rw [h.ord.1]
        refine ⟨fun c => absurd ((nI_leI (by omega) (by omega)).mp c) (by omega), fun _ => h1.r 6 (fun _ _ _ => rfl) (h1.a 6 rfl rfl rfl (show o < 8 by omega) ?_)⟩
        rw [e6, nI_1]
        refine ⟨fun c => ih (o + 1) σ1 A1 (by omega) h1 (e1.lost (b2_n0.mp c)) s1, fun c => ⟨h1.rc, ?_⟩⟩
        have c := b2_0.mp c
        have oo := e1.2 o (by omega)
        rw [eachTo_ge (Nat.le_refl o)] at oo
        refine Do.mono (wr_goFrom h1 (by omega) oo (v.oi (show o < zo S by omega) c) hs ht) ?_
        rintro vv σ2 ⟨rfl, A2, h2, oa2, f2, s2⟩
        exact ⟨rfl, ih (o + 1) σ2 A2 (by omega) h2 (e1.go c (fun j hj => v.os hj) (fun j hj z => (goS_in (v.oi hj z) hs ht).1) oa2 f2) (s1.trans s2)⟩
    exact loop (zo S) 0 σ A (by omega) h.1 (Each.start fun o ho => (h.ord.2 o ho).2.2) Sm.refl
  · rw [if_f (b2_0.mp k)]; exact RP.no h
theorem rw_wide (h : RQ g σ R S X A hh) (x : Int32) : Do g M_X12_wide 0 0 [.ref (R 300), .int x] σ (RP g σ R (s_wide S x)) := by
  unfold s_wide
  refine q_X12_wide _ _ ((rd_in x 2 8 (by decide) (by decide)).use ⟨fun c => h.1.x 3 (fun _ _ _ => rfl) (h.1.px 3 _ (by omega) (fun _ _ _ => rfl) fun σ2 h2 s2 => ?_), fun c => ?_⟩)
  · have c0 := b2_n0.mp c
    have c := of_decide_eq_true c0
    obtain ⟨n, hn, rfl⟩ := I_of (x := x) (n := 9) (by omega) (by omega) (by decide)
    rw [if_t c0, nn_i (by omega)]
    exact RP.go h2 ⟨⟨h.tab.1, rfl, h.tab.2.2⟩, h.ord, h.pag, h.que, h.num, h.pic, h.mar⟩ s2 h.tab.2.1
  · rw [if_f (b2_0.mp c)]; exact RP.no h
theorem wr_next {k m : Nat} (h : RQ g σ R S X A hh) (hx : X 28 = nI k) (hk : k < 2147483648) (hm : 0 < m) (hm2 : m ≤ 100) {φ : Int32 → Hs → Prop} (z : ∀ σ' X', RQ g σ' R S X' A hh → X' 28 = nI (sdN k) → Sm R T3 σ σ' → φ (nmN m (sdN k)) σ') : Do g M_X12_nextNumber 0 0 [.ref (R 300), .int (nI m)] σ (kI φ) := by
  have hsd := sdN_lt k
  refine q_X12_nextNumber _ _ (h.1.x 28 (fun _ _ _ => rfl) (h.1.px 28 _ (by omega) (fun _ _ _ => rfl) fun σ2 h2 s2 => h2.x 28 (fun _ _ _ => rfl) ?_))
  have e : upd X 28 ((((1103515245 : Int64) * (X 28).toInt64) + 12345) &&& 2147483647).toInt32 28 = nI (sdN k) := by
    rw [upd_same, hx, lN_nI (by omega), lNx hk, lN_32 hsd]
  rw [e, show nI (sdN k) / 65536 = nI (sdN k / 65536) from pk_div (d := 65536) (by omega) (by decide) (by decide), pk_rem (d := m) (by omega) hm (by omega)]
  refine ⟨fun y => absurd ((nI_eq (b := 0) (by omega) (by decide)).mp y) (by omega), _, rfl, ?_⟩
  exact z σ2 _ ⟨h2, ⟨h.tab, h.ord, h.pag, h.que, h.num, h.pic, h.mar⟩⟩ e s2
theorem rw_fill (h : RQ g σ R S X A hh) (v : Iv S) (x n m : Int32) : Do g M_X12_fill 0 0 [.ref (R 300), .int x, .int n, .int m] σ (RP g σ R (s_fill S x n m)) := by
  unfold s_fill
  refine q_X12_fill _ _ _ _ ⟨fun c => ?_, fun c => (rd_in n 1 64 (by decide) (by decide)).use ⟨fun c2 => ?_, fun c2 => (rd_in m 1 100 (by decide) (by decide)).use ⟨fun c3 => h.1.px 28 _ (by omega) (fun _ _ _ => rfl) fun σ2 h2 s2 => ?_, fun c3 => ?_⟩⟩⟩
  · rw [if_f (inR_lo c)]; exact RP.no h
  · rw [if_f (b2_0.mp c2)]
    split <;> exact RP.no h
  · have c := nlt_n (n := 0) (by decide) c
    have c0 : inR x 2147483648 = true := decide_eq_true ⟨by omega, by have := Int32.toInt_lt x; omega⟩
    have c2' := b2_n0.mp c2
    have c3' := b2_n0.mp c3
    rw [if_t c0, if_t c2', if_t c3']
    have c2 := of_decide_eq_true c2'
    have c3 := of_decide_eq_true c3'
    obtain ⟨k, hk, rfl⟩ := inR_of c0 (by decide)
    obtain ⟨n, hn, rfl⟩ := I_of (x := n) (n := 65) (by omega) (by omega) (by decide)
    obtain ⟨m, hm, rfl⟩ := I_of (x := m) (n := 101) (by omega) (by omega) (by decide)
    rw [I_n (by omega)] at c2 c3
    rw [nn_i (by omega), nn_i (by omega), nn_i (by omega)]
    have loop : ∀ (d came k : Nat) (S1 : SS) (σ1 : Hs) (X1 : Nat → Int32) (A1 : Nat → Nat → Int32), came + d = n → k < 2147483648 → RQ g σ1 R S1 X1 A1 hh → X1 28 = nI k → Iv S1 → Sm R T3 σ σ1 → J_X12_fill_35 g (RP g σ R (nI (s_fl m d S1 k came).1, (s_fl m d S1 k came).2)) σ1 (R 300) (nI n) (nI m) (nI came) := by
      intro d
      induction d with
      | zero =>
        intro came k S1 σ1 X1 A1 hd hk h1 x1 v1 s1
        exact q_X12_fill_35 _ _ _ _ ⟨fun _ => ⟨_, rfl, rfl, ⟨X1, A1, hh, h1⟩, s1⟩, fun c => absurd (nI_le (by omega) (by omega)) c⟩
      | succ d ih =>
        intro came k S1 σ1 X1 A1 hd hk h1 x1 v1 s1
        have hle := fa_cnt_le (zt S1) 64
        rw [s_fl_s]
        refine q_X12_fill_35 _ _ _ _ ⟨fun c => absurd ((nI_leI (by omega) (by omega)).mp c) (by omega), fun _ => h1.1.x 2 (fun _ _ _ => rfl) ?_⟩
        rw [h1.tab.1]
        refine ⟨fun c => ?_, fun c => ⟨h1.1.rc, ?_⟩⟩
        · have c := (nI_leI (a := 64) (by decide) (by omega)).mp c
          rw [if_neg (fun z => (emp_iff S1).mp z (by omega))]
          exact ⟨_, rfl, rfl, ⟨X1, A1, hh, h1⟩, s1⟩
        · have c : ¬ 64 ≤ fa_cnt (zt S1) 64 := fun z => c (nI_le (a := 64) z (by omega))
          have he : s_emp S1 < 64 := (emp_iff S1).mpr (by omega)
          rw [if_pos he]
          refine wr_next h1 x1 hk (by omega) (by omega) fun σ2 X2 h2 x2 s2 => ⟨h2.1.rc, wr_next h2 x2 (sdN_lt _) (by omega) (by omega) fun σ3 X3 h3 x3 s3 => ⟨h3.1.rc, wr_next h3 x3 (sdN_lt _) (by omega) (by omega) fun σ4 X4 h4 x4 s4 => ⟨h4.1.rc, wr_next h4 x4 (sdN_lt _) (by omega) (by omega) fun σ5 X5 h5 x5 s5 => ⟨h5.1.rc, (rr_emptySlot h5 he).use ⟨h5.1.rc, Do.mono (wr_lay h5 v1 he (s_emp_f he)) ?_⟩⟩⟩⟩⟩
          rintro vv σ6 ⟨rfl, X6, A6, h6, x6, s6⟩
          refine ⟨rfl, ?_⟩
          rw [nI_1]
          exact ih (came + 1) _ _ σ6 X6 A6 (by omega) (sdN_lt _) h6 (x6.trans x5) (v1.lay he (s_emp_f he) (nmN_in (by omega) (by omega)) (nmN_in (by omega) (by omega)) (nmN_in (by omega) (by omega)) (nmN_in (by omega) (by omega))) (((((s1.trans s2).trans s3).trans s4).trans s5).trans s6)
    exact loop n 0 k S σ2 _ A (by omega) hk ⟨h2, ⟨h.tab, h.ord, h.pag, h.que, h.num, h.pic, h.mar⟩⟩ (upd_same _ _ _) v s2
  · have c := nlt_n (n := 0) (by decide) c
    rw [if_t (show inR x 2147483648 = true from decide_eq_true ⟨by omega, by have := Int32.toInt_lt x; omega⟩), if_t (b2_n0.mp c2), if_f (b2_0.mp c3)]; exact RP.no h
end RST2
