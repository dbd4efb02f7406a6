/-! The reference: rows. -/
def eachTo (F : Nat → OS → OS) (B : Nat → OD) (k : Nat) : Nat → OD := fun j => if j < k then eachO F B j else B j
/-- only orders' entries changed, and they are B's -/
def Each (told : Nat) (B : Nat → OD) (A A' : Nat → Nat → Int32) : Prop := (∀ k, k ≠ 7 → k ≠ 8 → k ≠ 9 → k ≠ 10 → k ≠ 11 → A' k = A k) ∧ ∀ j, j < told → OA j (B j).2.1 A'
theorem eachTo_lt {F : Nat → OS → OS} {B : Nat → OD} {j k : Nat} (h : j < k) : eachTo F B k j = eachO F B j := if_pos h
theorem eachTo_ge {F : Nat → OS → OS} {B : Nat → OD} {j k : Nat} (h : k ≤ j) : eachTo F B k j = B j := if_neg (by omega)
theorem Each.start {told : Nat} {F : Nat → OS → OS} {B : Nat → OD} {A : Nat → Nat → Int32} (h : ∀ j, j < told → OA j (B j).2.1 A) : Each told (eachTo F B 0) A A := ⟨fun _ _ _ _ _ _ => rfl, fun j hj => by rw [eachTo_ge (Nat.zero_le j)]; exact h j hj⟩
theorem Each.ends {told : Nat} {F : Nat → OS → OS} {B : Nat → OD} {A A' : Nat → Nat → Int32} (h : Each told (eachTo F B told) A A') : Each told (eachO F B) A A' := ⟨h.1, fun j hj => by have := h.2 j hj; rw [eachTo_lt hj] at this; exact this⟩
theorem Each.lost {told k : Nat} {F : Nat → OS → OS} {B : Nat → OD} {A A' : Nat → Nat → Int32} (h : Each told (eachTo F B k) A A') (hd : (B k).2.2 = true) : Each told (eachTo F B (k + 1)) A A' := ⟨h.1, fun j hj => by
  have := h.2 j hj
  by_cases c : j < k
  · rw [eachTo_lt c] at this
    rw [eachTo_lt (by omega)]; exact this
  · rw [eachTo_ge (by omega)] at this
    by_cases c2 : j = k
    · subst c2
      rw [eachTo_lt (by omega), eachO_dd hd]; exact this
    · rw [eachTo_ge (by omega)]; exact this⟩
theorem Each.go {told k : Nat} {F : Nat → OS → OS} {B : Nat → OD} {A A1 A2 : Nat → Nat → Int32} (h : Each told (eachTo F B k) A A1) (hd : (B k).2.2 = false) (s1 : ∀ j, j < told → OSok (B j).2.1) (s2 : ∀ j, j < told → (B j).2.2 = false → OSok (F (B j).1 (B j).2.1)) (oa : OA k (F (B k).1 (B k).2.1) A2) (f : Ofr k A1 A2) : Each told (eachTo F B (k + 1)) A A2 := ⟨fun i h1 h2 h3 h4 h5 => (f.1 i h1 h2 h3 h4 h5).trans (h.1 i h1 h2 h3 h4 h5), fun j hj => by
  have h1 := h.2 j hj
  by_cases c2 : j = k
  · subst c2
    rw [eachTo_lt (by omega), eachO_at hd]; exact oa
  · have ok : OSok (eachTo F B k j).2.1 := by
      by_cases c : j < k
      · rw [eachTo_lt c]
        rcases Bool.eq_false_or_eq_true (B j).2.2 with z | z
        · rw [eachO_dd z]; exact s1 j hj
        · rw [eachO_at z]; exact s2 j hj z
      · rw [eachTo_ge (by omega)]; exact s1 j hj
    have e : eachTo F B (k + 1) j = eachTo F B k j := by
      by_cases c : j < k
      · rw [eachTo_lt c, eachTo_lt (by omega)]
      · rw [eachTo_ge (by omega), eachTo_ge (by omega)]
    rw [e]
    have := ok.l_le
    have := ok.1
    exact h1.fr f c2 (by omega) (by omega)⟩
def EP (g : GG) (σ : Hs) (R : Nat → Nat) (X : Nat → Int32) (hh : Int64) (told : Nat) (B : Nat → OD) (A : Nat → Nat → Int32) : Option Value → Hs → Prop := kV fun σ' => ∃ A', RC g σ' R X A' hh ∧ Each told B A A' ∧ Sm R T3 σ σ'
theorem fa_cnt_full {p : Nat → Bool} : ∀ n, fa_cnt p n = n ↔ ∀ k, k < n → p k = true
  | 0 => ⟨fun _ k hk => absurd hk (by omega), fun _ => rfl⟩
  | n + 1 => by
    have ih := fa_cnt_full (p := p) n
    have hl := fa_cnt_le p n
    rcases Bool.eq_false_or_eq_true (p n) with z | z
    · rw [fa_cnt_yes z]
      constructor
      · intro h k hk
        by_cases c : k = n
        · rw [c]; exact z
        · exact ih.mp (by omega) k (by omega)
      · intro h
        have := ih.mpr (fun k hk => h k (by omega))
        omega
    · rw [fa_cnt_no z]
      constructor
      · intro h; omega
      · intro h
        have := h n (by omega)
        rw [z] at this
        cases this
section RRW
variable {g : GG} {σ : Hs} {R : Nat → Nat} {S : SS} {X : Nat → Int32} {A : Nat → Nat → Int32} {hh : Int64} {f : Nat → Int32} {tk : Nat → Bool} {told : Nat} {B : Nat → OD}
theorem wr_comeIntoAll {s : Nat} (h : RC g σ R X A hh) (h4 : X 4 = nI told) (h8 : told ≤ 8) (ha : ∀ k, k < 256 → A 1 k = f k) (h56 : ∀ o, o < told → A 5 o = nI (B o).1 ∧ A 6 o = b2 (B o).2.2) (oa : ∀ o, o < told → OA o (B o).2.1 A) (bi : BIn f tk told B) (hs : s < 64) (ht : tk s = false) : Do g M_X12_comeIntoAll 0 0 [.ref (R 300), .int (nI s)] σ (EP g σ R X hh told (B_come f s B) A) := by
  have loop : ∀ (d o : Nat) (σ1 : Hs) (A1 : Nat → Nat → Int32), o + d = told → RC g σ1 R X A1 hh → Each told (eachTo (fun key w => comeS f key w s) B o) A A1 → Sm R T3 σ σ1 → J_X12_comeIntoAll_2 g (EP g σ R X hh told (B_come f s B) A) σ1 (R 300) (nI s) (nI o) := by
    intro d
    induction d with
    | zero =>
      intro o σ1 A1 ho h1 e1 s1
      have ho : o = told := ho
      refine q_X12_comeIntoAll_2 _ _ _ (h1.x 4 (fun _ _ _ => rfl) ?_)
      rw [h4]
      refine ⟨fun _ => ⟨rfl, A1, h1, ?_, s1⟩, fun c => absurd (nI_le (by omega) (by omega)) c⟩
      rw [ho] at e1
      exact e1.ends
    | succ d ih =>
      intro o σ1 A1 ho h1 e1 s1
      have e6 : A1 6 o = b2 (B o).2.2 := by rw [e1.1 6 (by decide) (by decide) (by decide) (by decide) (by decide)]; exact (h56 o (by omega)).2
      refine q_X12_comeIntoAll_2 _ _ _ (h1.x 4 (fun _ _ _ => rfl) ?_)
      rw [h4]
      refine ⟨fun c => absurd ((nI_leI (by omega) (by omega)).mp c) (by omega), fun _ => h1.r 6 (fun _ _ _ => rfl) (h1.a 6 rfl rfl rfl (show o < 8 by omega) ?_)⟩
      rw [e6, nI_1]
      refine ⟨fun c => ih (o + 1) σ1 A1 (by omega) h1 (e1.lost (b2_n0.mp c)) s1, fun c => ⟨h1.rc, ?_⟩⟩
      have c := b2_0.mp c
      have hin := (bi o (by omega)).2.2 c
      have oo := e1.2 o (by omega)
      rw [eachTo_ge (Nat.le_refl o)] at oo
      refine Do.mono (wr_comeInto h1 (by omega) (fun k hk => by rw [e1.1 1 (by decide) (by decide) (by decide) (by decide) (by decide)]; exact ha k hk) (bi o (by omega)).1 (by rw [e1.1 5 (by decide) (by decide) (by decide) (by decide) (by decide)]; exact (h56 o (by omega)).1) oo hin hs ht) ?_
      rintro v σ2 ⟨rfl, A2, h2, oa2, f2, s2⟩
      exact ⟨rfl, ih (o + 1) σ2 A2 (by omega) h2 (e1.go c bi.ok (fun j hj z => (comeS_in ((bi j hj).2.2 z) hs ht).1) oa2 f2) (s1.trans s2)⟩
  exact q_X12_comeIntoAll _ _ (loop told 0 σ A (by omega) h (Each.start oa) Sm.refl)
theorem RS.ords {X' : Nat → Int32} (h : RQ g σ R S X A hh) : (∀ o, o < zo S → A 5 o = nI (zB S o).1 ∧ A 6 o = b2 (zB S o).2.2) ∧ ∀ o, o < zo S → OA o (zB S o).2.1 A := ⟨fun o ho => ⟨(h.ord.2 o ho).1, (h.ord.2 o ho).2.1⟩, fun o ho => (h.ord.2 o ho).2.2⟩
theorem eachO_same {F : Nat → OS → OS} {B : Nat → OD} (o : Nat) : (eachO F B o).1 = (B o).1 ∧ (eachO F B o).2.2 = (B o).2.2 := by
  rcases Bool.eq_false_or_eq_true (B o).2.2 with z | z
  · rw [eachO_dd z]; exact ⟨rfl, rfl⟩
  · rw [eachO_at z]; exact ⟨rfl, rfl⟩
theorem rr_emptySlot (h : RQ g σ R S X A hh) (he : s_emp S < 64) : Rd g M_X12_emptySlot [.ref (R 300)] σ (nI (s_emp S)) := by
  have loop : ∀ (d s : Nat), s + d = s_emp S → J_X12_emptySlot_2 g (kI fun x σ' => σ' = σ ∧ x = nI (s_emp S)) σ (R 300) (nI s) := by
    intro d
    induction d with
    | zero =>
      intro s hs
      have hs : s = s_emp S := hs
      refine q_X12_emptySlot_2 _ _ (h.1.r 0 (fun _ _ _ => rfl) (h.1.a 0 rfl rfl rfl (show s < 64 by omega) ?_))
      rw [h.tab.2.2.1 s (by omega), hs, s_emp_f he]
      exact ⟨fun _ => rd_i rfl, fun c => absurd rfl c⟩
    | succ d ih =>
      intro s hs
      refine q_X12_emptySlot_2 _ _ (h.1.r 0 (fun _ _ _ => rfl) (h.1.a 0 rfl rfl rfl (show s < 64 by omega) ?_))
      have := fa_first_no (fun s => !zt S s) 64 s (by show s < s_emp S; omega)
      have z : zt S s = true := by cases hz : zt S s <;> simp_all
      rw [h.tab.2.2.1 s (by omega), z, nI_1]
      exact ⟨fun c => absurd c (by decide), fun _ => ih (s + 1) (by omega)⟩
  exact q_X12_emptySlot _ (loop (s_emp S) 0 (by omega))
theorem emp_iff (S : SS) : s_emp S < 64 ↔ fa_cnt (zt S) 64 ≠ 64 := by
  constructor
  · intro h z
    have := (fa_cnt_full 64).mp z (s_emp S) h
    rw [s_emp_f h] at this
    cases this
  · intro h
    have hle : s_emp S ≤ 64 := fa_first_le _ _
    refine Nat.lt_of_le_of_ne hle fun z => h ((fa_cnt_full 64).mpr fun k hk => ?_)
    have := fa_first_no (fun s => !zt S s) 64 k (by show k < s_emp S; omega)
    cases hz : zt S k <;> simp_all
theorem i40 (s : Nat) : 4 * nI s = nI (4 * s + 0) := pk_mul 4 s
theorem cnt_tkS {tk : Nat → Bool} {s : Nat} (hs : s < 64) (ht : tk s = false) : fa_cnt (tkS tk s) 64 = fa_cnt tk 64 + 1 := by
  have := fa_cnt_add (Q := tk) (x := s) 64
  rw [if_pos ⟨hs, ht⟩] at this
  exact this
theorem wr_lay {s : Nat} {a b c d : Int32} (h : RQ g σ R S X A hh) (v : Iv S) (hs : s < 64) (ht : zt S s = false) : Do g M_X12_lay 0 0 [.ref (R 300), .int (nI s), .int a, .int b, .int c, .int d] σ (kV fun σ' => ∃ X' A', RQ g σ' R (s_lay S s a b c d) X' A' hh ∧ X' 28 = X 28 ∧ Sm R T3 σ σ') := by
  obtain ⟨t1, t2, t3, t4⟩ := h.tab
  obtain ⟨o56, oa⟩ := RS.ords (X' := X) h
  have bi := BIn.f4 (a := a) (b := b) (c := c) (d := d) v.1.1.1 ht
  refine q_X12_lay _ _ _ _ _ _ (h.1.r 0 (fun _ _ _ => rfl) (h.1.s 0 rfl rfl rfl (show s < 64 from hs) fun σ1 h1 s1 => h1.r 1 (fun _ _ _ => rfl) (h1.s 1 rfl rfl (i40 s) (show 4 * s + 0 < 256 by omega) fun σ2 h2 s2 => h2.r 1 (fun _ _ _ => rfl) (h2.s 1 rfl rfl (show 4 * nI s + 1 = nI (4 * s + 1) by rw [i40, nI_1]) (show 4 * s + 1 < 256 by omega) fun σ3 h3 s3 => h3.r 1 (fun _ _ _ => rfl) (h3.s 1 rfl rfl (show 4 * nI s + 2 = nI (4 * s + 2) by rw [i40]; exact nI_add _ 2) (show 4 * s + 2 < 256 by omega) fun σ4 h4 s4 => h4.r 1 (fun _ _ _ => rfl) (h4.s 1 rfl rfl (show 4 * nI s + 3 = nI (4 * s + 3) by rw [i40]; exact nI_add _ 3) (show 4 * s + 3 < 256 by omega) fun σ5 h5 s5 => h5.x 2 (fun _ _ _ => rfl) (h5.px 2 _ (by omega) (fun _ _ _ => rfl) fun σ6 h6 s6 => ⟨h6.rc, ?_⟩)))))))
  have hc1 : ∀ k, k < 256 → upd (upd (upd (upd (A 1) (4 * s + 0) a) (4 * s + 1) b) (4 * s + 2) c) (4 * s + 3) d k = f4 (zf S) s a b c d k := by
    intro k hk
    have e1 := t4 k hk
    unfold f4
    by_cases c3 : k = 4 * s + 3
    · rw [c3, upd_same, upd_same]
    · rw [upd_ne _ _ c3, upd_ne _ _ c3]
      by_cases c2 : k = 4 * s + 2
      · rw [c2, upd_same, upd_same]
      · rw [upd_ne _ _ c2, upd_ne _ _ c2]
        by_cases c1 : k = 4 * s + 1
        · rw [c1, upd_same, upd_same]
        · rw [upd_ne _ _ c1, upd_ne _ _ c1]
          by_cases c0 : k = 4 * s + 0
          · rw [c0, upd_same, upd_same]
          · rw [upd_ne _ _ c0, upd_ne _ _ c0]
            exact e1
  refine Do.mono (wr_comeIntoAll (told := zo S) (B := zB S) (f := f4 (zf S) s a b c d) (tk := zt S) h6 h.ord.1 v.o8 hc1 o56 oa bi hs ht) ?_
  rintro vv σ7 ⟨rfl, A7, h7, e7, s7⟩
  have k := fun i h1 h2 h3 h4 h5 => e7.1 i h1 h2 h3 h4 h5
  refine ⟨rfl, rfl, _, A7, ⟨h7, ⟨?_, t2, fun t htt => ?_, fun j hj => ?_⟩, ⟨h.ord.1, fun o ho => ?_⟩, ?_, ?_, h.num, ?_, ?_⟩, rfl, (((((s1.trans s2).trans s3).trans s4).trans s5).trans s6).trans s7⟩
  · show X 2 + 1 = nI (fa_cnt (tkS (zt S) s) 64)
    rw [t1, nI_1, cnt_tkS hs ht]
  · rw [k 0 (by decide) (by decide) (by decide) (by decide) (by decide)]
    show upd (A 0) s (vp_nar .boolean 1) t = b2 (tkS (zt S) s t)
    unfold tkS
    by_cases c : t = s
    · subst c
      rw [upd_same, decide_eq_true rfl, Bool.or_true]; rfl
    · rw [upd_ne _ _ c, decide_eq_false c, Bool.or_false]
      exact t3 t htt
  · rw [k 1 (by decide) (by decide) (by decide) (by decide) (by decide)]
    exact hc1 j hj
  · have es := eachO_same (F := fun key w => comeS (f4 (zf S) s a b c d) key w s) (B := zB S) o
    refine ⟨?_, ?_, e7.2 o ho⟩
    · rw [k 5 (by decide) (by decide) (by decide) (by decide) (by decide)]
      exact (o56 o ho).1.trans (congrArg nI es.1.symm)
    · rw [k 6 (by decide) (by decide) (by decide) (by decide) (by decide)]
      exact (o56 o ho).2.trans (congrArg b2 es.2.symm)
  · rw [k 13 (by decide) (by decide) (by decide) (by decide) (by decide)]; exact h.pag
  · rw [k 15 (by decide) (by decide) (by decide) (by decide) (by decide), k 16 (by decide) (by decide) (by decide) (by decide) (by decide), k 17 (by decide) (by decide) (by decide) (by decide) (by decide), k 18 (by decide) (by decide) (by decide) (by decide) (by decide)]; exact h.que
  · rw [k 22 (by decide) (by decide) (by decide) (by decide) (by decide), k 23 (by decide) (by decide) (by decide) (by decide) (by decide)]; exact h.pic
  · rw [k 26 (by decide) (by decide) (by decide) (by decide) (by decide), k 27 (by decide) (by decide) (by decide) (by decide) (by decide)]; exact h.mar
theorem rw_row (h : RQ g σ R S X A hh) (v : Iv S) (a b c d : Int32) : Do g M_X12_row 0 0 [.ref (R 300), .int a, .int b, .int c, .int d] σ (RP g σ R (s_row S a b c d)) := by
  unfold s_row
  refine q_X12_row _ _ _ _ _ ((rr_isNumber a).use ⟨fun ca => ?_, fun ca => (rr_isNumber b).use ⟨fun cb => ?_, fun cb => (rr_isNumber c).use ⟨fun cc => ?_, fun cc => (rr_isNumber d).use ⟨fun cd => h.1.x 2 (fun _ _ _ => rfl) ?_, fun cd => ?_⟩⟩⟩⟩)
  · rw [if_f (b2_0.mp ca)]; exact RP.no h
  · rw [if_t (b2_n0.mp ca), if_f (b2_0.mp cb)]; exact RP.no h
  · rw [if_t (b2_n0.mp ca), if_t (b2_n0.mp cb), if_f (b2_0.mp cc)]; exact RP.no h
  · rw [if_t (b2_n0.mp ca), if_t (b2_n0.mp cb), if_t (b2_n0.mp cc), if_t (b2_n0.mp cd), h.tab.1]
    have hle := fa_cnt_le (zt S) 64
    refine ⟨fun c1 => ⟨h.1.rc, ?_⟩, fun c1 => ?_⟩
    · have he : s_emp S < 64 := (emp_iff S).mpr fun z => c1 (by rw [z]; rfl)
      rw [if_pos he]
      refine (rr_emptySlot h he).use ⟨h.1.rc, Do.mono (wr_lay h v he (s_emp_f he)) ?_⟩
      rintro vv σ2 ⟨rfl, X2, A2, h2, -, s2⟩
      exact ⟨rfl, _, rfl, rfl, ⟨X2, A2, hh, h2⟩, s2⟩
    · have c1 := (nI_eq (b := 64) (by omega) (by decide)).mp c1
      rw [if_neg (fun z => (emp_iff S).mp z c1)]
      exact RP.no h
  · rw [if_t (b2_n0.mp ca), if_t (b2_n0.mp cb), if_t (b2_n0.mp cc), if_f (b2_0.mp cd)]; exact RP.no h
end RRW
