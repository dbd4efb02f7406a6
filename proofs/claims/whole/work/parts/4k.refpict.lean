/-! The reference: a picture taken. -/
theorem setP_at (P : Nat → PD) (c : Nat) (x : PD) : setP P c x c = x := if_pos rfl
theorem setP_ne (P : Nat → PD) {c j : Nat} (x : PD) (h : j ≠ c) : setP P c x j = P j := if_neg h
theorem setM_at (M : Nat → MT) (c : Nat) (x : MT) : setM M c x c = x := if_pos rfl
theorem setM_ne (M : Nat → MT) {c j : Nat} (x : MT) (h : j ≠ c) : setM M c x j = M j := if_neg h
theorem insF_lt (F : Nat → Int32) {p n j : Nat} (v : Int32) (h : j < p) : insF F p n v j = F j := by unfold insF; rw [if_pos h]
theorem insF_at (F : Nat → Int32) (p n : Nat) (v : Int32) : insF F p n v p = v := by unfold insF; rw [if_neg (Nat.lt_irrefl p), if_pos rfl]
theorem insF_gt (F : Nat → Int32) {p n j : Nat} (v : Int32) (h : p < j) (h2 : j ≤ n) : insF F p n v j = F (j - 1) := by unfold insF; rw [if_neg (by omega), if_neg (by omega), if_pos h2]
/-- numbers being moved up by one, down to k -/
def SU (a F : Nat → Int32) (n k : Nat) : Prop := (∀ j, j ≤ k → j < n → a j = F j) ∧ ∀ j, k < j → j ≤ n → a j = F (j - 1)
theorem SU.step {a F : Nat → Int32} {n k : Nat} (h : SU a F n k) (hk : 0 < k) (hn : k ≤ n) : SU (upd a k (a (k - 1))) F n (k - 1) := by
  refine ⟨fun j h1 h2 => ?_, fun j h1 h2 => ?_⟩
  · rw [upd_ne _ _ (by omega)]
    exact h.1 j (by omega) h2
  · by_cases c : j = k
    · subst c
      rw [upd_same]
      exact h.1 (j - 1) (by omega) (by omega)
    · rw [upd_ne _ _ (by omega)]
      exact h.2 j (by omega) h2
theorem SU.ends {a F : Nat → Int32} {n p : Nat} {v : Int32} (h : SU a F n p) (hp : p ≤ n) : ∀ j, j < n + 1 → upd a p v j = insF F p n v j := by
  intro j hj
  rcases Nat.lt_trichotomy j p with c | c | c
  · rw [upd_ne _ _ (by omega), insF_lt _ _ c]
    exact h.1 j (by omega) (by omega)
  · subst c
    rw [upd_same, insF_at]
  · rw [upd_ne _ _ (by omega), insF_gt _ _ c (by omega)]
    exact h.2 j c (by omega)
theorem RS.pics {S : SS} {X X' : Nat → Int32} {A A' : Nat → Nat → Int32} {pr : Nat} {P : Nat → PD} (r : RS S X A) (hX : ∀ i, i ≠ 24 → i < 26 → X' i = X i) (hA : ∀ k, k < 28 → k ≠ 22 → k ≠ 23 → A' k = A k) (hp : picR pr P (X' 24) (A' 22) (A' 23)) : RS (S.1, S.2.1, S.2.2.1, (pr, P), S.2.2.2.2) X' A' := by
  obtain ⟨r1, r2, r3, r4, r5, -, r7⟩ := r
  refine ⟨?_, ?_, ?_, ?_, ?_, hp, ?_⟩
  · rw [hX 2 (by decide) (by decide), hX 3 (by decide) (by decide), hA 0 (by decide) (by decide) (by decide), hA 1 (by decide) (by decide) (by decide)]; exact r1
  · rw [hX 4 (by decide) (by decide), hA 5 (by decide) (by decide) (by decide), hA 6 (by decide) (by decide) (by decide), hA 7 (by decide) (by decide) (by decide), hA 8 (by decide) (by decide) (by decide), hA 9 (by decide) (by decide) (by decide), hA 10 (by decide) (by decide) (by decide), hA 11 (by decide) (by decide) (by decide)]; exact r2
  · rw [hX 12 (by decide) (by decide), hA 13 (by decide) (by decide) (by decide)]; exact r3
  · rw [hX 14 (by decide) (by decide), hA 15 (by decide) (by decide) (by decide), hA 16 (by decide) (by decide) (by decide), hA 17 (by decide) (by decide) (by decide), hA 18 (by decide) (by decide) (by decide)]; exact r4
  · rw [hX 19 (by decide) (by decide), hX 20 (by decide) (by decide), hX 21 (by decide) (by decide)]; exact r5
  · rw [hX 25 (by decide) (by decide), hA 26 (by decide) (by decide) (by decide), hA 27 (by decide) (by decide) (by decide)]; exact r7
section RPT
variable {g : GG} {σ : Hs} {R : Nat → Nat} {S : SS} {X : Nat → Int32} {A : Nat → Nat → Int32} {hh : Int64}
/-- a picture's parts as they are laid, the first so many of them -/
def PtK (F : Nat → Int32) (c i : Nat) (P : PD) : Prop := ∀ j, j < i → F (12 * c + 3 * j) = nI (P.2.1 j) ∧ (P.2.1 j ≠ 0 → F (12 * c + 3 * j + 1) = P.2.2.1 j ∧ F (12 * c + 3 * j + 2) = P.2.2.2 j)
theorem rw_picture (h : RQ g σ R S X A hh) (v : Iv S) (x : Int32) : Do g M_X12_picture 0 0 [.ref (R 300), .int x] σ (RP g σ R (s_picture S x)) := by
  unfold s_picture
  refine q_X12_picture _ _ ((rd_inR x 3 (by decide)).use ⟨fun y => ?_, fun y => ?_⟩)
  · have y := b2_n0.mp y
    rw [if_t y]
    obtain ⟨c, hc, rfl⟩ := inR_of y (by decide)
    rw [nn_i (by omega)]
    have hn64 : (s_srt S c).1 ≤ 64 := tkI_le (zf S) (zt S) c (fun _ => 0) 64
    generalize hpost : RP g σ R (nI (tkN (s_srt S c).1 4), s_pict S c) = post
    -- the parts
    have parts : ∀ (d i : Nat) (σ1 : Hs) (A1 : Nat → Nat → Int32), i + d = 4 → RC g σ1 R X A1 hh → (∀ k, k ≠ 38 → k ≠ 23 → A1 k = A k) → (∀ j, (j < 12 * c ∨ 12 * c + 12 ≤ j) → A1 23 j = A 23 j) → PtK (A1 23) c i (tkP (s_srt S c).1 (s_srt S c).2 (zP S c) i) → (∀ j, j < (s_srt S c).1 → A1 38 j = (s_srt S c).2 j) → Sm R T3 σ σ1 → J_X12_picture_114 g post σ1 (R 300) (nI c) (nI (s_srt S c).1) (nI (tkN (s_srt S c).1 i)) (nI i) := by
      intro d
      induction d with
      | zero =>
        intro i σ1 A1 hi h1 k1 f1 p1 a38 s1
        have hi : i = 4 := hi
        subst hi
        refine q_X12_picture_114 _ _ _ _ _ ⟨fun _ => h1.r 22 (fun _ _ _ => rfl) (h1.s 22 rfl rfl rfl (show c < 4 from hc) fun σ2 h2 s2 => h2.px 24 _ (by omega) (fun _ _ _ => rfl) fun σ3 h3 s3 => ?_), fun z => absurd (nI_le (a := 4) (by omega) (by omega)) z⟩
        subst hpost
        refine RP.go h3 (h.2.pics (fun i i1 _ => upd_ne _ _ i1) (fun k k1' k2' k3' => (setA_ne _ _ k2').trans (k1 k (by omega) k3')) ⟨upd_same _ _ _, fun c' hc' => ?_⟩) ((s1.trans s2).trans s3) rfl
        show upd (A1 22) c (vp_nar .boolean 1) c' = b2 (setP (zP S) c _ c').1 ∧ ((setP (zP S) c _ c').1 = false → ∀ i, i < 4 → (setP (zP S) c _ c').2.1 i = 0) ∧ ((setP (zP S) c _ c').1 = true → ∀ i, i < 4 → A1 23 (12 * c' + 3 * i) = nI ((setP (zP S) c _ c').2.1 i) ∧ ((setP (zP S) c _ c').2.1 i ≠ 0 → A1 23 (12 * c' + 3 * i + 1) = (setP (zP S) c _ c').2.2.1 i ∧ A1 23 (12 * c' + 3 * i + 2) = (setP (zP S) c _ c').2.2.2 i))
        by_cases z : c' = c
        · subst z
          rw [setP_at, upd_same, tkP_1]
          exact ⟨rfl, fun z => by (cases z), fun _ i hi => p1 i hi⟩
        · obtain ⟨q1, q2, q3⟩ := h.pic.2 c' hc'
          rw [setP_ne _ _ z, upd_ne _ _ z, k1 22 (by decide) (by decide)]
          refine ⟨q1, q2, fun y i hi => ?_⟩
          rw [f1 _ (by omega), f1 _ (by omega), f1 _ (by omega)]
          exact q3 y i hi
      | succ d ih =>
        intro i σ1 A1 hi h1 k1 f1 p1 a38 s1
        have hi4 : i < 4 := by omega
        have ih := ih (i + 1)
        generalize hn : (s_srt S c).1 = n at *
        generalize hF : (s_srt S c).2 = F at *
        have hin : i * n ≤ 3 * 64 := Nat.mul_le_mul (by omega) hn64
        have hsu : (i + 1) * n = i * n + n := Nat.succ_mul i n
        have e0 : (nI i * nI n) / 4 = nI (i * n / 4) := by rw [pk_mul]; exact pk_div (d := 4) (by omega) (by decide) (by decide)
        have e1 : ((nI i + 1) * nI n) / 4 = nI ((i + 1) * n / 4) := by rw [nI_1, pk_mul]; exact pk_div (d := 4) (by omega) (by decide) (by decide)
        have hle : i * n / 4 ≤ (i + 1) * n / 4 := Nat.div_le_div_right (by omega)
        have htn : (i + 1) * n / 4 ≤ n := by
          have : (i + 1) * n ≤ 4 * n := Nat.mul_le_mul_right n (by omega)
          omega
        simp only [tkP, tkN] at ih
        generalize hq : tkP n F (zP S c) i = Q at *
        generalize hfr : i * n / 4 = fr at *
        generalize hto : (i + 1) * n / 4 = to at *
        refine q_X12_picture_114 _ _ _ _ _ ⟨fun z => absurd ((nI_leI (a := 4) (by decide) (by omega)).mp z) (by omega), fun _ => h1.r 23 (fun _ _ _ => rfl) ?_⟩
        rw [e0, e1, i123, pk_sub hle]
        refine h1.s 23 rfl rfl rfl (show _ < 48 by omega) fun σ2 h2 s2 => h2.r 23 (fun _ _ _ => rfl) ?_
        -- the second and third numbers
        have fin : ∀ (lo hi2 : Int32) (σ4 : Hs), RC g σ4 R X (setA (setA (setA A1 23 (upd (A1 23) (12 * c + 3 * i) (nI (to - fr)))) 23 (upd (upd (A1 23) (12 * c + 3 * i) (nI (to - fr))) (12 * c + 3 * i + 1) lo)) 23 (upd (upd (upd (A1 23) (12 * c + 3 * i) (nI (to - fr))) (12 * c + 3 * i + 1) lo) (12 * c + 3 * i + 2) hi2)) hh → Sm R T3 σ2 σ4 → (fr < to → lo = F fr ∧ hi2 = F (to - 1)) → J_X12_picture_114 g post σ4 (R 300) (nI c) (nI n) (nI (tkN n i + if fr < to then 1 else 0)) (nI i + 1) := by
          intro lo hi2 σ4 h4 s4 hlh
          rw [nI_1]
          refine ih σ4 _ (by omega) h4 (fun k k38 k23 => by rw [setA_ne _ _ k23, setA_ne _ _ k23, setA_ne _ _ k23]; exact k1 k k38 k23) (fun j hj => ?_) (fun j hj => ?_) (fun j hj => a38 j hj) ((s1.trans s2).trans s4)
          · show upd (upd (upd (A1 23) (12 * c + 3 * i) _) (12 * c + 3 * i + 1) lo) (12 * c + 3 * i + 2) hi2 j = A 23 j
            rw [upd_ne _ _ (by omega), upd_ne _ _ (by omega), upd_ne _ _ (by omega)]
            exact f1 j hj
          · show upd (upd (upd (A1 23) (12 * c + 3 * i) (nI (to - fr))) (12 * c + 3 * i + 1) lo) (12 * c + 3 * i + 2) hi2 (12 * c + 3 * j) = nI (setN Q.2.1 i (to - fr) j) ∧ (setN Q.2.1 i (to - fr) j ≠ 0 → upd (upd (upd (A1 23) (12 * c + 3 * i) (nI (to - fr))) (12 * c + 3 * i + 1) lo) (12 * c + 3 * i + 2) hi2 (12 * c + 3 * j + 1) = (if fr < to then upd Q.2.2.1 i (F fr) else Q.2.2.1) j ∧ upd (upd (upd (A1 23) (12 * c + 3 * i) (nI (to - fr))) (12 * c + 3 * i + 1) lo) (12 * c + 3 * i + 2) hi2 (12 * c + 3 * j + 2) = (if fr < to then upd Q.2.2.2 i (F (to - 1)) else Q.2.2.2) j)
            by_cases z : j = i
            · subst z
              rw [setN_at, upd_ne _ _ (by omega), upd_ne _ _ (by omega), upd_same]
              refine ⟨rfl, fun y => ?_⟩
              have hlt : fr < to := by omega
              rw [upd_ne _ _ (by omega), upd_same, upd_same, if_pos hlt, if_pos hlt, upd_same, upd_same]
              exact hlh hlt
            · have p1 := p1 j (by omega)
              have u1 : (if fr < to then upd Q.2.2.1 i (F fr) else Q.2.2.1) j = Q.2.2.1 j := by
                split
                · exact upd_ne _ _ z
                · rfl
              have u2 : (if fr < to then upd Q.2.2.2 i (F (to - 1)) else Q.2.2.2) j = Q.2.2.2 j := by
                split
                · exact upd_ne _ _ z
                · rfl
              rw [setN_ne _ _ z, u1, u2]
              rw [upd_ne _ _ (by omega), upd_ne _ _ (by omega), upd_ne _ _ (by omega), upd_ne _ _ (by omega), upd_ne _ _ (by omega), upd_ne _ _ (by omega), upd_ne _ _ (by omega), upd_ne _ _ (by omega), upd_ne _ _ (by omega)]
              exact p1
        have j216 : ∀ (lo hi2 : Int32) (σ3 : Hs), RC g σ3 R X (setA (setA A1 23 (upd (A1 23) (12 * c + 3 * i) (nI (to - fr)))) 23 (upd (upd (A1 23) (12 * c + 3 * i) (nI (to - fr))) (12 * c + 3 * i + 1) lo)) hh → Sm R T3 σ2 σ3 → (fr < to → lo = F fr ∧ hi2 = F (to - 1)) → J_X12_picture_216 g post σ3 (R 300) (nI c) (nI n) (nI (tkN n i)) (nI i) (nI fr) (nI to) hi2 (nI (12 * c + 3 * i) + 2) (R (rx 23)) := by
          intro lo hi2 σ3 h3 s3 hlh
          refine q_X12_picture_216 _ _ _ _ _ _ _ _ _ _ (h3.s 23 rfl rfl (show nI (12 * c + 3 * i) + 2 = nI (12 * c + 3 * i + 2) from nI_add _ 2) (show _ < 48 by omega) fun σ4 h4 s4 => ⟨fun y => ?_, fun y => ?_⟩)
          · have y := (nI_leI (by omega) (by omega)).mp y
            have fin := fin lo hi2 σ4 h4 (s3.trans s4) hlh
            rw [if_neg (by omega), Nat.add_zero] at fin
            rw [nI_p0]
            exact fin
          · have y : fr < to := Nat.lt_of_not_le fun z => y (nI_le z (by omega))
            have fin := fin lo hi2 σ4 h4 (s3.trans s4) hlh
            rw [if_pos y, ← nI_1] at fin
            exact fin
        have j187 : ∀ (lo : Int32), (fr < to → lo = F fr) → J_X12_picture_187 g post σ2 (R 300) (nI c) (nI n) (nI (tkN n i)) (nI i) (nI fr) (nI to) (nI (12 * c + 3 * i)) lo (nI (12 * c + 3 * i) + 1) (R (rx 23)) := by
          intro lo hlo
          refine q_X12_picture_187 _ _ _ _ _ _ _ _ _ _ _ (h2.s 23 rfl rfl (nI_1 (12 * c + 3 * i)) (show _ < 48 by omega) fun σ3 h3 s3 => h3.r 23 (fun _ _ _ => rfl) ⟨fun y => ?_, fun y => ?_⟩)
          · have y := (nI_leI (by omega) (by omega)).mp y
            exact j216 lo (-1) σ3 h3 s3 (fun z => absurd z (by omega))
          · have y : fr < to := Nat.lt_of_not_le fun z => y (nI_le z (by omega))
            refine h3.r 38 (fun _ _ _ => rfl) (h3.a 38 rfl rfl (nI_s1 (k := to) (by omega)) (show _ < 64 by omega) ?_)
            exact j216 lo _ σ3 h3 s3 (fun z => ⟨hlo z, a38 (to - 1) (by omega)⟩)
        refine ⟨fun y => ?_, fun y => ?_⟩
        · have y := (nI_leI (by omega) (by omega)).mp y
          exact j187 (-1) (fun z => absurd z (by omega))
        · have y : fr < to := Nat.lt_of_not_le fun z => y (nI_le z (by omega))
          refine h2.r 38 (fun _ _ _ => rfl) (h2.a 38 rfl rfl rfl (show _ < 64 by omega) ?_)
          exact j187 _ (fun _ => a38 fr (by omega))
    -- the rows
    have rows : ∀ (d s : Nat) (σ1 : Hs) (A1 : Nat → Nat → Int32), s + d = 64 → RC g σ1 R X A1 hh → (∀ k, k ≠ 38 → A1 k = A k) → (∀ j, j < (tkI (zf S) (zt S) c (fun _ => 0) s).1 → A1 38 j = (tkI (zf S) (zt S) c (fun _ => 0) s).2 j) → Sm R T3 σ σ1 → J_X12_picture_16 g post σ1 (R 300) (nI c) (nI (tkI (zf S) (zt S) c (fun _ => 0) s).1) (nI s) := by
      intro d
      induction d with
      | zero =>
        intro s σ1 A1 hs h1 k1 a38 s1
        have hs : s = 64 := hs
        subst hs
        exact q_X12_picture_16 _ _ _ _ ⟨fun _ => parts 4 0 σ1 A1 rfl h1 (fun k k38 _ => k1 k k38) (fun j _ => by rw [k1 23 (by decide)]) (fun j hj => absurd hj (Nat.not_lt_zero _)) a38 s1, fun z => absurd (nI_le (a := 64) (by omega) (by omega)) z⟩
      | succ d ih =>
        intro s σ1 A1 hs h1 k1 a38 s1
        have hs64 : s < 64 := by omega
        have ih := ih (s + 1)
        rw [tkI_s] at ih
        have hcl : ∀ t, t < s → zt S t = true → 0 ≤ (zf S (4 * t + c)).toInt ∧ (zf S (4 * t + c)).toInt ≤ 99 := fun t ht h2 => v.cl t (by omega) h2 c hc
        have hsrt := tkI_srt (F := fun _ => 0) (Q := fun v => 0 ≤ v.toInt ∧ v.toInt ≤ 99) s hcl
        have hns := tkI_le (zf S) (zt S) c (fun _ => 0) s
        generalize hT : tkI (zf S) (zt S) c (fun _ => 0) s = T at *
        refine q_X12_picture_16 _ _ _ _ ⟨fun z => absurd ((nI_leI (a := 64) (by decide) (by omega)).mp z) (by omega), fun _ => h1.r 0 (fun _ _ _ => rfl) (h1.a 0 rfl rfl rfl (show s < 64 from hs64) ?_)⟩
        rw [k1 0 (by decide), h.tab.2.2.1 s hs64]
        refine ⟨fun y => ?_, fun y => ?_⟩
        · rw [if_f (b2_0.mp y)] at ih
          rw [nI_1]
          exact ih σ1 A1 (by omega) h1 k1 a38 s1
        · rw [if_t (b2_n0.mp y)] at ih
          generalize hv : zf S (4 * s + c) = w at *
          have hcell : ∀ {σ2 : Hs} {A2 : Nat → Nat → Int32}, (∀ k, k ≠ 38 → A2 k = A k) → A2 1 (4 * s + c) = w := fun k2 => by rw [k2 1 (by decide), h.tab.2.2.2 _ (by omega), hv]
          have hple := plF_le T.2 T.1 w
          have below : ∀ j, j < plF T.2 T.1 w → T.2 j ≤ w := fun j hj => I_le_of_nlt (of_decide_eq_false (fa_first_no (fun j => decide (w < T.2 j)) T.1 j hj))
          have above : ∀ j, plF T.2 T.1 w ≤ j → j < T.1 → ¬ T.2 j ≤ w := fun j h1 h2 => by
            have h3 : w < T.2 (plF T.2 T.1 w) := of_decide_eq_true (fa_first_yes (fun j => decide (w < T.2 j)) T.1 (by unfold plF at h1; omega))
            have h4 : T.2 (plF T.2 T.1 w) ≤ T.2 j := by
              rcases Nat.lt_or_ge (plF T.2 T.1 w) j with h4 | h4
              · exact hsrt.1 _ _ h4 h2
              · rw [show j = plF T.2 T.1 w by omega]; exact Int32.le_refl _
            rw [I_le] at h4 ⊢
            rw [I_lt] at h3
            omega
          generalize hp : plF T.2 T.1 w = p at *
          have j83 : ∀ (σ2 : Hs) (A2 : Nat → Nat → Int32), RC g σ2 R X A2 hh → (∀ k, k ≠ 38 → A2 k = A k) → SU (A2 38) T.2 T.1 p → Sm R T3 σ σ2 → J_X12_picture_83 g post σ2 (R 300) (nI c) (nI T.1) (nI s) (nI p) := by
            intro σ2 A2 h2 k2 u2 s2
            refine q_X12_picture_83 _ _ _ _ _ (h2.r 38 (fun _ _ _ => rfl) (h2.r 1 (fun _ _ _ => rfl) (h2.a 1 rfl rfl (i4 s c) (show _ < 256 by omega) ?_)))
            rw [hcell (σ2 := σ2) k2]
            refine h2.s 38 rfl rfl rfl (show _ < 64 by omega) fun σ3 h3 s3 => ?_
            rw [nI_1, nI_1]
            exact ih σ3 _ (by omega) h3 (fun k hk => (setA_ne _ _ hk).trans (k2 k hk)) (fun j hj => u2.ends hple j hj) (s2.trans s3)
          have j34 : ∀ (m k : Nat) (σ2 : Hs) (A2 : Nat → Nat → Int32), k = p + m → k ≤ T.1 → RC g σ2 R X A2 hh → (∀ k, k ≠ 38 → A2 k = A k) → SU (A2 38) T.2 T.1 k → Sm R T3 σ σ2 → J_X12_picture_34 g post σ2 (R 300) (nI c) (nI T.1) (nI s) (nI k) := by
            intro m
            induction m with
            | zero =>
              intro k σ2 A2 hk hkn h2 k2 u2 s2
              have hk : k = p := hk
              subst hk
              refine q_X12_picture_34 _ _ _ _ _ ⟨fun _ => j83 σ2 A2 h2 k2 u2 s2, fun z => ?_⟩
              have hk0 : 0 < k := Nat.pos_of_ne_zero fun y => z (by rw [y]; exact nI_le (b := 0) (Nat.le_refl 0) (by decide))
              refine h2.r 38 (fun _ _ _ => rfl) (h2.a 38 rfl rfl (nI_s1 hk0) (show _ < 64 by omega) (h2.r 1 (fun _ _ _ => rfl) (h2.a 1 rfl rfl (i4 s c) (show _ < 256 by omega) ?_)))
              rw [hcell (σ2 := σ2) k2, u2.1 (k - 1) (by omega) (by omega)]
              exact ⟨fun _ => j83 σ2 A2 h2 k2 u2 s2, fun z => absurd (below (k - 1) (by omega)) z⟩
            | succ m ihm =>
              intro k σ2 A2 hk hkn h2 k2 u2 s2
              refine q_X12_picture_34 _ _ _ _ _ ⟨fun z => absurd ((nI_leI (b := 0) (by omega) (by decide)).mp z) (by omega), fun _ => h2.r 38 (fun _ _ _ => rfl) (h2.a 38 rfl rfl (nI_s1 (k := k) (by omega)) (show _ < 64 by omega) (h2.r 1 (fun _ _ _ => rfl) (h2.a 1 rfl rfl (i4 s c) (show _ < 256 by omega) ?_)))⟩
              rw [hcell (σ2 := σ2) k2, u2.1 (k - 1) (by omega) (by omega)]
              refine ⟨fun z => absurd z (above (k - 1) (by omega) (by omega)), fun _ => h2.r 38 (fun _ _ _ => rfl) (h2.r 38 (fun _ _ _ => rfl) (h2.a 38 rfl rfl (nI_s1 (k := k) (by omega)) (show _ < 64 by omega) (h2.s 38 rfl rfl rfl (show k < 64 by omega) fun σ3 h3 s3 => ?_)))⟩
              rw [nI_m1 (by omega)]
              refine ihm (k - 1) σ3 _ (by omega) (by omega) h3 (fun j hj => (setA_ne _ _ hj).trans (k2 j hj)) ?_ (s2.trans s3)
              show SU (upd (A2 38) _ _) T.2 _ _
              exact u2.step (by omega) hkn
          exact j34 (T.1 - p) T.1 σ1 A1 (by omega) (Nat.le_refl _) h1 k1 ⟨fun j _ hj => a38 j hj, fun j z1 z2 => absurd z1 (by omega)⟩ s1
    exact rows 64 0 σ A rfl h.1 (fun _ _ => rfl) (fun j hj => absurd hj (Nat.not_lt_zero _)) Sm.refl
  · rw [if_f (b2_0.mp y)]; exact RP.no h
end RPT
