/-! The class's fill; what always holds, kept by changes of rows. -/
theorem lNx {k : Nat} (hk : k < 2147483648) : (((1103515245 : Int64) * lN k) + 12345) &&& 2147483647 = lN (sdN k) := by
  have e1 : (1103515245 : Int64) = lN 1103515245 := rfl
  have e2 : (12345 : Int64) = lN 12345 := rfl
  have e3 : (2147483647 : Int64) = lN (2 ^ 31 - 1) := rfl
  have m1 : ∀ a b : Nat, lN a * lN b = lN (a * b) := fun a b => wb_inj (by
    show (lN a).toBitVec * (lN b).toBitVec = _
    rw [wb_tb, wb_tb, wb_tb, BitVec.ofNat_mul])
  have m2 : ∀ a b : Nat, lN a + lN b = lN (a + b) := fun a b => wb_inj (by
    show (lN a).toBitVec + (lN b).toBitVec = _
    rw [wb_tb, wb_tb, wb_tb, BitVec.ofNat_add])
  rw [e1, e2, e3, m1, m2, wb_mask (by omega) (by decide)]
  rfl
theorem lN_nI {k : Nat} (hk : k < 2 ^ 31) : (nI k).toInt64 = lN k := by
  refine Int64.toInt_inj.mp ?_
  rw [Int32.toInt_toInt64, I_n hk, pf_lI (by omega)]
theorem lN_d {k : Nat} (hk : k < 2147483648) : (lN k / 65536).toInt32 = nI (k / 65536) := by
  have e : lN k / 65536 = lN (k / 65536) := by
    refine Int64.toInt_inj.mp ?_
    have h1 : (lN k).toInt = (k : Int) := pf_lI (by omega)
    have h2 : (65536 : Int64).toInt = 65536 := by decide
    rw [Int64.toInt_div_of_ne_right _ _ (by decide), h1, h2, pf_lI (by omega)]
    exact (Int.ofNat_tdiv k 65536).symm
  rw [e]
  refine Int32.toInt_inj.mp ?_
  rw [Int64.toInt_toInt32, pf_lI (by omega), I_n (by omega)]
  refine Int.bmod_eq_of_le (by omega) (by omega)
theorem sdN_lt (k : Nat) : sdN k < 2147483648 := Nat.mod_lt _ (by decide)
theorem Cells.lay {f : Nat → Int32} {tk : Nat → Bool} {s : Nat} {a b c d : Int32} (h : Cells f tk) (ha : inR a 100 = true) (hb : inR b 100 = true) (hc : inR c 100 = true) (hd : inR d 100 = true) : Cells (f4 f s a b c d) (tkS tk s) := by
  intro t ht h2 j hj
  by_cases e : t = s
  · subst e
    have key : ∀ x : Int32, inR x 100 = true → 0 ≤ x.toInt ∧ x.toInt ≤ 99 := fun x hx => by
      unfold inR at hx
      have := of_decide_eq_true hx
      omega
    unfold f4
    rcases (show j = 0 ∨ j = 1 ∨ j = 2 ∨ j = 3 by omega) with rfl | rfl | rfl | rfl
    · rw [upd_ne _ _ (by omega), upd_ne _ _ (by omega), upd_ne _ _ (by omega), upd_same]; exact key a ha
    · rw [upd_ne _ _ (by omega), upd_ne _ _ (by omega), upd_same]; exact key b hb
    · rw [upd_ne _ _ (by omega), upd_same]; exact key c hc
    · rw [upd_same]; exact key d hd
  · rw [f4_in e hj]
    refine h t ht ?_ j hj
    unfold tkS at h2
    simpa [e] using h2
theorem Inv.lay {S : SS} {s : Nat} {a b c d : Int32} (h : Inv S) (hs : s < 64) (ht : zt S s = false) (ha : inR a 100 = true) (hb : inR b 100 = true) (hc : inR c 100 = true) (hd : inR d 100 = true) : Inv (s_lay S s a b c d) := ⟨⟨(BIn.f4 h.1.1 ht).come hs ht, h.1.2.1.lay ha hb hc hd, h.1.2.2⟩, h.2⟩
theorem Inv.row {S : SS} (h : Inv S) (a b c d : Int32) : Inv (s_row S a b c d).2 := by
  unfold s_row
  by_cases ha : inR a 100 = true
  · rw [if_pos ha]
    by_cases hb : inR b 100 = true
    · rw [if_pos hb]
      by_cases hc : inR c 100 = true
      · rw [if_pos hc]
        by_cases hd : inR d 100 = true
        · rw [if_pos hd]
          by_cases he : s_emp S < 64
          · rw [if_pos he]; exact h.lay he (s_emp_f he) ha hb hc hd
          · rw [if_neg he]; exact h
        · rw [if_neg hd]; exact h
      · rw [if_neg hc]; exact h
    · rw [if_neg hb]; exact h
  · rw [if_neg ha]; exact h
theorem Inv.set {S : SS} (h : Inv S) (x y v : Int32) : Inv (s_set S x y v).2 := by
  unfold s_set
  by_cases k : isR S x = true
  · rw [if_pos k]
    by_cases k2 : inR y 4 = true
    · rw [if_pos k2]
      by_cases k3 : inR v 100 = true
      · rw [if_pos k3]
        obtain ⟨s, hs, rfl, ht⟩ := isR_of k
        obtain ⟨j, hj, rfl⟩ := inR_of k2 (by decide)
        rw [nn_i (by omega), nn_i (by omega)]
        have b1 : BIn (zf S) (tkD (zt S) s) (zo S) (B_go s (zB S)) := h.1.1.go hs ht
        have b2 := (b1.u1 (v := v) (tkD_f _ _) hj).come hs (tkD_f _ _)
        refine ⟨⟨b2.cong (fun _ _ _ _ _ => rfl) (fun t _ => tkSD ht t), fun t ht2 h2 i hi => ?_, h.1.2.2⟩, h.2⟩
        show 0 ≤ (upd (zf S) (4 * s + j) v (4 * t + i)).toInt ∧ (upd (zf S) (4 * s + j) v (4 * t + i)).toInt ≤ 99
        by_cases e : 4 * t + i = 4 * s + j
        · rw [e, upd_same]
          unfold inR at k3
          have := of_decide_eq_true k3
          omega
        · rw [upd_ne _ _ e]
          exact h.1.2.1 t ht2 h2 i hi
      · rw [if_neg k3]; exact h
    · rw [if_neg k2]; exact h
  · rw [if_neg k]; exact h
theorem Inv.drop {S : SS} (h : Inv S) (x : Int32) : Inv (s_drop S x).2 := by
  unfold s_drop
  by_cases k : isR S x = true
  · rw [if_pos k]
    obtain ⟨s, hs, rfl, ht⟩ := isR_of k
    rw [nn_i (by omega)]
    refine ⟨⟨h.1.1.go hs ht, fun t ht2 h2 i hi => h.1.2.1 t ht2 ?_ i hi, h.1.2.2⟩, h.2⟩
    have h2 : tkD (zt S) s t = true := h2
    unfold tkD at h2
    rw [Bool.and_eq_true] at h2
    exact h2.1
  · rw [if_neg k]; exact h
theorem nmN_in {m k : Nat} (h0 : 0 < m) (hm : m ≤ 100) : inR (nmN m k) 100 = true := inR_y (by have := Nat.mod_lt (k / 65536) h0; omega) (by decide)
theorem Inv.fl {m : Nat} (h0 : 0 < m) (hm : m ≤ 100) : ∀ (n : Nat) {S : SS} (k came : Nat), Inv S → Inv (s_fl m n S k came).2
  | 0, _, _, _, h => h
  | n + 1, S, k, came, h => by
    rw [s_fl_s]
    by_cases he : s_emp S < 64
    · rw [if_pos he]
      exact Inv.fl h0 hm n _ _ (h.lay he (s_emp_f he) (nmN_in h0 hm) (nmN_in h0 hm) (nmN_in h0 hm) (nmN_in h0 hm))
    · rw [if_neg he]; exact h
theorem Inv.fill {S : SS} (h : Inv S) (x n m : Int32) : Inv (s_fill S x n m).2 := by
  unfold s_fill
  by_cases k : inR x 2147483648 = true
  · rw [if_pos k]
    by_cases k2 : inL n 1 64 = true
    · rw [if_pos k2]
      by_cases k3 : inL m 1 100 = true
      · rw [if_pos k3]
        unfold inL at k3
        have := of_decide_eq_true k3
        exact Inv.fl (by omega) (by omega) _ _ _ h
      · rw [if_neg k3]; exact h
    · rw [if_neg k2]; exact h
  · rw [if_neg k]; exact h
section FIL
variable {g : GG} {σ : Hs} {R : Nat → Nat} {S : SS}
theorem do_fill (h : KO g σ R S) (iv : Inv S) (x n m : Int32) : Do g M_X11_fill 0 0 [.ref (R 0), .int x, .int n, .int m] σ (KP g σ R S (s_fill S x n m)) := by
  have main : ∀ (N M K : Nat), N ≤ 64 → 1 ≤ M → M ≤ 100 → K < 2147483648 → J_X11_fill_39 g (KP g σ R S (nI (s_fl M N S K 0).1, (s_fl M N S K 0).2)) σ (R 0) (nI N) (nI M) (lN K) 0 0 := by
    intro N M K hN hM hM2 hK
    have loop : ∀ (e i came k : Nat) (S1 : SS) (σ1 : Hs), i + e = N → came ≤ i → k < 2147483648 → KO g σ1 R S1 → Inv S1 → Tc S1 = Tc S → Sm R (Tc S) σ σ1 → s_fl M N S K 0 = s_fl M e S1 k came → J_X11_fill_39 g (KP g σ R S (nI (s_fl M N S K 0).1, (s_fl M N S K 0).2)) σ1 (R 0) (nI N) (nI M) (lN k) (nI came) (nI i) := by
      intro e
      induction e with
      | zero =>
        intro i came k S1 σ1 hi hc hk h1 iv1 ht s1 he
        refine q_X11_fill_39 _ _ _ _ _ _ ⟨fun _ => ?_, fun c => absurd (nI_le (by omega) (by omega)) c⟩
        rw [he]
        exact KP.go h1 s1 rfl ht
      | succ e ih =>
        intro i came k S1 σ1 hi hc hk h1 iv1 ht s1 he
        refine q_X11_fill_39 _ _ _ _ _ _ ⟨fun c => absurd ((nI_leI (by omega) (by omega)).mp c) (by omega), fun _ => h1.g0 ⟨Rc.of h1.tab.1, (rd_emptySlot h1.tab).use ?_⟩⟩
        rw [s_fl_s] at he
        by_cases hem : s_emp S1 < 64
        · rw [if_pos hem] at he
          rw [if_pos (show fa_first (fun s => !zt S1 s) 64 < 64 from hem)]
          refine ⟨fun _ => ?_, fun z => absurd z (nI_neg (Nat.lt_trans hem (by decide)))⟩
          have hf := s_emp_f hem
          have step : ∀ (c k2 : Nat) (σ2 : Hs) (f2 : Nat → Int32), c < 4 → k2 < 2147483648 → KO g σ2 R ((f2, zt S1, zw S1), S1.2) → (∀ σ3 f3, f3 = upd f2 (4 * s_emp S1 + c) (nmN M (sdN k2)) → KO g σ3 R ((f3, zt S1, zw S1), S1.2) → Sm R (Tc S) σ2 σ3 → J_X11_fill_66 g (KP g σ R S (nI (s_fl M N S K 0).1, (s_fl M N S K 0).2)) σ3 (R 0) (nI N) (nI M) (lN (sdN k2)) (nI came) (nI i) (nI (s_emp S1)) (nI (c + 1))) → J_X11_fill_66 g (KP g σ R S (nI (s_fl M N S K 0).1, (s_fl M N S K 0).2)) σ2 (R 0) (nI N) (nI M) (lN k2) (nI came) (nI i) (nI (s_emp S1)) (nI c) := by
            intro c k2 σ2 f2 hc4 hk2 h2 hn
            refine q_X11_fill_66 _ _ _ _ _ _ _ _ ⟨fun z => absurd ((nI_leI (a := 4) (by decide) (by omega)).mp z) (by omega), fun _ => h2.g0 ?_⟩
            have hsd := sdN_lt k2
            rw [lNx hk2, lN_d hsd]
            refine (rd_rest (a := sdN k2 / 65536) (b := M) (by omega) (by omega) (by omega)).use ⟨Rc.of h2.tab.1, (wr_tput h2.tab hem hc4 _).use ?_⟩
            obtain ⟨h3, s3⟩ := h2.st3 (upd f2 (4 * s_emp S1 + c) (nmN M (sdN k2)))
            rw [nI_1]
            have s3 : Sm R (Tc S1) σ2 _ := s3
            rw [ht] at s3
            exact hn _ _ rfl h3 s3
          refine step 0 k σ1 (zf S1) (by omega) hk h1 fun σ2 f2 e2 h2 s2 => ?_
          refine step 1 _ σ2 f2 (by omega) (sdN_lt _) h2 fun σ3 f3 e3 h3 s3 => ?_
          refine step 2 _ σ3 f3 (by omega) (sdN_lt _) h3 fun σ4 f4' e4 h4 s4 => ?_
          refine step 3 _ σ4 f4' (by omega) (sdN_lt _) h4 fun σ5 f5 e5 h5 s5 => ?_
          subst e2
          subst e3
          subst e4
          subst e5
          refine q_X11_fill_66 _ _ _ _ _ _ _ _ ⟨fun _ => ⟨Rc.of h5.1, DoV.use (do_rowComes h5 (BIn.f4 iv1.1.1 hf) hem hf) ?_⟩, fun z => absurd (nI_le (a := 4) (by omega) (by omega)) z⟩
          rintro σ6 ⟨h6, s6⟩
          have s6 : Sm R (Tc S1) σ5 σ6 := s6
          rw [ht] at s6
          rw [nI_1, nI_1]
          refine ih (i + 1) (came + 1) _ _ σ6 (by omega) (by omega) (sdN_lt _) h6 (iv1.lay hem hf (nmN_in hM hM2) (nmN_in hM hM2) (nmN_in hM hM2) (nmN_in hM hM2)) ht (((((s1.trans s2).trans s3).trans s4).trans s5).trans s6) he
        · rw [if_neg hem] at he
          rw [if_neg (show ¬ fa_first (fun s => !zt S1 s) 64 < 64 from hem)]
          refine ⟨fun z => absurd rfl z, fun _ => ?_⟩
          rw [he]
          exact KP.go h1 s1 rfl ht
    exact loop N 0 0 K S σ (by omega) (Nat.le_refl _) hK h iv rfl Sm.refl rfl
  unfold s_fill
  refine q_X11_fill _ _ _ _ ⟨fun c => ?_, fun c => ⟨fun c2 => ?_, fun c2 => ⟨fun c3 => ?_, fun c3 => ⟨fun c4 => ?_, fun c4 => ⟨fun c5 => ?_, fun c5 => ?_⟩⟩⟩⟩⟩
  · rw [if_f (inR_lo c)]; exact KP.no h
  all_goals
    have c := nlt_n (n := 0) (by decide) c
    have hx : inR x 2147483648 = true := decide_eq_true (by have := (Int32.toInt_lt x); omega)
    rw [if_t hx]
  · have c2 := (lt_n (n := 1) (by decide)).mp c2
    rw [show inL n 1 64 = false from decide_eq_false (by omega)]
    exact KP.no h
  · have c3 := (n_lt (n := 64) (by decide)).mp c3
    rw [show inL n 1 64 = false from decide_eq_false (by omega)]
    exact KP.no h
  · have c2 := nlt_n (n := 1) (by decide) c2
    have c3 := n_nlt (n := 64) (by decide) c3
    have c4 := (lt_n (n := 1) (by decide)).mp c4
    rw [show inL n 1 64 = true from decide_eq_true (by omega), if_pos rfl, show inL m 1 100 = false from decide_eq_false (by omega)]
    exact KP.no h
  · have c2 := nlt_n (n := 1) (by decide) c2
    have c3 := n_nlt (n := 64) (by decide) c3
    have c4 := nlt_n (n := 1) (by decide) c4
    have c5 := (le_n (n := 100) (by decide)).mp c5
    rw [show inL n 1 64 = true from decide_eq_true (by omega), if_pos rfl, show inL m 1 100 = true from decide_eq_true (by omega), if_pos rfl]
    obtain ⟨K, hK, rfl⟩ := inR_of hx (by decide)
    obtain ⟨N, hN, rfl⟩ := I_of (x := n) (n := 65) (by omega) (by omega) (by decide)
    obtain ⟨M, hM, rfl⟩ := I_of (x := m) (n := 101) (by omega) (by omega) (by decide)
    rw [I_n (by omega)] at c4 c5
    rw [nn_i (by omega), nn_i (by omega), nn_i (by omega), lN_nI (by omega)]
    exact main N M K (by omega) (by omega) (by omega) hK
  · have c2 := nlt_n (n := 1) (by decide) c2
    have c3 := n_nlt (n := 64) (by decide) c3
    have c5 := nle_n (n := 100) (by decide) c5
    rw [show inL n 1 64 = true from decide_eq_true (by omega), if_pos rfl, show inL m 1 100 = false from decide_eq_false (by omega)]
    exact KP.no h
end FIL
