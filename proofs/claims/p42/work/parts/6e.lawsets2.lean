/-! The law's body: the works of all sets, the best set. -/
section LSF
variable {g : GG} {b L : Nat} {xs : Nat → Int32} {σ : Hs} {r0 : Nat} {S : SS} {Q : Nat → Nat} {E : AE} {kM nM sp : Nat}
theorem wrk_30 {R : Nat → Nat} (ko : KO g σ R S) (iv : Inv S) (h3 : zo S ≤ 3) (m : Nat) : ∀ i, i ≤ zq S → wrk (zf S) (zt S) (zw S) (zo S) (zB S) (zQ S) (zu S) m i ≤ 3000 + i * 103809024
  | 0, _ => by
    have h1 : brdO (zB S) (zo S) m ≤ 10 * zo S := sumO_le (zo S) fun o ho => by
      have := hgt_le (zB S o).2.1.2.2.1
      show hgt (zB S o).2.1.2.2.1 + 2 ≤ 10
      omega
    have h2 : zu S * brdO (zB S) (zo S) m ≤ 99 * 30 := Nat.mul_le_mul (by have := ko.upk; omega) (by omega)
    show zu S * brdO (zB S) (zo S) m ≤ _
    omega
  | i + 1, hi => by
    have ih := wrk_30 ko iv h3 m i (by omega)
    have h1 := mnQ_lt (f := zf S) (tk := zt S) (wd := zw S) (told := zo S) (B := zB S) (fun o ho => (iv.1.1 o ho).2.1) (zQ S i) m
    have h2 : hf (zQ S i) * mnQ (zf S) (zt S) (zw S) (zo S) (zB S) (zQ S i) m ≤ 99 * 1048576 := Nat.mul_le_mul (by have := (ko.qok i (by omega)).2.2; omega) (by omega)
    show wrk _ _ _ _ _ _ _ m i + hf (zQ S i) * mnQ _ _ _ _ _ (zQ S i) m ≤ _
    omega
theorem LW.put4 {w : Nat → Int32} (h : LW g σ r0 S 5 Q E) : LW g (hup σ (Q 4) (aI g 8 w)) r0 S 5 Q (E.1, E.2.1, E.2.2.1, E.2.2.2.1, w) := by
  obtain ⟨R, e, h1⟩ := h
  refine ⟨R, e, ?_⟩
  have := h1.hup (j := 4) (E' := (E.1, E.2.1, E.2.2.1, E.2.2.2.1, w)) (by decide) fun k hk hk4 => by
    rcases (show k = 0 ∨ k = 1 ∨ k = 2 ∨ k = 3 by omega) with rfl | rfl | rfl | rfl <;> rfl
  exact this
/-- the best set among the first k -/
def bK (S : SS) (sp k : Nat) : Nat := bstS (s_wrk S) (s_szs S) (kSet (zB S) (zo S)) sp k
def lK (S : SS) (sp k : Nat) : Int32 := if k = 0 then -1 else nI (s_wrk S (bK S sp k))
theorem law_sets (hL : L ≤ 260) (iv : Inv S) (hK : Kp S) (hq : 1 ≤ zq S ∧ zq S ≤ 3) (hsp : sp < 40) (hz0 : zc S = 0 ∧ zs S = 0) (hk1 : kM ≤ 600000) (hk2 : nM ≤ 7302250) : ∀ (e k : Nat) (σ : Hs) (E : AE), k + e = 2 ^ zo S → LW g σ r0 S 5 Q E → SWq S E → (∀ m, m < k → E.2.2.2.2 m = nI (s_wrk S m)) → J_L_law_801 g b L xs kM nM σ r0 (nI (zo S)) (nI (zq S)) (Q 1) (Q 3) (nI (zu S)) (nI sp) (nI (bK S sp k)) (lK S sp k) (nI (s_szs S (bK S sp k))) (Q 4) (nI k) := by
  have h3 := hK.1
  have hp8 := pow_t h3
  have h8 : zo S ≤ 8 := by omega
  have hspR : inR (nI sp) 10000 = true := inR_y (by omega) (by decide)
  have epow : (1 : Int32) <<< (nI (zo S) &&& 31) = nI (2 ^ zo S) := bs_pow (zo S) (by omega)
  intro e
  induction e with
  | zero =>
    intro k σ E hk h hE hwk
    have hk : k = 2 ^ zo S := hk
    subst hk
    obtain ⟨R0, ko⟩ := h.ko
    have hw30 : ∀ m, s_wrk S m < 2 ^ 30 := fun m => by
      have := wrk_30 ko iv h3 m (zq S) (Nat.le_refl _)
      show wrk _ _ _ _ _ _ _ m (zq S) < 2 ^ 30
      omega
    have hz30 : ∀ m, s_szs S m < 2 ^ 30 := fun m => by
      have := szsO_le ko.ords m
      show szsO (zB S) (zo S) m < 2 ^ 30
      omega
    have eb : bK S sp (2 ^ zo S) = s_bst S sp := (bst_all hK sp).symm
    have ch : ∀ (c : Nat) (y : Int32) (v : Int32), c < 20 → inR y 3 = true → v = (if y = 0 then nI (s_bst S sp) else if y = 1 then nI (s_wrk S (s_bst S sp)) else nI (s_szs S (s_bst S sp))) → s_choose (zch S c 0) (nI sp) y = (v, zch S (c + 1) 0) := fun c y v h1 h2 hv => by
      unfold s_choose
      rw [if_t hspR, if_t h2, if_pos (show zc (zch S c 0) < 20 from h1), nn_i (by omega), hv]
      rfl
    have ivc : ∀ c, c ≤ 20 → Inv (zch S c 0) := fun c h1 => ⟨iv.1, iv.2.1, iv.2.2.1, iv.2.2.2.1, iv.2.2.2.2.1, h1, Nat.zero_le _⟩
    have e0 : S = zch S 0 0 := by
      show zch S (zc S) (zs S) = zch S 0 0
      rw [hz0.1, hz0.2]
    have h0 : LW g σ r0 (zch S 0 0) 5 Q E := by rw [← e0]; exact h
    have l1 : lK S sp (2 ^ zo S) = nI (s_wrk S (s_bst S sp)) := by
      unfold lK
      rw [if_neg (by have := Nat.two_pow_pos (zo S); omega), eb]
    rw [l1, eb]
    refine q_L_law_801 _ _ _ _ _ _ _ _ _ _ _ _ _ _ hL ⟨fun _ => ⟨⟨hk1, hk2⟩, h0.rc, h0.use (fun R k => do_choose k (ivc 0 (by omega)) (nI sp) 0) ?_⟩, fun z => absurd (by rw [epow]; exact nI_le (Nat.le_refl _) (by omega)) z⟩
    rw [ch 0 0 (nI (s_bst S sp)) (by decide) (by decide) (by rw [if_pos rfl])]
    refine fun σ1 h1 => ⟨fun z => absurd rfl z, fun _ => ⟨⟨hk1, hk2⟩, h1.rc, h1.use (fun R k => do_choose k (ivc 1 (by omega)) (nI sp) 1) ?_⟩⟩
    rw [ch (0 + 1) 1 (nI (s_wrk S (s_bst S sp))) (by decide) (by decide) (by rw [if_neg (by decide), if_pos rfl])]
    refine fun σ2 h2 => ⟨fun z => absurd rfl z, fun _ => ⟨⟨hk1, hk2⟩, h2.rc, h2.use (fun R k => do_choose k (ivc 2 (by omega)) (nI sp) 2) ?_⟩⟩
    rw [ch (0 + 1 + 1) 2 (nI (s_szs S (s_bst S sp))) (by decide) (by decide) (by rw [if_neg (by decide), if_neg (by decide)])]
    refine fun σ3 h3' => ⟨fun _ => ?_, fun z => absurd rfl z⟩
    have hP : fa_cnt (0 : Nat).testBit 8 = 0 := by decide +kernel
    exact law_steps (Sb := zch S 3 0) hL 4 0 0 σ3 [] rfl h3' (ivc 3 (by omega)) ⟨hK, hq, hsp, hwk, hw30, hz30, hk1, hk2⟩ (Nat.two_pow_pos _) hP rfl rfl rfl (by rw [show s_szs (zch S 3 0) 0 = s_szs S 0 from rfl, szs_0]; exact Nat.zero_le _)
  | succ e ih =>
    intro k σ E hk h hE hwk
    have hkt : k < 2 ^ zo S := by omega
    have hk8 : k < 8 := by omega
    obtain ⟨R0, ko⟩ := h.ko
    have hw30 : ∀ i, i ≤ zq S → wrk (zf S) (zt S) (zw S) (zo S) (zB S) (zQ S) (zu S) k i < 2 ^ 30 := fun i hi => by
      have := wrk_30 ko iv h3 k i hi
      omega
    have hz30 : ∀ m, s_szs S m < 2 ^ 30 := fun m => by
      have := szsO_le ko.ords m
      show szsO (zB S) (zo S) m < 2 ^ 30
      omega
    have hb8 := bst_lt hK sp (k := k) (by omega)
    have hw31 : ∀ m, s_wrk S m < 2 ^ 30 := fun m => by
      have := wrk_30 ko iv h3 m (zq S) (Nat.le_refl _)
      show wrk _ _ _ _ _ _ _ m (zq S) < 2 ^ 30
      omega
    have hbit := fun o (ho : o < 4) => bs_has1 k (by omega) o ho
    -- the questions
    have quest : ∀ (e2 q : Nat) (σ1 : Hs), q + e2 = zq S → LW g σ1 r0 S 5 Q E → J_L_law_894 g b L xs kM nM σ1 r0 (nI (zo S)) (nI (zq S)) (Q 1) (Q 3) (nI (zu S)) (nI sp) (nI (bK S sp k)) (lK S sp k) (nI (s_szs S (bK S sp k))) (Q 4) (nI k) (nI (wrk (zf S) (zt S) (zw S) (zo S) (zB S) (zQ S) (zu S) k q)) (nI (s_szs S k)) (nI q) := by
      intro e2
      induction e2 with
      | zero =>
        intro q σ1 hq2 h1
        have hq2 : q = zq S := hq2
        subst hq2
        have h2 := h1.put4 (w := upd E.2.2.2.2 k (nI (s_wrk S k)))
        have ew : v_work S (nI k) = nI (s_wrk S k) := by
          unfold v_work
          rw [if_t (inR_y (by omega) (by decide)), nn_i (by omega)]
        have hwk2 : ∀ m, m < k + 1 → upd E.2.2.2.2 k (nI (s_wrk S k)) m = nI (s_wrk S m) := fun m hm => by
          by_cases c : m = k
          · rw [c, pk_us]
          · rw [pk_un c]; exact hwk m (by omega)
        have enx : bK S sp (k + 1) = if (k &&& kSet (zB S) (zo S) = k ∧ s_szs S k ≤ sp) ∧ bet (s_wrk S) (s_szs S) k (bK S sp k) = true then k else bK S sp k := rfl
        have hkk := kSet_all hK hkt
        have hbet : bet (s_wrk S) (s_szs S) k (bK S sp k) = true ↔ s_wrk S k < s_wrk S (bK S sp k) ∨ (s_wrk S k = s_wrk S (bK S sp k) ∧ s_szs S k < s_szs S (bK S sp k)) := by
          unfold bet
          rw [Bool.or_eq_true, Bool.and_eq_true, decide_eq_true_eq, decide_eq_true_eq, decide_eq_true_eq]
        have lk1 : lK S sp (k + 1) = nI (s_wrk S (bK S sp (k + 1))) := if_neg (by omega)
        refine q_L_law_894 _ _ _ _ _ _ _ _ _ _ _ _ _ _ _ _ _ hL ⟨fun _ => SI.of (h1.c4 (by decide)) rfl hk8 (by decide) ⟨⟨hk1, hk2⟩, h2.rc, h2.use (fun R kk => do_work kk (nI k)) ?_⟩, fun z => absurd (nI_le (Nat.le_refl _) (by omega)) z⟩
        rw [ew]
        refine fun σ3 h3' => ⟨fun _ => ?_, fun z => absurd rfl z⟩
        have ih := ih (k + 1) σ3 _ (by omega) h3' hE hwk2
        rw [lk1] at ih
        have same : 0 < k → ¬ (s_szs S k ≤ sp ∧ bet (s_wrk S) (s_szs S) k (bK S sp k) = true) → J_L_law_801 g b L xs kM nM σ3 r0 (nI (zo S)) (nI (zq S)) (Q 1) (Q 3) (nI (zu S)) (nI sp) (nI (bK S sp k)) (lK S sp k) (nI (s_szs S (bK S sp k))) (Q 4) (nI k + 1) := fun hk0 z => by
          rw [enx, if_neg fun w => z ⟨w.1.2, w.2⟩] at ih
          rw [nI_1, show lK S sp k = nI (s_wrk S (bK S sp k)) from if_neg (by omega)]
          exact ih
        have new : s_szs S k ≤ sp → (k = 0 ∨ bet (s_wrk S) (s_szs S) k (bK S sp k) = true) → J_L_law_801 g b L xs kM nM σ3 r0 (nI (zo S)) (nI (zq S)) (Q 1) (Q 3) (nI (zu S)) (nI sp) (nI k) (nI (s_wrk S k)) (nI (s_szs S k)) (Q 4) (nI k + 1) := fun z1 z2 => by
          have e5 : bK S sp (k + 1) = k := by
            rcases z2 with z2 | z2
            · subst z2
              exact bstS_1 _ _ _ _
            · rw [enx, if_pos ⟨⟨hkk, z1⟩, z2⟩]
          rw [e5] at ih
          rw [nI_1]
          exact ih
        have e6 : nI (wrk (zf S) (zt S) (zw S) (zo S) (zB S) (zQ S) (zu S) k (zq S)) = nI (s_wrk S k) := rfl
        rw [e6]
        have b1 := hw31 k
        have b2 := hw31 (bK S sp k)
        have b3 := hz30 k
        have b4 := hz30 (bK S sp k)
        refine ⟨fun z => ?_, fun z => ⟨fun z2 => ?_, fun z2 => ⟨fun z3 => ?_, fun z3 => ⟨fun z4 => ?_, fun z4 => ⟨fun z5 => ?_, fun z5 => ?_⟩⟩⟩⟩⟩
        · have z := (nI_ltI (by omega) (by omega)).mp z
          have hk0 : 0 < k := by
            rcases Nat.eq_zero_or_pos k with y | y
            · subst y
              rw [szs_0] at z
              omega
            · exact y
          exact same hk0 fun w => by omega
        all_goals
          have z : s_szs S k ≤ sp := by
            rcases Nat.lt_or_ge sp (s_szs S k) with y | y
            · exact absurd (nI_lt y (by omega)) z
            · exact y
        · refine new z (Or.inl ?_)
          unfold lK at z2
          by_cases y : k = 0
          · exact y
          · rw [if_neg y] at z2
            exact absurd z2 (nI_pos (by omega))
        all_goals
          have hk0 : k ≠ 0 := fun y => z2 (by
            rw [show lK S sp k = -1 from if_pos y]
            decide)
          have elk : lK S sp k = nI (s_wrk S (bK S sp k)) := if_neg hk0
        · rw [elk] at z3
          have z3 := (nI_ltI (by omega) (by omega)).mp z3
          exact new z (Or.inr (hbet.mpr (Or.inl z3)))
        all_goals
          have z3 : ¬ s_wrk S k < s_wrk S (bK S sp k) := fun y => z3 (by rw [elk]; exact nI_lt y (by omega))
        · have z4 : ¬ s_wrk S k = s_wrk S (bK S sp k) := fun y => z4 (by rw [elk, y])
          exact same (by omega) fun w => by rcases hbet.mp w.2 with y | y <;> omega
        all_goals
          have z4 : s_wrk S k = s_wrk S (bK S sp k) := by
            rw [elk] at z4
            exact (nI_eq (by omega) (by omega)).mp z4
        · have z5 := (nI_leI (by omega) (by omega)).mp z5
          exact same (by omega) fun w => by rcases hbet.mp w.2 with y | y <;> omega
        · have z5 : ¬ s_szs S (bK S sp k) ≤ s_szs S k := fun y => z5 (nI_le y (by omega))
          exact new z (Or.inr (hbet.mpr (Or.inr ⟨z4, by omega⟩)))
      | succ e2 ih2 =>
        intro q σ1 hq2 h1
        have hqq : q < zq S := by omega
        refine q_L_law_894 _ _ _ _ _ _ _ _ _ _ _ _ _ _ _ _ _ hL ⟨fun z => absurd ((nI_leI (by omega) (by omega)).mp z) (by omega), fun _ => AI.of (h1.c3 (by decide)) (pk_mul 16 q) (by omega) (by decide) ?_⟩
        rw [hE.2.1 q hqq]
        refine law_best hL h1 iv hK hqq hq.2 hk8 hE ?_
        refine q_L_law_917 _ _ _ _ _ _ _ _ _ _ _ _ _ _ _ _ _ _ _ _ hL ⟨fun _ => AI.of (h1.c1 (by decide)) rfl (by omega) (by decide) ⟨⟨hk1, hk2⟩, h1.rc, h1.use (fun R kk => do_best kk (nI q) (nI k)) ?_⟩, fun z => absurd (show (2 : Int32) ≤ nI 2 by decide) z⟩
        rw [best_end hK hqq (by omega) (show k < 256 by omega), hE.1 q hqq]
        refine fun σ2 h2 => ⟨fun _ => ?_, fun z => absurd rfl z⟩
        have ih2 := ih2 (q + 1) σ2 (by omega) h2
        have ew : wrk (zf S) (zt S) (zw S) (zo S) (zB S) (zQ S) (zu S) k (q + 1) = wrk (zf S) (zt S) (zw S) (zo S) (zB S) (zQ S) (zu S) k q + hf (zQ S q) * bC S q k (lnW (zo S)) := by
          show _ + hf (zQ S q) * mnQ _ _ _ _ _ (zQ S q) k = _
          rw [mnQ_bC hK]
        rw [ew] at ih2
        rw [pk_mul, nI_add, nI_1]
        exact ih2
    -- upkeep and pages
    have upk : ∀ (e2 a : Nat), a + e2 = zo S → J_L_law_819 g b L xs kM nM σ r0 (nI (zo S)) (nI (zq S)) (Q 1) (Q 3) (nI (zu S)) (nI sp) (nI (bK S sp k)) (lK S sp k) (nI (s_szs S (bK S sp k))) (Q 4) (nI k) (nI (zu S * sumO (fun w => hgt w.2.2.1 + 2) (zB S) k a)) (nI (sumO (fun w => szO w.2.2.1) (zB S) k a)) (nI a) := by
      intro e2
      induction e2 with
      | zero =>
        intro a ha
        have ha : a = zo S := ha
        subst ha
        exact q_L_law_819 _ _ _ _ _ _ _ _ _ _ _ _ _ _ _ _ _ hL ⟨fun _ => quest (zq S) 0 σ (by omega) h, fun z => absurd (nI_le (Nat.le_refl _) (by omega)) z⟩
      | succ e2 ih2 =>
        intro a ha
        have hat : a < zo S := by omega
        have ih2 := ih2 (a + 1) (by omega)
        have hd := hK.2 a hat
        have ab2 := v_about_2 hat h8 hd
        have ab3 := v_about_3 hat h8 hd
        have h855 : ∀ t : Int32, nI (zu S * sumO (fun w => hgt w.2.2.1 + 2) (zB S) k a) + t = nI (zu S * sumO (fun w => hgt w.2.2.1 + 2) (zB S) k (a + 1)) → J_L_law_855 g b L xs kM nM σ r0 (nI (zo S)) (nI (zq S)) (Q 1) (Q 3) (nI (zu S)) (nI sp) (nI (bK S sp k)) (lK S sp k) (nI (s_szs S (bK S sp k))) (Q 4) (nI k) (nI (sumO (fun w => szO w.2.2.1) (zB S) k a)) (nI a) t (nI (zu S * sumO (fun w => hgt w.2.2.1 + 2) (zB S) k a)) := fun t ht => by
          refine q_L_law_855 _ _ _ _ _ _ _ _ _ _ _ _ _ _ _ _ _ _ hL ⟨fun z => ?_, fun z => ⟨⟨hk1, hk2⟩, h.rc, h.rd (fun R kk => rd_about kk (nI a) 3) ?_⟩⟩
          · have z : k.testBit a = false := by
              rcases Bool.eq_false_or_eq_true (k.testBit a) with y | y
              · exact absurd ((hbit a (by omega)).mpr y) z
              · exact y
            rw [ht, nI_p0, nI_1]
            have e7 : sumO (fun w => szO w.2.2.1) (zB S) k (a + 1) = sumO (fun w => szO w.2.2.1) (zB S) k a := by
              simp only [sumO, z]
              simp
            rw [e7] at ih2
            exact ih2
          · have z := (hbit a (by omega)).mp z
            rw [ab3, ht, nI_add, nI_1]
            have e7 : sumO (fun w => szO w.2.2.1) (zB S) k (a + 1) = sumO (fun w => szO w.2.2.1) (zB S) k a + szO (zB S a).2.1.2.2.1 := by
              simp only [sumO, z, hd]
              simp
            rw [e7] at ih2
            exact ih2
        refine q_L_law_819 _ _ _ _ _ _ _ _ _ _ _ _ _ _ _ _ _ hL ⟨fun z => absurd ((nI_leI (by omega) (by omega)).mp z) (by omega), fun _ => ⟨fun z => h855 0 ?_, fun z => ⟨⟨hk1, hk2⟩, h.rc, h.rd (fun R kk => rd_about kk (nI a) 2) (h855 _ ?_)⟩⟩⟩
        · have z : k.testBit a = false := by
            rcases Bool.eq_false_or_eq_true (k.testBit a) with y | y
            · exact absurd ((hbit a (by omega)).mpr y) z
            · exact y
          rw [nI_p0]
          congr 2
          simp only [sumO, z]
          simp
        · have z := (hbit a (by omega)).mp z
          rw [ab2, show nI (hgt (zB S a).2.1.2.2.1) + 2 = nI (hgt (zB S a).2.1.2.2.1 + 2) from nI_add _ 2, pk_mul, nI_add]
          congr 1
          have e7 : sumO (fun w => hgt w.2.2.1 + 2) (zB S) k (a + 1) = sumO (fun w => hgt w.2.2.1 + 2) (zB S) k a + (hgt (zB S a).2.1.2.2.1 + 2) := by
            simp only [sumO, z, hd]
            simp
          rw [e7]
          exact (Nat.mul_add _ _ _).symm
    refine q_L_law_801 _ _ _ _ _ _ _ _ _ _ _ _ _ _ hL ⟨fun z => absurd (by rw [epow] at z; exact (nI_leI (by omega) (by omega)).mp z) (by omega), fun _ => ?_⟩
    exact upk (zo S) 0 (by omega)
end LSF
