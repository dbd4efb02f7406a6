/-! The law's table and orders: what its state is before the questions. -/
theorem fa_cnt_mono {p q : Nat → Bool} : ∀ n, (∀ k, k < n → p k = true → q k = true) → fa_cnt p n ≤ fa_cnt q n
  | 0, _ => Nat.le_refl _
  | n + 1, h => by
    have ih := fa_cnt_mono n fun k hk => h k (by omega)
    rcases Bool.eq_false_or_eq_true (p n) with z | z
    · rw [fa_cnt_yes z, fa_cnt_yes (h n (by omega) z)]; omega
    · rw [fa_cnt_no z]
      rcases Bool.eq_false_or_eq_true (q n) with y | y
      · rw [fa_cnt_yes y]; omega
      · rw [fa_cnt_no y]; exact ih
theorem fa_cnt_all {p : Nat → Bool} : ∀ n, (∀ k, k < n → p k = true) → fa_cnt p n = n
  | 0, _ => rfl
  | n + 1, h => by rw [fa_cnt_yes (h n (by omega)), fa_cnt_all n fun k hk => h k (by omega)]
theorem fa_cnt_S {Q : Nat → Bool} {x : Nat} : ∀ m, fa_cnt (fun s => Q s || decide (s = x)) m ≤ fa_cnt Q m + 1
  | 0 => Nat.zero_le _
  | m + 1 => by
    have ih := fa_cnt_S (Q := Q) (x := x) m
    by_cases e : m = x
    · subst e
      have e2 : fa_cnt (fun s => Q s || decide (s = m)) m = fa_cnt Q m := fa_cnt_cong fun k hk => by
        show (Q k || decide (k = m)) = Q k
        rw [decide_eq_false (by omega), Bool.or_false]
      rw [fa_cnt_yes (p := fun s => Q s || decide (s = m)) (n := m) (by simp), e2]
      rcases Bool.eq_false_or_eq_true (Q m) with y | y
      · rw [fa_cnt_yes y]; omega
      · rw [fa_cnt_no y]; omega
    · rcases Bool.eq_false_or_eq_true (Q m) with y | y
      · rw [fa_cnt_yes y, fa_cnt_yes (p := fun s => Q s || decide (s = x)) (n := m) (by simp [y])]; omega
      · rw [fa_cnt_no y, fa_cnt_no (p := fun s => Q s || decide (s = x)) (n := m) (by simp [y, e])]; exact ih
theorem emp_lt {S : SS} (h : fa_cnt (zt S) 64 < 64) : s_emp S < 64 := by
  have hle := fa_first_le (fun s => !zt S s) 64
  rcases Nat.lt_or_ge (s_emp S) 64 with y | y
  · exact y
  · have e : fa_first (fun s => !zt S s) 64 = 64 := Nat.le_antisymm hle y
    have : fa_cnt (zt S) 64 = 64 := fa_cnt_all 64 fun k hk => by
      have := fa_first_no (fun s => !zt S s) 64 k (by omega)
      simpa using this
    omega
/-- before the questions: W wide, at most so many rows -/
def PA (S : SS) (w c : Nat) : Prop := Inv S ∧ zw S = w ∧ (zq S = 0 ∧ zn S = 0 ∧ zu S = 0 ∧ zc S = 0 ∧ zs S = 0) ∧ (∀ o, o < zo S → (zB S o).2.2 = false) ∧ fa_cnt (zt S) 64 ≤ c
theorem PA.lay {S : SS} {w c s : Nat} {x1 x2 x3 x4 : Int32} (h : PA S w c) (hs : s < 64) (ht : zt S s = false) (h1 : inR x1 100 = true) (h2 : inR x2 100 = true) (h3 : inR x3 100 = true) (h4 : inR x4 100 = true) : PA (s_lay S s x1 x2 x3 x4) w (c + 1) := by
  refine ⟨h.1.lay hs ht h1 h2 h3 h4, h.2.1, h.2.2.1, fun o ho => ?_, ?_⟩
  · have hd := h.2.2.2.1 o ho
    show (eachO _ (zB S) o).2.2 = false
    rw [eachO_at hd]
    exact hd
  · have h5 := h.2.2.2.2
    have h6 := fa_cnt_S (Q := zt S) (x := s) 64
    show fa_cnt (tkS (zt S) s) 64 ≤ c + 1
    unfold tkS
    omega
theorem PA.row {S : SS} {w c a1 a2 a3 a4 : Nat} (h : PA S w c) (hc : c < 64) (h1 : a1 < 100) (h2 : a2 < 100) (h3 : a3 < 100) (h4 : a4 < 100) : ∃ s, s < 64 ∧ (s_row S (nI a1) (nI a2) (nI a3) (nI a4)).1 = nI s ∧ PA (s_row S (nI a1) (nI a2) (nI a3) (nI a4)).2 w (c + 1) ∧ zo (s_row S (nI a1) (nI a2) (nI a3) (nI a4)).2 = zo S := by
  have he := emp_lt (S := S) (by have := h.2.2.2.2; omega)
  have r1 := inR_y h1 (show 100 ≤ 2 ^ 31 by decide)
  have r2 := inR_y h2 (show 100 ≤ 2 ^ 31 by decide)
  have r3 := inR_y h3 (show 100 ≤ 2 ^ 31 by decide)
  have r4 := inR_y h4 (show 100 ≤ 2 ^ 31 by decide)
  have e : s_row S (nI a1) (nI a2) (nI a3) (nI a4) = (nI (s_emp S), s_lay S (s_emp S) (nI a1) (nI a2) (nI a3) (nI a4)) := by
    unfold s_row
    rw [if_t r1, if_t r2, if_t r3, if_t r4, if_pos he]
  rw [e]
  exact ⟨_, he, rfl, h.lay he (s_emp_f he) r1 r2 r3 r4, rfl⟩
theorem PA.drop {S : SS} {w c s : Nat} (h : PA S w c) (hs : s < 64) (ht : zt S s = true) : ∃ v, v < 65 ∧ (s_drop S (nI s)).1 = nI v ∧ PA (s_drop S (nI s)).2 w c ∧ zo (s_drop S (nI s)).2 = zo S := by
  have hi : isR S (nI s) = true := by
    unfold isR
    rw [inR_y hs (by decide), nn_i (by omega), ht]
    rfl
  have e : s_drop S (nI s) = (nI (fa_cnt (tkD (zt S) s) 64), zTO S (zf S) (tkD (zt S) s) (B_go s (zB S))) := by
    unfold s_drop
    rw [if_t hi, nn_i (by omega)]
  have iv := h.1.drop (nI s)
  rw [e] at iv ⊢
  have hm : fa_cnt (tkD (zt S) s) 64 ≤ fa_cnt (zt S) 64 := fa_cnt_mono 64 fun k _ hk => by
    unfold tkD at hk
    rw [Bool.and_eq_true] at hk
    exact hk.1
  have h64 := fa_cnt_le (zt S) 64
  refine ⟨_, by omega, rfl, ⟨iv, h.2.1, h.2.2.1, fun o ho => ?_, ?_⟩, rfl⟩
  · have hd := h.2.2.2.1 o ho
    show (eachO _ (zB S) o).2.2 = false
    rw [eachO_at hd]
    exact hd
  · have := h.2.2.2.2
    show fa_cnt (tkD (zt S) s) 64 ≤ c
    omega
theorem PA.fl {w M : Nat} (hM : 0 < M) (hM2 : M ≤ 100) : ∀ (n : Nat) {S : SS} {c : Nat} (k came : Nat), PA S w c → c + n ≤ 64 → (s_fl M n S k came).1 = came + n ∧ PA (s_fl M n S k came).2 w (c + n) ∧ zo (s_fl M n S k came).2 = zo S
  | 0, S, c, k, came, h, _ => ⟨rfl, h, rfl⟩
  | n + 1, S, c, k, came, h, hc => by
    have he := emp_lt (S := S) (by have := h.2.2.2.2; omega)
    rw [s_fl_s, if_pos he]
    obtain ⟨a1, a2, a3⟩ := PA.fl hM hM2 n (sdN (sdN (sdN (sdN k)))) (came + 1) (h.lay he (s_emp_f he) (nmN_in (k := sdN k) hM hM2) (nmN_in (k := sdN (sdN k)) hM hM2) (nmN_in (k := sdN (sdN (sdN k))) hM hM2) (nmN_in (k := sdN (sdN (sdN (sdN k)))) hM hM2)) (by omega)
    refine ⟨by rw [a1]; omega, ?_, a3⟩
    rw [show c + (n + 1) = c + 1 + n by omega]
    exact a2
theorem PA.fill {S : SS} {w X N M : Nat} (h : PA S w 0) (hX : X < 2147483648) (hN : 1 ≤ N ∧ N ≤ 64) (hM : 1 ≤ M ∧ M ≤ 100) : (s_fill S (nI X) (nI N) (nI M)).1 = nI N ∧ PA (s_fill S (nI X) (nI N) (nI M)).2 w N ∧ zo (s_fill S (nI X) (nI N) (nI M)).2 = zo S := by
  have e : s_fill S (nI X) (nI N) (nI M) = (nI (s_fl M N S X 0).1, (s_fl M N S X 0).2) := by
    unfold s_fill
    rw [if_t (inR_y hX (by decide)), if_t (show inL (nI N) 1 64 = true from decide_eq_true (by rw [I_n (by omega)]; omega)), if_t (show inL (nI M) 1 100 = true from decide_eq_true (by rw [I_n (by omega)]; omega)), nn_i (by omega), nn_i (by omega), nn_i (by omega)]
  obtain ⟨a1, a2, a3⟩ := PA.fl (w := w) (M := M) (by omega) hM.2 N X 0 h (by omega)
  rw [e]
  refine ⟨?_, ?_, a3⟩
  · show nI (s_fl M N S X 0).1 = nI N
    rw [a1, Nat.zero_add]
  · rw [Nat.zero_add] at a2
    exact a2
theorem PA.wide {w : Nat} (hw : 2 ≤ w ∧ w ≤ 8) : (s_wide S0 (nI w)).1 = 4 ∧ PA (s_wide S0 (nI w)).2 w 0 ∧ zo (s_wide S0 (nI w)).2 = 0 := by
  have e : s_wide S0 (nI w) = (nI (zw S0), ((zf S0, zt S0, w), S0.2)) := by
    unfold s_wide
    rw [if_t (show inL (nI w) 2 8 = true from decide_eq_true (by rw [I_n (by omega)]; omega)), nn_i (by omega)]
  have iv := Inv0.wide (nI w)
  rw [e] at iv ⊢
  refine ⟨rfl, ⟨iv, rfl, ⟨rfl, rfl, rfl, rfl, rfl⟩, fun o ho => absurd ho (Nat.not_lt_zero _), ?_⟩, rfl⟩
  show fa_cnt (fun _ => false) 64 ≤ 0
  decide +kernel
theorem PA.order {S : SS} {w c key : Nat} (h : PA S w c) (hk : key < 125) (kb : keyB key = true) (h8 : zo S < 8) : PA (s_order S (nI key)).2 w c ∧ (((s_order S (nI key)).1 = nI (zo S) ∧ zo (s_order S (nI key)).2 = zo S + 1) ∨ ((s_order S (nI key)).1 = -103 ∧ zo (s_order S (nI key)).2 = zo S)) := by
  have iv := h.1.order (nI key)
  have hky : isKy (nI key) = true := by
    unfold isKy
    rw [inR_y hk (by decide), nn_i (by omega), kb]
    rfl
  by_cases c2 : hasK (zB S) key (zo S) = true
  · have e : s_order S (nI key) = (-103, S) := by
      unfold s_order
      rw [if_t hky, nn_i (by omega), if_t c2]
    rw [e]
    exact ⟨h, Or.inr ⟨rfl, rfl⟩⟩
  · have c2 : hasK (zB S) key (zo S) = false := by
      rcases Bool.eq_false_or_eq_true (hasK (zB S) key (zo S)) with y | y
      · exact absurd y c2
      · exact y
    have e : s_order S (nI key) = (nI (zo S), (S.1, (zo S + 1, fun o => if o = zo S then (key, rebS (zf S) key (zt S) w0, false) else zB S o), S.2.2)) := by
      unfold s_order
      rw [if_t hky, nn_i (by omega), if_f c2, if_pos h8]
    rw [e] at iv ⊢
    refine ⟨⟨iv, h.2.1, h.2.2.1, fun o ho => ?_, h.2.2.2.2⟩, Or.inl ⟨rfl, rfl⟩⟩
    have ho : o < zo S + 1 := ho
    show (if o = zo S then (key, rebS (zf S) key (zt S) w0, false) else zB S o : OD).2.2 = false
    by_cases y : o = zo S
    · rw [if_pos y]
    · rw [if_neg y]
      exact h.2.2.2.1 o (by omega)
