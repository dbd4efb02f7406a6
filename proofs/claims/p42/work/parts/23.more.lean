/-! Numbers.placeOf, copy; Table.takeRowsOf, pagesOf. -/
theorem rd_placeOf {g : GG} {σ : Hs} {a q n : Nat} {f : Nat → Int32} (h : NumAt g σ a q n f) (v : Int32) {used : Nat} (hu : used ≤ n) : Rd g M_X1_placeOf [.ref a, .int v, .int (nI used)] σ (if fa_first (fun j => decide (f j = v)) used < used then nI (fa_first (fun j => decide (f j = v)) used) else -1) := by
  have hn := h.2.2
  refine q_X1_placeOf a v (nI used) ?_
  have key : ∀ (d k : Nat), k + d = used → (∀ j, j < k → ¬ f j = v) → J_X1_placeOf_2 g (kI fun x σ' => σ' = σ ∧ x = (if fa_first (fun j => decide (f j = v)) used < used then nI (fa_first (fun j => decide (f j = v)) used) else -1)) σ a v (nI used) (nI k) := by
    intro d
    induction d with
    | zero =>
      intro k hk hj
      refine q_X1_placeOf_2 a v _ _ ⟨fun _ => rd_i ?_, fun c => absurd (nI_le (by omega) (by omega)) c⟩
      rw [if_neg]
      intro hl
      exact hj _ (by omega) (of_decide_eq_true (fa_first_yes _ _ hl))
    | succ d ih =>
      intro k hk hj
      refine q_X1_placeOf_2 a v _ _ ⟨fun c => absurd ((nI_leI (by omega) (by omega)).mp c) (by omega), fun _ => ⟨Rc.of h.1, (rd_atn h (by omega)).use ⟨fun c => ?_, fun c => rd_i ?_⟩⟩⟩
      · rw [nI_1]
        exact ih (k + 1) (by omega) (fun j hj2 => by
          rcases Nat.lt_or_ge j k with h1 | h1
          · exact hj j h1
          · rw [show j = k by omega]; exact c)
      · have h1 : fa_first (fun j => decide (f j = v)) used = k := by
          rcases Nat.lt_trichotomy (fa_first (fun j => decide (f j = v)) used) k with h2 | h2 | h2
          · exact absurd (of_decide_eq_true (fa_first_yes (fun j => decide (f j = v)) used (by omega))) (hj _ h2)
          · exact h2
          · have h3 := fa_first_no (fun j => decide (f j = v)) used k h2
            exact absurd c (of_decide_eq_false h3)
        rw [h1, if_pos (by omega)]
  exact key used 0 (by omega) (fun j hj => absurd hj (by omega))
def cpF (n : Nat) (f f2 : Nat → Int32) (k : Nat) : Nat → Int32 := fun j => if j < k then atN n f2 (nI j) else f j
/-! the pages of a set of slots -/
/-- how many pages (slots by w) hold some of the slots below n -/
def pgc (w : Nat) (P : Nat → Bool) : Nat → Nat
  | 0 => 0
  | n + 1 => pgc w P n + (if P n = true ∧ ∀ t, t < n → t / w = n / w → P t = false then 1 else 0)
theorem pgc_le (w : Nat) (P : Nat → Bool) : ∀ n, pgc w P n ≤ n
  | 0 => Nat.le_refl 0
  | n + 1 => by
    have ih := pgc_le w P n
    simp only [pgc]
    split <;> omega
theorem pgc_none (w : Nat) (P : Nat → Bool) {n : Nat} : ∀ (d : Nat), (∀ s, n ≤ s → s < n + d → P s = false) → pgc w P (n + d) = pgc w P n
  | 0, _ => rfl
  | d + 1, h => by
    have ih := pgc_none w P (n := n) d (fun s h1 h2 => h s h1 (by omega))
    show pgc w P (n + d + 1) = _
    rw [pgc, ih, if_neg (fun hh => by
      have h1 := hh.1
      rw [h (n + d) (by omega) (by omega)] at h1
      cases h1), Nat.add_zero]
theorem pgc_page (w : Nat) (P : Nat → Bool) {n : Nat} (hw : 0 < w) (hn : n % w = 0) : ∀ (d : Nat), d ≤ w → (∃ s, n ≤ s ∧ s < n + d ∧ P s = true) → pgc w P (n + d) = pgc w P n + 1
  | 0, _, h => by obtain ⟨s, h1, h2, -⟩ := h; omega
  | d + 1, h, hE => by
    show pgc w P (n + d + 1) = _
    have hq : (n + d) / w = n / w := by
      obtain ⟨m, rfl⟩ : ∃ m, n = w * m := ⟨n / w, by have := Nat.div_add_mod n w; omega⟩
      rw [Nat.mul_add_div hw, Nat.mul_div_cancel_left _ hw, Nat.div_eq_of_lt (by omega)]
      rfl
    have hsame : ∀ t, n ≤ t → t < n + d → t / w = (n + d) / w := by
      intro t h1 h2
      obtain ⟨m, rfl⟩ : ∃ m, n = w * m := ⟨n / w, by have := Nat.div_add_mod n w; omega⟩
      rw [hq, Nat.mul_div_cancel_left _ hw]
      apply Nat.div_eq_of_lt_le
      · rw [Nat.mul_comm]; exact h1
      · rw [Nat.succ_mul, Nat.mul_comm m w]; omega
    have hother : ∀ t, t < n → t / w ≠ (n + d) / w := by
      intro t h1 h2
      obtain ⟨m, rfl⟩ : ∃ m, n = w * m := ⟨n / w, by have := Nat.div_add_mod n w; omega⟩
      rw [hq, Nat.mul_div_cancel_left _ hw] at h2
      have h4 := Nat.div_mul_le_self t w
      rw [h2, Nat.mul_comm] at h4
      omega
    rw [pgc]
    by_cases hex : ∃ s, n ≤ s ∧ s < n + d ∧ P s = true
    · rw [pgc_page w P hw hn d (by omega) hex, if_neg (fun hh => by
        obtain ⟨s, h3, h4, h5⟩ := hex
        rw [hh.2 s (by omega) (hsame s h3 h4)] at h5
        cases h5), Nat.add_zero]
    · have hno : ∀ s, n ≤ s → s < n + d → P s = false := fun s h1 h2 => by
        rcases Bool.eq_false_or_eq_true (P s) with h3 | h3
        · exact absurd ⟨s, h1, h2, h3⟩ hex
        · exact h3
      have hp : P (n + d) = true := by
        obtain ⟨s, h1, h2, h3⟩ := hE
        rcases Nat.lt_or_ge s (n + d) with h4 | h4
        · exact absurd ⟨s, h1, h4, h3⟩ hex
        · rw [show s = n + d by omega] at h3
          exact h3
      rw [pgc_none w P d hno, if_pos ⟨hp, fun t h1 h2 => by
        rcases Nat.lt_or_ge t n with h3 | h3
        · exact absurd h2 (hother t h3)
        · exact hno t h3 h1⟩]
theorem rd_pagesOf {g : GG} {σ : Hs} {t a q : Nat} {f : Nat → Int32} {tk : Nat → Bool} {wd : Nat} (h : TabAt g σ t a q f tk wd) (hw : 2 ≤ wd ∧ wd ≤ 8) (P : Nat → Bool) : Rd g M_X8_pagesOf [.ref t, .long (mk64 P)] σ (nI (pgc wd P 64)) := by
  refine q_X8_pagesOf t _ (FI.of h.1 rfl ?_)
  rw [mk_low wd (by omega)]
  have hmul : ∀ k, nI k * nI wd = nI (k * wd) := fun k => pk_mul k wd
  have hcong : ∀ n, pgc wd (fun s => decide (s < 64) && P s) n = pgc wd (fun s => decide (s < 64) && P s) n := fun _ => rfl
  have key : ∀ (d k : Nat), k + d = 64 → J_X8_pagesOf_15 g (kI fun x σ' => σ' = σ ∧ x = nI (pgc wd P 64)) σ t (mk64 P) (mk64 fun s => decide (s < wd)) (nI (pgc wd P (min (k * wd) 64))) (nI k) := by
    intro d
    induction d with
    | zero =>
      intro k hk
      refine q_X8_pagesOf_15 t _ _ _ (nI k) ⟨fun _ => rd_i ?_, fun c => absurd ((n_le (n := 64) (by decide)).mpr (by rw [I_n (by omega)]; omega)) c⟩
      have : 64 ≤ k * wd := by
        have := Nat.mul_le_mul_left k hw.1
        omega
      rw [Nat.min_eq_right this]
    | succ d ih =>
      intro k hk
      refine q_X8_pagesOf_15 t _ _ _ (nI k) ⟨fun c => absurd ((n_le (n := 64) (by decide)).mp c) (by rw [I_n (by omega)]; omega), fun _ => FI.of h.1 rfl ?_⟩
      have hkw : k * wd ≤ 504 := Nat.le_trans (Nat.mul_le_mul (show k ≤ 63 by omega) hw.2) (by decide)
      rw [hmul]
      refine ⟨fun c => ?_, fun c => rd_i ?_⟩
      · have hk64 : k * wd < 64 := by
          have := (lt_n (n := 64) (by decide)).mp c
          rw [I_n (by omega)] at this
          omega
        have hstep : (k + 1) * wd = k * wd + wd := Nat.succ_mul k wd
        have hmn : k * wd + (min ((k + 1) * wd) 64 - k * wd) = min ((k + 1) * wd) 64 := by omega
        have hyes : (∃ s, k * wd ≤ s ∧ s < k * wd + (min ((k + 1) * wd) 64 - k * wd) ∧ P s = true) → pgc wd P (min ((k + 1) * wd) 64) = pgc wd P (k * wd) + 1 := by
          intro hE
          have e1 := pgc_page wd P (n := k * wd) (by omega) (Nat.mul_mod_left k wd) (min ((k + 1) * wd) 64 - k * wd) (by omega) hE
          rw [hmn] at e1
          exact e1
        have hnot : (¬ ∃ s, k * wd ≤ s ∧ s < k * wd + (min ((k + 1) * wd) 64 - k * wd) ∧ P s = true) → pgc wd P (min ((k + 1) * wd) 64) = pgc wd P (k * wd) := by
          intro hE
          have e1 := pgc_none wd P (n := k * wd) (min ((k + 1) * wd) 64 - k * wd) (fun s h1 h2 => by
            rcases Bool.eq_false_or_eq_true (P s) with h3 | h3
            · exact absurd ⟨s, h1, h2, h3⟩ hE
            · exact h3)
          rw [hmn] at e1
          exact e1
        have hz : ((((mk64 P).toUInt64 >>> ((nI (k * wd)).toInt64.toUInt64 &&& Int64.toUInt64 63)).toInt64) &&& (mk64 fun s => decide (s < wd))) = 0 ↔ ¬ ∃ s, k * wd ≤ s ∧ s < k * wd + (min ((k + 1) * wd) 64 - k * wd) ∧ P s = true := by
          have hb : ∀ s, s < 64 → lb ((((mk64 P).toUInt64 >>> ((nI (k * wd)).toInt64.toUInt64 &&& Int64.toUInt64 63)).toInt64) &&& (mk64 fun s => decide (s < wd))) s = (lb (mk64 P) (k * wd + s) && decide (s < wd)) := by
            intro s hs
            rw [← lb_ushr (mk64 P) hk64]
            unfold lb
            rw [Int64.toBitVec_and, BitVec.getLsbD_and]
            congr 1
            exact lb_mk _ hs
          constructor
          · rintro h1 ⟨s, h2, h3, h4⟩
            have h5 := hb (s - k * wd) (by omega)
            rw [h1, show k * wd + (s - k * wd) = s by omega, lb_mk P (by omega), h4, decide_eq_true (by omega)] at h5
            have h6 : lb 0 (s - k * wd) = false := BitVec.getLsbD_zero
            rw [h6] at h5
            cases h5
          · intro h1
            refine lb_ext fun s hs => ?_
            rw [hb s hs, show lb 0 s = false from BitVec.getLsbD_zero]
            rcases Nat.lt_or_ge s wd with h2 | h2
            · rcases Nat.lt_or_ge (k * wd + s) 64 with h3 | h3
              · rw [lb_mk P h3]
                rcases Bool.eq_false_or_eq_true (P (k * wd + s)) with h4 | h4
                · exact absurd ⟨k * wd + s, by omega, by omega, h4⟩ h1
                · rw [h4, Bool.false_and]
              · rw [show lb (mk64 P) (k * wd + s) = false from BitVec.getLsbD_of_ge _ _ h3, Bool.false_and]
            · rw [decide_eq_false (by omega), Bool.and_false]
        have ih := ih (k + 1) (by omega)
        rw [Nat.min_eq_left (show k * wd ≤ 64 by omega)]
        refine ⟨fun c1 => ?_, fun c1 => ?_⟩
        · rw [nI_1]
          rw [hnot (hz.mp ((lg0 _).mp c1))] at ih
          exact ih
        · rw [nI_1, nI_1]
          rw [hyes (Classical.not_not.mp (fun hc => c1 ((lg0 _).mpr (hz.mpr hc))))] at ih
          exact ih
      · have hk64 : 64 ≤ k * wd := by
          have h1 := nlt_n (n := 64) (by decide) c
          rw [I_n (by omega)] at h1
          omega
        rw [Nat.min_eq_right hk64]
  have h0 := key 64 0 rfl
  rw [Nat.zero_mul] at h0
  exact h0
theorem rd_fullPages {g : GG} {σ : Hs} {t a q : Nat} {f : Nat → Int32} {tk : Nat → Bool} {wd : Nat} (h : TabAt g σ t a q f tk wd) (hw : 2 ≤ wd ∧ wd ≤ 8) : Rd g M_X8_fullPages [.ref t] σ (nI (pgc wd tk 64)) :=
  q_X8_fullPages t (FL.of h.1 rfl ⟨Rc.of h.1, (rd_pagesOf h hw tk).use (rd_i rfl)⟩)
