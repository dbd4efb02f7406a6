/-! Question: cleared and narrowed; Order and a question: the run's columns, covering, sorting; counts of bits. -/
section QUE2
variable {g : GG} {σ : Hs} {b : Nat → Nat} {d : QD}
def clrF (v : Int32) (f : Nat → Int32) (k : Nat) : Nat → Int32 := fun j => if j < k then v else f j
theorem clrF_s (v : Int32) (f : Nat → Int32) (k : Nat) : upd (clrF v f k) k v = clrF v f (k + 1) := by
  funext j
  simp only [upd, clrF]
  by_cases h1 : j = k
  · rw [if_pos h1, if_pos (by omega)]
  · rw [if_neg h1]
    by_cases h2 : j < k
    · rw [if_pos h2, if_pos (by omega)]
    · rw [if_neg h2, if_neg (by omega)]
def qclr (d : QD) : QD := (clrF 0 d.1 4, clrF 99 d.2.1 4, (fun _ => false), -1, 1)
theorem isB_clr {d : QD} {c : Nat} (hc : c < 4) : isB (qclr d) c = false := by
  unfold isB qclr clrF
  simp [hc]
/-- the cell of a question while its bounds are being written: bits as they were -/
def qc0 (b : Nat → Nat) (bd fx sh srt hf : Int32) : va_E := .inr (6, [.ref (b 1), .ref (b 3), .int bd, .int fx, .int sh, .int srt, .int hf])
theorem q_chain {σ : Hs} {b : Nat → Nat} (h02 : b 0 ≠ b 2) (h04 : b 0 ≠ b 4) (h24 : b 2 ≠ b 4) (e1 e2 e3 e4 e5 e6 : va_E) : hup (hup (hup (hup (hup (hup σ (b 2) e1) (b 4) e2) (b 0) e3) (b 2) e4) (b 4) e5) (b 0) e6 = hup (hup (hup σ (b 2) e4) (b 4) e5) (b 0) e6 := by
  unfold hup
  congr 1
  funext j
  simp only [va_up]
  by_cases h1 : j = b 0
  · simp [h1]
  · by_cases h2 : j = b 4
    · simp [h1, h2]
    · by_cases h3 : j = b 2
      · simp [h1, h2, h3]
      · simp [h1, h2, h3]
/-- a question whose bits are anything -/
def QRaw (g : GG) (σ : Hs) (b : Nat → Nat) (lo hi : Nat → Int32) (bd fx sh srt hf : Int32) : Prop := Ce σ (b 0) (qc0 b bd fx sh srt hf) ∧ NumAt g σ (b 1) (b 2) 4 lo ∧ NumAt g σ (b 3) (b 4) 4 hi ∧ b 2 ≠ b 4
def rup (g : GG) (σ : Hs) (b : Nat → Nat) (lo hi : Nat → Int32) (bd fx sh srt hf : Int32) : Hs := hup (hup (hup σ (b 2) (aI g 4 lo)) (b 4) (aI g 4 hi)) (b 0) (qc0 b bd fx sh srt hf)
variable {lo hi : Nat → Int32} {bd fx sh srt hf : Int32}
theorem QAt.raw (h : QAt g σ b d) : QRaw g σ b d.1 d.2.1 (nI (mk4 (isB d))) (nI (mk4 (isF d))) (nI (mk4 d.2.2.1)) d.2.2.2.1 d.2.2.2.2 := h
theorem qup_rup (d : QD) : qup g σ b d = rup g σ b d.1 d.2.1 (nI (mk4 (isB d))) (nI (mk4 (isF d))) (nI (mk4 d.2.2.1)) d.2.2.2.1 d.2.2.2.2 := rfl
theorem QRaw.keep (h : QRaw g σ b lo hi bd fx sh srt hf) (lo' hi' : Nat → Int32) (bd' fx' sh' srt' hf' : Int32) : QRaw g (rup g σ b lo' hi' bd' fx' sh' srt' hf') b lo' hi' bd' fx' sh' srt' hf' := by
  obtain ⟨h0, h1, h3, h24⟩ := h
  refine ⟨((h0.upo (ne_oa h0 h1.2.1)).upo (ne_oa h0 h3.2.1)).up _, ?_, ?_, h24⟩
  · exact ⟨((h1.1.upo (ne_oa h1.1 h1.2.1)).upo (ne_oa h1.1 h3.2.1)).upo (ne_cl h1.1 h0 (by decide)), ((h1.2.1.up _).upo h24).upo (ne_oa h0 h1.2.1).symm, h1.2.2⟩
  · exact ⟨((h3.1.upo (ne_oa h3.1 h1.2.1)).upo (ne_oa h3.1 h3.2.1)).upo (ne_cl h3.1 h0 (by decide)), ((h3.2.1.upo h24.symm).up _).upo (ne_oa h0 h3.2.1).symm, h3.2.2⟩
theorem rup_rup (lo1 hi1 lo2 hi2 : Nat → Int32) (a1 a2 a3 a4 a5 c1 c2 c3 c4 c5 : Int32) : rup g (rup g σ b lo1 hi1 a1 a2 a3 a4 a5) b lo2 hi2 c1 c2 c3 c4 c5 = rup g σ b lo2 hi2 c1 c2 c3 c4 c5 := by
  unfold rup hup
  congr 1
  funext j
  simp only [va_up]
  by_cases h1 : j = b 0
  · simp [h1]
  · by_cases h2 : j = b 4
    · simp [h1, h2]
    · by_cases h3 : j = b 2
      · simp [h1, h2, h3]
      · simp [h1, h2, h3]
theorem QRaw.self (h : QRaw g σ b lo hi bd fx sh srt hf) : rup g σ b lo hi bd fx sh srt hf = σ := by
  unfold rup
  rw [hup_self h.2.1.2.1, hup_self h.2.2.1.2.1, hup_self h.1]
theorem QRaw.setLo (h : QRaw g σ b lo hi bd fx sh srt hf) (lo' : Nat → Int32) : hup σ (b 2) (aI g 4 lo') = rup g σ b lo' hi bd fx sh srt hf := by
  unfold rup
  rw [hup_self (h.2.2.1.2.1.upo h.2.2.2.symm), hup_self (h.1.upo (ne_oa h.1 h.2.1.2.1))]
theorem QRaw.setHi (h : QRaw g σ b lo hi bd fx sh srt hf) (hi' : Nat → Int32) : hup σ (b 4) (aI g 4 hi') = rup g σ b lo hi' bd fx sh srt hf := by
  unfold rup
  rw [hup_self h.2.1.2.1, hup_self (h.1.upo (ne_oa h.1 h.2.2.1.2.1))]
theorem QRaw.setC (h : QRaw g σ b lo hi bd fx sh srt hf) (bd' fx' sh' srt' hf' : Int32) : hup σ (b 0) (qc0 b bd' fx' sh' srt' hf') = rup g σ b lo hi bd' fx' sh' srt' hf' := by
  unfold rup
  rw [hup_self h.2.1.2.1, hup_self h.2.2.1.2.1]
theorem QRaw.putLo (h : QRaw g σ b lo hi bd fx sh srt hf) {k : Nat} (hk : k < 4) (v : Int32) : Wr g M_X1_put [.ref (b 1), .int (nI k), .int v] σ (rup g σ b (upd lo k v) hi bd fx sh srt hf) := by
  have h1 := wr_put h.2.1 hk v
  rw [h.setLo] at h1
  exact h1
theorem QRaw.putHi (h : QRaw g σ b lo hi bd fx sh srt hf) {k : Nat} (hk : k < 4) (v : Int32) : Wr g M_X1_put [.ref (b 3), .int (nI k), .int v] σ (rup g σ b lo (upd hi k v) bd fx sh srt hf) := by
  have h1 := wr_put h.2.2.1 hk v
  rw [h.setHi] at h1
  exact h1
theorem QRaw.pf2 (h : QRaw g σ b lo hi bd fx sh srt hf) (x : Int32) {φ : Hs → Prop} (k : φ (rup g σ b lo hi x fx sh srt hf)) : PF σ (b 0) 6 2 (.int x) φ := by
  refine PF.of h.1 (by show 2 < 7; decide) rfl ?_
  show φ (hup σ (b 0) (qc0 b x fx sh srt hf))
  rw [h.setC]
  exact k
theorem QRaw.pf3 (h : QRaw g σ b lo hi bd fx sh srt hf) (x : Int32) {φ : Hs → Prop} (k : φ (rup g σ b lo hi bd x sh srt hf)) : PF σ (b 0) 6 3 (.int x) φ := by
  refine PF.of h.1 (by show 3 < 7; decide) rfl ?_
  show φ (hup σ (b 0) (qc0 b bd x sh srt hf))
  rw [h.setC]
  exact k
theorem QRaw.pf4 (h : QRaw g σ b lo hi bd fx sh srt hf) (x : Int32) {φ : Hs → Prop} (k : φ (rup g σ b lo hi bd fx x srt hf)) : PF σ (b 0) 6 4 (.int x) φ := by
  refine PF.of h.1 (by show 4 < 7; decide) rfl ?_
  show φ (hup σ (b 0) (qc0 b bd fx x srt hf))
  rw [h.setC]
  exact k
theorem QRaw.pf5 (h : QRaw g σ b lo hi bd fx sh srt hf) (x : Int32) {φ : Hs → Prop} (k : φ (rup g σ b lo hi bd fx sh x hf)) : PF σ (b 0) 6 5 (.int x) φ := by
  refine PF.of h.1 (by show 5 < 7; decide) rfl ?_
  show φ (hup σ (b 0) (qc0 b bd fx sh x hf))
  rw [h.setC]
  exact k
theorem QRaw.pf6 (h : QRaw g σ b lo hi bd fx sh srt hf) (x : Int32) {φ : Hs → Prop} (k : φ (rup g σ b lo hi bd fx sh srt x)) : PF σ (b 0) 6 6 (.int x) φ := by
  refine PF.of h.1 (by show 6 < 7; decide) rfl ?_
  show φ (hup σ (b 0) (qc0 b bd fx sh srt x))
  rw [h.setC]
  exact k
theorem wr_qclear (h : QRaw g σ b lo hi bd fx sh srt hf) (d : QD) (hd : d.1 = lo ∧ d.2.1 = hi) : Wr g M_X6_clear [.ref (b 0)] σ (qup g σ b (qclr d)) := by
  obtain ⟨rfl, rfl⟩ := hd
  have loop : ∀ (e k : Nat), k + e = 4 → J_X6_clear_2 g (kV fun σ' => σ' = qup g σ b (qclr d)) (rup g σ b (clrF 0 d.1 k) (clrF 99 d.2.1 k) bd fx sh srt hf) (b 0) (nI k) := by
    intro e
    induction e with
    | zero =>
      intro k hk
      have h1 := h.keep (clrF 0 d.1 k) (clrF 99 d.2.1 k) bd fx sh srt hf
      refine q_X6_clear_2 _ _ ⟨fun _ => h1.pf2 0 ?_, fun c => absurd ((n_le (n := 4) (by decide)).mpr (by rw [I_n (by omega)]; omega)) c⟩
      rw [rup_rup]
      refine (h.keep _ _ _ _ _ _ _).pf3 0 ?_
      rw [rup_rup]
      refine (h.keep _ _ _ _ _ _ _).pf4 0 ?_
      rw [rup_rup]
      refine (h.keep _ _ _ _ _ _ _).pf5 (-1) ?_
      rw [rup_rup]
      refine (h.keep _ _ _ _ _ _ _).pf6 1 ?_
      rw [rup_rup, qup_rup, show k = 4 by omega]
      have e1 : mk4 (isB (qclr d)) = 0 := by rw [mk4_cong (Q := fun _ => false) (fun c hc => isB_clr hc)]; rfl
      have e2 : mk4 (isF (qclr d)) = 0 := by
        rw [mk4_cong (Q := fun _ => false) (fun c hc => by unfold isF qclr clrF; simp [hc])]
        rfl
      rw [e1, e2]
      exact wr_v
    | succ e ih =>
      intro k hk
      have ih := ih (k + 1) (by omega)
      have h1 := h.keep (clrF 0 d.1 k) (clrF 99 d.2.1 k) bd fx sh srt hf
      refine q_X6_clear_2 _ _ ⟨fun c => absurd ((n_le (n := 4) (by decide)).mp c) (by rw [I_n (by omega)]; omega), fun _ => FR.of h1.1 rfl ⟨Rc.of h1.2.1.1, (h1.putLo (by omega) 0).use ?_⟩⟩
      rw [rup_rup, clrF_s]
      have h2 := h.keep (clrF 0 d.1 (k + 1)) (clrF 99 d.2.1 k) bd fx sh srt hf
      refine FR.of h2.1 rfl ⟨Rc.of h2.2.2.1.1, (h2.putHi (by omega) 99).use ?_⟩
      rw [rup_rup, clrF_s, nI_1]
      exact ih
  have h0 := loop 4 0 rfl
  rw [show clrF 0 d.1 0 = d.1 from by funext j; simp [clrF], show clrF 99 d.2.1 0 = d.2.1 from by funext j; simp [clrF], h.self] at h0
  exact q_X6_clear _ h0
def mxI (x y : Int32) : Int32 := if x < y then y else x
def mnI (x y : Int32) : Int32 := if y < x then y else x
def qnar (d : QD) (c : Nat) (x y : Int32) : QD := (upd d.1 c (mxI (d.1 c) x), upd d.2.1 c (mnI (d.2.1 c) y), d.2.2)
theorem wr_qnarrow (h : QAt g σ b d) {c : Nat} (hc : c < 4) (x y : Int32) : Wr g M_X6_narrow [.ref (b 0), .int (nI c), .int x, .int y] σ (qup g σ b (qnar d c x y)) := by
  have hr := h.raw
  refine q_X6_narrow _ _ _ _ (FR.of h.1 rfl ⟨Rc.of h.2.1.1, (rd_atn h.2.1 hc).use (FR.of h.1 rfl ⟨Rc.of h.2.2.1.1, (rd_atn h.2.2.1 hc).use (FR.of h.1 rfl ⟨Rc.of h.2.1.1, (hr.putLo hc _).use ?_⟩)⟩)⟩)
  have h1 := hr.keep (upd d.1 c (mxI (d.1 c) x)) d.2.1 (nI (mk4 (isB d))) (nI (mk4 (isF d))) (nI (mk4 d.2.2.1)) d.2.2.2.1 d.2.2.2.2
  refine FR.of h1.1 rfl ⟨Rc.of h1.2.2.1.1, (h1.putHi hc _).use ?_⟩
  rw [rup_rup]
  have h2 := hr.keep (upd d.1 c (mxI (d.1 c) x)) (upd d.2.1 c (mnI (d.2.1 c) y)) (nI (mk4 (isB d))) (nI (mk4 (isF d))) (nI (mk4 d.2.2.1)) d.2.2.2.1 d.2.2.2.2
  have hmB := mk4_lt (isB d)
  have hmF := mk4_lt (isF d)
  have other : ∀ j, j ≠ c → (qnar d c x y).1 j = d.1 j ∧ (qnar d c x y).2.1 j = d.2.1 j := fun j hj => ⟨by simp [qnar, upd, hj], by simp [qnar, upd, hj]⟩
  have same : (qnar d c x y).1 c = mxI (d.1 c) x ∧ (qnar d c x y).2.1 c = mnI (d.2.1 c) y := ⟨by simp [qnar, upd], by simp [qnar, upd]⟩
  have hB1 : (¬ mxI (d.1 c) x = 0 ∨ ¬ mnI (d.2.1 c) y = 99) → mk4 (fun j => isB d j || decide (j = c)) = mk4 (isB (qnar d c x y)) := fun hh => mk4_cong fun j _ => by
    by_cases e : j = c
    · subst e
      unfold isB
      rw [same.1, same.2, decide_eq_true hh]
      simp
    · unfold isB
      rw [(other j e).1, (other j e).2, decide_eq_false (p := j = c) e, Bool.or_false]
  have hB0 : (mxI (d.1 c) x = 0 ∧ mnI (d.2.1 c) y = 99) → mk4 (fun j => isB d j && !decide (j = c)) = mk4 (isB (qnar d c x y)) := fun hh => mk4_cong fun j _ => by
    by_cases e : j = c
    · subst e
      unfold isB
      rw [same.1, same.2, hh.1, hh.2]
      simp
    · unfold isB
      rw [(other j e).1, (other j e).2, decide_eq_false (p := j = c) e, Bool.not_false, Bool.and_true]
  have hF1 : mxI (d.1 c) x = mnI (d.2.1 c) y → mk4 (fun j => isF d j || decide (j = c)) = mk4 (isF (qnar d c x y)) := fun hh => mk4_cong fun j _ => by
    by_cases e : j = c
    · subst e
      unfold isF
      rw [same.1, same.2, decide_eq_true hh]
      simp
    · unfold isF
      rw [(other j e).1, (other j e).2, decide_eq_false (p := j = c) e, Bool.or_false]
  have hF0 : ¬ mxI (d.1 c) x = mnI (d.2.1 c) y → mk4 (fun j => isF d j && !decide (j = c)) = mk4 (isF (qnar d c x y)) := fun hh => mk4_cong fun j _ => by
    by_cases e : j = c
    · subst e
      unfold isF
      rw [same.1, same.2, decide_eq_false hh]
      simp
    · unfold isF
      rw [(other j e).1, (other j e).2, decide_eq_false (p := j = c) e, Bool.not_false, Bool.and_true]
  have fin : J_X6_narrow_80 g (kV fun σ' => σ' = qup g σ b (qnar d c x y)) (rup g σ b (upd d.1 c (mxI (d.1 c) x)) (upd d.2.1 c (mnI (d.2.1 c) y)) (nI (mk4 (isB d))) (nI (mk4 (isF d))) (nI (mk4 d.2.2.1)) d.2.2.2.1 d.2.2.2.2) (b 0) (nI c) (mxI (d.1 c) x) (mnI (d.2.1 c) y) (nI (mk4 (isB (qnar d c x y)))) (b 0) := by
    refine q_X6_narrow_80 _ _ _ _ _ _ (h2.pf2 _ ?_)
    rw [rup_rup]
    have h3 := hr.keep (upd d.1 c (mxI (d.1 c) x)) (upd d.2.1 c (mnI (d.2.1 c) y)) (nI (mk4 (isB (qnar d c x y)))) (nI (mk4 (isF d))) (nI (mk4 d.2.2.1)) d.2.2.2.1 d.2.2.2.2
    refine ⟨fun k => FI.of h3.1 rfl ((rd_without (by omega) (by omega)).use ?_), fun k => FI.of h3.1 rfl ((rd_with (by omega) (by omega)).use ?_)⟩
    · rw [mk4_del _ c hc, hF0 k]
      refine h3.pf3 _ ?_
      rw [rup_rup]
      exact wr_v
    · rw [mk4_set _ c hc, hF1 k]
      refine h3.pf3 _ ?_
      rw [rup_rup]
      exact wr_v
  show (¬ mxI (d.1 c) x = 0 → _) ∧ _
  refine ⟨fun k => FI.of h2.1 rfl ((rd_with (by omega) (by omega)).use ?_), fun k => ⟨fun k2 => FI.of h2.1 rfl ((rd_without (by omega) (by omega)).use ?_), fun k2 => FI.of h2.1 rfl ((rd_with (by omega) (by omega)).use ?_)⟩⟩
  · rw [mk4_set _ c hc, hB1 (Or.inl k)]
    exact fin
  · rw [mk4_del _ c hc, hB0 ⟨k, k2⟩]
    exact fin
  · rw [mk4_set _ c hc, hB1 (Or.inr k2)]
    exact fin
end QUE2
