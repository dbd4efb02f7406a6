/-! Ways.list: all ways of a question, by number. -/
def keptB (told : Nat) (B : Nat → OD) (o : Nat) : Bool := decide (o < told) && !(B o).2.2
def lftO (f : Nat → Int32) (tk : Nat → Bool) (d : QD) (o : OD) : Nat → Bool := rowsW f tk d (kmask o.1).testBit
def runO (f : Nat → Int32) (tk : Nat → Bool) (d : QD) (o : OD) : Nat → Bool := rowsW f tk d (runM d o.1).testBit
def rchO (f : Nat → Int32) (tk : Nat → Bool) (d : QD) (o : OD) : Nat := hgt o.2.1.2.2.1 + lvsOf o.2.1 (runO f tk d o)
def msrt (d : QD) : Bool := decide (¬ d.2.2.2.1 = -1) && !isF d d.2.2.2.1.toInt.toNat
def srtN (f : Nat → Int32) (tk : Nat → Bool) (d : QD) : Nat := if msrt d then fa_cnt (rowsW f tk d (15 : Nat).testBit) 64 else 0
def tabL (f : Nat → Int32) (tk : Nat → Bool) (wd : Nat) (d : QD) : Nat := pgc wd tk 64 + srtN f tk d
def oneO (f : Nat → Int32) (tk : Nat → Bool) (wd : Nat) (d : QD) (o : OD) : Nat := rchO f tk d o + (if covO d o.1 then 0 else pgc wd (lftO f tk d o) 64) + (if sfO d o.1 then 0 else srtN f tk d)
def twoO (f : Nat → Int32) (tk : Nat → Bool) (wd : Nat) (d : QD) (o p : OD) : Nat := rchO f tk d o + rchO f tk d p + pgc wd (fun s => lftO f tk d o s && lftO f tk d p s) 64 + srtN f tk d
/-- ways: number, set of orders, looks -/
abbrev WL : Type := List (Nat × Nat × Nat)
section LST
variable (f : Nat → Int32) (tk : Nat → Bool) (wd told : Nat) (B : Nat → OD) (d : QD)
def singW : Nat → WL
  | 0 => [(0, 0, tabL f tk wd d)]
  | o + 1 => if keptB told B o then singW o ++ [(1 + o, 2 ^ o, oneO f tk wd d (B o))] else singW o
def pairW (o : Nat) (W : WL) : Nat → WL
  | 0 => W
  | k + 1 => if keptB told B o && keptB told B (o + 1 + k) then pairW o W k ++ [(100 + 10 * o + (o + 1 + k), 2 ^ o ||| 2 ^ (o + 1 + k), twoO f tk wd d (B o) (B (o + 1 + k)))] else pairW o W k
def allW : Nat → WL
  | 0 => singW f tk wd told B d 8
  | o + 1 => pairW f tk wd told B d o (allW o) (7 - o)
theorem singW_len : ∀ o, (singW f tk wd told B d o).length ≤ 1 + o
  | 0 => by simp [singW]
  | o + 1 => by
    have ih := singW_len o
    simp only [singW]
    split
    · rw [List.length_append]; simp; omega
    · omega
theorem pairW_len (o : Nat) (W : WL) : ∀ k, (pairW f tk wd told B d o W k).length ≤ W.length + k
  | 0 => Nat.le_refl _
  | k + 1 => by
    have ih := pairW_len o W k
    simp only [pairW]
    split
    · rw [List.length_append]; simp; omega
    · omega
def triW : Nat → Nat
  | 0 => 9
  | o + 1 => triW o + (7 - o)
theorem allW_len : ∀ o, (allW f tk wd told B d o).length ≤ triW o
  | 0 => singW_len f tk wd told B d 8
  | o + 1 => by
    have ih := allW_len o
    have h := pairW_len f tk wd told B d o (allW f tk wd told B d o) (7 - o)
    simp only [allW, triW]
    omega
end LST
theorem triW_le : ∀ o, o < 9 → triW o ≤ 37 := by decide
theorem triW_lt : ∀ o, o < 8 → triW o + (7 - o) ≤ 37 := by decide
theorem lvsOf_le (w : OS) (P : Nat → Bool) : lvsOf w P ≤ w.2.2.1 + 1 := by
  have := cntL_le w P w.2.2.1
  unfold lvsOf
  split <;> omega
theorem fa_cnt64 (P : Nat → Bool) : fa_cnt P 64 ≤ 64 := fa_cnt_le P 64
theorem srtN_le (f : Nat → Int32) (tk : Nat → Bool) (d : QD) : srtN f tk d ≤ 64 := by
  unfold srtN
  split
  · exact fa_cnt64 _
  · omega
theorem rchO_le {f : Nat → Int32} {tk : Nat → Bool} {d : QD} {o : OD} (h : OSok o.2.1) : rchO f tk d o ≤ 80 := by
  have h1 := lvsOf_le o.2.1 (runO f tk d o)
  have h2 := h.l_le
  have h3 := h.1
  have h4 := hgt_le o.2.1.2.2.1
  unfold rchO
  omega
def WHold (u : WS) (W : WL) : Prop := u.1 = W.length ∧ ∀ i x, W[i]? = some x → u.2.1 i = nI x.1 ∧ u.2.2.1 i = nI x.2.1 ∧ u.2.2.2.1 i = nI x.2.2
theorem WHold.add {u : WS} {W : WL} (h : WHold u W) (x y z : Nat) : WHold (addW u (nI x) (nI y) (nI z)) (W ++ [(x, y, z)]) := by
  obtain ⟨h1, h2⟩ := h
  refine ⟨by show u.1 + 1 = _; rw [List.length_append, h1]; rfl, fun i v hv => ?_⟩
  show upd u.2.1 u.1 _ i = _ ∧ upd u.2.2.1 u.1 _ i = _ ∧ upd u.2.2.2.1 u.1 _ i = _
  rcases Nat.lt_or_ge i W.length with h3 | h3
  · rw [List.getElem?_append_left h3] at hv
    obtain ⟨e1, e2, e3⟩ := h2 i v hv
    simp only [upd, if_neg (show ¬ i = u.1 by omega)]
    exact ⟨e1, e2, e3⟩
  · rw [List.getElem?_append_right h3] at hv
    have h4 : i - W.length = 0 := by
      rcases Nat.eq_zero_or_pos (i - W.length) with h5 | h5
      · exact h5
      · rw [List.getElem?_eq_none (by simp; omega)] at hv
        cases hv
    rw [h4] at hv
    cases hv
    simp only [upd, if_pos (show i = u.1 by omega)]
    exact ⟨trivial, trivial, trivial⟩
def LRk (f : Nat → Int32) (tk : Nat → Bool) (told : Nat) (B : Nat → OD) (d : QD) (u : WS) (k : Nat) : Prop := ∀ j, j < k → keptB told B j = true → u.2.2.2.2.2 j = mk64 (lftO f tk d (B j)) ∧ u.2.2.2.2.1 j = nI (rchO f tk d (B j))
section LST2
variable {g : GG} {σ : Hs} {R : Nat → Nat} {u : WS} {q tq wd told : Nat} {f : Nat → Int32} {tk : Nat → Bool} {B : Nat → OD} {b : Nat → Nat} {d : QD} {W : WL}
theorem isO_kept {k : Nat} (hk : k < 2 ^ 31) : isO told B (nI k) = keptB told B k := isO_n hk
theorem rd_keptN (h : OrdsC g σ R told B) {k : Nat} (hk : k < 8) (hd : keptB told B k = false) : RdA g M_X3_kept [.ref (R 4), .int (nI k)] σ none := by
  have h1 := rd_okept h (nI k)
  rw [isO_kept (by omega), hd, if_neg (by decide)] at h1
  exact h1
theorem rd_keptY (h : OrdsC g σ R told B) {k : Nat} (hk : k < 8) (hd : keptB told B k = true) : RdA g M_X3_kept [.ref (R 4), .int (nI k)] σ (some (R (100 + 8 * k))) := by
  have h1 := rd_okept h (nI k)
  rw [isO_kept (by omega), hd, if_pos rfl, I_n (by omega), show ((k : Int).toNat) = k by omega] at h1
  exact h1
theorem keptB_lt {k : Nat} (h : keptB told B k = true) : k < told := by
  unfold keptB at h
  rw [Bool.and_eq_true, decide_eq_true_eq] at h
  exact h.1
theorem rd_leftBy (hu : WayC g σ R u) {k : Nat} (hk : k < 8) : RdL g M_X9_leftBy [.ref (R 6), .int (nI k)] σ (u.2.2.2.2.2 k) := by
  refine q_X9_leftBy _ _ ⟨fun c => absurd ((lt_n (n := 0) (by decide)).mp c) (by rw [I_n (by omega)]; omega), fun _ => FR.of hu.1 rfl (AN.of hu.2.2.2.2.2.1 ⟨fun c => absurd ((nI_leI (a := 8) (by decide) (by omega)).mp c) (by omega), fun _ => FR.of hu.1 rfl (AJ.of hu.2.2.2.2.2.1 rfl hk (by decide) (rd_l rfl))⟩)⟩
theorem wr_listAlone (hu : WayC g σ R u) (h : OrdsC g σ R told B) (ht : TabAt g σ (R 1) q tq f tk wd) (hq : QAt g σ b d) (hs : srtOk d) (hw : 2 ≤ wd ∧ wd ≤ 8) (hW : WHold u W) {o : Nat} (ho : o < 8) (hl : W.length < 37) (hLR : LRk f tk told B d u o) : Do g M_X9_listAlone 0 0 [.ref (R 6), .ref (b 0), .int (nI o), .int (nI (srtN f tk d))] σ (kV fun σ' => ∃ u', σ' = wup g σ R u' ∧ WHold u' (if keptB told B o then W ++ [(1 + o, 2 ^ o, oneO f tk wd d (B o))] else W) ∧ LRk f tk told B d u' (o + 1)) := by
  refine q_X9_listAlone _ _ _ _ (FR.of hu.1 rfl ⟨Rc.of h.1, ?_⟩)
  by_cases hk : keptB told B o = true
  · refine (rd_keptY h ho hk).some ⟨fun c => absurd ((lt_n (n := 0) (by decide)).mp c) (by rw [I_n (by omega)]; omega), fun _ => FR.of hu.1 rfl (AN.of hu.2.2.2.2.2.1 ⟨fun _ => ?_, fun c => absurd (nI_lt (show o < 8 by omega) (by decide)) c⟩)⟩
    have hot := keptB_lt hk
    have hor := h.2.2.2.1 o hot
    have hok := h.2.2.2.2.1 o hot
    have hsl := srtN_le f tk d
    have hrc := rchO_le (f := f) (tk := tk) (d := d) hok
    refine FR.of hu.1 rfl (FR.of hu.1 rfl ⟨Rc.of hor.1, (rd_ocolumns hor).use ⟨Rc.of hq.1, (rd_qrowsWithin hq ht (kmask_lt _)).use ?_⟩⟩)
    have e15 := hu.set15 (vp_updL u.2.2.2.2.2 o (mk64 (lftO f tk d (B o))))
    refine SJ.of hu.2.2.2.2.2.1 rfl ho (by decide) ?_
    rw [show hup σ (R 15) (.inl (g.2.2.1 3, 8, .inr (.inl (vp_updL u.2.2.2.2.2 o (mk64 (rowsW f tk d (kmask (B o).1).testBit)))))) = _ from e15]
    generalize hu1 : ((u.1, u.2.1, u.2.2.1, u.2.2.2.1, u.2.2.2.2.1, vp_updL u.2.2.2.2.2 o (mk64 (lftO f tk d (B o)))) : WS) = u1
    have k1 := hu.keep u1
    have h1 := way_ords h hu u1
    have t1 := way_tab ht hu u1
    have q1 := way_que hq hu u1
    have or1 := h1.2.2.2.1 o hot
    refine FR.of k1.1 rfl ⟨Rc.of or1.1, (rd_orunColumns or1 q1).use ⟨Rc.of q1.1, (rd_qrowsWithin q1 t1 (runM_lt d _)).use ⟨Rc.of or1.1, (rd_oheight or1 (by have := hok.l_le; have := hok.1; omega)).use ⟨Rc.of or1.1, (rd_oleavesOf or1 hok _).use ?_⟩⟩⟩⟩
    have er : nI (hgt (B o).2.1.2.2.1) + nI (lvsOf (B o).2.1 (rowsW f tk d (runM d (B o).1).testBit)) = nI (rchO f tk d (B o)) := nI_add _ _
    rw [er]
    have p14 := wr_put k1.2.2.2.2.1 (k := o) ho (nI (rchO f tk d (B o)))
    rw [k1.set14, wup_wup] at p14
    refine FR.of k1.1 rfl ⟨Rc.of k1.2.2.2.2.1.1, p14.use ?_⟩
    generalize hu2 : ((u1.1, u1.2.1, u1.2.2.1, u1.2.2.2.1, upd u1.2.2.2.2.1 o (nI (rchO f tk d (B o))), u1.2.2.2.2.2) : WS) = u2
    have k2 := hu.keep u2
    have h2 := way_ords h hu u2
    have t2 := way_tab ht hu u2
    have q2 := way_que hq hu u2
    have or2 := h2.2.2.2.1 o hot
    have hH2 : WHold u2 W := by
      rw [← hu2, ← hu1]
      exact hW
    have hn2 : u2.1 < 37 := by rw [hH2.1]; exact hl
    have hLR2 : LRk f tk told B d u2 (o + 1) := by
      intro j hj hkj
      rw [← hu2, ← hu1]
      show vp_updL u.2.2.2.2.2 o _ j = _ ∧ upd u.2.2.2.2.1 o _ j = _
      by_cases e : j = o
      · subst e
        simp [vp_updL, upd]
      · simp only [vp_updL, upd, if_neg e]
        exact hLR j (by omega) hkj
    have hpl := pgc_le wd (lftO f tk d (B o)) 64
    have fin : ∀ c, c ≤ 64 → c = (if covO d (B o).1 then 0 else pgc wd (lftO f tk d (B o)) 64) → J_X9_listAlone_116 g (kV fun σ' => ∃ u', σ' = wup g σ R u' ∧ WHold u' (if keptB told B o then W ++ [(1 + o, 2 ^ o, oneO f tk wd d (B o))] else W) ∧ LRk f tk told B d u' (o + 1)) (wup g σ R u2) (R 6) (b 0) (nI o) (nI (srtN f tk d)) (R (100 + 8 * o)) (nI (rchO f tk d (B o) + c)) := by
      intro c hc0 hc
      refine q_X9_listAlone_116 _ _ _ _ _ _ ?_
      show Do g M_X11_with 0 0 [.int (nI 0), _] _ _
      refine (rd_with (by omega) ho).use ⟨Rc.of or2.1, (rd_osortsFor or2 q2).use ⟨fun c2 => ⟨Rc.of k2.1, ?_⟩, fun c2 => ⟨Rc.of k2.1, ?_⟩⟩⟩
      · have hw1 := wr_wadd k2 hn2 (nI (1 + o)) (nI (2 ^ o)) (nI (oneO f tk wd d (B o)))
        rw [wup_wup] at hw1
        rw [show (1 : Int32) + nI o = nI (1 + o) from nI_add 1 o, Nat.zero_or, nI_add, show rchO f tk d (B o) + c + srtN f tk d = oneO f tk wd d (B o) from by unfold oneO; rw [b2_0.mp c2, ← hc]; rfl]
        refine hw1.use ⟨rfl, _, rfl, ?_, ?_⟩
        · rw [if_pos hk]
          exact hH2.add _ _ _
        · exact hLR2
      · have hw1 := wr_wadd k2 hn2 (nI (1 + o)) (nI (2 ^ o)) (nI (oneO f tk wd d (B o)))
        rw [wup_wup] at hw1
        rw [show (1 : Int32) + nI o = nI (1 + o) from nI_add 1 o, Nat.zero_or, show nI (rchO f tk d (B o) + c) + 0 = nI (rchO f tk d (B o) + c + 0) from nI_add _ 0, show rchO f tk d (B o) + c + 0 = oneO f tk wd d (B o) from by unfold oneO; rw [b2_n0.mp c2, ← hc]; rfl]
        refine hw1.use ⟨rfl, _, rfl, ?_, ?_⟩
        · rw [if_pos hk]
          exact hH2.add _ _ _
        · exact hLR2
    refine ⟨Rc.of or2.1, (rd_ocovers or2 q2 hs).use ⟨fun c => ?_, fun c => ?_⟩⟩
    · have h0 := fin 0 (by omega) (by rw [b2_n0.mp c]; rfl)
      rw [Nat.add_zero] at h0
      exact h0
    · refine FR.of k2.1 rfl (FR.of k2.1 rfl (AJ.of k2.2.2.2.2.2.1 rfl ho (by decide) ⟨Rc.of t2.1, ?_⟩))
      rw [show u2.2.2.2.2.2 o = mk64 (lftO f tk d (B o)) from (hLR2 o (by omega) hk).1]
      refine (rd_pagesOf t2 hw _).use ?_
      rw [nI_add]
      exact fin _ hpl (by rw [b2_0.mp c]; rfl)
  · have hk : keptB told B o = false := by simpa using hk
    refine (rd_keptN h ho hk).none ⟨rfl, u, hu.self.symm, ?_, fun j hj hkj => ?_⟩
    · rw [hk, if_neg (by decide)]
      exact hW
    · rcases Nat.lt_or_ge j o with h1 | h1
      · exact hLR j h1 hkj
      · rw [show j = o by omega, hk] at hkj
        cases hkj
theorem wr_listBoth (hu : WayC g σ R u) (h : OrdsC g σ R told B) (ht : TabAt g σ (R 1) q tq f tk wd) (hw : 2 ≤ wd ∧ wd ≤ 8) (hW : WHold u W) {o p : Nat} (ho : o < p) (hp : p < 8) (hl : W.length < 37) (hLR : LRk f tk told B d u 8) : Do g M_X9_listBoth 0 0 [.ref (R 6), .int (nI o), .int (nI p), .int (nI (srtN f tk d))] σ (kV fun σ' => ∃ u', σ' = wup g σ R u' ∧ WHold u' (if keptB told B o && keptB told B p then W ++ [(100 + 10 * o + p, 2 ^ o ||| 2 ^ p, twoO f tk wd d (B o) (B p))] else W) ∧ LRk f tk told B d u' 8) := by
  refine q_X9_listBoth _ _ _ _ (FR.of hu.1 rfl ⟨Rc.of h.1, ?_⟩)
  by_cases hk : keptB told B o = true
  · refine (rd_keptY h (by omega) hk).some (FR.of hu.1 rfl ⟨Rc.of h.1, ?_⟩)
    by_cases hk2 : keptB told B p = true
    · have l1 := hLR o (by omega) hk
      have l2 := hLR p hp hk2
      have r1 := rchO_le (f := f) (tk := tk) (d := d) (h.2.2.2.2.1 o (keptB_lt hk))
      have r2 := rchO_le (f := f) (tk := tk) (d := d) (h.2.2.2.2.1 p (keptB_lt hk2))
      refine (rd_keptY h hp hk2).some (FR.of hu.1 rfl ⟨Rc.of hu.2.2.2.2.1.1, (rd_atn hu.2.2.2.2.1 (by omega)).use (FR.of hu.1 rfl ⟨Rc.of hu.2.2.2.2.1.1, (rd_atn hu.2.2.2.2.1 hp).use (FR.of hu.1 rfl ⟨Rc.of hu.1, (rd_leftBy hu (by omega)).use ⟨Rc.of hu.1, (rd_leftBy hu hp).use ⟨Rc.of ht.1, ?_⟩⟩⟩)⟩)⟩)
      rw [l1.1, l2.1, mk_and, l1.2, l2.2]
      refine (rd_pagesOf ht hw _).use ?_
      show Do g M_X11_with 0 0 [.int (nI 0), _] _ _
      have hpo : 2 ^ o < 256 := Nat.pow_lt_pow_right (n := 8) (by decide) (show o < 8 by omega)
      refine (rd_with (by omega) (by omega)).use ?_
      rw [Nat.zero_or]
      refine (rd_with hpo hp).use ⟨Rc.of hu.1, ?_⟩
      have hw1 := wr_wadd hu (by rw [hW.1]; exact hl) (nI (100 + 10 * o + p)) (nI (2 ^ o ||| 2 ^ p)) (nI (twoO f tk wd d (B o) (B p)))
      rw [show (100 : Int32) + 10 * nI o + nI p = nI (100 + 10 * o + p) from by rw [show (10 : Int32) * nI o = nI (10 * o) from pk_mul 10 o, show (100 : Int32) + nI (10 * o) = nI (100 + 10 * o) from nI_add 100 _, nI_add], nI_add, nI_add, nI_add]
      refine hw1.use ⟨rfl, _, rfl, ?_, hLR⟩
      rw [hk, hk2, if_pos (show (true && true) = true from rfl)]
      exact hW.add _ _ _
    · have hk2 : keptB told B p = false := by simpa using hk2
      refine (rd_keptN h hp hk2).none ⟨rfl, u, hu.self.symm, ?_, hLR⟩
      rw [hk2, Bool.and_false, if_neg (by decide)]
      exact hW
  · have hk : keptB told B o = false := by simpa using hk
    refine (rd_keptN h (by omega) hk).none ⟨rfl, u, hu.self.symm, ?_, hLR⟩
    rw [hk, Bool.false_and, if_neg (by decide)]
    exact hW
end LST2
