/-! The class's calls that only read. -/
def v_get (S : SS) (x y : Int32) : Int32 := if inR x 64 then if inR y 4 then if zt S x.toInt.toNat then zf S (4 * x.toInt.toNat + y.toInt.toNat) else -1 else -101 else -101
def v_abo (o : OD) (y : Int32) : Int32 := if y = 0 then nI o.1 else if y = 1 then nI o.2.1.2.2.1 else if y = 2 then nI (hgt o.2.1.2.2.1) else if y = 3 then nI (szO o.2.1.2.2.1) else if y = 4 then nI o.2.1.2.2.2.2 else -102
def v_about (S : SS) (x y : Int32) : Int32 := if isO (zo S) (zB S) x then v_abo (zB S x.toInt.toNat) y else -101
def v_ent (w : OS) (y : Int32) : Int32 := if 0 ≤ y.toInt ∧ y.toInt < w.1 then nI (w.2.1 y.toInt.toNat) else -1
def v_entry (S : SS) (x y : Int32) : Int32 := if isO (zo S) (zB S) x then v_ent (zB S x.toInt.toNat).2.1 y else -101
def v_lf (w : OS) (y : Int32) : Int32 := if 0 ≤ y.toInt ∧ y.toInt < w.2.2.1 then nI (w.2.2.2.1 y.toInt.toNat) else -1
def v_leaf (S : SS) (x y : Int32) : Int32 := if isO (zo S) (zB S) x then v_lf (zB S x.toInt.toNat).2.1 y else -101
/-- bounds as told: least, greatest -/
def b_lo (d : QD) (c : Nat) : Int32 := if d.2.1 c < d.1 c then 0 else d.1 c
def b_hi (d : QD) (c : Nat) : Int32 := if d.2.1 c < d.1 c then -1 else d.2.1 c
def v_bd (d : QD) (c : Nat) (z : Int32) : Int32 := if z = 0 then b_lo d c else if z = 1 then b_hi d c else -102
def v_bound (S : SS) (x y z : Int32) : Int32 := if inR x (zq S) then if inR y 4 then v_bd (zQ S x.toInt.toNat) y.toInt.toNat z else -101 else -101
def q_ans (S : SS) (i : Nat) : Nat → Bool := rowsW (zf S) (zt S) (zQ S i) (15 : Nat).testBit
def v_answers (S : SS) (x : Int32) : Int32 := if inR x (zq S) then nI (fa_cnt (q_ans S x.toInt.toNat) 64) else -101
def v_plc (S : SS) (i : Nat) (y : Int32) : Int32 := if plcd (zf S) (zQ S i) (q_ans S i) y < 64 then nI (plcd (zf S) (zQ S i) (q_ans S i) y) else -1
def v_answer (S : SS) (x y : Int32) : Int32 := if inR x (zq S) then v_plc S x.toInt.toNat y else -101
def v_run (S : SS) (x y : Int32) : Int32 := if inR x (zq S) then if isO (zo S) (zB S) y then nI (fa_cnt (runO (zf S) (zt S) (zQ S x.toInt.toNat) (zB S y.toInt.toNat)) 64) else -101 else -101
def v_count (S : SS) (x : Int32) : Int32 := if x = 0 then nI (fa_cnt (zt S) 64) else if x = 1 then nI (pgc (zw S) (zt S) 64) else if x = 2 then nI (fa_cnt (kSet (zB S) (zo S)).testBit 8) else if x = 3 then nI (zo S) else if x = 4 then nI (zq S) else if x = 5 then nI (zm S) else if x = 6 then nI (zn S) else if x = 7 then nI (zc S) else if x = 8 then nI (zs S) else -102
def v_pt (p : PD) (i : Nat) (z : Int32) : Int32 := if p.2.1 i = 0 then -1 else if z = 0 then nI (p.2.1 i) else if z = 1 then p.2.2.1 i else p.2.2.2 i
def v_part (S : SS) (x y z : Int32) : Int32 := if inR x 4 then if inR y 4 then if inR z 3 then v_pt (zP S x.toInt.toNat) y.toInt.toNat z else -102 else -102 else -101
def v_ft (p : PD) (l r z : Int32) : Int32 := if p.1 then if z = 0 then nI (sureW p l r 4) else if z = 1 then nI (perhW p l r 4) else nI (likeW p l r 4) else -1
def v_foretold (S : SS) (x l r z : Int32) : Int32 := if inR x 4 then if inR z 3 then if inR l 100 then if inR r 100 then if l ≤ r then v_ft (zP S x.toInt.toNat) l r z else -102 else -102 else -102 else -102 else -101
def v_likely (S : SS) (x : Int32) : Int32 := if inR x (zq S) then nI (lkN (zP S) (zr S) (zQ S x.toInt.toNat) 15 4) else -101
def v_guess (S : SS) (x y : Int32) : Int32 := if inR x (zq S) then if y = 0 then nI (lkT (zt S) (zw S) (zP S) (zr S) (zQ S x.toInt.toNat)) else if isO (zo S) (zB S) (y - 1) then nI (lkO (zt S) (zw S) (zP S) (zr S) (zQ S x.toInt.toNat) (zB S (y - 1).toInt.toNat)) else -101 else -101
def v_chosen (S : SS) (x : Int32) : Int32 := if inR x (zq S) then nI (chR (zt S) (zw S) (zo S) (zB S) (zP S) (zr S) (zQ S x.toInt.toNat)) else -101
theorem nn_i {i : Nat} (h : i < 2 ^ 31) : (nI i).toInt.toNat = i := by rw [I_n h]; rfl
theorem if_f {b : Bool} {α : Type} {x y : α} (h : b = false) : (if b then x else y) = y := by rw [h]; rfl
theorem if_t {b : Bool} {α : Type} {x y : α} (h : b = true) : (if b then x else y) = x := by rw [h]; rfl
section RDS
variable {g : GG} {σ : Hs} {R : Nat → Nat} {S : SS}
theorem rd_get (h : KO g σ R S) (x y : Int32) : Rd g M_X11_get [.ref (R 0), .int x, .int y] σ (v_get S x y) := by
  unfold v_get
  refine q_X11_get _ x y ((rd_isSlot x).use ⟨fun c => rd_i ?_, fun c => (rd_isColumn y).use ⟨fun c2 => h.g0 ⟨Rc.of h.tab.1, (rd_holds h.tab x).use ⟨fun c3 => rd_i ?_, fun c3 => ?_⟩⟩, fun c2 => rd_i ?_⟩⟩)
  · rw [if_f (b2_0.mp c)]
  · have c := b2_n0.mp c
    have c3 := b2_0.mp c3
    rw [c, Bool.true_and] at c3
    rw [if_t c, if_t (b2_n0.mp c2), if_f c3]
  · have c := b2_n0.mp c
    have c2 := b2_n0.mp c2
    have c3 := b2_n0.mp c3
    rw [c, Bool.true_and] at c3
    rw [if_t c, if_t c2, if_t c3]
    obtain ⟨k, hk, rfl⟩ := inR_of c (by decide)
    obtain ⟨j, hj, rfl⟩ := inR_of c2 (by decide)
    rw [nn_i (by omega), nn_i (by omega)]
    exact h.g0 ⟨Rc.of h.tab.1, (rd_number h.tab hk hj).use (rd_i rfl)⟩
  · rw [if_t (b2_n0.mp c), if_f (b2_0.mp c2)]
theorem isO_y {o : Nat} (ho : o < zo S) (h8 : o < 8) (hd : (zB S o).2.2 = false) : isO (zo S) (zB S) (nI o) = true := by
  rw [isO_n (by omega), decide_eq_true ho, hd]
  rfl
theorem rd_about (h : KO g σ R S) (x y : Int32) : Rd g M_X11_about [.ref (R 0), .int x, .int y] σ (v_about S x y) := by
  unfold v_about
  refine q_X11_about _ x y (h.g1 ⟨Rc.of h.ords.1, h.os x (fun c => ?_) fun o ho h8 hd e => ?_⟩)
  · rw [if_f c]; exact rd_i rfl
  · subst e
    have hod := h.od ho
    have hw := h.ords.2.2.2.2.1 o ho
    have hl := hw.l_le
    have hl2 := hw.1
    rw [if_t (isO_y ho h8 hd), nn_i (by omega)]
    unfold v_abo
    refine ⟨fun c => ⟨Rc.of hod.1, (rd_okey hod).use (rd_i ?_)⟩, fun c => ⟨Rc.of hod.1, (rd_oleaves hod).use (rd_i ?_)⟩, fun c => ⟨Rc.of hod.1, (rd_oheight hod (by omega)).use (rd_i ?_)⟩, fun c => ⟨Rc.of hod.1, (rd_osize hod (by omega)).use (rd_i ?_)⟩, fun c => ⟨Rc.of hod.1, (rd_ocuts hod).use (rd_i ?_)⟩, fun c0 c1 c2 c3 c4 => rd_i ?_⟩
    · rw [if_pos c]
    · subst c; rfl
    · subst c; rfl
    · subst c; rfl
    · subst c; rfl
    · rw [if_neg c0, if_neg c1, if_neg c2, if_neg c3, if_neg c4]
theorem rd_entry (h : KO g σ R S) (x y : Int32) : Rd g M_X11_entry [.ref (R 0), .int x, .int y] σ (v_entry S x y) := by
  unfold v_entry
  refine q_X11_entry _ x y (h.g1 ⟨Rc.of h.ords.1, h.os x (fun c => ?_) fun o ho h8 hd e => ?_⟩)
  · rw [if_f c]; exact rd_i rfl
  · subst e
    have hod := h.od ho
    have hw := h.ords.2.2.2.2.1 o ho
    rw [if_t (isO_y ho h8 hd), nn_i (by omega)]
    exact ⟨Rc.of hod.1, (rd_oslotAt hod hw.1 y).use (rd_i rfl)⟩
theorem rd_leaf (h : KO g σ R S) (x y : Int32) : Rd g M_X11_leaf [.ref (R 0), .int x, .int y] σ (v_leaf S x y) := by
  unfold v_leaf
  refine q_X11_leaf _ x y (h.g1 ⟨Rc.of h.ords.1, h.os x (fun c => ?_) fun o ho h8 hd e => ?_⟩)
  · rw [if_f c]; exact rd_i rfl
  · subst e
    have hod := h.od ho
    have hw := h.ords.2.2.2.2.1 o ho
    have hl := hw.l_le
    have hl2 := hw.1
    rw [if_t (isO_y ho h8 hd), nn_i (by omega)]
    exact ⟨Rc.of hod.1, (rd_oentriesInLeaf hod (by omega) y).use (rd_i rfl)⟩
theorem inR_y {k n : Nat} (h : k < n) (h2 : n ≤ 2 ^ 31) : inR (nI k) n = true := by rw [inR_n (by omega), decide_eq_true h]
theorem rd_bound (h : KO g σ R S) (x y z : Int32) : Rd g M_X11_bound [.ref (R 0), .int x, .int y, .int z] σ (v_bound S x y z) := by
  have hq8 := h.q8
  unfold v_bound
  refine q_X11_bound _ x y z (h.g3 ⟨h.wk, h.qs x (fun c => ?_) fun i hi e => ?_⟩)
  · rw [if_f c]; exact rd_i rfl
  · subst e
    have hq := h.que hi
    rw [if_t (inR_y hi (by omega)), nn_i (by omega)]
    have fin : ∀ c, c < 4 → y = nI c → (z = 0 ∨ z = 1) → J_X11_bound_37 g (kI fun v σ' => σ' = σ ∧ v = v_bd (zQ S i) c z) σ y z (R (200 + 5 * i)) := by
      intro c hc e hz
      subst e
      unfold v_bd b_lo b_hi
      refine q_X11_bound_37 _ _ _ ⟨Rc.of hq.1, (rd_qletsNone hq hc).use ⟨fun c1 => ⟨fun c2 => ⟨Rc.of hq.1, (rd_qgreatest hq hc).use (rd_i ?_)⟩, fun c2 => ⟨Rc.of hq.1, (rd_qleast hq hc).use (rd_i ?_)⟩⟩, fun c1 => ⟨fun c2 => rd_i ?_, fun c2 => rd_i ?_⟩⟩⟩
      · have c1 := of_decide_eq_false (b2_0.mp c1)
        rw [if_neg c2, if_pos (hz.resolve_left c2), if_neg c1]
      · have c1 := of_decide_eq_false (b2_0.mp c1)
        rw [if_pos c2, if_neg c1]
      · have c1 := of_decide_eq_true (b2_n0.mp c1)
        rw [if_neg c2, if_pos (hz.resolve_left c2), if_pos c1]
      · have c1 := of_decide_eq_true (b2_n0.mp c1)
        rw [if_pos c2, if_pos c1]
    refine (rd_isColumn y).use ⟨fun c => ?_, fun c => rd_i ?_⟩
    · have c := b2_n0.mp c
      obtain ⟨j, hj, rfl⟩ := inR_of c (by decide)
      rw [if_t c, nn_i (by omega)]
      refine ⟨fun c2 => fin j hj rfl (Or.inl c2), fun c2 => ⟨fun c3 => fin j hj rfl (Or.inr c3), fun c3 => rd_i ?_⟩⟩
      unfold v_bd
      rw [if_neg c2, if_neg c3]
    · rw [if_f (b2_0.mp c)]
theorem rd_answers (h : KO g σ R S) (x : Int32) : Rd g M_X11_answers [.ref (R 0), .int x] σ (v_answers S x) := by
  have hq8 := h.q8
  unfold v_answers
  refine q_X11_answers _ x (h.g3 ⟨h.wk, h.qs x (fun c => ?_) fun i hi e => ?_⟩)
  · rw [if_f c]; exact rd_i rfl
  · subst e
    have hq := h.que hi
    rw [if_t (inR_y hi (by omega)), nn_i (by omega)]
    exact h.g0 ⟨Rc.of hq.1, (rd_qrowsWithin hq h.tab (m := 15) (by decide)).use ((rd_bitCountL _).use (rd_i rfl))⟩
theorem rd_answer (h : KO g σ R S) (x y : Int32) : Rd g M_X11_answer [.ref (R 0), .int x, .int y] σ (v_answer S x y) := by
  have hq8 := h.q8
  unfold v_answer
  refine q_X11_answer _ x y (h.g3 ⟨h.wk, h.qs x (fun c => ?_) fun i hi e => ?_⟩)
  · rw [if_f c]; exact rd_i rfl
  · subst e
    have hq := h.que hi
    rw [if_t (inR_y hi (by omega)), nn_i (by omega)]
    exact h.g0 ⟨Rc.of hq.1, (rd_qplaced hq h.tab (h.qok i hi).1 y).use (rd_i rfl)⟩
theorem rd_rows {t a q : Nat} {f : Nat → Int32} {tk : Nat → Bool} {wd : Nat} (h : TabAt g σ t a q f tk wd) : Rd g M_X8_rows [.ref t] σ (nI (fa_cnt tk 64)) := q_X8_rows _ (FL.of h.1 rfl ((rd_bitCountL tk).use (rd_i rfl)))
theorem rd_count (h : KO g σ R S) (x : Int32) : Rd g M_X11_count [.ref (R 0), .int x] σ (v_count S x) := by
  have hk := kSet_lt (zB S) (zo S)
  have h256 := pow_le8 h.ords.2.2.1
  have h0 := h.1
  unfold v_count
  refine q_X11_count _ x ⟨fun c => ?_, fun c => ?_, fun c => ?_, fun c => ?_, fun c => ?_, fun c => ?_, fun c => ?_, fun c => ?_, fun c => ?_, fun c0 c1 c2 c3 c4 c5 c6 c7 c8 => rd_i ?_⟩
  · subst c
    exact h.g0 ⟨Rc.of h.tab.1, (rd_rows h.tab).use (rd_i rfl)⟩
  · subst c
    exact h.g0 ⟨Rc.of h.tab.1, (rd_fullPages h.tab h.wide).use (rd_i rfl)⟩
  · subst c
    exact h.g1 ⟨Rc.of h.ords.1, (rd_okeptSet h.ords).use ((rd_bitCountI (by omega)).use (rd_i rfl))⟩
  · subst c
    exact h.g1 ⟨Rc.of h.ords.1, (rd_stold h.ords).use (rd_i rfl)⟩
  · subst c
    refine h.g3 ⟨h.wk, ?_⟩
    obtain ⟨-, ⟨u, F, G, T, s, hk⟩, -⟩ := h
    exact (rd_wkasked hk).use (rd_i rfl)
  · subst c
    exact h.g6 ⟨h.mr, (rd_marked h.2.2.2.2.1).use (rd_i rfl)⟩
  · subst c
    exact h.g5 ⟨h.sh, (rd_length h.2.2.2.1).use (rd_i rfl)⟩
  · subst c
    exact FI.of h0 rfl (rd_i rfl)
  · subst c
    exact FI.of h0 rfl (rd_i rfl)
  · rw [if_neg c0, if_neg c1, if_neg c2, if_neg c3, if_neg c4, if_neg c5, if_neg c6, if_neg c7, if_neg c8]
theorem KO.pic (h : KO g σ R S) {c : Nat} (hc : c < 4) : PicC g σ (pad R c) (zP S c) := by
  obtain ⟨-, -, ⟨F, hp⟩, -⟩ := h
  exact hp.2.2.2 c hc
theorem inR_lo {x : Int32} {n : Nat} (c : x < 0) : inR x n = false := by
  have c := (lt_n (n := 0) (by decide)).mp c
  exact decide_eq_false (by omega)
theorem inR_hi {x : Int32} {n : Nat} (hn : n < 2 ^ 31) (c : nI n ≤ x) : inR x n = false := by
  have c := (n_le hn).mp c
  exact decide_eq_false (by omega)
theorem inR_in {x : Int32} {n : Nat} (hn : n < 2 ^ 31) (c0 : ¬ x < 0) (c : ¬ nI n ≤ x) : inR x n = true := by
  have c0 := nlt_n (n := 0) (by decide) c0
  have c := n_nle hn c
  exact decide_eq_true (by omega)
theorem num_small {x : Int32} (h : inR x 100 = true) : small x := by
  unfold inR at h
  have := of_decide_eq_true h
  unfold small
  omega
theorem KO.pics (h : KO g σ R S) : ∃ F, PicsC g σ R (zr S) F (zP S) := h.2.2.1
/-! the digest -/
def mixd (h : Int64) (x : Int64) : Int64 := 31 * h + x
/-- so many numbers of e mixed in, from k on -/
def mixN (e : Nat → Int32) : Nat → Int64 → Int64
  | 0, h => h
  | n + 1, h => mixd (mixN e n h) (e n).toInt64
theorem mixN_s (e : Nat → Int32) (n : Nat) (h : Int64) : mixN e (n + 1) h = mixd (mixN e n h) (e n).toInt64 := rfl
def mixTb (S : SS) : Nat → Int64 → Int64
  | 0, h => h
  | s + 1, h => mixN (fun c => v_get S (nI s) (nI c)) 4 (mixTb S s h)
def mixOr (S : SS) (o : Nat) (h : Int64) : Int64 := if keptB (zo S) (zB S) o then mixN (fun i => nI ((zB S o).2.1.2.1 i)) (zB S o).2.1.1 (mixN (fun w => v_abo (zB S o) (nI w)) 5 h) else h
def mixOs (S : SS) : Nat → Int64 → Int64
  | 0, h => h
  | o + 1, h => mixOr S o (mixOs S o h)
def mixBd (d : QD) : Nat → Int64 → Int64
  | 0, h => h
  | c + 1, h => mixd (mixd (mixBd d c h) (b_lo d c).toInt64) (b_hi d c).toInt64
def mixQs (S : SS) : Nat → Int64 → Int64
  | 0, h => h
  | q + 1, h => mixd (mixBd (zQ S q) 4 (mixQs S q h)) (zQ S q).2.2.2.2.toInt64
def mixPr (p : PD) (i : Nat) : Int64 → Int64 := mixN (fun w => if p.2.1 i = 0 then -1 else if w = 0 then nI (p.2.1 i) else if w = 1 then p.2.2.1 i else p.2.2.2 i) 3
def mixPi (p : PD) : Nat → Int64 → Int64
  | 0, h => h
  | i + 1, h => mixPr p i (mixPi p i h)
def mixPs (S : SS) : Nat → Int64 → Int64
  | 0, h => h
  | c + 1, h => mixPi (zP S c) 4 (mixPs S c h)
def v_digest (S : SS) : Int64 := mixN (fun w => v_count S (nI w)) 9 (mixN (fun k => nI (zC S k)) (zn S) (mixPs S 4 (mixd (mixQs S (zq S) (mixOs S 8 (mixTb S 64 (mixd 241 (nI (zw S)).toInt64)))) (nI (zu S)).toInt64)))
end RDS
