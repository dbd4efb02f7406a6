/-! The class's calls that list ways and work out works. -/
def s_W (S : SS) (i : Nat) : WL := allW (zf S) (zt S) (zw S) (zo S) (zB S) (zQ S i) 8
def s_cost (S : SS) (i p : Nat) : Nat := ((s_W S i).getD p (0, 0, 0)).2.2
def s_num (S : SS) (i p : Nat) : Nat := ((s_W S i).getD p (0, 0, 0)).1
def s_bpl (S : SS) (i m : Nat) : Nat := bstW (s_W S i) m (s_W S i).length
def s_wrk (S : SS) (m : Nat) : Nat := wrk (zf S) (zt S) (zw S) (zo S) (zB S) (zQ S) (zu S) m (zq S)
def s_szs (S : SS) (m : Nat) : Nat := szsO (zB S) (zo S) m
def v_looks (S : SS) (x y : Int32) : Int32 := if inR x (zq S) then if wayPl (s_W S x.toInt.toNat) y < (s_W S x.toInt.toNat).length then nI (s_cost S x.toInt.toNat (wayPl (s_W S x.toInt.toNat) y)) else -101 else -101
def v_best (S : SS) (x y : Int32) : Int32 := if inR x (zq S) then if inR y 256 then nI (s_num S x.toInt.toNat (s_bpl S x.toInt.toNat y.toInt.toNat)) else -102 else -101
def v_work (S : SS) (y : Int32) : Int32 := if inR y 256 then nI (s_wrk S y.toInt.toNat) else -102
def wout (m o : Nat) : Nat := if m.testBit o then m - 2 ^ o else m
def v_worth (S : SS) (y x : Int32) : Int32 := if isO (zo S) (zB S) x then if inR y 256 then if y.toInt.toNat.testBit x.toInt.toNat then nI (s_wrk S (wout y.toInt.toNat x.toInt.toNat)) - nI (s_wrk S y.toInt.toNat) else -101 else -102 else -101
def s_ch (S : SS) (i : Nat) : Nat := chR (zt S) (zw S) (zo S) (zB S) (zP S) (zr S) (zQ S i)
def v_regret (S : SS) (x : Int32) : Int32 := if inR x (zq S) then nI (s_cost S x.toInt.toNat (wayPl (s_W S x.toInt.toNat) (nI (s_ch S x.toInt.toNat)))) - nI (s_cost S x.toInt.toNat (s_bpl S x.toInt.toNat 255)) else -101
def s_bst (S : SS) (sp : Nat) : Nat := bstS (s_wrk S) (s_szs S) (kSet (zB S) (zo S)) sp 256
def zch (S : SS) (ch sp : Nat) : SS := (S.1, S.2.1, S.2.2.1, S.2.2.2.1, S.2.2.2.2.1, S.2.2.2.2.2.1, ch, sp)
def s_choose (S : SS) (x y : Int32) : Int32 × SS := if inR x 10000 then if inR y 3 then if zc S < 20 then (if y = 0 then nI (s_bst S x.toInt.toNat) else if y = 1 then nI (s_wrk S (s_bst S x.toInt.toNat)) else nI (s_szs S (s_bst S x.toInt.toNat)), zch S (zc S + 1) (zs S)) else (-103, S) else (-102, S) else (-102, S)
def s_nx (S : SS) (sp : Nat) : Nat → Nat := nxt (s_wrk S) (s_szs S) (keptB (zo S) (zB S)) sp
def s_stl (S : SS) (sp : Nat) : List Nat := stpL (s_nx S sp) 8 0
def s_ste (S : SS) (sp : Nat) : Nat := stpE (s_nx S sp) 8 0
def v_stp (S : SS) (sp : Nat) (y : Int32) : Int32 := if 10 ≤ y.toInt then if y.toInt.toNat - 10 < (s_stl S sp).length then nI ((s_stl S sp).getD (y.toInt.toNat - 10) 0) else -1 else if y = 0 then nI (s_ste S sp) else if y = 1 then nI (s_wrk S (s_ste S sp)) else nI (fa_cnt (s_ste S sp).testBit 8)
def s_steps (S : SS) (x y : Int32) : Int32 × SS := if inR x 10000 then if inR y 3 || (decide (10 ≤ y.toInt) && decide (y.toInt < 18)) then if zs S < 20 then (v_stp S x.toInt.toNat y, zch S (zc S) (zs S + 1)) else (-103, S) else (-102, S) else (-102, S)
section WKS
variable {g : GG} {σ σ' : Hs} {R : Nat → Nat} {S : SS}
theorem KO.kw (h : KO g σ R S) (hk : ∃ u F G T s, KW g σ' R (zf S) (zt S) (zw S) (zo S) (zB S) u (zq S, zQ S, F, G, T, s, zu S)) (s : Sm R Tk σ σ') : KO g σ' R S ∧ Sm R (Tc S) σ σ' := by
  have hs : Sf R (Lv (zo S) (zq S)) Tk σ σ' := ⟨s, h.ij, fun i hi => lvs33 (by unfold Tk at hi; omega)⟩
  have nT : ∀ i, i < 6 ∨ 24 ≤ i → ¬ Tk i := fun i hi z => by unfold Tk at z; omega
  obtain ⟨h0, -, ⟨F2, hp⟩, h3, hm, al⟩ := h
  exact ⟨⟨h0.sf hs ⟨lvs33 (by omega), nT 0 (by omega)⟩, hk, ⟨F2, hp.sf hs fun i hi z => nT i (by omega) hi⟩, h3.sf hs fun i hi z => nT i (by omega) hi, hm.sf hs fun i hi z => nT i (by omega) hi, fun i hi => s.1 _ (al i hi)⟩, s.mono fun i hi => ⟨lvs33 (by unfold Tk at hi; omega), by unfold Tk at hi; omega⟩⟩
theorem KO.obj (h : KO g σ R S) (ch sp : Nat) : KO g (hup σ (R 0) (koc R ch sp)) R (zch S ch sp) ∧ Sm R (Tc S) σ (hup σ (R 0) (koc R ch sp)) := by
  have hs := sf1 (σ := σ) h.ij (show 0 < 33 by omega) (koc R ch sp)
  have nT : ∀ i, 1 ≤ i → ¬ Tr 0 (0 + 1) i := fun i hi z => by unfold Tr at z; omega
  have nL : ∀ i, 1 ≤ i → i < 33 → Lv (zo S) (zq S) i ∧ ¬ Tr 0 (0 + 1) i := fun i a b => ⟨lvs33 b, nT i a⟩
  obtain ⟨h0, ⟨u, F, G, T, s, ⟨k1, k2, k3, k4⟩, hk⟩, ⟨F2, hp⟩, h3, hm, al⟩ := h
  refine ⟨⟨h0.up _, ⟨u, F, G, T, s, ⟨k1.sf hs (nL 1 (by omega) (by omega)) (nL 2 (by omega) (by omega)) (nL 3 (by omega) (by omega)), k2.sf hs fun i hi => ⟨?_, nT i (by omega)⟩, k3.sf hs fun i a b => nL i (by omega) (by omega), k4.sf hs fun i hi => ⟨?_, nT i (by omega)⟩⟩, hk⟩, ⟨F2, hp.sf hs fun i hi z => nT i (by omega) hi⟩, h3.sf hs fun i hi z => nT i (by omega) hi, hm.sf hs fun i hi z => nT i (by omega) hi, fun i hi => al i hi⟩, Sm.hup ⟨lvs33 (by omega), by omega⟩ _⟩
  · unfold Lv; omega
  · rcases hi with a | a
    · exact lvs33 (by omega)
    · have a2 : i < 200 + 5 * zq S := a.2
      unfold Lv; omega
theorem KO.p7 (h : KO g σ R S) (ch : Nat) {φ : Hs → Prop} (k : ∀ σ1, KO g σ1 R (zch S ch (zs S)) → Sm R (Tc S) σ σ1 → φ σ1) : PF σ (R 0) 11 7 (.int (nI ch)) φ := PF.of h.1 (by show 7 < 9; decide) rfl (k (hup σ (R 0) (koc R ch (zs S))) (h.obj ch (zs S)).1 (h.obj ch (zs S)).2)
theorem KO.p8 (h : KO g σ R S) (sp : Nat) {φ : Hs → Prop} (k : ∀ σ1, KO g σ1 R (zch S (zc S) sp) → Sm R (Tc S) σ σ1 → φ σ1) : PF σ (R 0) 11 8 (.int (nI sp)) φ := PF.of h.1 (by show 8 < 9; decide) rfl (k (hup σ (R 0) (koc R (zc S) sp)) (h.obj (zc S) sp).1 (h.obj (zc S) sp).2)
theorem KO.sok (h : KO g σ R S) (i : Nat) : wOk (s_W S i) ∧ wDif (s_W S i) := allW_ok _ _ _ _ _ _ h.ords.2.2.2.2.1
theorem KO.bpl (h : KO g σ R S) (i m : Nat) : s_bpl S i m < (s_W S i).length := by
  have := (h.sok i).1.2.1
  unfold s_bpl
  rcases bstW_lt (s_W S i) m (s_W S i).length with h | h <;> omega
/-- listing the ways of a question -/
theorem KO.lst (h : KO g σ R S) {i : Nat} (hi : i < zq S) {φ : Hs → Prop} (k : ∀ σ2 u F G T s, KO g σ2 R S → Sm R (Tc S) σ σ2 → KW g σ2 R (zf S) (zt S) (zw S) (zo S) (zB S) u (zq S, zQ S, F, G, T, s, zu S) → WHold u (s_W S i) → φ σ2) : Do g M_X9_list 0 0 [.ref (R 6), .ref (R (200 + 5 * i))] σ (kV φ) := by
  obtain ⟨-, ⟨u, F, G, T, s, hk⟩, -⟩ := id h
  refine DoV.use (wr_list hk.1.2.2.1 h.ords h.tab (h.que hi) (h.qok i hi).1 h.wide) ?_
  rintro σ2 ⟨u2, rfl, hW⟩
  have hk2 := hk.ways u2
  obtain ⟨a1, a2⟩ := h.kw ⟨u2, F, G, T, s, hk2⟩ (Sm.ofw fun i a b => ⟨a, by omega⟩)
  exact k _ u2 F G T s a1 a2 hk2 hW
theorem KP.go {p : Int32 × SS} {v : Int32} (h : KO g σ' R p.2) (s : Sm R (Tc S) σ σ') (e : v = p.1) (ht : Tc p.2 = Tc S := by rfl) : KP g σ R S p (some (.int v)) σ' := ⟨_, rfl, e, R, h, rfl, s, fun _ _ n => by rw [ht]; exact n⟩
theorem do_looks (h : KO g σ R S) (x y : Int32) : Do g M_X11_looks 0 0 [.ref (R 0), .int x, .int y] σ (KP g σ R S (v_looks S x y, S)) := by
  have hq8 := h.q8
  refine q_X11_looks _ x y (h.g3 ⟨h.wk, h.qs x (fun c => ?_) fun i hi e => ?_⟩)
  · unfold v_looks
    rw [if_f c]
    exact KP.no h
  · subst e
    refine h.g2 ⟨h.wy, h.lst hi fun σ2 u F G T s h2 s2 hk hW => h2.g2 ⟨h2.wy, (rd_wplaceOf hk.1.2.2.1 hW (h.sok i).1.1 y).use ?_⟩⟩
    unfold v_looks
    rw [if_t (inR_y hi (by omega)), nn_i (by omega)]
    have hl := (h.sok i).1.1
    by_cases c : wayPl (s_W S i) y < (s_W S i).length
    · rw [if_pos c, if_pos c]
      exact ⟨fun _ => h2.g2 ⟨h2.wy, (rd_wcostAt hk.1.2.2.1 hW hl c).use (KP.go h2 s2 rfl)⟩, fun z => absurd z (nI_neg (by omega))⟩
    · rw [if_neg c, if_neg c]
      exact ⟨fun z => absurd rfl z, fun _ => KP.go h2 s2 rfl⟩
theorem do_best (h : KO g σ R S) (x y : Int32) : Do g M_X11_best 0 0 [.ref (R 0), .int x, .int y] σ (KP g σ R S (v_best S x y, S)) := by
  have hq8 := h.q8
  refine q_X11_best _ x y (h.g3 ⟨h.wk, h.qs x (fun c => ?_) fun i hi e => ?_⟩)
  · unfold v_best
    rw [if_f c]
    exact KP.no h
  · subst e
    unfold v_best
    rw [if_t (inR_y hi (by omega)), nn_i (by omega)]
    refine (rd_isSet y).use ⟨fun c => ?_, fun c => ?_⟩
    · have c := b2_n0.mp c
      obtain ⟨m, hm, rfl⟩ := inR_of c (by decide)
      rw [if_t c, nn_i (by omega)]
      exact h.g2 ⟨h.wy, h.lst hi fun σ2 u F G T s h2 s2 hk hW => h2.g2 (h2.g2 ⟨h2.wy, (rd_wbestPlace hk.1.2.2.1 hW (h.sok i).1 hm).use ⟨h2.wy, (rd_wnumberAt hk.1.2.2.1 hW (h.sok i).1.1 (h.bpl i m)).use (KP.go h2 s2 rfl)⟩⟩)⟩
    · rw [if_f (b2_0.mp c)]
      exact KP.no h
theorem KO.wof (h : KO g σ R S) {m : Nat} (hm : m < 256) {φ : Int32 → Hs → Prop} (k : ∀ σ2, KO g σ2 R S → Sm R (Tc S) σ σ2 → φ (nI (s_wrk S m)) σ2) : Do g M_X10_workOf 0 0 [.ref (R 16), .int (nI m)] σ (kI φ) := by
  obtain ⟨-, ⟨u, F, G, T, s, hk⟩, -⟩ := id h
  refine DoI.use (wr_workOf hk hm) ?_
  rintro x σ2 ⟨⟨u2, hk2⟩, s2, rfl⟩
  obtain ⟨a1, a2⟩ := h.kw ⟨u2, F, G, T, s, hk2⟩ s2
  exact k σ2 a1 a2
theorem do_work (h : KO g σ R S) (y : Int32) : Do g M_X11_work 0 0 [.ref (R 0), .int y] σ (KP g σ R S (v_work S y, S)) := by
  refine q_X11_work _ y ((rd_isSet y).use ⟨fun c => ?_, fun c => ?_⟩)
  · unfold v_work
    rw [if_f (b2_0.mp c)]
    exact KP.no h
  · have c := b2_n0.mp c
    obtain ⟨m, hm, rfl⟩ := inR_of c (by decide)
    unfold v_work
    rw [if_t c, nn_i (by omega)]
    exact h.g3 ⟨h.wk, h.wof hm fun σ2 h2 s2 => KP.go h2 s2 rfl⟩
theorem wout_lt {m o : Nat} (h : m < 256) : wout m o < 256 := by
  unfold wout
  split
  · have := Nat.sub_le m (2 ^ o); omega
  · exact h
theorem do_worth (h : KO g σ R S) (y x : Int32) : Do g M_X11_worth 0 0 [.ref (R 0), .int y, .int x] σ (KP g σ R S (v_worth S y x, S)) := by
  refine q_X11_worth _ y x (h.g1 ⟨Rc.of h.ords.1, h.os x (fun c => ?_) fun o ho h8 hd e => ?_⟩)
  · unfold v_worth
    rw [if_f c]
    exact KP.no h
  · subst e
    unfold v_worth
    rw [if_t (isO_y ho h8 hd), nn_i (by omega)]
    refine (rd_isSet y).use ⟨fun c => ?_, fun c => ?_⟩
    · have c := b2_n0.mp c
      obtain ⟨m, hm, rfl⟩ := inR_of c (by decide)
      rw [if_t c, nn_i (by omega)]
      refine (rd_has hm h8).use ⟨fun c2 => ?_, fun c2 => ?_⟩
      · rw [if_t (b2_n0.mp c2)]
        refine h.g3 ((rd_without hm h8).use ⟨h.wk, h.wof (m := wout m o) (wout_lt hm) fun σ2 h2 s2 => h2.g3 ⟨h2.wk, h2.wof hm fun σ3 h3 s3 => KP.go h3 (s2.trans s3) rfl⟩⟩)
      · rw [if_f (b2_0.mp c2)]
        exact KP.no h
    · rw [if_f (b2_0.mp c)]
      exact KP.no h
/-- the chosen way is always listed -/
theorem KO.chl (h : KO g σ R S) (i : Nat) : wayPl (s_W S i) (nI (s_ch S i)) < (s_W S i).length := by
  have hle := h.sok i
  have key : ∃ p, p < (s_W S i).length ∧ ((s_W S i).getD p (0, 0, 0)).1 = s_ch S i := by
    have h1 : s_ch S i = 0 ∨ ∃ o, o < 8 ∧ keptB (zo S) (zB S) o = true ∧ s_ch S i = 1 + o := by
      have hh : ∀ k, k ≤ 8 → (chW (zt S) (zw S) (zo S) (zB S) (zP S) (zr S) (zQ S i) k).1 = 0 ∨ ∃ o, o < k ∧ keptB (zo S) (zB S) o = true ∧ (chW (zt S) (zw S) (zo S) (zB S) (zP S) (zr S) (zQ S i) k).1 = 1 + o := by
        intro k
        induction k with
        | zero => intro _; exact Or.inl rfl
        | succ k ih =>
          intro hk
          rw [chW_s]
          by_cases c : keptB (zo S) (zB S) k = true ∧ lkO (zt S) (zw S) (zP S) (zr S) (zQ S i) (zB S k) < (chW (zt S) (zw S) (zo S) (zB S) (zP S) (zr S) (zQ S i) k).2
          · rw [if_pos c]
            exact Or.inr ⟨k, by omega, c.1, rfl⟩
          · rw [if_neg c]
            rcases ih (by omega) with z | ⟨o, z1, z2, z3⟩
            · exact Or.inl z
            · exact Or.inr ⟨o, by omega, z2, z3⟩
      exact hh 8 (Nat.le_refl _)
    have mem : ∃ x, x ∈ s_W S i ∧ x.1 = s_ch S i := by
      rcases h1 with z | ⟨o, z1, z2, z3⟩
      · exact ⟨_, (allW_in _ _ _ _ _ _ 8 (Nat.le_refl _) _).mpr (Or.inl (Or.inl rfl)), z.symm⟩
      · exact ⟨_, (allW_in _ _ _ _ _ _ 8 (Nat.le_refl _) _).mpr (Or.inl (Or.inr ⟨o, z1, z2, rfl⟩)), z3.symm⟩
    obtain ⟨x, hx, hx2⟩ := mem
    obtain ⟨p, hp, he⟩ := List.mem_iff_getElem.mp hx
    exact ⟨p, hp, by rw [getD_at hp, he]; exact hx2⟩
  obtain ⟨p, hp, he⟩ := key
  unfold wayPl
  rcases Nat.lt_or_ge (fa_first (fun j => decide (nI ((s_W S i).getD j (0, 0, 0)).1 = nI (s_ch S i))) (s_W S i).length) (s_W S i).length with z | z
  · exact z
  · have := fa_first_no (fun j => decide (nI ((s_W S i).getD j (0, 0, 0)).1 = nI (s_ch S i))) (s_W S i).length p (by omega)
    exact absurd (by rw [he]) (of_decide_eq_false this)
theorem s_bst_lt (S : SS) (sp : Nat) : s_bst S sp < 256 := by
  unfold s_bst
  rcases bstS_lt (s_wrk S) (s_szs S) (kSet (zB S) (zo S)) sp 256 with h | h <;> omega
theorem KP.g2 {S' : SS} {p : Int32 × SS} {v : Int32} (h : KO g σ' R p.2) (s : Sm R (Tc S) σ σ') (e : v = p.1) (ht : Tc p.2 = Tc S := by rfl) : KP g σ R S p (some (.int v)) σ' := KP.go h s e ht
theorem do_choose (h : KO g σ R S) (iv : Inv S) (x y : Int32) : Do g M_X11_choose 0 0 [.ref (R 0), .int x, .int y] σ (KP g σ R S (s_choose S x y)) := by
  have hz := iv.2.2.2.2.2.1
  refine q_X11_choose _ x y ((rd_isSpace x).use ⟨fun c => ?_, fun c => ?_⟩)
  · unfold s_choose
    rw [if_f (b2_0.mp c)]
    exact KP.no h
  · have c := b2_n0.mp c
    obtain ⟨sp, hsp, rfl⟩ := inR_of c (by decide)
    unfold s_choose
    rw [if_t c, nn_i (by omega)]
    refine ⟨fun c1 => ?_, fun c1 => ⟨fun c2 => FI.of h.1 rfl ⟨fun c3 => FI.of h.1 rfl ?_, fun c3 => ?_⟩, fun c2 => ?_⟩⟩
    · rw [if_f (inR_lo c1)]
      exact KP.no h
    · have c1 := nlt_n (n := 0) (by decide) c1
      have c2 := (le_n (n := 2) (by decide)).mp c2
      have c3 := (nI_ltI (b := 20) (by omega) (by decide)).mp c3
      rw [show inR y 3 = true from decide_eq_true (by omega), if_pos rfl, if_pos c3]
      rw [nI_1]
      refine h.p7 (zc S + 1) fun σ1 h1 s1 => ?_
      refine h1.g3 ⟨h1.wk, ?_⟩
      obtain ⟨-, ⟨u, F, G, T, s, hk⟩, -⟩ := id h1
      refine DoI.use (wr_bestSet hk hsp) ?_
      rintro v σ2 ⟨u2, F2, G2, hk2, s2, hL, rfl⟩
      obtain ⟨h2, s3⟩ := h1.kw ⟨u2, F2, G2, T, s, hk2⟩ s2
      have hb := s_bst_lt S sp
      refine ⟨fun d0 => ⟨fun d1 => h2.g1 ⟨Rc.of h2.ords.1, (rd_osizesOf h2.ords hb).use (KP.go h2 (s1.trans s3) ?_)⟩, fun d1 => h2.g3 ⟨h2.wk, (rd_wkworkedOut hk2 hL hb).use (KP.go h2 (s1.trans s3) ?_)⟩⟩, fun d0 => KP.go h2 (s1.trans s3) ?_⟩
      · rw [if_neg d0, if_neg d1]; rfl
      · rw [if_neg d0, if_pos d1]; rfl
      · rw [if_pos d0]; rfl
    · have c1 := nlt_n (n := 0) (by decide) c1
      have c2 := (le_n (n := 2) (by decide)).mp c2
      rw [show inR y 3 = true from decide_eq_true (by omega), if_pos rfl, if_neg (fun z => c3 (nI_lt z (by decide)))]
      exact KP.no h
    · have c2 := nle_n (n := 2) (by decide) c2
      rw [show inR y 3 = false from decide_eq_false (by omega)]
      exact KP.no h
theorem do_steps (h : KO g σ R S) (iv : Inv S) (x y : Int32) : Do g M_X11_steps 0 0 [.ref (R 0), .int x, .int y] σ (KP g σ R S (s_steps S x y)) := by
  have hz := iv.2.2.2.2.2.2
  have l41 : ∀ (sp : Nat) (t : Int32), sp < 10000 → x = nI sp → (inR y 3 || (decide (10 ≤ y.toInt) && decide (y.toInt < 18))) = true → (t = 0 ↔ ¬ 10 ≤ y.toInt) → J_X11_steps_41 g (KP g σ R S (s_steps S x y)) σ (R 0) x y t := by
    intro sp t hsp e hy ht
    subst e
    unfold s_steps
    rw [if_t (inR_y hsp (by decide)), if_t hy, nn_i (by omega)]
    refine q_X11_steps_41 _ _ _ _ (FI.of h.1 rfl ⟨fun c3 => FI.of h.1 rfl ?_, fun c3 => ?_⟩)
    · have c3 := (nI_ltI (b := 20) (by omega) (by decide)).mp c3
      rw [if_pos c3]
      rw [nI_1]
      refine h.p8 (zs S + 1) fun σ1 h1 s1 => ?_
      refine h1.g3 ⟨h1.wk, ?_⟩
      obtain ⟨-, ⟨u, F, G, T, s, hk⟩, -⟩ := id h1
      refine DoI.use (wr_stepByStep hk hsp) ?_
      rintro v σ2 ⟨u2, F2, G2, S2, hk2, s2, hL, hS, rfl⟩
      obtain ⟨h2, s3⟩ := h1.kw ⟨u2, F2, G2, S2, _, hk2⟩ s2
      have hb : s_ste S sp < 256 := stpE_lt (s_nx S sp) 8 0 (by decide)
      have hlen : (s_stl S sp).length ≤ 8 := stpL_len (s_nx S sp) 8 0
      unfold v_stp
      refine ⟨fun d => ⟨fun d0 => ⟨fun d1 => (rd_bitCountI hb).use (KP.go h2 (s1.trans s3) ?_), fun d1 => h2.g3 ⟨h2.wk, (rd_wkworkedOut hk2 hL hb).use (KP.go h2 (s1.trans s3) ?_)⟩⟩, fun d0 => KP.go h2 (s1.trans s3) ?_⟩, fun d => ?_⟩
      · rw [if_neg (ht.mp d), if_neg d0, if_neg d1]
      · rw [if_neg (ht.mp d), if_neg d0, if_pos d1]; rfl
      · rw [if_neg (ht.mp d), if_pos d0]; rfl
      · have d : 10 ≤ y.toInt := by
          rcases Int.lt_or_le y.toInt 10 with z | z
          · exact absurd (ht.mpr (by omega)) d
          · exact z
        have hy2 : y.toInt < 18 := by
          rcases Bool.or_eq_true_iff.mp hy with z | z
          · unfold inR at z
            have := of_decide_eq_true z
            omega
          · rw [Bool.and_eq_true, decide_eq_true_eq, decide_eq_true_eq] at z
            exact z.2
        obtain ⟨k, hk8, rfl⟩ := I_of (x := y) (n := 18) (by omega) (by omega) (by decide)
        rw [I_n (by omega)] at d
        refine h2.g3 ⟨h2.wk, ?_⟩
        rw [show nI k - 10 = nI (k - 10) from pk_sub (show 10 ≤ k by omega)]
        refine (rd_wkstepAt hk2 hlen (k := k - 10) (by omega)).use (KP.go h2 (s1.trans s3) ?_)
        rw [if_pos (show 10 ≤ (nI k).toInt by rw [I_n (by omega)]; omega), nn_i (by omega)]
        by_cases c : k - 10 < (s_stl S sp).length
        · rw [if_pos c]
          exact (if_pos c).trans (hS _ c)
        · rw [if_neg c]
          exact if_neg c
    · rw [if_neg (fun z => c3 (nI_lt z (by decide)))]
      exact KP.no h
  have l17 : ∀ (t : Int32), (t = 0 ↔ ¬ (10 ≤ y.toInt ∧ y.toInt < 18)) → J_X11_steps_17 g (KP g σ R S (s_steps S x y)) σ (R 0) x y t := by
    intro t ht
    refine q_X11_steps_17 _ _ _ _ ((rd_isSpace x).use ⟨fun c => ?_, fun c => ?_⟩)
    · unfold s_steps
      rw [if_f (b2_0.mp c)]
      exact KP.no h
    · have c := b2_n0.mp c
      obtain ⟨sp, hsp, e⟩ := inR_of c (by decide)
      refine ⟨fun d => ?_, fun d => ⟨fun d1 => ?_, fun d1 => ⟨fun d2 => ?_, fun d2 => ?_⟩⟩⟩
      · have d2 : 10 ≤ y.toInt ∧ y.toInt < 18 := Classical.byContradiction fun z => d (ht.mpr z)
        refine l41 sp t hsp e ?_ ⟨fun z => absurd z d, fun z => absurd d2.1 z⟩
        rw [decide_eq_true d2.1, decide_eq_true d2.2, Bool.and_true, Bool.or_true]
      · have d0 := ht.mp d
        have d1 := (lt_n (n := 0) (by decide)).mp d1
        unfold s_steps
        rw [if_t c, if_f]
        · exact KP.no h
        · rw [show inR y 3 = false from decide_eq_false (by omega), decide_eq_false (p := 10 ≤ y.toInt) (by omega)]
          rfl
      · have d0 := ht.mp d
        have d1 := nlt_n (n := 0) (by decide) d1
        have d2 := (le_n (n := 2) (by decide)).mp d2
        refine l41 sp t hsp e ?_ ⟨fun _ => by omega, fun _ => d⟩
        rw [show inR y 3 = true from decide_eq_true (by omega), Bool.true_or]
      · have d0 := ht.mp d
        have d2 := nle_n (n := 2) (by decide) d2
        unfold s_steps
        rw [if_t c, if_f]
        · exact KP.no h
        · rw [show inR y 3 = false from decide_eq_false (by omega), Bool.false_or]
          rcases Int.lt_or_le y.toInt 10 with z | z
          · rw [decide_eq_false (p := 10 ≤ y.toInt) (by omega), Bool.false_and]
          · rw [decide_eq_false (p := y.toInt < 18) (by omega), Bool.and_false]
  refine q_X11_steps _ x y ⟨fun c => ?_, fun c => ⟨fun c2 => ?_, fun c2 => ?_⟩⟩
  · have c := (lt_n (n := 10) (by decide)).mp c
    exact l17 0 ⟨fun _ => by omega, fun _ => rfl⟩
  · have c2 := (n_le (n := 18) (by decide)).mp c2
    exact l17 0 ⟨fun _ => by omega, fun _ => rfl⟩
  · have c := nlt_n (n := 10) (by decide) c
    have c2 := n_nle (n := 18) (by decide) c2
    exact l17 1 ⟨fun z => absurd z (by decide), fun z => absurd ⟨by omega, by omega⟩ z⟩
end WKS
