/-! The class's calls that change rows. -/
def tkS (tk : Nat → Bool) (s : Nat) : Nat → Bool := fun t => tk t || decide (t = s)
def tkD (tk : Nat → Bool) (s : Nat) : Nat → Bool := fun t => tk t && !decide (t = s)
def f4 (f : Nat → Int32) (s : Nat) (a b c d : Int32) : Nat → Int32 := upd (upd (upd (upd f (4 * s + 0) a) (4 * s + 1) b) (4 * s + 2) c) (4 * s + 3) d
def zTO (S : SS) (f : Nat → Int32) (tk : Nat → Bool) (B : Nat → OD) : SS := ((f, tk, zw S), (zo S, B), S.2.2)
def B_come (f : Nat → Int32) (s : Nat) (B : Nat → OD) : Nat → OD := eachO (fun key w => comeS f key w s) B
def B_go (s : Nat) (B : Nat → OD) : Nat → OD := eachO (fun _ w => goS w s) B
def s_lay (S : SS) (s : Nat) (a b c d : Int32) : SS := zTO S (f4 (zf S) s a b c d) (tkS (zt S) s) (B_come (f4 (zf S) s a b c d) s (zB S))
def s_emp (S : SS) : Nat := fa_first (fun s => !zt S s) 64
def s_row (S : SS) (a b c d : Int32) : Int32 × SS := if inR a 100 then if inR b 100 then if inR c 100 then if inR d 100 then if s_emp S < 64 then (nI (s_emp S), s_lay S (s_emp S) a b c d) else (-104, S) else (-102, S) else (-102, S) else (-102, S) else (-102, S)
def isR (S : SS) (x : Int32) : Bool := inR x 64 && zt S x.toInt.toNat
def s_set (S : SS) (x y v : Int32) : Int32 × SS := if isR S x then if inR y 4 then if inR v 100 then (zf S (4 * x.toInt.toNat + y.toInt.toNat), zTO S (upd (zf S) (4 * x.toInt.toNat + y.toInt.toNat) v) (zt S) (B_come (upd (zf S) (4 * x.toInt.toNat + y.toInt.toNat) v) x.toInt.toNat (B_go x.toInt.toNat (zB S)))) else (-102, S) else (-101, S) else (-101, S)
def s_drop (S : SS) (x : Int32) : Int32 × SS := if isR S x then (nI (fa_cnt (tkD (zt S) x.toInt.toNat) 64), zTO S (zf S) (tkD (zt S) x.toInt.toNat) (B_go x.toInt.toNat (zB S))) else (-101, S)
def sdN (k : Nat) : Nat := (1103515245 * k + 12345) % 2147483648
def nmN (m k : Nat) : Int32 := nI (k / 65536 % m)
def s_fl (m : Nat) : Nat → SS → Nat → Nat → Nat × SS
  | 0, S, _, came => (came, S)
  | n + 1, S, k, came => if s_emp S < 64 then s_fl m n (s_lay S (s_emp S) (nmN m (sdN k)) (nmN m (sdN (sdN k))) (nmN m (sdN (sdN (sdN k)))) (nmN m (sdN (sdN (sdN (sdN k)))))) (sdN (sdN (sdN (sdN k)))) (came + 1) else (came, S)
theorem s_fl_s (m n : Nat) (S : SS) (k came : Nat) : s_fl m (n + 1) S k came = if s_emp S < 64 then s_fl m n (s_lay S (s_emp S) (nmN m (sdN k)) (nmN m (sdN (sdN k))) (nmN m (sdN (sdN (sdN k)))) (nmN m (sdN (sdN (sdN (sdN k)))))) (sdN (sdN (sdN (sdN k)))) (came + 1) else (came, S) := rfl
def inL (x : Int32) (a b : Nat) : Bool := decide ((a : Int) ≤ x.toInt ∧ x.toInt ≤ (b : Int))
def s_fill (S : SS) (x n m : Int32) : Int32 × SS := if inR x 2147483648 then if inL n 1 64 then if inL m 1 100 then (nI (s_fl m.toInt.toNat n.toInt.toNat S x.toInt.toNat 0).1, (s_fl m.toInt.toNat n.toInt.toNat S x.toInt.toNat 0).2) else (-102, S) else (-102, S) else (-102, S)
def s_wide (S : SS) (x : Int32) : Int32 × SS := if inL x 2 8 then (nI (zw S), ((zf S, zt S, x.toInt.toNat), S.2)) else (-102, S)
theorem eachO_at {F : Nat → OS → OS} {B : Nat → OD} {o : Nat} (h : (B o).2.2 = false) : eachO F B o = ((B o).1, F (B o).1 (B o).2.1, (B o).2.2) := by
  unfold eachO
  rw [h, if_neg (by decide)]
theorem eachO_dd {F : Nat → OS → OS} {B : Nat → OD} {o : Nat} (h : (B o).2.2 = true) : eachO F B o = B o := by
  unfold eachO
  rw [if_pos h]
theorem BIn.each {F : Nat → OS → OS} {f f' : Nat → Int32} {tk tk' : Nat → Bool} {told : Nat} {B : Nat → OD} (h : BIn f tk told B) (hF : ∀ key w, OIn f tk key w → OIn f' tk' key (F key w)) : BIn f' tk' told (eachO F B) := by
  intro o ho
  obtain ⟨a1, a2, a3⟩ := h o ho
  rcases Bool.eq_false_or_eq_true (B o).2.2 with c | c
  · rw [eachO_dd c]
    exact ⟨a1, a2, fun z => by rw [c] at z; cases z⟩
  · rw [eachO_at c]
    have := hF _ _ (a3 c)
    exact ⟨a1, this.1, fun _ => this⟩
theorem BIn.ok {f : Nat → Int32} {tk : Nat → Bool} {told : Nat} {B : Nat → OD} (h : BIn f tk told B) : ∀ o, o < told → OSok (B o).2.1 := fun o ho => (h o ho).2.1
theorem BIn.cong {f f2 : Nat → Int32} {tk tk2 : Nat → Bool} {told : Nat} {B : Nat → OD} (h : BIn f tk told B) (hf : ∀ s, s < 64 → tk s = true → ∀ c, c < 4 → f (4 * s + c) = f2 (4 * s + c)) (ht : ∀ s, s < 64 → tk s = tk2 s) : BIn f2 tk2 told B := fun o ho => ⟨(h o ho).1, (h o ho).2.1, fun z => ⟨((h o ho).2.2 z).1, ((h o ho).2.2 z).2.cong hf ht⟩⟩
theorem BIn.come {f : Nat → Int32} {tk : Nat → Bool} {told s : Nat} {B : Nat → OD} (h : BIn f tk told B) (hs : s < 64) (ht : tk s = false) : BIn f (tkS tk s) told (B_come f s B) := h.each fun _ _ z => comeS_in z hs ht
theorem BIn.go {f : Nat → Int32} {tk : Nat → Bool} {told s : Nat} {B : Nat → OD} (h : BIn f tk told B) (hs : s < 64) (ht : tk s = true) : BIn f (tkD tk s) told (B_go s B) := h.each fun _ _ z => goS_in z hs ht
section ROW
variable {g : GG} {σ σ' : Hs} {R : Nat → Nat} {S : SS}
theorem KO.st1 (h : KO g σ R S) (tk' : Nat → Bool) (wd' : Nat) (hw : 2 ≤ wd' ∧ wd' ≤ 8) : KO g (hup σ (R 1) (.inr (8, [.ref (R 2), .long (mk64 tk'), .int (nI wd')]))) R ((zf S, tk', wd'), S.2) ∧ Sm R (Tc S) σ (hup σ (R 1) (.inr (8, [.ref (R 2), .long (mk64 tk'), .int (nI wd')]))) := by
  have s := sf1 (σ := σ) h.ij (show 1 < 33 by omega) (.inr (8, [.ref (R 2), .long (mk64 tk'), .int (nI wd')]))
  exact h.tos s (fun i hi => by unfold Tr at hi; omega) (h.tab.tk tk' wd') (h.ords.sf s fun i hi => ⟨by unfold Lv; omega, by unfold Tr; omega⟩) hw
theorem KO.st3 (h : KO g σ R S) (f' : Nat → Int32) : KO g (hup σ (R 3) (aI g 256 f')) R ((f', zt S, zw S), S.2) ∧ Sm R (Tc S) σ (hup σ (R 3) (aI g 256 f')) := by
  have s := sf1 (σ := σ) h.ij (show 3 < 33 by omega) (aI g 256 f')
  exact h.tos s (fun i hi => by unfold Tr at hi; omega) (h.tab.put f') (h.ords.sf s fun i hi => ⟨by unfold Lv; omega, by unfold Tr; omega⟩) h.wide
theorem KO.sto (h : KO g σ R S) (B' : Nat → OD) (hk : ∀ o, o < zo S → (B' o).1 = (zB S o).1) (hw : ∀ o, o < zo S → OSok (B' o).2.1) : KO g (oups g σ R B' (zo S)) R (S.1, (zo S, B'), S.2.2) ∧ Sm R (Tc S) σ (oups g σ R B' (zo S)) := by
  have s : Sf R (Lv (zo S) (zq S)) (fun i => 100 ≤ i ∧ i < 100 + 8 * zo S ∧ i % 8 ≠ 5) σ (oups g σ R B' (zo S)) := ⟨Sm.ofos (zo S) fun i a b c => ⟨a, b, c⟩, h.ij, fun i hi => by unfold Lv; omega⟩
  have h8 := h.ords.2.2.1
  exact h.tos s (fun i hi => by omega) (tab_ups h.tab h.ords B' hk hw (zo S) (Nat.le_refl _)) ((h.ords.ups B' hk hw (zo S) (Nat.le_refl _)).ext fun o ho => by rw [if_pos ho]) h.wide
theorem KO.st1o (h : KO g σ R S) {o : Nat} (ho : o < zo S) (w' : OS) (dr' : Bool) (hw : OSok w') : KO g (oup g σ (oad R o) (zB S o).1 w' dr') R (S.1, (zo S, fun j => if j = o then ((zB S o).1, w', dr') else zB S j), S.2.2) ∧ Sm R (Tc S) σ (oup g σ (oad R o) (zB S o).1 w' dr') := by
  have h8 := h.ords.2.2.1
  have s : Sf R (Lv (zo S) (zq S)) (fun i => 100 ≤ i ∧ i < 100 + 8 * zo S ∧ i % 8 ≠ 5) σ (oup g σ (oad R o) (zB S o).1 w' dr') := ⟨Sm.ofo fun k h1 h2 => ⟨100 + 8 * o + k, by omega, oad_of h2⟩, h.ij, fun i hi => by unfold Lv; omega⟩
  exact h.tos s (fun i hi => by omega) (tab_one h.tab h.ords ho w' dr') (h.ords.one ho w' dr' hw) h.wide
theorem do_come {tk0 : Nat → Bool} (h : KO g σ R S) (hb : BIn (zf S) tk0 (zo S) (zB S)) {s : Nat} (hs : s < 64) (ht : tk0 s = false) : Do g M_X3_entriesCome 0 0 [.ref (R 4), .int (nI s)] σ (kV fun σ' => KO g σ' R (S.1, (zo S, B_come (zf S) s (zB S)), S.2.2) ∧ Sm R (Tc S) σ σ') := by
  have hg := (hb.come hs ht).ok
  refine (wr_oentriesCome h.ords h.tab hs (fun o ho hd => ((hb o ho).2.2 hd).2.lt hs ht) hg).use ?_
  exact h.sto (B_come (zf S) s (zB S)) (fun o _ => eachO_key _ _ o) hg
theorem do_go (h : KO g σ R S) (hb : BIn (zf S) (zt S) (zo S) (zB S)) {s : Nat} (hs : s < 64) (ht : zt S s = true) : Do g M_X3_entriesGo 0 0 [.ref (R 4), .int (nI s)] σ (kV fun σ' => KO g σ' R (S.1, (zo S, B_go s (zB S)), S.2.2) ∧ Sm R (Tc S) σ σ') := by
  have hg := (hb.go hs ht).ok
  refine (wr_oentriesGo h.ords hs hg).use ?_
  exact h.sto (B_go s (zB S)) (fun o _ => eachO_key _ _ o) hg
theorem do_rowComes (h : KO g σ R S) (hb : BIn (zf S) (zt S) (zo S) (zB S)) {s : Nat} (hs : s < 64) (ht : zt S s = false) : Do g M_X11_rowComes 0 0 [.ref (R 0), .int (nI s)] σ (kV fun σ' => KO g σ' R (zTO S (zf S) (tkS (zt S) s) (B_come (zf S) s (zB S))) ∧ Sm R (Tc S) σ σ') := by
  obtain ⟨h1, s1⟩ := h.st1 (tkS (zt S) s) (zw S) h.wide
  refine q_X11_rowComes _ _ (h.g0 ⟨Rc.of h.tab.1, (wr_hold h.tab hs).use (h1.g1 ⟨Rc.of h1.ords.1, DoV.use (do_come h1 hb hs ht) ?_⟩)⟩)
  rintro σ2 ⟨h2, s2⟩
  exact ⟨rfl, h2, s1.trans s2⟩
theorem f4_in {f : Nat → Int32} {s t : Nat} {a b c d : Int32} (h : t ≠ s) {j : Nat} (hj : j < 4) : f4 f s a b c d (4 * t + j) = f (4 * t + j) := by
  unfold f4
  rw [upd_ne _ _ (by omega), upd_ne _ _ (by omega), upd_ne _ _ (by omega), upd_ne _ _ (by omega)]
theorem BIn.f4 {f : Nat → Int32} {tk : Nat → Bool} {told s : Nat} {B : Nat → OD} {a b c d : Int32} (h : BIn f tk told B) (ht : tk s = false) : BIn (f4 f s a b c d) tk told B := h.cong (fun t _ h2 j hj => (f4_in (fun z => by rw [z, ht] at h2; cases h2) hj).symm) (fun _ _ => rfl)
theorem s_emp_f {S : SS} (h : s_emp S < 64) : zt S (s_emp S) = false := by
  have := fa_first_yes (fun s => !zt S s) 64 h
  show zt S (fa_first (fun s => !zt S s) 64) = false
  simpa using this
theorem do_row (h : KO g σ R S) (iv : Inv S) (a b c d : Int32) : Do g M_X11_row 0 0 [.ref (R 0), .int a, .int b, .int c, .int d] σ (KP g σ R S (s_row S a b c d)) := by
  unfold s_row
  refine q_X11_row _ _ _ _ _ ((rd_isNumber a).use ⟨fun k => ?_, fun k => (rd_isNumber b).use ⟨fun k2 => ?_, fun k2 => (rd_isNumber c).use ⟨fun k3 => ?_, fun k3 => (rd_isNumber d).use ⟨fun k4 => h.g0 ⟨Rc.of h.tab.1, (rd_emptySlot h.tab).use ?_⟩, fun k4 => ?_⟩⟩⟩⟩)
  · rw [if_f (b2_0.mp k)]; exact KP.no h
  · rw [if_t (b2_n0.mp k), if_f (b2_0.mp k2)]; exact KP.no h
  · rw [if_t (b2_n0.mp k), if_t (b2_n0.mp k2), if_f (b2_0.mp k3)]; exact KP.no h
  · rw [if_t (b2_n0.mp k), if_t (b2_n0.mp k2), if_t (b2_n0.mp k3), if_t (b2_n0.mp k4)]
    by_cases he : s_emp S < 64
    · rw [if_pos he, if_pos (show fa_first (fun s => !zt S s) 64 < 64 from he)]
      have hf := s_emp_f he
      refine ⟨fun _ => h.g0 ⟨Rc.of h.tab.1, ?_⟩, fun z => absurd z (nI_neg (Nat.lt_trans he (by decide)))⟩
      obtain ⟨h1, s1⟩ := h.st3 (upd (zf S) (4 * s_emp S + 0) a)
      refine (wr_tput h.tab he (c := 0) (by decide) a).use (h1.g0 ⟨Rc.of h1.tab.1, ?_⟩)
      obtain ⟨h2, s2⟩ := h1.st3 (upd (upd (zf S) (4 * s_emp S + 0) a) (4 * s_emp S + 1) b)
      refine (wr_tput h1.tab he (c := 1) (by decide) b).use (h2.g0 ⟨Rc.of h2.tab.1, ?_⟩)
      obtain ⟨h3, s3⟩ := h2.st3 (upd (upd (upd (zf S) (4 * s_emp S + 0) a) (4 * s_emp S + 1) b) (4 * s_emp S + 2) c)
      refine (wr_tput h2.tab he (c := 2) (by decide) c).use (h3.g0 ⟨Rc.of h3.tab.1, ?_⟩)
      obtain ⟨h4, s4⟩ := h3.st3 (f4 (zf S) (s_emp S) a b c d)
      refine (wr_tput h3.tab he (c := 3) (by decide) d).use ⟨Rc.of h4.1, DoV.use (do_rowComes h4 (BIn.f4 iv.1.1 hf) he hf) ?_⟩
      rintro σ5 ⟨h5, s5⟩
      exact KP.go h5 ((((s1.trans s2).trans s3).trans s4).trans s5) rfl
    · rw [if_neg he, if_neg (show ¬ fa_first (fun s => !zt S s) 64 < 64 from he)]
      exact ⟨fun z => absurd rfl z, fun _ => KP.no h⟩
  · rw [if_t (b2_n0.mp k), if_t (b2_n0.mp k2), if_t (b2_n0.mp k3), if_f (b2_0.mp k4)]; exact KP.no h
theorem KO.hs (h : KO g σ R S) (x : Int32) : Rd g M_X8_holds [.ref (R 1), .int x] σ (b2 (isR S x)) := rd_holds h.tab x
theorem isR_of {x : Int32} (h : isR S x = true) : ∃ s, s < 64 ∧ x = nI s ∧ zt S s = true := by
  unfold isR at h
  rw [Bool.and_eq_true] at h
  obtain ⟨s, hs, rfl⟩ := inR_of h.1 (by decide)
  rw [nn_i (by omega)] at h
  exact ⟨s, hs, rfl, h.2⟩
theorem tkD_f (tk : Nat → Bool) (s : Nat) : tkD tk s s = false := by unfold tkD; simp
theorem tkSD {tk : Nat → Bool} {s : Nat} (h : tk s = true) (t : Nat) : tkS (tkD tk s) s t = tk t := by
  unfold tkS tkD
  by_cases e : t = s
  · subst e; simp [h]
  · simp [e]
theorem BIn.u1 {f : Nat → Int32} {tk : Nat → Bool} {told s j : Nat} {B : Nat → OD} {v : Int32} (h : BIn f tk told B) (ht : tk s = false) (hj : j < 4) : BIn (upd f (4 * s + j) v) tk told B := h.cong (fun t _ h2 i hi => by
  have : t ≠ s := fun z => by rw [z, ht] at h2; cases h2
  exact (upd_ne _ _ (by omega)).symm) (fun _ _ => rfl)
theorem do_drop (h : KO g σ R S) (iv : Inv S) (x : Int32) : Do g M_X11_drop 0 0 [.ref (R 0), .int x] σ (KP g σ R S (s_drop S x)) := by
  unfold s_drop
  refine q_X11_drop _ _ (h.g0 ⟨Rc.of h.tab.1, (h.hs x).use ⟨fun k => h.g1 ⟨Rc.of h.ords.1, ?_⟩, fun k => ?_⟩⟩)
  · have k := b2_n0.mp k
    rw [if_t k]
    obtain ⟨s, hs, rfl, ht⟩ := isR_of k
    rw [nn_i (by omega)]
    refine DoV.use (do_go h iv.1.1 hs ht) ?_
    rintro σ1 ⟨h1, s1⟩
    obtain ⟨h2, s2⟩ := h1.st1 (tkD (zt S) s) (zw S) h.wide
    exact h1.g0 ⟨Rc.of h1.tab.1, (wr_release h1.tab hs).use (h2.g0 ⟨Rc.of h2.tab.1, (rd_rows h2.tab).use (KP.go h2 (s1.trans s2) rfl)⟩)⟩
  · rw [if_f (b2_0.mp k)]; exact KP.no h
theorem do_wide (h : KO g σ R S) (x : Int32) : Do g M_X11_wide 0 0 [.ref (R 0), .int x] σ (KP g σ R S (s_wide S x)) := by
  unfold s_wide
  refine q_X11_wide _ _ ⟨fun k => ?_, fun k => ⟨fun k2 => h.g0 ⟨Rc.of h.tab.1, (rd_pageWidth h.tab).use ?_⟩, fun k2 => ?_⟩⟩
  · have k := (lt_n (n := 2) (by decide)).mp k
    rw [show inL x 2 8 = false from decide_eq_false (by omega)]
    exact KP.no h
  · have k := nlt_n (n := 2) (by decide) k
    have k2 := (le_n (n := 8) (by decide)).mp k2
    rw [show inL x 2 8 = true from decide_eq_true (by omega), if_pos rfl]
    obtain ⟨w, hw, rfl⟩ := I_of (x := x) (n := 9) (by omega) (by omega) (by decide)
    rw [I_n (by omega)] at k k2
    rw [nn_i (by omega)]
    obtain ⟨h1, s1⟩ := h.st1 (zt S) w ⟨by omega, by omega⟩
    exact h.g0 ⟨Rc.of h.tab.1, (wr_widen h.tab (nI w)).use (KP.go h1 s1 rfl)⟩
  · have k2 := nle_n (n := 8) (by decide) k2
    rw [show inL x 2 8 = false from decide_eq_false (by omega)]
    exact KP.no h
end ROW
