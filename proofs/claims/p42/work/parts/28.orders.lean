/-! ===== the class Orders. R: the address of each role (1 the table, 4 itself, 5 its list, 100 + 8 o + k: order o's parts) ===== -/
abbrev OD : Type := Nat × OS × Bool
def oad (R : Nat → Nat) (o : Nat) : Nat → Nat := fun k => if k = 1 then R 1 else R (100 + 8 * o + k)
def oQ (R : Nat → Nat) (told : Nat) : Nat → Option Nat := fun o => if o < told then some (R (100 + 8 * o)) else none
def aQ (g : GG) (t n : Nat) (f : Nat → Option Nat) : va_E := .inl (g.2.2.1 t, n, .inr (.inr (.inr (.inr f))))
def OrdsC (g : GG) (σ : Hs) (R : Nat → Nat) (told : Nat) (B : Nat → OD) : Prop := Ce σ (R 4) (.inr (3, [.ref (R 1), .ref (R 5), .int (nI told)])) ∧ Ce σ (R 5) (aQ g 4 8 (oQ R told)) ∧ told ≤ 8 ∧ (∀ o, o < told → OrdC g σ (oad R o) (B o).1 (B o).2.1 (B o).2.2) ∧ (∀ o, o < told → OSok (B o).2.1) ∧ ∀ i j, 100 ≤ i → i < 100 + 8 * told → i % 8 ≠ 5 → 100 ≤ j → j < 100 + 8 * told → j % 8 ≠ 5 → R i = R j → i = j
def oups (g : GG) (σ : Hs) (R : Nat → Nat) (B : Nat → OD) : Nat → Hs
  | 0 => σ
  | k + 1 => oup g (oups g σ R B k) (oad R k) (B k).1 (B k).2.1 (B k).2.2
def apart (a b : Nat → Nat) : Prop := a 0 ≠ b 0 ∧ a 6 ≠ b 6 ∧ a 6 ≠ b 7 ∧ a 7 ≠ b 6 ∧ a 7 ≠ b 7
theorem OrdC.other {g : GG} {σ : Hs} {a b : Nat → Nat} {key key2 : Nat} {w w2 : OS} {dr dr2 : Bool} (h : OrdC g σ a key w dr) (h2 : OrdC g σ b key2 w2 dr2) (hab : apart b a) (w' : OS) (dr' : Bool) : OrdC g (oup g σ b key2 w' dr') a key w dr := by
  obtain ⟨h0, ⟨A, hA, hA2⟩, h3, h4, h67⟩ := h
  obtain ⟨k0, -, k3, k4, -⟩ := h2
  obtain ⟨d0, d66, d67, d76, d77⟩ := hab
  refine ⟨((h0.upo (ne_oa h0 k3.2.1)).upo (ne_oa h0 k4.2.1)).upo (Ne.symm d0), ⟨A, ((hA.upo _ (ne_oa hA.1 k3.2.1) (ne_len hA.2.1 k3.2.1 (by decide))).upo _ (ne_oa hA.1 k4.2.1) (ne_len hA.2.1 k4.2.1 (by decide))).upo _ (ne_cl hA.1 k0 (by decide)) (ne_oa k0 hA.2.1).symm, hA2⟩, ?_, ?_, h67⟩
  · exact ((h3.upo _ (ne_oa h3.1 k3.2.1) (Ne.symm d66)).upo _ (ne_oa h3.1 k4.2.1) (Ne.symm d76)).upo _ (ne_cl h3.1 k0 (by decide)) (ne_oa k0 h3.2.1).symm
  · exact ((h4.upo _ (ne_oa h4.1 k3.2.1) (Ne.symm d67)).upo _ (ne_oa h4.1 k4.2.1) (Ne.symm d77)).upo _ (ne_cl h4.1 k0 (by decide)) (ne_oa k0 h4.2.1).symm
theorem ne_aQ {g : GG} {σ : Hs} {a b t n m : Nat} {f : Nat → Option Nat} {f2 : Nat → Int32} (h1 : Ce σ a (aQ g t n f)) (h2 : Ce σ b (aI g m f2)) : a ≠ b := fun e => by subst e; exact absurd (h1.uniq h2) (by simp [aI, aQ])
theorem ne_oQ {g : GG} {σ : Hs} {a b t n ci : Nat} {fs : List Value} {f : Nat → Option Nat} (h1 : Ce σ a (.inr (ci, fs))) (h2 : Ce σ b (aQ g t n f)) : a ≠ b := fun e => by subst e; exact absurd (h1.uniq h2) (by simp [aQ])
theorem oad_apart {R : Nat → Nat} {told o o2 : Nat} (hinj : ∀ i j, 100 ≤ i → i < 100 + 8 * told → i % 8 ≠ 5 → 100 ≤ j → j < 100 + 8 * told → j % 8 ≠ 5 → R i = R j → i = j) (ho : o < told) (ho2 : o2 < told) (hne : o ≠ o2) : apart (oad R o) (oad R o2) := by
  refine ⟨?_, ?_, ?_, ?_, ?_⟩ <;> (intro e; have := hinj _ _ (by omega) (by omega) (by omega) (by omega) (by omega) (by omega) e; omega)
section ORDS
variable {g : GG} {σ : Hs} {R : Nat → Nat} {told : Nat} {B : Nat → OD}
/-- one order gets new numbers -/
theorem OrdsC.one (h : OrdsC g σ R told B) {o : Nat} (ho : o < told) (w' : OS) (dr' : Bool) (hw : OSok w') : OrdsC g (oup g σ (oad R o) (B o).1 w' dr') R told (fun j => if j = o then ((B o).1, w', dr') else B j) := by
  obtain ⟨h1, h2, h3, h4, h5, h6⟩ := h
  have ho1 := h4 o ho
  refine ⟨((h1.upo (ne_oa h1 ho1.2.2.1.2.1)).upo (ne_oa h1 ho1.2.2.2.1.2.1)).upo (ne_cl h1 ho1.1 (by decide)), ((h2.upo (ne_aQ h2 ho1.2.2.1.2.1)).upo (ne_aQ h2 ho1.2.2.2.1.2.1)).upo (ne_oQ ho1.1 h2).symm, h3, fun j hj => ?_, fun j hj => ?_, h6⟩
  · by_cases e : j = o
    · subst e
      simp only [if_true]
      exact ho1.keep w' dr'
    · simp only [if_neg e]
      exact (h4 j hj).other ho1 (oad_apart h6 ho hj (Ne.symm e)) w' dr'
  · by_cases e : j = o
    · subst e; simp only [if_true]; exact hw
    · simp only [if_neg e]; exact h5 j hj
theorem tab_one {t q tq wd : Nat} {f : Nat → Int32} {tk : Nat → Bool} (ht : TabAt g σ t q tq f tk wd) (h : OrdsC g σ R told B) {o : Nat} (ho : o < told) (w' : OS) (dr' : Bool) : TabAt g (oup g σ (oad R o) (B o).1 w' dr') t q tq f tk wd := ht.oup (h.2.2.2.1 o ho) w' dr'
theorem OrdsC.ext (h : OrdsC g σ R told B) {B' : Nat → OD} (e : ∀ o, o < told → B' o = B o) : OrdsC g σ R told B' := ⟨h.1, h.2.1, h.2.2.1, fun o ho => by rw [e o ho]; exact h.2.2.2.1 o ho, fun o ho => by rw [e o ho]; exact h.2.2.2.2.1 o ho, h.2.2.2.2.2⟩
/-- the first k orders got new numbers -/
theorem OrdsC.ups (h : OrdsC g σ R told B) (B' : Nat → OD) (hk : ∀ o, o < told → (B' o).1 = (B o).1) (hw : ∀ o, o < told → OSok (B' o).2.1) : ∀ k, k ≤ told → OrdsC g (oups g σ R B' k) R told (fun j => if j < k then B' j else B j)
  | 0, _ => h.ext fun o _ => by simp
  | k + 1, hk2 => by
    have ih := OrdsC.ups h B' hk hw k (by omega)
    have h1 := ih.one (o := k) (by omega) (B' k).2.1 (B' k).2.2 (hw k (by omega))
    simp only [Nat.lt_irrefl, if_false] at h1
    show OrdsC g (oup g (oups g σ R B' k) (oad R k) (B' k).1 (B' k).2.1 (B' k).2.2) R told _
    rw [hk k (by omega)]
    refine h1.ext fun o ho => ?_
    by_cases e : o = k
    · subst e
      rw [if_pos (by omega), if_pos rfl, ← hk o ho]
    · rw [if_neg e]
      by_cases e2 : o < k
      · rw [if_pos e2, if_pos (by omega)]
      · rw [if_neg e2, if_neg (by omega)]
theorem tab_ups {t q tq wd : Nat} {f : Nat → Int32} {tk : Nat → Bool} (ht : TabAt g σ t q tq f tk wd) (h : OrdsC g σ R told B) (B' : Nat → OD) (hk : ∀ o, o < told → (B' o).1 = (B o).1) (hw : ∀ o, o < told → OSok (B' o).2.1) : ∀ k, k ≤ told → TabAt g (oups g σ R B' k) t q tq f tk wd
  | 0, _ => ht
  | k + 1, hk2 => by
    have ih := tab_ups ht h B' hk hw k (by omega)
    have h1 := h.ups B' hk hw k (by omega)
    have h2 := tab_one ih h1 (o := k) (by omega) (B' k).2.1 (B' k).2.2
    simp only [Nat.lt_irrefl, if_false] at h2
    show TabAt g (oup g (oups g σ R B' k) (oad R k) (B' k).1 (B' k).2.1 (B' k).2.2) t q tq f tk wd
    rw [hk k (by omega)]
    exact h2
theorem rd_stold (h : OrdsC g σ R told B) : Rd g M_X3_told [.ref (R 4)] σ (nI told) := q_X3_told _ (FI.of h.1 rfl (rd_i rfl))
theorem rdA_null {σ : Hs} : kA (fun σ' => σ' = σ ∧ (none : Option Nat) = none) (fun q σ' => σ' = σ ∧ (none : Option Nat) = some q) (some (.null)) σ := Or.inl ⟨rfl, rfl, rfl⟩
theorem rdA_ref {σ : Hs} {q : Nat} : kA (fun σ' => σ' = σ ∧ (some q : Option Nat) = none) (fun r σ' => σ' = σ ∧ (some q : Option Nat) = some r) (some (.ref q)) σ := Or.inr ⟨q, rfl, rfl, rfl⟩
/-- is x the number of an order that isn't dropped? -/
def isO (told : Nat) (B : Nat → OD) (x : Int32) : Bool := inR x told && !(B x.toInt.toNat).2.2
theorem isO_n {k : Nat} (hk : k < 2 ^ 31) : isO told B (nI k) = (decide (k < told) && !(B k).2.2) := by
  unfold isO
  rw [inR_n hk, I_n hk]
  rfl
theorem rd_okept (h : OrdsC g σ R told B) (x : Int32) : RdA g M_X3_kept [.ref (R 4), .int x] σ (if isO told B x = true then some (R (100 + 8 * x.toInt.toNat)) else none) := by
  have h3 := h.2.2.1
  refine q_X3_kept _ x ⟨fun c => ?_, fun c => FR.of h.1 rfl (AN.of h.2.1 ⟨fun c2 => FR.of h.1 rfl ?_, fun c2 => ?_⟩)⟩
  · have c := (lt_n (n := 0) (by decide)).mp c
    rw [if_neg (by unfold isO inR; rw [decide_eq_false (by omega)]; simp)]
    exact rdA_null
  · have c := nlt_n (n := 0) (by decide) c
    have c2 : x.toInt < ((8 : Nat) : Int) := (lt_n (n := 8) (by decide)).mp c2
    obtain ⟨k, hk, rfl⟩ := I_of (x := x) (n := 8) (by omega) c2 (by omega)
    rw [isO_n (by omega), I_n (by omega), show ((k : Int).toNat) = k by omega]
    by_cases hkt : k < told
    · have ho := h.2.2.2.1 k hkt
      refine AR.some (k := k) (q := R (100 + 8 * k)) h.2.1 rfl hk (by decide) (by unfold oQ; rw [if_pos hkt]) ⟨Rc.of ho.1, (rd_oisDropped ho).use ⟨fun c3 => ?_, fun c3 => ?_⟩⟩
      · rw [b2_0.mp c3, decide_eq_true hkt]
        exact rdA_ref
      · rw [b2_n0.mp c3, if_neg (by simp)]
        exact rdA_null
    · refine AR.none (k := k) h.2.1 rfl hk (by decide) (by unfold oQ; rw [if_neg hkt]) ?_
      rw [if_neg (by rw [decide_eq_false hkt]; simp)]
      exact rdA_null
  · have c2 : ((8 : Nat) : Int) ≤ x.toInt := nlt_n (n := 8) (by decide) c2
    rw [if_neg (by unfold isO inR; rw [decide_eq_false (by omega)]; simp)]
    exact rdA_null
theorem rd_okeptT (h : OrdsC g σ R told B) {k : Nat} (hk : k < told) (hd : (B k).2.2 = true) : RdA g M_X3_kept [.ref (R 4), .int (nI k)] σ none := by
  have h3 := h.2.2.1
  have h1 := rd_okept h (nI k)
  rw [isO_n (by omega), hd, if_neg (by simp)] at h1
  exact h1
theorem rd_okeptF (h : OrdsC g σ R told B) {k : Nat} (hk : k < told) (hd : (B k).2.2 = false) : RdA g M_X3_kept [.ref (R 4), .int (nI k)] σ (some (R (100 + 8 * k))) := by
  have h3 := h.2.2.1
  have h1 := rd_okept h (nI k)
  rw [isO_n (by omega), hd, decide_eq_true hk, if_pos (by simp), I_n (by omega), show ((k : Int).toNat) = k by omega] at h1
  exact h1
theorem oup_noop (h : OrdsC g σ R told B) {k : Nat} (hk : k < told) : oup g σ (oad R k) (B k).1 (B k).2.1 (B k).2.2 = σ := (h.2.2.2.1 k hk).self
/-- what happens to each order that isn't dropped -/
def eachO (F : Nat → OS → OS) (B : Nat → OD) : Nat → OD := fun o => if (B o).2.2 then B o else ((B o).1, F (B o).1 (B o).2.1, (B o).2.2)
theorem eachO_key (F : Nat → OS → OS) (B : Nat → OD) (o : Nat) : (eachO F B o).1 = (B o).1 := by unfold eachO; split <;> rfl
theorem eachO_dr (F : Nat → OS → OS) (B : Nat → OD) (o : Nat) : (eachO F B o).2.2 = (B o).2.2 := by unfold eachO; split <;> rfl
theorem wr_oentriesGo (h : OrdsC g σ R told B) {s : Nat} (hs : s < 64) (hg : ∀ o, o < told → OSok (eachO (fun _ w => goS w s) B o).2.1) : Wr g M_X3_entriesGo [.ref (R 4), .int (nI s)] σ (oups g σ R (eachO (fun _ w => goS w s) B) told) := by
  have h3 := h.2.2.1
  have loop : ∀ (d k : Nat), k + d = told → J_X3_entriesGo_2 g (kV fun σ' => σ' = oups g σ R (eachO (fun _ w => goS w s) B) told) (oups g σ R (eachO (fun _ w => goS w s) B) k) (R 4) (nI s) (nI k) := by
    intro d
    induction d with
    | zero =>
      intro k hk
      have h1 := h.ups _ (fun o _ => eachO_key (fun _ w => goS w s) B o) hg k (by omega)
      refine q_X3_entriesGo_2 _ _ _ (FI.of h1.1 rfl ⟨fun _ => ?_, fun c => absurd (nI_le (by omega) (by omega)) c⟩)
      rw [show k = told by omega]
      exact wr_v
    | succ d ih =>
      intro k hk
      have ih := ih (k + 1) (by omega)
      have h1 := h.ups _ (fun o _ => eachO_key (fun _ w => goS w s) B o) hg k (by omega)
      have e1 : (if k < k then eachO (fun _ w => goS w s) B k else B k) = B k := if_neg (Nat.lt_irrefl k)
      refine q_X3_entriesGo_2 _ _ _ (FI.of h1.1 rfl ⟨fun c => absurd ((nI_leI (by omega) (by omega)).mp c) (by omega), fun _ => ⟨Rc.of h1.1, ?_⟩⟩)
      by_cases hd : (B k).2.2 = true
      · refine (rd_okeptT h1 (k := k) (by omega) (by simp only [e1]; exact hd)).none ?_
        rw [nI_1]
        have e2 : oups g σ R (eachO (fun _ w => goS w s) B) (k + 1) = oups g σ R (eachO (fun _ w => goS w s) B) k := by
          have h2 := oup_noop h1 (k := k) (by omega)
          simp only [e1] at h2
          show oup g _ _ _ _ _ = _
          rw [show eachO (fun _ w => goS w s) B k = B k from by unfold eachO; rw [if_pos hd]]
          exact h2
        rw [e2] at ih
        exact ih
      · have hd : (B k).2.2 = false := by simpa using hd
        refine (rd_okeptF h1 (k := k) (by omega) (by simp only [e1]; exact hd)).some ?_
        have ho := h1.2.2.2.1 k (by omega)
        simp only [e1] at ho
        have hok := h.2.2.2.2.1 k (by omega)
        refine ⟨Rc.of ho.1, (wr_oentryGoes ho hok hs).use ?_⟩
        rw [nI_1]
        have e2 : oups g σ R (eachO (fun _ w => goS w s) B) (k + 1) = oup g (oups g σ R (eachO (fun _ w => goS w s) B) k) (oad R k) (B k).1 (goS (B k).2.1 s) (B k).2.2 := by
          show oup g _ _ _ _ _ = _
          rw [show eachO (fun _ w => goS w s) B k = ((B k).1, goS (B k).2.1 s, (B k).2.2) from by unfold eachO; rw [if_neg (by rw [hd]; decide)]]
        rw [e2] at ih
        exact ih
  exact q_X3_entriesGo _ _ (loop told 0 (by omega))
theorem wr_oentriesCome {q tq wd : Nat} {f : Nat → Int32} {tk : Nat → Bool} (h : OrdsC g σ R told B) (ht : TabAt g σ (R 1) q tq f tk wd) {s : Nat} (hs : s < 64) (hn : ∀ o, o < told → (B o).2.2 = false → (B o).2.1.1 < 64) (hg : ∀ o, o < told → OSok (eachO (fun key w => comeS f key w s) B o).2.1) : Wr g M_X3_entriesCome [.ref (R 4), .int (nI s)] σ (oups g σ R (eachO (fun key w => comeS f key w s) B) told) := by
  have h3 := h.2.2.1
  have loop : ∀ (d k : Nat), k + d = told → J_X3_entriesCome_2 g (kV fun σ' => σ' = oups g σ R (eachO (fun key w => comeS f key w s) B) told) (oups g σ R (eachO (fun key w => comeS f key w s) B) k) (R 4) (nI s) (nI k) := by
    intro d
    induction d with
    | zero =>
      intro k hk
      have h1 := h.ups _ (fun o _ => eachO_key (fun key w => comeS f key w s) B o) hg k (by omega)
      refine q_X3_entriesCome_2 _ _ _ (FI.of h1.1 rfl ⟨fun _ => ?_, fun c => absurd (nI_le (by omega) (by omega)) c⟩)
      rw [show k = told by omega]
      exact wr_v
    | succ d ih =>
      intro k hk
      have ih := ih (k + 1) (by omega)
      have h1 := h.ups _ (fun o _ => eachO_key (fun key w => comeS f key w s) B o) hg k (by omega)
      have ht1 := tab_ups ht h _ (fun o _ => eachO_key (fun key w => comeS f key w s) B o) hg k (by omega)
      have e1 : (if k < k then eachO (fun key w => comeS f key w s) B k else B k) = B k := if_neg (Nat.lt_irrefl k)
      refine q_X3_entriesCome_2 _ _ _ (FI.of h1.1 rfl ⟨fun c => absurd ((nI_leI (by omega) (by omega)).mp c) (by omega), fun _ => ⟨Rc.of h1.1, ?_⟩⟩)
      by_cases hd : (B k).2.2 = true
      · refine (rd_okeptT h1 (k := k) (by omega) (by simp only [e1]; exact hd)).none ?_
        rw [nI_1]
        have e2 : oups g σ R (eachO (fun key w => comeS f key w s) B) (k + 1) = oups g σ R (eachO (fun key w => comeS f key w s) B) k := by
          have h2 := oup_noop h1 (k := k) (by omega)
          simp only [e1] at h2
          show oup g _ _ _ _ _ = _
          rw [show eachO (fun key w => comeS f key w s) B k = B k from by unfold eachO; rw [if_pos hd]]
          exact h2
        rw [e2] at ih
        exact ih
      · have hd : (B k).2.2 = false := by simpa using hd
        refine (rd_okeptF h1 (k := k) (by omega) (by simp only [e1]; exact hd)).some ?_
        have ho := h1.2.2.2.1 k (by omega)
        simp only [e1] at ho
        have hok := h.2.2.2.2.1 k (by omega)
        refine ⟨Rc.of ho.1, (wr_oentryComes ho ht1 hok (hn k (by omega) hd) hs).use ?_⟩
        rw [nI_1]
        have e2 : oups g σ R (eachO (fun key w => comeS f key w s) B) (k + 1) = oup g (oups g σ R (eachO (fun key w => comeS f key w s) B) k) (oad R k) (B k).1 (comeS f (B k).1 (B k).2.1 s) (B k).2.2 := by
          show oup g _ _ _ _ _ = _
          rw [show eachO (fun key w => comeS f key w s) B k = ((B k).1, comeS f (B k).1 (B k).2.1 s, (B k).2.2) from by unfold eachO; rw [if_neg (by rw [hd]; decide)]]
        rw [e2] at ih
        exact ih
  exact q_X3_entriesCome _ _ (loop told 0 (by omega))
/-! sets of orders as bits, their sizes and burdens -/
def kSet (B : Nat → OD) : Nat → Nat
  | 0 => 0
  | k + 1 => if (B k).2.2 then kSet B k else kSet B k ||| 2 ^ k
theorem kSet_lt (B : Nat → OD) : ∀ k, kSet B k < 2 ^ k
  | 0 => by simp [kSet]
  | k + 1 => by
    have ih := kSet_lt B k
    have hp : 2 ^ (k + 1) = 2 * 2 ^ k := by rw [Nat.pow_succ]; omega
    simp only [kSet]
    split
    · omega
    · exact Nat.or_lt_two_pow (by omega) (by omega)
theorem pow_le8 {k : Nat} (h : k ≤ 8) : 2 ^ k ≤ 256 := Nat.pow_le_pow_right (by decide) h
theorem rd_okeptSet (h : OrdsC g σ R told B) : Rd g M_X3_keptSet [.ref (R 4)] σ (nI (kSet B told)) := by
  have h3 := h.2.2.1
  have loop : ∀ (d k : Nat), k + d = told → J_X3_keptSet_4 g (kI fun x σ' => σ' = σ ∧ x = nI (kSet B told)) σ (R 4) (nI (kSet B k)) (nI k) := by
    intro d
    induction d with
    | zero =>
      intro k hk
      refine q_X3_keptSet_4 _ _ _ (FI.of h.1 rfl ⟨fun _ => rd_i (by rw [show k = told by omega]), fun c => absurd (nI_le (by omega) (by omega)) c⟩)
    | succ d ih =>
      intro k hk
      have ih := ih (k + 1) (by omega)
      have hlt := kSet_lt B k
      have h256 := pow_le8 (show k ≤ 8 by omega)
      refine q_X3_keptSet_4 _ _ _ (FI.of h.1 rfl ⟨fun c => absurd ((nI_leI (by omega) (by omega)).mp c) (by omega), fun _ => ⟨Rc.of h.1, ?_⟩⟩)
      by_cases hd : (B k).2.2 = true
      · refine (rd_okeptT h (by omega) hd).none ?_
        rw [nI_1]
        simp only [kSet, hd, if_true] at ih
        exact ih
      · refine (rd_okeptF h (by omega) (by simpa using hd)).some ((rd_with (by omega) (by omega)).use ?_)
        rw [nI_1]
        simp only [kSet, hd, if_false] at ih
        exact ih
  exact q_X3_keptSet _ (loop told 0 (by omega))
def sumO (F : OS → Nat) (B : Nat → OD) (m : Nat) : Nat → Nat
  | 0 => 0
  | k + 1 => sumO F B m k + (if m.testBit k = true ∧ (B k).2.2 = false then F (B k).2.1 else 0)
theorem sumO_le {F : OS → Nat} {B : Nat → OD} {m c : Nat} : ∀ (k : Nat), (∀ o, o < k → F (B o).2.1 ≤ c) → sumO F B m k ≤ c * k
  | 0, _ => by simp [sumO]
  | k + 1, h => by
    have ih := sumO_le (m := m) k (fun o ho => h o (by omega))
    have h1 := h k (by omega)
    simp only [sumO]
    rw [Nat.mul_succ]
    split <;> omega
theorem szO_le {l : Nat} (h : l ≤ 64) : szO l ≤ 600 := by
  have := szN_le 8 l h
  unfold szO
  omega
theorem hgt_le (l : Nat) : hgt l ≤ 8 := hgtN_le 8 l
theorem rd_osizesOf (h : OrdsC g σ R told B) {m : Nat} (hm : m < 256) : Rd g M_X3_sizesOf [.ref (R 4), .int (nI m)] σ (nI (sumO (fun w => szO w.2.2.1) B m told)) := by
  have h3 := h.2.2.1
  have hl : ∀ o, o < told → (B o).2.1.2.2.1 ≤ 64 := fun o ho => Nat.le_trans (h.2.2.2.2.1 o ho).l_le (h.2.2.2.2.1 o ho).1
  have loop : ∀ (d k : Nat), k + d = told → J_X3_sizesOf_4 g (kI fun x σ' => σ' = σ ∧ x = nI (sumO (fun w => szO w.2.2.1) B m told)) σ (R 4) (nI m) (nI (sumO (fun w => szO w.2.2.1) B m k)) (nI k) := by
    intro d
    induction d with
    | zero =>
      intro k hk
      refine q_X3_sizesOf_4 _ _ _ _ (FI.of h.1 rfl ⟨fun _ => rd_i (by rw [show k = told by omega]), fun c => absurd (nI_le (by omega) (by omega)) c⟩)
    | succ d ih =>
      intro k hk
      have ih := ih (k + 1) (by omega)
      refine q_X3_sizesOf_4 _ _ _ _ (FI.of h.1 rfl ⟨fun c => absurd ((nI_leI (by omega) (by omega)).mp c) (by omega), fun _ => (rd_has hm (by omega)).use ⟨fun c => ?_, fun c => ⟨Rc.of h.1, ?_⟩⟩⟩)
      · rw [nI_1]
        simp only [sumO, b2_0.mp c] at ih
        exact ih
      · have c := b2_n0.mp c
        by_cases hd : (B k).2.2 = true
        · refine (rd_okeptT h (by omega) hd).none ?_
          rw [nI_1]
          simp only [sumO, c, hd] at ih
          exact ih
        · have hd : (B k).2.2 = false := by simpa using hd
          have ho := h.2.2.2.1 k (by omega)
          refine (rd_okeptF h (by omega) hd).some ⟨Rc.of ho.1, (rd_osize ho (hl k (by omega))).use ?_⟩
          rw [nI_1, nI_add]
          simp only [sumO, c, hd, true_and, if_true] at ih
          exact ih
  exact q_X3_sizesOf _ _ (loop told 0 (by omega))
theorem rd_oburdenOf (h : OrdsC g σ R told B) {m : Nat} (hm : m < 256) : Rd g M_X3_burdenOf [.ref (R 4), .int (nI m)] σ (nI (sumO (fun w => hgt w.2.2.1 + 2) B m told)) := by
  have h3 := h.2.2.1
  have hl : ∀ o, o < told → (B o).2.1.2.2.1 ≤ 64 := fun o ho => Nat.le_trans (h.2.2.2.2.1 o ho).l_le (h.2.2.2.2.1 o ho).1
  have loop : ∀ (d k : Nat), k + d = told → J_X3_burdenOf_4 g (kI fun x σ' => σ' = σ ∧ x = nI (sumO (fun w => hgt w.2.2.1 + 2) B m told)) σ (R 4) (nI m) (nI (sumO (fun w => hgt w.2.2.1 + 2) B m k)) (nI k) := by
    intro d
    induction d with
    | zero =>
      intro k hk
      refine q_X3_burdenOf_4 _ _ _ _ (FI.of h.1 rfl ⟨fun _ => rd_i (by rw [show k = told by omega]), fun c => absurd (nI_le (by omega) (by omega)) c⟩)
    | succ d ih =>
      intro k hk
      have ih := ih (k + 1) (by omega)
      refine q_X3_burdenOf_4 _ _ _ _ (FI.of h.1 rfl ⟨fun c => absurd ((nI_leI (by omega) (by omega)).mp c) (by omega), fun _ => (rd_has hm (by omega)).use ⟨fun c => ?_, fun c => ⟨Rc.of h.1, ?_⟩⟩⟩)
      · rw [nI_1]
        simp only [sumO, b2_0.mp c] at ih
        exact ih
      · have c := b2_n0.mp c
        by_cases hd : (B k).2.2 = true
        · refine (rd_okeptT h (by omega) hd).none ?_
          rw [nI_1]
          simp only [sumO, c, hd] at ih
          exact ih
        · have hd : (B k).2.2 = false := by simpa using hd
          have ho := h.2.2.2.1 k (by omega)
          refine (rd_okeptF h (by omega) hd).some ⟨Rc.of ho.1, (rd_oheight ho (hl k (by omega))).use ?_⟩
          rw [nI_1, show nI (hgt (B k).2.1.2.2.1) + 2 = nI (hgt (B k).2.1.2.2.1 + 2) from nI_add _ 2, nI_add]
          simp only [sumO, c, hd, true_and, if_true] at ih
          exact ih
  exact q_X3_burdenOf _ _ (loop told 0 (by omega))
/-- some order that isn't dropped has that key -/
def hasK (B : Nat → OD) (key : Nat) (told : Nat) : Bool := decide (∃ o, o < told ∧ (B o).2.2 = false ∧ (B o).1 = key)
end ORDS
