/-! ===== the class Order: a 0 itself, a 1 its table, a 2, a 3, a 4 its Numbers (along, slots, sizes) over a 5, a 6, a 7 ===== -/
theorem hup_comm {σ : Hs} {a b : Nat} (h : a ≠ b) (e1 e2 : va_E) : hup (hup σ a e1) b e2 = hup (hup σ b e2) a e1 := by
  unfold hup
  congr 1
  funext j
  simp only [va_up]
  by_cases h1 : j = b
  · rw [if_pos h1, if_neg (by omega), if_pos h1]
  · rw [if_neg h1]
    split
    · rfl
    · rfl
def oc (a : Nat → Nat) (key : Nat) (w : OS) (dr : Bool) : va_E := .inr (2, [.ref (a 1), .int (nI key), .int (nI (kw key)), .int (nI (rmk key)), .int (nI (kmask key)), .ref (a 2), .ref (a 3), .ref (a 4), .int (nI w.1), .int (nI w.2.2.1), .int (nI w.2.2.2.2), .int (b2 dr)])
def OrdC (g : GG) (σ : Hs) (a : Nat → Nat) (key : Nat) (w : OS) (dr : Bool) : Prop := Ce σ (a 0) (oc a key w dr) ∧ (∃ A, NumAt g σ (a 2) (a 5) 3 A ∧ ∀ i, i < kw key → A i = nI (kcol key i)) ∧ NumAt g σ (a 3) (a 6) 64 (nF w.2.1) ∧ NumAt g σ (a 4) (a 7) 64 (nF w.2.2.2.1) ∧ a 6 ≠ a 7
def oup (g : GG) (σ : Hs) (a : Nat → Nat) (key : Nat) (w : OS) (dr : Bool) : Hs := hup (hup (hup σ (a 6) (aI g 64 (nF w.2.1))) (a 7) (aI g 64 (nF w.2.2.2.1))) (a 0) (oc a key w dr)
theorem aI_len {g : GG} {n m : Nat} {f f2 : Nat → Int32} (h : aI g n f = aI g m f2) : n = m := by
  unfold aI at h
  have h1 := Sum.inl.inj h
  exact (Prod.mk.inj (Prod.mk.inj h1).2).1
theorem ne_len {g : GG} {σ : Hs} {a b n m : Nat} {f f2 : Nat → Int32} (h1 : Ce σ a (aI g n f)) (h2 : Ce σ b (aI g m f2)) (h : n ≠ m) : a ≠ b := fun e => by subst e; exact h (aI_len (h1.uniq h2))
theorem ne_oa {g : GG} {σ : Hs} {a b n ci : Nat} {fs : List Value} {f : Nat → Int32} (h1 : Ce σ a (.inr (ci, fs))) (h2 : Ce σ b (aI g n f)) : a ≠ b := fun e => by subst e; exact absurd (h1.uniq h2) (by simp [aI])
theorem ne_cl {σ : Hs} {a b ci cj : Nat} {fs fs' : List Value} (h1 : Ce σ a (.inr (ci, fs))) (h2 : Ce σ b (.inr (cj, fs'))) (h : ci ≠ cj) : a ≠ b := fun e => by
  subst e
  have h3 := Sum.inr.inj (h1.uniq h2)
  exact h (Prod.mk.inj h3).1
theorem NumAt.upo {g : GG} {σ : Hs} {a q n b : Nat} {f : Nat → Int32} (h : NumAt g σ a q n f) (e : va_E) (h1 : a ≠ b) (h2 : q ≠ b) : NumAt g (hup σ b e) a q n f := ⟨h.1.upo h1, h.2.1.upo h2, h.2.2⟩
section ORD
variable {g : GG} {σ : Hs} {a : Nat → Nat} {key : Nat} {w : OS} {dr : Bool}
theorem OrdC.n06 (h : OrdC g σ a key w dr) : a 0 ≠ a 6 := ne_oa h.1 h.2.2.1.2.1
theorem OrdC.n07 (h : OrdC g σ a key w dr) : a 0 ≠ a 7 := ne_oa h.1 h.2.2.2.1.2.1
theorem OrdC.keep (h : OrdC g σ a key w dr) (w' : OS) (dr' : Bool) : OrdC g (oup g σ a key w' dr') a key w' dr' := by
  obtain ⟨h0, ⟨A, hA, hA2⟩, h3, h4, h67⟩ := h
  have n06 := ne_oa h0 h3.2.1
  have n07 := ne_oa h0 h4.2.1
  have n30 : a 3 ≠ a 0 := ne_cl h3.1 h0 (by decide)
  have n40 : a 4 ≠ a 0 := ne_cl h4.1 h0 (by decide)
  have n20 : a 2 ≠ a 0 := ne_cl hA.1 h0 (by decide)
  have n36 := ne_oa h3.1 h3.2.1
  have n37 := ne_oa h3.1 h4.2.1
  have n46 := ne_oa h4.1 h3.2.1
  have n47 := ne_oa h4.1 h4.2.1
  have n26 := ne_oa hA.1 h3.2.1
  have n27 := ne_oa hA.1 h4.2.1
  have n56 := ne_len hA.2.1 h3.2.1 (by decide)
  have n57 := ne_len hA.2.1 h4.2.1 (by decide)
  have n50 := (ne_oa h0 hA.2.1).symm
  refine ⟨((h0.upo n06).upo n07).up _, ⟨A, ((hA.upo _ n26 n56).upo _ n27 n57).upo _ n20 n50, hA2⟩, ?_, ?_, h67⟩
  · exact ⟨((h3.1.upo n36).upo n37).upo n30, (((h3.2.1.up _).upo h67).upo n06.symm), h3.2.2⟩
  · exact ⟨((h4.1.upo n46).upo n47).upo n40, (((h4.2.1.upo h67.symm).up _).upo n07.symm), h4.2.2⟩
theorem oup_oup (w1 w2 : OS) (d1 d2 : Bool) : oup g (oup g σ a key w1 d1) a key w2 d2 = oup g σ a key w2 d2 := by
  unfold oup hup
  congr 1
  funext j
  simp only [va_up]
  by_cases h1 : j = a 0
  · simp [h1]
  · by_cases h2 : j = a 7
    · simp [h1, h2]
    · by_cases h3 : j = a 6
      · simp [h1, h2, h3]
      · simp [h1, h2, h3]
theorem OrdC.self (h : OrdC g σ a key w dr) : oup g σ a key w dr = σ := by
  unfold oup
  rw [hup_self h.2.2.1.2.1, hup_self h.2.2.2.1.2.1, hup_self h.1]
theorem OrdC.setE (h : OrdC g σ a key w dr) (e' : Nat → Nat) : hup σ (a 6) (aI g 64 (nF e')) = oup g σ a key (w.1, e', w.2.2) dr := by
  show _ = hup (hup (hup σ (a 6) (aI g 64 (nF e'))) (a 7) (aI g 64 (nF w.2.2.2.1))) (a 0) (oc a key w dr)
  rw [hup_self (h.2.2.2.1.2.1.upo h.2.2.2.2.symm), hup_self (h.1.upo h.n06)]
theorem OrdC.setZ (h : OrdC g σ a key w dr) (z' : Nat → Nat) : hup σ (a 7) (aI g 64 (nF z')) = oup g σ a key (w.1, w.2.1, w.2.2.1, z', w.2.2.2.2) dr := by
  show _ = hup (hup (hup σ (a 6) (aI g 64 (nF w.2.1))) (a 7) (aI g 64 (nF z'))) (a 0) (oc a key w dr)
  rw [hup_self h.2.2.1.2.1, hup_self (h.1.upo h.n07)]
theorem OrdC.setO (h : OrdC g σ a key w dr) (n' l' c' : Nat) (dr' : Bool) : hup σ (a 0) (oc a key (n', w.2.1, l', w.2.2.2.1, c') dr') = oup g σ a key (n', w.2.1, l', w.2.2.2.1, c') dr' := by
  unfold oup
  rw [hup_self h.2.2.1.2.1, hup_self h.2.2.2.1.2.1]
theorem TabAt.oup {t q tq wd : Nat} {f : Nat → Int32} {tk : Nat → Bool} (ht : TabAt g σ t q tq f tk wd) (h : OrdC g σ a key w dr) (w' : OS) (dr' : Bool) : TabAt g (oup g σ a key w' dr') t q tq f tk wd := by
  have h3 := h.2.2.1
  have h4 := h.2.2.2.1
  refine ⟨((ht.1.upo (ne_oa ht.1 h3.2.1)).upo (ne_oa ht.1 h4.2.1)).upo (ne_cl ht.1 h.1 (by decide)), ?_⟩
  exact ((ht.2.upo _ (ne_oa ht.2.1 h3.2.1) (ne_len ht.2.2.1 h3.2.1 (by decide))).upo _ (ne_oa ht.2.1 h4.2.1) (ne_len ht.2.2.1 h4.2.1 (by decide))).upo _ (ne_cl ht.2.1 h.1 (by decide)) (ne_oa h.1 ht.2.2.1).symm
/-! reads of one field -/
theorem rd_okey (h : OrdC g σ a key w dr) : Rd g M_X2_key [.ref (a 0)] σ (nI key) := q_X2_key _ (FI.of h.1 rfl (rd_i rfl))
theorem rd_ocolumns (h : OrdC g σ a key w dr) : Rd g M_X2_columns [.ref (a 0)] σ (nI (kmask key)) := q_X2_columns _ (FI.of h.1 rfl (rd_i rfl))
theorem rd_oleaves (h : OrdC g σ a key w dr) : Rd g M_X2_leaves [.ref (a 0)] σ (nI w.2.2.1) := q_X2_leaves _ (FI.of h.1 rfl (rd_i rfl))
theorem rd_ocuts (h : OrdC g σ a key w dr) : Rd g M_X2_cuts [.ref (a 0)] σ (nI w.2.2.2.2) := q_X2_cuts _ (FI.of h.1 rfl (rd_i rfl))
theorem rd_oisDropped (h : OrdC g σ a key w dr) : Rd g M_X2_isDropped [.ref (a 0)] σ (b2 dr) := q_X2_isDropped _ (FI.of h.1 rfl ⟨b2_nar dr, rd_i rfl⟩)
theorem rd_oslotAt (h : OrdC g σ a key w dr) (hn : w.1 ≤ 64) (x : Int32) : Rd g M_X2_slotAt [.ref (a 0), .int x] σ (if 0 ≤ x.toInt ∧ x.toInt < w.1 then nI (w.2.1 x.toInt.toNat) else -1) := by
  refine q_X2_slotAt _ x ⟨fun c => rd_i ?_, fun c => FI.of h.1 rfl ⟨fun c2 => rd_i ?_, fun c2 => FR.of h.1 rfl ⟨Rc.of h.2.2.1.1, ?_⟩⟩⟩
  · have c := (lt_n (n := 0) (by decide)).mp c
    rw [if_neg (by omega)]
  · have c2 := (n_le (n := w.1) (by omega)).mp c2
    rw [if_neg (by omega)]
  · have c := nlt_n (n := 0) (by decide) c
    have c2 := n_nle (n := w.1) (by omega) c2
    obtain ⟨k, hk, rfl⟩ := I_of (x := x) (n := w.1) (by omega) c2 (by omega)
    refine (rd_atn h.2.2.1 (by omega)).use (rd_i ?_)
    rw [I_n (by omega), if_pos (by omega)]
    rfl
theorem rd_oentriesInLeaf (h : OrdC g σ a key w dr) (hn : w.2.2.1 ≤ 64) (x : Int32) : Rd g M_X2_entriesInLeaf [.ref (a 0), .int x] σ (if 0 ≤ x.toInt ∧ x.toInt < w.2.2.1 then nI (w.2.2.2.1 x.toInt.toNat) else -1) := by
  refine q_X2_entriesInLeaf _ x ⟨fun c => rd_i ?_, fun c => FI.of h.1 rfl ⟨fun c2 => rd_i ?_, fun c2 => FR.of h.1 rfl ⟨Rc.of h.2.2.2.1.1, ?_⟩⟩⟩
  · have c := (lt_n (n := 0) (by decide)).mp c
    rw [if_neg (by omega)]
  · have c2 := (n_le (n := w.2.2.1) (by omega)).mp c2
    rw [if_neg (by omega)]
  · have c := nlt_n (n := 0) (by decide) c
    have c2 := n_nle (n := w.2.2.1) (by omega) c2
    obtain ⟨k, hk, rfl⟩ := I_of (x := x) (n := w.2.2.1) (by omega) c2 (by omega)
    refine (rd_atn h.2.2.2.1 (by omega)).use (rd_i ?_)
    rw [I_n (by omega), if_pos (by omega)]
    rfl
/-! who is ahead, and places -/
theorem rd_oisAhead {q tq wd : Nat} {f : Nat → Int32} {tk : Nat → Bool} (h : OrdC g σ a key w dr) (ht : TabAt g σ (a 1) q tq f tk wd) {s t : Nat} (hs : s < 64) (hs2 : t < 64) : Rd g M_X2_isAhead [.ref (a 0), .int (nI s), .int (nI t)] σ (b2 (ah f key s t)) := by
  obtain ⟨A, hA, hA2⟩ := h.2.1
  have hk := kw_le key
  have loop : ∀ (r i : Nat), i + r = kw key → J_X2_isAhead_2 g (kI fun x σ' => σ' = σ ∧ x = b2 (ahG f key s t i r)) σ (a 0) (nI s) (nI t) (nI i) := by
    intro r
    induction r with
    | zero =>
      intro i hi
      refine q_X2_isAhead_2 _ _ _ _ (FI.of h.1 rfl ⟨fun _ => ⟨fun c => rd_i ?_, fun c => rd_i ?_⟩, fun c => absurd (nI_le (by omega) (by omega)) c⟩)
      · have c := (nI_leI (by omega) (by omega)).mp c
        simp only [ahG]; rw [decide_eq_false (by omega)]; rfl
      · have c : ¬ t ≤ s := fun z => c (nI_le z (by omega))
        simp only [ahG]; rw [decide_eq_true (by omega)]; rfl
    | succ r ih =>
      intro i hi
      refine q_X2_isAhead_2 _ _ _ _ (FI.of h.1 rfl ⟨fun c => absurd ((nI_leI (by omega) (by omega)).mp c) (by omega), fun _ => FR.of h.1 rfl ⟨Rc.of hA.1, (rd_atn hA (by omega)).use ?_⟩⟩)
      rw [hA2 i (by omega)]
      refine FR.of h.1 rfl ⟨Rc.of ht.1, (rd_number ht hs (kcol_lt key i)).use (FR.of h.1 rfl ⟨Rc.of ht.1, (rd_number ht hs2 (kcol_lt key i)).use ⟨fun c => ?_, fun c => ⟨fun c2 => rd_i ?_, fun c2 => rd_i ?_⟩⟩⟩)⟩
      · rw [nI_1]
        have h1 := ih (i + 1) (by omega)
        have e : ahG f key s t i (r + 1) = ahG f key s t (i + 1) r := by simp only [ahG]; rw [if_pos c]
        rw [e]
        exact h1
      · simp only [ahG]; rw [if_neg c, decide_eq_false (fun z => (fa_of_lt z).2.1 c2)]; rfl
      · simp only [ahG]; rw [if_neg c, decide_eq_true (fa_of_nle c2)]; rfl
  exact q_X2_isAhead _ _ _ (loop (kw key) 0 (by omega))
theorem rd_oplaceFor {q tq wd : Nat} {f : Nat → Int32} {tk : Nat → Bool} (h : OrdC g σ a key w dr) (ht : TabAt g σ (a 1) q tq f tk wd) (hn : w.1 ≤ 64) (he : ∀ i, i < w.1 → w.2.1 i < 64) {s : Nat} (hs : s < 64) : Rd g M_X2_placeFor [.ref (a 0), .int (nI s)] σ (nI (plc f key w s)) := by
  have loop : ∀ (d k : Nat), k + d = w.1 → (∀ j, j < k → ah f key (w.2.1 j) s = true) → J_X2_placeFor_2 g (kI fun x σ' => σ' = σ ∧ x = nI (plc f key w s)) σ (a 0) (nI s) (nI k) := by
    intro d
    induction d with
    | zero =>
      intro k hk hj
      refine q_X2_placeFor_2 _ _ _ (FI.of h.1 rfl ⟨fun _ => rd_i ?_, fun c => absurd (nI_le (by omega) (by omega)) c⟩)
      have h1 := fa_first_le (fun i => !ah f key (w.2.1 i) s) w.1
      rcases Nat.lt_or_ge (plc f key w s) w.1 with h2 | h2
      · have h3 := fa_first_yes (fun i => !ah f key (w.2.1 i) s) w.1 h2
        simp only [hj _ (show fa_first (fun i => !ah f key (w.2.1 i) s) w.1 < k by unfold plc at h2; omega)] at h3
        cases h3
      · unfold plc at h2 ⊢
        rw [show fa_first (fun i => !ah f key (w.2.1 i) s) w.1 = k by omega]
    | succ d ih =>
      intro k hk hj
      refine q_X2_placeFor_2 _ _ _ (FI.of h.1 rfl ⟨fun c => absurd ((nI_leI (by omega) (by omega)).mp c) (by omega), fun _ => FR.of h.1 rfl ⟨Rc.of h.2.2.1.1, (rd_atn h.2.2.1 (by omega)).use ⟨Rc.of h.1, (rd_oisAhead h ht (he k (by omega)) hs).use ⟨fun c => rd_i ?_, fun c => ?_⟩⟩⟩⟩)
      · have hf := b2_0.mp c
        have h1 : plc f key w s = k := by
          unfold plc
          rcases Nat.lt_trichotomy (fa_first (fun i => !ah f key (w.2.1 i) s) w.1) k with h2 | h2 | h2
          · have h3 := fa_first_yes (fun i => !ah f key (w.2.1 i) s) w.1 (by omega)
            simp only [hj _ h2] at h3
            cases h3
          · exact h2
          · have h3 := fa_first_no (fun i => !ah f key (w.2.1 i) s) w.1 k h2
            simp only [hf] at h3
            cases h3
        rw [h1]
      · rw [nI_1]
        exact ih (k + 1) (by omega) (fun j hj2 => by
          rcases Nat.lt_or_ge j k with h1 | h1
          · exact hj j h1
          · rw [show j = k by omega]; exact b2_n0.mp c)
  exact q_X2_placeFor _ _ (loop w.1 0 (by omega) (fun j hj => absurd hj (by omega)))
theorem psum_mono (z : Nat → Nat) {i j : Nat} (h : i ≤ j) : psum z i ≤ psum z j := by
  induction j with
  | zero => rw [show i = 0 by omega]; exact Nat.le_refl _
  | succ j ih =>
    rcases Nat.lt_or_ge j i with h1 | h1
    · rw [show i = j + 1 by omega]; exact Nat.le_refl _
    · have := ih h1
      simp only [psum]
      omega
theorem rd_oleafAt (h : OrdC g σ a key w dr) (hl : w.2.2.1 ≤ 64) (hz : psum w.2.2.2.1 w.2.2.1 ≤ 1000) {p : Nat} (hp : p < 1000) : Rd g M_X2_leafAt [.ref (a 0), .int (nI p)] σ (nI (lfAt w.2.2.2.1 w.2.2.1 p)) := by
  have loop : ∀ (d k : Nat), k + d = w.2.2.1 → (∀ j, j < k → ¬ p < psum w.2.2.2.1 (j + 1)) → J_X2_leafAt_4 g (kI fun x σ' => σ' = σ ∧ x = nI (lfAt w.2.2.2.1 w.2.2.1 p)) σ (a 0) (nI p) (nI (psum w.2.2.2.1 k)) (nI k) := by
    intro d
    induction d with
    | zero =>
      intro k hk hj
      refine q_X2_leafAt_4 _ _ _ _ (FI.of h.1 rfl ⟨fun _ => rd_i ?_, fun c => absurd (nI_le (by omega) (by omega)) c⟩)
      unfold lfAt
      rw [if_neg]
      · rfl
      · intro h2
        exact hj _ (by omega) (of_decide_eq_true (fa_first_yes (fun k => decide (p < psum w.2.2.2.1 (k + 1))) w.2.2.1 h2))
    | succ d ih =>
      intro k hk hj
      have hps : psum w.2.2.2.1 (k + 1) ≤ 1000 := Nat.le_trans (psum_mono _ (by omega)) hz
      have hps2 : psum w.2.2.2.1 k + w.2.2.2.1 k = psum w.2.2.2.1 (k + 1) := rfl
      refine q_X2_leafAt_4 _ _ _ _ (FI.of h.1 rfl ⟨fun c => absurd ((nI_leI (by omega) (by omega)).mp c) (by omega), fun _ => FR.of h.1 rfl ⟨Rc.of h.2.2.2.1.1, (rd_atn h.2.2.2.1 (by omega)).use ?_⟩⟩)
      show (_ ≤ _ → _) ∧ _
      unfold nF
      rw [nI_add, hps2, nI_1]
      refine ⟨fun c => ?_, fun c => rd_i ?_⟩
      · have c := (nI_leI (by omega) (by omega)).mp c
        exact ih (k + 1) (by omega) (fun j hj2 => by
          rcases Nat.lt_or_ge j k with h1 | h1
          · exact hj j h1
          · rw [show j = k by omega]; omega)
      · have c : ¬ psum w.2.2.2.1 (k + 1) ≤ p := fun z => c (nI_le z (by omega))
        have h1 : fa_first (fun k => decide (p < psum w.2.2.2.1 (k + 1))) w.2.2.1 = k := by
          rcases Nat.lt_trichotomy (fa_first (fun k => decide (p < psum w.2.2.2.1 (k + 1))) w.2.2.1) k with h2 | h2 | h2
          · exact absurd (of_decide_eq_true (fa_first_yes (fun k => decide (p < psum w.2.2.2.1 (k + 1))) w.2.2.1 (by omega))) (hj _ h2)
          · exact h2
          · have h3 := fa_first_no (fun k => decide (p < psum w.2.2.2.1 (k + 1))) w.2.2.1 k h2
            exact absurd (of_decide_eq_false h3) (by omega)
        unfold lfAt
        rw [h1, if_pos (by omega)]
  exact q_X2_leafAt _ _ (loop w.2.2.1 0 (by omega) (fun j hj => absurd hj (by omega)))
theorem rd_oleafFor (h : OrdC g σ a key w dr) (hl : w.2.2.1 ≤ 64) (hz : psum w.2.2.2.1 w.2.2.1 ≤ 1000) {p : Nat} (hp : p < 1000) : Rd g M_X2_leafFor [.ref (a 0), .int (nI p)] σ (nI (lfFor w p)) := by
  refine q_X2_leafFor _ _ ⟨fun c => rd_i ?_, fun c => ⟨Rc.of h.1, ?_⟩⟩
  · have c := (le_n (n := 0) (by decide)).mp c
    rw [I_n (by omega)] at c
    unfold lfFor
    rw [if_neg (by omega)]
    rfl
  · have c := nle_n (n := 0) (by decide) c
    rw [I_n (by omega)] at c
    rw [nI_s1 (by omega)]
    refine (rd_oleafAt h hl hz (by omega)).use (rd_i ?_)
    unfold lfFor
    rw [if_pos (by omega)]
end ORD
