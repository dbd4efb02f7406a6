/-! The class's digest. -/
section DIG
variable {g : GG} {σ : Hs} {R : Nat → Nat} {S : SS}
theorem v_about_n {o : Nat} {y : Int32} (ho : o < zo S) (h8 : o < 8) (hd : (zB S o).2.2 = false) : v_about S (nI o) y = v_abo (zB S o) y := by
  unfold v_about
  rw [if_t (isO_y ho h8 hd), nn_i (by omega)]
theorem rd_mixOrder (h : KO g σ R S) (x : Int64) {o : Nat} (h8 : o < 8) : RdL g M_X11_mixOrder [.ref (R 0), .long x, .int (nI o)] σ (mixOr S o x) := by
  refine q_X11_mixOrder _ _ _ (h.g1 ⟨Rc.of h.ords.1, h.os (nI o) (fun c => ?_) fun o' ho h8' hd e => ?_⟩)
  · rw [isO_n (by omega)] at c
    unfold mixOr keptB
    rw [if_f c]
    exact rd_l rfl
  · have e := (nI_eq (by omega) (by omega)).mp e
    subst e
    have hod := h.od ho
    have hw := h.ords.2.2.2.2.1 o ho
    have hw1 := hw.1
    have hkb : keptB (zo S) (zB S) o = true := by unfold keptB; rw [decide_eq_true ho, hd]; rfl
    have er : mixOr S o x = mixN (fun i => nI ((zB S o).2.1.2.1 i)) (zB S o).2.1.1 (mixN (fun w => v_abo (zB S o) (nI w)) 5 x) := if_t hkb
    rw [er]
    have l53 : ∀ (e i : Nat), i + e = (zB S o).2.1.1 → J_X11_mixOrder_53 g (kL fun y σ' => σ' = σ ∧ y = mixN (fun i => nI ((zB S o).2.1.2.1 i)) (zB S o).2.1.1 (mixN (fun w => v_abo (zB S o) (nI w)) 5 x)) σ (R (100 + 8 * o)) (mixN (fun i => nI ((zB S o).2.1.2.1 i)) i (mixN (fun w => v_abo (zB S o) (nI w)) 5 x)) (nI i) := by
      intro e
      induction e with
      | zero =>
        intro i hi
        exact q_X11_mixOrder_53 _ _ _ ⟨Rc.of hod.1, (rd_oentries hod).use ⟨fun _ => rd_l (by rw [← show i = (zB S o).2.1.1 by omega]), fun c => absurd (nI_le (by omega) (by omega)) c⟩⟩
      | succ e ih =>
        intro i hi
        have ih := ih (i + 1) (by omega)
        refine q_X11_mixOrder_53 _ _ _ ⟨Rc.of hod.1, (rd_oentries hod).use ⟨fun c => absurd ((nI_leI (by omega) (by omega)).mp c) (by omega), fun _ => ⟨Rc.of hod.1, (rd_oslotAt hod hw.1 (nI i)).use ((rd_mixed _ _).use ?_)⟩⟩⟩
        rw [if_pos (by rw [I_n (by omega)]; omega), nn_i (by omega), nI_1]
        exact ih
    have l23 : ∀ (e w : Nat), w + e = 5 → J_X11_mixOrder_23 g (kL fun y σ' => σ' = σ ∧ y = mixN (fun i => nI ((zB S o).2.1.2.1 i)) (zB S o).2.1.1 (mixN (fun w => v_abo (zB S o) (nI w)) 5 x)) σ (R 0) (nI o) (R (100 + 8 * o)) (mixN (fun w => v_abo (zB S o) (nI w)) w x) (nI w) := by
      intro e
      induction e with
      | zero =>
        intro w hw
        refine q_X11_mixOrder_23 _ _ _ _ _ ⟨fun _ => ?_, fun c => absurd (nI_le (a := 5) (by omega) (by omega)) c⟩
        rw [show w = 5 by omega]
        exact l53 (zB S o).2.1.1 0 (by omega)
      | succ e ih =>
        intro w hw
        have ih := ih (w + 1) (by omega)
        refine q_X11_mixOrder_23 _ _ _ _ _ ⟨fun c => absurd ((nI_leI (a := 5) (by decide) (by omega)).mp c) (by omega), fun _ => ⟨Rc.of h.1, (rd_about h _ _).use ((rd_mixed _ _).use ?_)⟩⟩
        rw [v_about_n ho h8 hd, nI_1]
        exact ih
    exact l23 5 0 rfl
theorem rd_mixQuestion (h : KO g σ R S) (x : Int64) {i : Nat} (hi : i < zq S) : RdL g M_X11_mixQuestion [.ref (R 0), .long x, .int (nI i)] σ (mixd (mixBd (zQ S i) 4 x) (zQ S i).2.2.2.2.toInt64) := by
  have hq8 := h.q8
  refine q_X11_mixQuestion _ _ _ (h.g3 ⟨h.wk, h.qs (nI i) (fun c => ?_) fun i' hi' e => ?_⟩)
  · rw [inR_y hi (by omega)] at c
    cases c
  · have e := (nI_eq (by omega) (by omega)).mp e
    subst e
    have hq := h.que hi
    have vb : ∀ c, c < 4 → v_bound S (nI i) (nI c) 0 = b_lo (zQ S i) c ∧ v_bound S (nI i) (nI c) 1 = b_hi (zQ S i) c := fun c hc => by
      constructor
      · unfold v_bound
        rw [if_t (inR_y hi (by omega)), if_t (inR_y hc (by decide)), nn_i (by omega), nn_i (by omega)]
        rfl
      · unfold v_bound
        rw [if_t (inR_y hi (by omega)), if_t (inR_y hc (by decide)), nn_i (by omega), nn_i (by omega)]
        rfl
    have l : ∀ (e c : Nat), c + e = 4 → J_X11_mixQuestion_23 g (kL fun y σ' => σ' = σ ∧ y = mixd (mixBd (zQ S i) 4 x) (zQ S i).2.2.2.2.toInt64) σ (R 0) (nI i) (R (200 + 5 * i)) (mixBd (zQ S i) c x) (nI c) := by
      intro e
      induction e with
      | zero =>
        intro c hc
        refine q_X11_mixQuestion_23 _ _ _ _ _ ⟨fun _ => ⟨Rc.of hq.1, (rd_qheft hq).use ((rd_mixed _ _).use (rd_l ?_))⟩, fun c2 => absurd (nI_le (a := 4) (by omega) (by omega)) c2⟩
        rw [show c = 4 by omega]
      | succ e ih =>
        intro c hc
        have ih := ih (c + 1) (by omega)
        refine q_X11_mixQuestion_23 _ _ _ _ _ ⟨fun c2 => absurd ((nI_leI (a := 4) (by decide) (by omega)).mp c2) (by omega), fun _ => ⟨Rc.of h.1, (rd_bound h _ _ _).use ((rd_mixed _ _).use ⟨Rc.of h.1, (rd_bound h _ _ _).use ((rd_mixed _ _).use ?_)⟩)⟩⟩
        rw [(vb c (by omega)).1, (vb c (by omega)).2, nI_1]
        exact ih
    exact l 4 0 rfl
theorem rd_mixPictures (h : KO g σ R S) (iv : Inv S) (x : Int64) : RdL g M_X11_mixPictures [.ref (R 0), .long x] σ (mixPs S 4 x) := by
  have vp : ∀ c, c < 4 → ∀ i, i < 4 → ∀ w, w < 3 → v_part S (nI c) (nI i) (nI w) = (if (zP S c).2.1 i = 0 then -1 else if w = 0 then nI ((zP S c).2.1 i) else if w = 1 then (zP S c).2.2.1 i else (zP S c).2.2.2 i) := fun c hc i hi w hw => by
    unfold v_part v_pt
    rw [if_t (inR_y hc (by decide)), if_t (inR_y hi (by decide)), if_t (inR_y hw (by decide)), nn_i (by omega), nn_i (by omega)]
    have e0 : (nI w = 0) ↔ (w = 0) := nI_eq (b := 0) (by omega) (by decide)
    have e1 : (nI w = 1) ↔ (w = 1) := nI_eq (b := 1) (by omega) (by decide)
    simp only [e0, e1]
  have l5 : ∀ (d c : Nat), c + d = 4 → J_X11_mixPictures_5 g (kL fun y σ' => σ' = σ ∧ y = mixPs S 4 x) σ (R 0) (mixPs S c x) (nI c) := by
    intro d
    induction d with
    | zero =>
      intro c hc
      exact q_X11_mixPictures_5 _ _ _ ⟨fun _ => rd_l (by rw [show c = 4 by omega]), fun z => absurd (nI_le (a := 4) (by omega) (by omega)) z⟩
    | succ d ihd =>
      intro c hc
      have ihd := ihd (c + 1) (by omega)
      have l14 : ∀ (e i : Nat), i + e = 4 → J_X11_mixPictures_14 g (kL fun y σ' => σ' = σ ∧ y = mixPs S 4 x) σ (R 0) (mixPi (zP S c) i (mixPs S c x)) (nI c) (nI i) := by
        intro e
        induction e with
        | zero =>
          intro i hi
          refine q_X11_mixPictures_14 _ _ _ _ ⟨fun _ => ?_, fun z => absurd (nI_le (a := 4) (by omega) (by omega)) z⟩
          rw [nI_1, show i = 4 by omega]
          exact ihd
        | succ e ihe =>
          intro i hi
          have ihe := ihe (i + 1) (by omega)
          have l23 : ∀ (u w : Nat), w + u = 3 → J_X11_mixPictures_23 g (kL fun y σ' => σ' = σ ∧ y = mixPs S 4 x) σ (R 0) (mixN (fun w => if (zP S c).2.1 i = 0 then -1 else if w = 0 then nI ((zP S c).2.1 i) else if w = 1 then (zP S c).2.2.1 i else (zP S c).2.2.2 i) w (mixPi (zP S c) i (mixPs S c x))) (nI c) (nI i) (nI w) := by
            intro u
            induction u with
            | zero =>
              intro w hw
              refine q_X11_mixPictures_23 _ _ _ _ _ ⟨fun _ => ?_, fun z => absurd (nI_le (a := 3) (by omega) (by omega)) z⟩
              rw [nI_1, show w = 3 by omega]
              exact ihe
            | succ u ihu =>
              intro w hw
              have ihu := ihu (w + 1) (by omega)
              refine q_X11_mixPictures_23 _ _ _ _ _ ⟨fun z => absurd ((nI_leI (a := 3) (by decide) (by omega)).mp z) (by omega), fun _ => ⟨Rc.of h.1, (rd_part h iv _ _ _).use ((rd_mixed _ _).use ?_)⟩⟩
              rw [vp c (by omega) i (by omega) w (by omega), nI_1]
              exact ihu
          exact q_X11_mixPictures_14 _ _ _ _ ⟨fun z => absurd ((nI_leI (a := 4) (by decide) (by omega)).mp z) (by omega), fun _ => l23 3 0 rfl⟩
      exact q_X11_mixPictures_5 _ _ _ ⟨fun z => absurd ((nI_leI (a := 4) (by decide) (by omega)).mp z) (by omega), fun _ => l14 4 0 rfl⟩
  exact q_X11_mixPictures _ _ (l5 4 0 rfl)
theorem mixN_0 (e : Nat → Int32) (x : Int64) : mixN e 0 x = x := rfl
theorem mixQs_0 (S : SS) (x : Int64) : mixQs S 0 x = x := rfl
theorem mixOs_0 (S : SS) (x : Int64) : mixOs S 0 x = x := rfl
theorem rd_digest (h : KO g σ R S) (iv : Inv S) : RdL g M_X11_digest [.ref (R 0)] σ (v_digest S) := by
  have hq8 := h.q8
  have hn := iv.2.2.2.1.1
  have l122 : ∀ (e w : Nat) (x : Int64), w + e = 9 → v_digest S = mixN (fun w => v_count S (nI w)) 9 x → J_X11_digest_122 g (kL fun y σ' => σ' = σ ∧ y = v_digest S) σ (R 0) (mixN (fun w => v_count S (nI w)) w x) (nI w) := by
    intro e
    induction e with
    | zero =>
      intro w x hw hx
      exact q_X11_digest_122 _ _ _ ⟨fun _ => rd_l (by rw [hx, show w = 9 by omega]), fun z => absurd (nI_le (a := 9) (by omega) (by omega)) z⟩
    | succ e ih =>
      intro w x hw hx
      have ih := ih (w + 1) x (by omega) hx
      refine q_X11_digest_122 _ _ _ ⟨fun z => absurd ((nI_leI (a := 9) (by decide) (by omega)).mp z) (by omega), fun _ => ⟨Rc.of h.1, (rd_count h _).use ((rd_mixed _ _).use ?_)⟩⟩
      rw [nI_1]
      exact ih
  have l89 : ∀ (e k : Nat) (x : Int64), k + e = zn S → v_digest S = mixN (fun w => v_count S (nI w)) 9 (mixN (fun k => nI (zC S k)) (zn S) x) → J_X11_digest_89 g (kL fun y σ' => σ' = σ ∧ y = v_digest S) σ (R 0) (mixN (fun k => nI (zC S k)) k x) (nI k) := by
    intro e
    induction e with
    | zero =>
      intro k x hk hx
      refine q_X11_digest_89 _ _ _ (h.g5 ⟨h.sh, (rd_length h.2.2.2.1).use ⟨fun _ => ?_, fun z => absurd (nI_le (by omega) (by omega)) z⟩⟩)
      rw [show k = zn S by omega]
      have z := l122 9 0 _ rfl hx
      rw [mixN_0] at z
      exact z
    | succ e ih =>
      intro k x hk hx
      have ih := ih (k + 1) x (by omega) hx
      refine q_X11_digest_89 _ _ _ (h.g5 ⟨h.sh, (rd_length h.2.2.2.1).use ⟨fun z => absurd ((nI_leI (by omega) (by omega)).mp z) (by omega), fun _ => h.g5 ⟨h.sh, (rd_letterAt h.2.2.2.1 (by omega)).use ((rd_mixed _ _).use ?_)⟩⟩⟩)
      rw [nI_1]
      exact ih
  have l44 : ∀ (e q : Nat) (x : Int64), q + e = zq S → v_digest S = mixN (fun w => v_count S (nI w)) 9 (mixN (fun k => nI (zC S k)) (zn S) (mixPs S 4 (mixd (mixQs S (zq S) x) (nI (zu S)).toInt64))) → J_X11_digest_44 g (kL fun y σ' => σ' = σ ∧ y = v_digest S) σ (R 0) (mixQs S q x) (nI q) := by
    intro e
    induction e with
    | zero =>
      intro q x hq hx
      refine q_X11_digest_44 _ _ _ (h.g3 ⟨h.wk, ?_⟩)
      obtain ⟨-, ⟨u, F, G, T, s, hk⟩, -⟩ := id h
      refine (rd_wkasked hk).use ⟨fun _ => h.g3 ⟨h.wk, (rd_wkupkeep hk).use ((rd_mixed _ _).use ⟨Rc.of h.1, (rd_mixPictures h iv _).use ?_⟩)⟩, fun z => absurd (nI_le (by show zq S ≤ q; omega) (by omega)) z⟩
      rw [show q = zq S by omega]
      have z := l89 (zn S) 0 _ (by omega) hx
      rw [mixN_0] at z
      exact z
    | succ e ih =>
      intro q x hq hx
      have ih := ih (q + 1) x (by omega) hx
      refine q_X11_digest_44 _ _ _ (h.g3 ⟨h.wk, ?_⟩)
      obtain ⟨-, ⟨u, F, G, T, s, hk⟩, -⟩ := id h
      refine (rd_wkasked hk).use ⟨fun z => absurd ((nI_leI (by show zq S < _; omega) (by omega)).mp z) (by show ¬ zq S ≤ q; omega), fun _ => ⟨Rc.of h.1, (rd_mixQuestion h _ (by omega)).use ?_⟩⟩
      rw [nI_1]
      exact ih
  have l23 : ∀ (e o : Nat) (x : Int64), o + e = 8 → v_digest S = mixN (fun w => v_count S (nI w)) 9 (mixN (fun k => nI (zC S k)) (zn S) (mixPs S 4 (mixd (mixQs S (zq S) (mixOs S 8 x)) (nI (zu S)).toInt64))) → J_X11_digest_23 g (kL fun y σ' => σ' = σ ∧ y = v_digest S) σ (R 0) (mixOs S o x) (nI o) := by
    intro e
    induction e with
    | zero =>
      intro o x ho hx
      refine q_X11_digest_23 _ _ _ ⟨fun _ => ?_, fun z => absurd (nI_le (a := 8) (by omega) (by omega)) z⟩
      rw [show o = 8 by omega]
      have z := l44 (zq S) 0 _ (by omega) hx
      rw [mixQs_0] at z
      exact z
    | succ e ih =>
      intro o x ho hx
      have ih := ih (o + 1) x (by omega) hx
      refine q_X11_digest_23 _ _ _ ⟨fun z => absurd ((nI_leI (a := 8) (by decide) (by omega)).mp z) (by omega), fun _ => ⟨Rc.of h.1, (rd_mixOrder h _ (by omega)).use ?_⟩⟩
      rw [nI_1]
      exact ih
  have h0 := l23 8 0 (mixTb S 64 (mixd 241 (nI (zw S)).toInt64)) rfl rfl
  rw [mixOs_0] at h0
  exact q_X11_digest _ (h.g0 ⟨Rc.of h.tab.1, (rd_pageWidth h.tab).use ((rd_mixed _ _).use ⟨Rc.of h.1, (rd_mixTable h _).use h0⟩)⟩)
end DIG
