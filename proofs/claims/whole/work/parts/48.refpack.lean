/-! The reference: an order's going out, and its packing. -/
theorem OA.cong {o : Nat} {w w' : OS} {A : Nat → Nat → Int32} (h : OA o w A) (h1 : w'.1 = w.1) (h2 : ∀ i, i < w.1 → w'.2.1 i = w.2.1 i) (h3 : w'.2.2.1 = w.2.2.1) (h4 : ∀ k, k < w.2.2.1 → w'.2.2.2.1 k = w.2.2.2.1 k) (h5 : w'.2.2.2.2 = w.2.2.2.2) : OA o w' A := by
  obtain ⟨e9, e11, e7, e8, e10⟩ := h
  exact ⟨by rw [h1]; exact e9, by rw [h3]; exact e11, by rw [h5]; exact e7, fun i hi => by rw [h1] at hi; rw [h2 i hi]; exact e8 i hi, fun k hk => by rw [h3] at hk; rw [h4 k hk]; exact e10 k hk⟩
theorem EIn.num {f : Nat → Int32} {tk : Nat → Bool} {key n : Nat} {e : Nat → Nat} (h : EIn f tk key n e) : n = fa_cnt tk 64 := by
  rw [← h.cnt (P := tk) (fun _ _ z => z)]
  have : ∀ k, k ≤ n → fa_cnt (fun i => tk (e i)) k = k := by
    intro k
    induction k with
    | zero => intro _; rfl
    | succ k ih =>
      intro hk
      rw [fa_cnt_yes (p := fun i => tk (e i)) (h.2.1 k (by omega)).2, ih (by omega)]
  exact (this n (Nat.le_refl _)).symm
theorem EIn.uniq {f : Nat → Int32} {tk : Nat → Bool} {key n : Nat} {e e' : Nat → Nat} (h : EIn f tk key n e) (h' : EIn f tk key n e') : ∀ i, i < n → e i = e' i := by
  have key2 : ∀ m i, i < m → i < n → e i = e' i := by
    intro m
    induction m with
    | zero => intro i hi; exact absurd hi (by omega)
    | succ m ih =>
      intro i him hi
      by_cases c : i < m
      · exact ih i c hi
      · have prev : ∀ j, j < i → e j = e' j := fun j hj => ih j (by omega) (by omega)
        obtain ⟨k, hk, ek⟩ := h'.2.2 (e i) (h.2.1 i hi).1 (h.2.1 i hi).2
        obtain ⟨l, hl, el⟩ := h.2.2 (e' i) (h'.2.1 i hi).1 (h'.2.1 i hi).2
        have hki : i ≤ k := Nat.le_of_not_lt fun z => by
          have := prev k z
          rw [ek] at this
          have := h.inj (by omega) hi this
          omega
        have hli : i ≤ l := Nat.le_of_not_lt fun z => by
          have := prev l z
          rw [el] at this
          have := h'.inj hi (by omega) this
          omega
        by_cases c1 : k = i
        · rw [← ek, c1]
        · have a1 := h'.1 i k (by omega) hk
          rw [ek] at a1
          by_cases c2 : l = i
          · rw [c2] at el; exact el
          · have a2 := h.1 i l (by omega) hl
            rw [el] at a2
            have := ah_trans a1 a2
            rw [ah_irr] at this
            cases this
  exact fun i hi => key2 n i hi hi
section RPK
variable {g : GG} {σ : Hs} {R : Nat → Nat} {X : Nat → Int32} {A : Nat → Nat → Int32} {hh : Int64} {f : Nat → Int32} {tk : Nat → Bool} {key o : Nat} {w : OS}
theorem wr_goFrom {s : Nat} (h : RC g σ R X A hh) (ho : o < 8) (ol : OA o w A) (hin : OIn f tk key w) (hs : s < 64) (ht : tk s = true) : Do g M_X12_goFrom 0 0 [.ref (R 300), .int (nI o), .int (nI s)] σ (OP g σ R X hh o (goS w s) A) := by
  obtain ⟨e9, e11, e7, e8, e10⟩ := ol
  obtain ⟨hok, hE⟩ := hin
  have hl64 := hok.l_le
  have h64 := hok.1
  obtain ⟨p, hp, hpe⟩ := hE.2.2 s hs ht
  have hno : ∀ j, j < p → w.2.1 j ≠ s := fun j hj z => by have := hE.inj (by omega) hp (z.trans hpe.symm); omega
  have hf : fa_first (fun i => decide (w.2.1 i = s)) w.1 = p := fa_first_is hp (decide_eq_true hpe) (fun j hj => decide_eq_false (hno j hj))
  have egs : goS w s = goAt w p := by unfold goS; rw [hf, if_pos hp]
  rw [egs]
  -- the leaf's end
  have j166 : ∀ (L : Nat), lfAt w.2.2.2.1 w.2.2.1 p = L → L < w.2.2.1 → w.2.2.2.1 L - 1 = 0 → ∀ (d k : Nat) (σ1 : Hs) (A1 : Nat → Nat → Int32), k + d = w.2.2.1 → L < k → RC g σ1 R X A1 hh → Ofr o A A1 → Sm R T3 σ σ1 → (A1 9 o = nI (w.1 - 1) ∧ A1 11 o = nI w.2.2.1 ∧ A1 7 o = nI w.2.2.2.2 ∧ ∀ j, j < w.1 - 1 → A1 8 (64 * o + j) = nI (remN w.2.1 p w.1 j)) → ShD (A1 10) o (setN w.2.2.2.1 L (w.2.2.2.1 L - 1)) L w.2.2.1 k → J_X12_goFrom_166 g (OP g σ R X hh o (goAt w p) A) σ1 (R 300) (nI o) (nI k) := by
    intro L hL hLl hz d
    have eg : goAt w p = (w.1 - 1, remN w.2.1 p w.1, w.2.2.1 - 1, remN (setN w.2.2.2.1 L (w.2.2.2.1 L - 1)) L w.2.2.1, w.2.2.2.2) := by
      unfold goAt
      rw [hL, if_pos (by show setN w.2.2.2.1 L (w.2.2.2.1 L - 1) L = 0; rw [setN_at]; exact hz)]
      rfl
    rw [eg]
    induction d with
    | zero =>
      intro k σ1 A1 hk hLk h1 f1 s1 ⟨a9, a11, a7, a8⟩ sh
      refine q_X12_goFrom_166 _ _ _ (h1.r 11 (fun _ _ _ => rfl) (h1.a 11 rfl rfl rfl (show o < 8 from ho) ⟨fun _ => h1.r 11 (fun _ _ _ => rfl) (h1.a 11 rfl rfl rfl (show o < 8 from ho) (h1.s 11 rfl rfl rfl (show o < 8 from ho) fun σ2 h2 s2 => ⟨rfl, _, h2, ?_, f1.n (Or.inr (Or.inr rfl)), s1.trans s2⟩)), fun c => ?_⟩))
      · refine ⟨a9, ?_, a7, a8, fun j hj => ?_⟩
        · show upd (A1 11) o (A1 11 o - 1) o = _
          rw [upd_same, a11, nI_s1 (by omega)]
        · exact sh.ends (by omega) j hj
      · rw [a11] at c
        exact absurd (nI_le (by omega) (by omega)) c
    | succ d ih =>
      intro k σ1 A1 hk hLk h1 f1 s1 ⟨a9, a11, a7, a8⟩ sh
      refine q_X12_goFrom_166 _ _ _ (h1.r 11 (fun _ _ _ => rfl) (h1.a 11 rfl rfl rfl (show o < 8 from ho) ⟨fun c => ?_, fun c => h1.r 10 (fun _ _ _ => rfl) (h1.r 10 (fun _ _ _ => rfl) (h1.a 10 rfl rfl (i64 o k) (show _ < 512 by omega) (h1.s 10 rfl rfl (i64m o k (by omega)) (show _ < 512 by omega) fun σ2 h2 s2 => ?_)))⟩))
      · rw [a11] at c
        exact absurd ((nI_leI (by omega) (by omega)).mp c) (by omega)
      · rw [nI_1]
        refine ih (k + 1) σ2 _ (by omega) (by omega) h2 (f1.e (Or.inr rfl) (by omega)) (s1.trans s2) ⟨a9, a11, a7, a8⟩ ?_
        show ShD (upd (A1 10) _ _) o _ _ _ _
        exact sh.step hLk (by omega)
  -- the shift of the entries
  have j76 : ∀ (L : Nat), lfAt w.2.2.2.1 w.2.2.1 p = L → L < w.2.2.1 → ∀ (d k : Nat) (σ1 : Hs) (A1 : Nat → Nat → Int32), k + d = w.1 → p < k → RC g σ1 R X A1 hh → Ofr o A A1 → Sm R T3 σ σ1 → (A1 9 = A 9 ∧ A1 11 = A 11 ∧ A1 7 = A 7 ∧ A1 10 = A 10) → ShD (A1 8) o w.2.1 p w.1 k → J_X12_goFrom_76 g (OP g σ R X hh o (goAt w p) A) σ1 (R 300) (nI o) (nI L) (nI k) := by
    intro L hL hLl d
    have hz1 := hok.2.2.1 L hLl
    have hzb : w.2.2.2.1 L ≤ 64 := by
      have := psum_lb2 (k := L) w.2.2.1 hok.2.2.1 hLl
      have := hok.2.1
      omega
    induction d with
    | zero =>
      intro k σ1 A1 hk hLk h1 f1 s1 ⟨a9, a11, a7, a10⟩ sh
      have fin : ∀ (σ3 : Hs) (A3 : Nat → Nat → Int32), RC g σ3 R X A3 hh → Ofr o A A3 → Sm R T3 σ σ3 → (A3 9 o = nI (w.1 - 1) ∧ A3 11 o = nI w.2.2.1 ∧ A3 7 o = nI w.2.2.2.2 ∧ ∀ j, j < w.1 - 1 → A3 8 (64 * o + j) = nI (remN w.2.1 p w.1 j)) → (∀ j, j < w.2.2.1 → A3 10 (64 * o + j) = nI (setN w.2.2.2.1 L (w.2.2.2.1 L - 1) j)) → FR σ3 (R 300) 12 10 (fun r15 => AI g σ3 r15 0 ((64 * nI o) + nI L) (fun i16 => (¬ i16 = 0 → OP g σ R X hh o (goAt w p) A none σ3) ∧ (i16 = 0 → J_X12_goFrom_166 g (OP g σ R X hh o (goAt w p) A) σ3 (R 300) (nI o) (nI L + 1)))) := by
        intro σ3 A3 h3 f3 s3 a b
        refine h3.r 10 (fun _ _ _ => rfl) (h3.a 10 rfl rfl (i64 o L) (show _ < 512 by omega) ?_)
        rw [b L hLl, setN_at]
        refine ⟨fun c => ⟨rfl, A3, h3, ?_, f3, s3⟩, fun c => ?_⟩
        · have c : ¬ w.2.2.2.1 L - 1 = 0 := fun z => c (by rw [z]; rfl)
          have eg : goAt w p = (w.1 - 1, remN w.2.1 p w.1, w.2.2.1, setN w.2.2.2.1 L (w.2.2.2.1 L - 1), w.2.2.2.2) := by
            unfold goAt
            rw [hL, if_neg (by show ¬ setN w.2.2.2.1 L (w.2.2.2.1 L - 1) L = 0; rw [setN_at]; exact c)]
            rfl
          rw [eg]
          exact ⟨a.1, a.2.1, a.2.2.1, a.2.2.2, b⟩
        · have c := (nI_eq (b := 0) (by omega) (by decide)).mp c
          rw [nI_1]
          exact j166 L hL hLl c (w.2.2.1 - (L + 1)) (L + 1) σ3 A3 (by omega) (by omega) h3 f3 s3 a (ShD.start b hLl)
      refine q_X12_goFrom_76 _ _ _ _ (h1.r 9 (fun _ _ _ => rfl) (h1.a 9 rfl rfl rfl (show o < 8 from ho) ⟨fun _ => h1.r 9 (fun _ _ _ => rfl) (h1.a 9 rfl rfl rfl (show o < 8 from ho) (h1.s 9 rfl rfl rfl (show o < 8 from ho) fun σ2 h2 s2 => h2.r 10 (fun _ _ _ => rfl) (h2.a 10 rfl rfl (i64 o L) (show _ < 512 by omega) (h2.s 10 rfl rfl (i64 o L) (show _ < 512 by omega) fun σ3 h3 s3 => fin σ3 _ h3 ((f1.n (Or.inr (Or.inl rfl))).e (Or.inr rfl) (by omega)) ((s1.trans s2).trans s3) ⟨?_, ?_, ?_, fun j hj => ?_⟩ fun j hj => ?_)))), fun c => ?_⟩))
      · show upd (A1 9) o (A1 9 o - 1) o = _
        rw [upd_same, a9, e9, nI_s1 (by omega)]
      · show A1 11 o = _
        rw [a11]; exact e11
      · show A1 7 o = _
        rw [a7]; exact e7
      · show A1 8 (64 * o + j) = _
        exact sh.ends (by omega) j hj
      · show upd (A1 10) (64 * o + L) (A1 10 (64 * o + L) - 1) (64 * o + j) = _
        rw [a10]
        by_cases c : j = L
        · subst c
          rw [upd_same, e10 j hj, nI_s1 (by omega), setN_at]
        · rw [upd_ne _ _ (by omega), setN_ne _ _ c]
          exact e10 j hj
      · rw [a9, e9] at c
        exact absurd (nI_le (by omega) (by omega)) c
    | succ d ih =>
      intro k σ1 A1 hk hLk h1 f1 s1 ⟨a9, a11, a7, a10⟩ sh
      refine q_X12_goFrom_76 _ _ _ _ (h1.r 9 (fun _ _ _ => rfl) (h1.a 9 rfl rfl rfl (show o < 8 from ho) ⟨fun c => ?_, fun c => h1.r 8 (fun _ _ _ => rfl) (h1.r 8 (fun _ _ _ => rfl) (h1.a 8 rfl rfl (i64 o k) (show _ < 512 by omega) (h1.s 8 rfl rfl (i64m o k (by omega)) (show _ < 512 by omega) fun σ2 h2 s2 => ?_)))⟩))
      · rw [a9, e9] at c
        exact absurd ((nI_leI (by omega) (by omega)).mp c) (by omega)
      · rw [nI_1]
        refine ih (k + 1) σ2 _ (by omega) (by omega) h2 (f1.e (Or.inl rfl) (by omega)) (s1.trans s2) ⟨a9, a11, a7, a10⟩ ?_
        show ShD (upd (A1 8) _ _) o _ _ _ _
        exact sh.step hLk (by omega)
  -- the leaf
  have j29 : ∀ (d k : Nat), k + d = w.2.2.1 → (∀ j, j < k → psum w.2.2.2.1 (j + 1) ≤ p) → J_X12_goFrom_29 g (OP g σ R X hh o (goAt w p) A) σ (R 300) (nI o) (nI p) (nI k) (nI (psum w.2.2.2.1 k)) := by
    intro d
    induction d with
    | zero =>
      intro k hk hall
      exfalso
      rcases Nat.eq_zero_or_pos k with z | z
      · have := hok.2.1
        rw [show w.2.2.1 = 0 by omega] at this
        have h0 : psum w.2.2.2.1 0 = 0 := rfl
        omega
      · have := hall (k - 1) (by omega)
        rw [show k - 1 + 1 = w.2.2.1 by omega, hok.2.1] at this
        omega
    | succ d ih =>
      intro k hk hall
      have hps : psum w.2.2.2.1 (k + 1) ≤ 64 := by
        have h1 := psum_mono w.2.2.2.1 (show k + 1 ≤ w.2.2.1 by omega)
        rw [hok.2.1] at h1
        omega
      refine q_X12_goFrom_29 _ _ _ _ _ (h.r 10 (fun _ _ _ => rfl) (h.a 10 rfl rfl (i64 o k) (show _ < 512 by omega) ⟨fun c => ?_, fun c => h.r 10 (fun _ _ _ => rfl) (h.a 10 rfl rfl (i64 o k) (show _ < 512 by omega) ?_)⟩))
      · rw [e10 k (by omega), nI_add, ← psum_s] at c
        have c := (nI_ltI (by omega) (by omega)).mp c
        have hL : lfAt w.2.2.2.1 w.2.2.1 p = k := by
          have e : fa_first (fun j => decide (p < psum w.2.2.2.1 (j + 1))) w.2.2.1 = k := fa_first_is (by omega) (decide_eq_true c) (fun j hj => decide_eq_false (by have := hall j hj; omega))
          unfold lfAt
          rw [e, if_pos (by omega)]
        rw [nI_1]
        exact j76 k hL (by omega) (w.1 - (p + 1)) (p + 1) σ A (by omega) (by omega) h Ofr.rfl Sm.refl ⟨rfl, rfl, rfl, rfl⟩ (ShD.start e8 hp)
      · rw [e10 k (by omega)] at c ⊢
        rw [nI_add, ← psum_s] at c ⊢
        have c : psum w.2.2.2.1 (k + 1) ≤ p := Nat.le_of_not_lt fun z => c (nI_lt z (by omega))
        rw [nI_1]
        refine ih (k + 1) (by omega) fun j hj => ?_
        by_cases z : j = k
        · rw [z]; exact c
        · exact hall j (by omega)
  -- the place
  have j2 : ∀ (d k : Nat), k + d = p → J_X12_goFrom_2 g (OP g σ R X hh o (goAt w p) A) σ (R 300) (nI o) (nI s) (nI k) := by
    intro d
    induction d with
    | zero =>
      intro k hk
      have hk : k = p := hk
      subst hk
      refine q_X12_goFrom_2 _ _ _ _ (h.r 8 (fun _ _ _ => rfl) (h.a 8 rfl rfl (i64 o k) (show _ < 512 by omega) ⟨fun _ => j29 w.2.2.1 0 (by omega) (fun j hj => absurd hj (by omega)), fun c => ?_⟩))
      rw [e8 k hp, hpe] at c
      exact absurd rfl c
    | succ d ih =>
      intro k hk
      refine q_X12_goFrom_2 _ _ _ _ (h.r 8 (fun _ _ _ => rfl) (h.a 8 rfl rfl (i64 o k) (show _ < 512 by omega) ⟨fun c => ?_, fun _ => ?_⟩))
      · rw [e8 k (by omega)] at c
        have := (hE.2.1 k (by omega)).1
        exact absurd ((nI_eq (by omega) (by omega)).mp c) (hno k (by omega))
      · rw [nI_1]
        exact ih (k + 1) (by omega)
  exact q_X12_goFrom _ _ _ (j2 p 0 (by omega))
theorem wr_packOne (h : RC g σ R X A hh) (ho : o < 8) (ha : ∀ k, k < 256 → A 1 k = f k) (h0 : ∀ s, s < 64 → A 0 s = b2 (tk s)) (hk : kok key) (e5 : A 5 o = nI key) (e7 : A 7 o = nI w.2.2.2.2) : Do g M_X12_packOne 0 0 [.ref (R 300), .int (nI o)] σ (OP g σ R X hh o (rebS f key tk w) A) := by
  have hk2 : key < 2 ^ 31 := by have := hk.2.1; omega
  have hrm := rmk_le key
  have h64E := reb1_in f key tk w 64 (by omega)
  generalize hW : reb1 f key tk w 64 = W at *
  have eS : rebS f key tk w = packS key W := by unfold rebS; rw [hW]
  have hWc : W.2.2.2.2 = w.2.2.2.2 := by
    have : ∀ s, (reb1 f key tk w s).2.2.2.2 = w.2.2.2.2 := by
      intro s
      induction s with
      | zero => rfl
      | succ s ih =>
        simp only [reb1]
        split
        · rfl
        · exact ih
    rw [← hW]
    exact this 64
  have hn64 : W.1 ≤ 64 := h64E.le
  have hlv : ∀ k, k < lvs (rmk key) W.1 ↔ k * rmk key < W.1 := fun k => lvs_lt (by omega)
  have hlv64 : lvs (rmk key) W.1 ≤ 64 := by
    refine Nat.le_of_not_lt fun z => ?_
    have := (hlv 64).mp z
    omega
  rw [eS]
  -- the leaves
  have j136 : ∀ (d k : Nat) (σ1 : Hs) (A1 : Nat → Nat → Int32) (x : Int32), k + d = lvs (rmk key) W.1 → x.toInt = (W.1 : Int) - ((k * rmk key : Nat) : Int) → RC g σ1 R X A1 hh → Ofr o A A1 → Sm R T3 σ σ1 → (A1 9 o = nI W.1 ∧ A1 11 o = nI k ∧ A1 7 o = nI w.2.2.2.2 ∧ (∀ j, j < W.1 → A1 8 (64 * o + j) = nI (W.2.1 j)) ∧ ∀ j, j < k → A1 10 (64 * o + j) = nI (min (rmk key) (W.1 - j * rmk key))) → J_X12_packOne_136 g (OP g σ R X hh o (packS key W) A) σ1 (R 300) (nI o) (nI (rmk key)) x := by
    intro d
    induction d with
    | zero =>
      intro k σ1 A1 x hd hx h1 f1 s1 ⟨a9, a11, a7, a8, a10⟩
      have hd : k = lvs (rmk key) W.1 := hd
      have hle : ¬ k * rmk key < W.1 := fun z => by have := (hlv k).mpr z; omega
      refine q_X12_packOne_136 _ _ _ _ ⟨fun _ => ⟨rfl, A1, h1, ⟨a9, ?_, ?_, a8, fun j hj => ?_⟩, f1, s1⟩, fun c => absurd ((le_n (n := 0) (by decide)).mpr (by rw [hx]; omega)) c⟩
      · rw [a11, hd]; rfl
      · rw [a7, ← hWc]; rfl
      · have hj : j < lvs (rmk key) W.1 := hj
        rw [a10 j (by omega)]
        show _ = nI (lay1 W.2.2.2.1 (rmk key) W.1 (lvs (rmk key) W.1) j)
        rw [lay1_at _ _ _ _ j hj]
    | succ d ih =>
      intro k σ1 A1 x hd hx h1 f1 s1 ⟨a9, a11, a7, a8, a10⟩
      have hlt : k * rmk key < W.1 := (hlv k).mp (by omega)
      have hkb : k < 64 := by omega
      have hxe : x = nI (W.1 - k * rmk key) := by rw [I_eq, I_n (by omega), hx]; omega
      have hsub : (x - nI (rmk key)).toInt = (W.1 : Int) - (((k + 1) * rmk key : Nat) : Int) := by
        have e1 : (nI (rmk key)).toInt = rmk key := I_n (by omega)
        rw [I_sub (by omega) (by omega) (by omega) (by omega), hx, e1, Nat.succ_mul]
        omega
      have j168 : ∀ t : Nat, t = min (rmk key) (W.1 - k * rmk key) → J_X12_packOne_168 g (OP g σ R X hh o (packS key W) A) σ1 (R 300) (nI o) (nI (rmk key)) x (nI t) (nI (64 * o + k)) (R (rx 10)) := by
        intro t ht
        refine q_X12_packOne_168 _ _ _ _ _ _ _ (h1.s 10 rfl rfl rfl (show _ < 512 by omega) fun σ2 h2 s2 => h2.r 11 (fun _ _ _ => rfl) (h2.a 11 rfl rfl rfl (show o < 8 from ho) (h2.s 11 rfl rfl rfl (show o < 8 from ho) fun σ3 h3 s3 => ?_)))
        refine ih (k + 1) σ3 _ _ (by omega) hsub h3 ((f1.e (Or.inr rfl) (by omega)).n (Or.inr (Or.inr rfl))) ((s1.trans s2).trans s3) ⟨a9, ?_, a7, a8, fun j hj => ?_⟩
        · show upd (A1 11) o (A1 11 o + 1) o = _
          rw [upd_same, a11, nI_1]
        · show upd (A1 10) (64 * o + k) (nI t) (64 * o + j) = _
          by_cases c : j = k
          · subst c
            rw [upd_same, ht]
          · rw [upd_ne _ _ (by omega)]
            exact a10 j (by omega)
      refine q_X12_packOne_136 _ _ _ _ ⟨fun c => ?_, fun _ => h1.r 10 (fun _ _ _ => rfl) (h1.r 11 (fun _ _ _ => rfl) (h1.a 11 rfl rfl rfl (show o < 8 from ho) ?_))⟩
      · have := (le_n (n := 0) (by decide)).mp c
        rw [hx] at this
        omega
      · rw [a11, i64]
        refine ⟨fun c => ?_, fun c => ?_⟩
        · rw [hxe] at c
          have c := (nI_leI (by omega) (by omega)).mp c
          exact j168 (rmk key) (by omega)
        · rw [hxe] at c
          have c : ¬ rmk key ≤ W.1 - k * rmk key := fun z => c (nI_le z (by omega))
          have := j168 (W.1 - k * rmk key) (by omega)
          rw [← hxe] at this
          exact this
  -- the rows, one after another
  have j4 : ∀ (d s : Nat) (σ1 : Hs) (A1 : Nat → Nat → Int32), s + d = 64 → RC g σ1 R X A1 hh → Ofr o A A1 → Sm R T3 σ σ1 → A1 7 o = nI w.2.2.2.2 → (∀ j, j < (reb1 f key tk w s).1 → A1 8 (64 * o + j) = nI ((reb1 f key tk w s).2.1 j)) → J_X12_packOne_4 g (OP g σ R X hh o (packS key W) A) σ1 (R 300) (nI o) (nI (reb1 f key tk w s).1) (nI s) := by
    intro d
    induction d with
    | zero =>
      intro s σ1 A1 hd h1 f1 s1 a7 a8
      have hd : s = 64 := hd
      rw [hd, hW] at a8 ⊢
      refine q_X12_packOne_4 _ _ _ _ ⟨fun _ => h1.r 9 (fun _ _ _ => rfl) (h1.s 9 rfl rfl rfl (show o < 8 from ho) fun σ2 h2 s2 => h2.r 5 (fun _ _ _ => rfl) (h2.a 5 rfl rfl rfl (show o < 8 from ho) ?_)), fun c => absurd (nI_le (a := 64) (by omega) (by omega)) c⟩
      show Do g M_X12_roomOf 0 0 [.int (A1 5 o)] σ2 _
      rw [f1.1 5 (by decide) (by decide) (by decide) (by decide) (by decide), e5]
      refine (rr_roomOf hk2).use (h2.r 11 (fun _ _ _ => rfl) (h2.s 11 rfl rfl rfl (show o < 8 from ho) fun σ3 h3 s3 => ?_))
      refine j136 (lvs (rmk key) W.1) 0 σ3 _ _ (by omega) (by rw [I_n (by omega), Nat.zero_mul]; exact (Int.sub_zero _).symm) h3 ((f1.n (Or.inr (Or.inl rfl))).n (Or.inr (Or.inr rfl))) ((s1.trans s2).trans s3) ⟨?_, ?_, a7, a8, fun j hj => absurd hj (by omega)⟩
      · show upd (A1 9) o (nI W.1) o = _
        rw [upd_same]
      · show upd (A1 11) o 0 o = _
        rw [upd_same]; rfl
    | succ d ih =>
      intro s σ1 A1 hd h1 f1 s1 a7 a8
      have hE := reb1_in f key tk w s (by omega)
      have hsE : (fun t => tk t && decide (t < s)) s = false := by show (tk s && decide (s < s)) = false; rw [decide_eq_false (by omega), Bool.and_false]
      have hlt := hE.lt (show s < 64 by omega) hsE
      have hps := hE.plcs hsE
      have hple := plc_le f key (reb1 f key tk w s) s
      refine q_X12_packOne_4 _ _ _ _ ⟨fun c => absurd ((nI_leI (a := 64) (by decide) (by omega)).mp c) (by omega), fun _ => h1.r 0 (fun _ _ _ => rfl) (h1.a 0 rfl rfl rfl (show s < 64 by omega) ?_)⟩
      rw [f1.1 0 (by decide) (by decide) (by decide) (by decide) (by decide), h0 s (by omega)]
      refine ⟨fun c => ?_, fun c => ?_⟩
      · have c := b2_0.mp c
        have e : reb1 f key tk w (s + 1) = reb1 f key tk w s := by simp only [reb1]; rw [if_neg (by rw [c]; decide)]
        have ih := ih (s + 1) σ1 A1 (by omega) h1 f1 s1 a7
        rw [e] at ih
        rw [nI_1]
        exact ih a8
      · have c := b2_n0.mp c
        have e : reb1 f key tk w (s + 1) = ((reb1 f key tk w s).1 + 1, insN (reb1 f key tk w s).2.1 (plc f key (reb1 f key tk w s) s) (reb1 f key tk w s).1 s, w.2.2.1, w.2.2.2.1, w.2.2.2.2) := by simp only [reb1]; rw [if_pos c]
        have ih := fun σ2 A2 => ih (s + 1) σ2 A2 (by omega)
        rw [e] at ih
        generalize hV : reb1 f key tk w s = V at *
        generalize hPp : plc f key V s = p at *
        have j22 : ∀ (m k : Nat) (σ2 : Hs) (A2 : Nat → Nat → Int32), k = p + m → k ≤ V.1 → RC g σ2 R X A2 hh → Ofr o A A2 → Sm R T3 σ σ2 → A2 7 o = nI w.2.2.2.2 → ShU (A2 8) o V.2.1 V.1 k → J_X12_packOne_22 g (OP g σ R X hh o (packS key W) A) σ2 (R 300) (nI o) (nI V.1) (nI s) (nI k) := by
          intro m
          induction m with
          | zero =>
            intro k σ2 A2 hk2' hkn h2 f2 s2 b7 sh
            have hk2' : k = p := hk2'
            subst hk2'
            have fin : ∀ σ3, RC g σ3 R X (setA A2 8 (upd (A2 8) (64 * o + k) (nI s))) hh → Sm R T3 σ2 σ3 → J_X12_packOne_4 g (OP g σ R X hh o (packS key W) A) σ3 (R 300) (nI o) (nI V.1 + 1) (nI s + 1) := by
              intro σ3 h3 s3
              rw [nI_1, nI_1]
              exact ih σ3 _ h3 (f2.e (Or.inl rfl) (by omega)) (s2.trans s3) b7 (fun j hj => sh.ends hple j hj)
            refine q_X12_packOne_22 _ _ _ _ _ ⟨fun _ => h2.r 8 (fun _ _ _ => rfl) (h2.s 8 rfl rfl (i64 o k) (show _ < 512 by omega) fin), fun c2 => h2.r 5 (fun _ _ _ => rfl) (h2.a 5 rfl rfl rfl (show o < 8 from ho) (h2.r 8 (fun _ _ _ => rfl) ?_))⟩
            have hk0 : 0 < k := Nat.pos_of_ne_zero fun z => c2 (by rw [z]; exact nI_le (b := 0) (Nat.le_refl 0) (by decide))
            refine h2.a 8 rfl rfl (i64m o k hk0) (show _ < 512 by omega) ⟨h2.rc, ?_⟩
            rw [f2.1 5 (by decide) (by decide) (by decide) (by decide) (by decide), e5, sh.1 (k - 1) (by omega) (by omega)]
            refine (rr_isAhead h2 (f := f) (fun j hj => by rw [f2.1 1 (by decide) (by decide) (by decide) (by decide) (by decide)]; exact ha j hj) hk (show s < 64 by omega) (hE.2.1 (k - 1) (by omega)).1).use ⟨fun _ => h2.r 8 (fun _ _ _ => rfl) (h2.s 8 rfl rfl (i64 o k) (show _ < 512 by omega) fin), fun c3 => ?_⟩
            have a1 := hps.1 (k - 1) (by omega)
            have := ah_trans a1 (b2_n0.mp c3)
            rw [ah_irr] at this
            cases this
          | succ m ihm =>
            intro k σ2 A2 hk2' hkn h2 f2 s2 b7 sh
            refine q_X12_packOne_22 _ _ _ _ _ ⟨fun c2 => absurd ((nI_leI (b := 0) (by omega) (by decide)).mp c2) (by omega), fun c2 => h2.r 5 (fun _ _ _ => rfl) (h2.a 5 rfl rfl rfl (show o < 8 from ho) (h2.r 8 (fun _ _ _ => rfl) (h2.a 8 rfl rfl (i64m o k (by omega)) (show _ < 512 by omega) ⟨h2.rc, ?_⟩)))⟩
            have hv := sh.1 (k - 1) (by omega) (by omega)
            rw [f2.1 5 (by decide) (by decide) (by decide) (by decide) (by decide), e5, hv]
            refine (rr_isAhead h2 (f := f) (fun j hj => by rw [f2.1 1 (by decide) (by decide) (by decide) (by decide) (by decide)]; exact ha j hj) hk (show s < 64 by omega) (hE.2.1 (k - 1) (by omega)).1).use ⟨fun c3 => ?_, fun _ => h2.r 8 (fun _ _ _ => rfl) (h2.r 8 (fun _ _ _ => rfl) (h2.a 8 rfl rfl (i64m o k (by omega)) (show _ < 512 by omega) (h2.s 8 rfl rfl (i64 o k) (show _ < 512 by omega) fun σ3 h3 s3 => ?_)))⟩
            · have := hps.2 (k - 1) (by omega) (by omega)
              rw [b2_0.mp c3] at this
              cases this
            · rw [nI_m1 (by omega)]
              refine ihm (k - 1) σ3 _ (by omega) (by omega) h3 (f2.e (Or.inl rfl) (by omega)) (s2.trans s3) b7 ?_
              show ShU (upd (A2 8) _ _) o _ _ _
              exact sh.step (by omega) hkn
        exact j22 (V.1 - p) V.1 σ1 A1 (by omega) (Nat.le_refl _) h1 f1 s1 a7 (ShU.start a8)
  exact q_X12_packOne _ _ (j4 64 0 σ A rfl h Ofr.rfl Sm.refl e7 (fun j hj => absurd hj (Nat.not_lt_zero _)))
end RPK
