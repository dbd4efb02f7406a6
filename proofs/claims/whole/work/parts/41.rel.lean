/-! What the reference holds for a state; its first reads. -/
def tabR (f : Nat → Int32) (tk : Nat → Bool) (wd : Nat) (x2 x3 : Int32) (a0 a1 : Nat → Int32) : Prop := x2 = nI (fa_cnt tk 64) ∧ x3 = nI wd ∧ (∀ s, s < 64 → a0 s = b2 (tk s)) ∧ ∀ k, k < 256 → a1 k = f k
def OL (o : Nat) (w : OS) (a7 a8 a9 a10 a11 : Nat → Int32) : Prop := a9 o = nI w.1 ∧ a11 o = nI w.2.2.1 ∧ a7 o = nI w.2.2.2.2 ∧ (∀ i, i < w.1 → a8 (64 * o + i) = nI (w.2.1 i)) ∧ ∀ k, k < w.2.2.1 → a10 (64 * o + k) = nI (w.2.2.2.1 k)
def ordR (told : Nat) (B : Nat → OD) (x4 : Int32) (a5 a6 a7 a8 a9 a10 a11 : Nat → Int32) : Prop := x4 = nI told ∧ ∀ o, o < told → a5 o = nI (B o).1 ∧ a6 o = b2 (B o).2.2 ∧ OL o (B o).2.1 a7 a8 a9 a10 a11
def pagR (n : Nat) (C : Nat → Nat) (x12 : Int32) (a13 : Nat → Int32) : Prop := x12 = nI n ∧ ∀ k, k < n → a13 k = nI (C k)
def queR (qn : Nat) (Q : Nat → QD) (x14 : Int32) (a15 a16 a17 a18 : Nat → Int32) : Prop := x14 = nI qn ∧ ∀ q, q < qn → (∀ c, c < 4 → a15 (8 * q + 2 * c) = b_lo (Q q) c ∧ a15 (8 * q + 2 * c + 1) = b_hi (Q q) c) ∧ a16 q = nI (mk4 (Q q).2.2.1) ∧ a17 q = (Q q).2.2.2.1 ∧ a18 q = (Q q).2.2.2.2
def picR (pr : Nat) (P : Nat → PD) (x24 : Int32) (a22 a23 : Nat → Int32) : Prop := x24 = nI pr ∧ ∀ c, c < 4 → a22 c = b2 (P c).1 ∧ ((P c).1 = false → ∀ i, i < 4 → (P c).2.1 i = 0) ∧ ((P c).1 = true → ∀ i, i < 4 → a23 (12 * c + 3 * i) = nI ((P c).2.1 i) ∧ ((P c).2.1 i ≠ 0 → a23 (12 * c + 3 * i + 1) = (P c).2.2.1 i ∧ a23 (12 * c + 3 * i + 2) = (P c).2.2.2 i))
def marR (mk : Nat) (M : Nat → MT) (x25 : Int32) (a26 a27 : Nat → Int32) : Prop := x25 = nI mk ∧ ∀ m, m < mk → (∀ s, s < 64 → a26 (64 * m + s) = b2 ((M m).2 s)) ∧ ∀ k, k < 256 → a27 (256 * m + k) = (M m).1 k
def RS (S : SS) (X : Nat → Int32) (A : Nat → Nat → Int32) : Prop := tabR (zf S) (zt S) (zw S) (X 2) (X 3) (A 0) (A 1) ∧ ordR (zo S) (zB S) (X 4) (A 5) (A 6) (A 7) (A 8) (A 9) (A 10) (A 11) ∧ pagR (zn S) (zC S) (X 12) (A 13) ∧ queR (zq S) (zQ S) (X 14) (A 15) (A 16) (A 17) (A 18) ∧ (X 19 = nI (zu S) ∧ X 20 = nI (zc S) ∧ X 21 = nI (zs S)) ∧ picR (zr S) (zP S) (X 24) (A 22) (A 23) ∧ marR (zm S) (zM S) (X 25) (A 26) (A 27)
def RQ (g : GG) (σ : Hs) (R : Nat → Nat) (S : SS) (X : Nat → Int32) (A : Nat → Nat → Int32) (hh : Int64) : Prop := RC g σ R X A hh ∧ RS S X A
def Iv (S : SS) : Prop := Inv S ∧ (2 ≤ zw S ∧ zw S ≤ 8) ∧ (∀ i, i < zq S → QOk (zQ S i)) ∧ zu S < 100
def RM (g : GG) (σ : Hs) (R : Nat → Nat) (S : SS) : Prop := ∃ X A hh, RQ g σ R S X A hh
def RP (g : GG) (σ : Hs) (R : Nat → Nat) (p : Int32 × SS) : Option Value → Hs → Prop := kI fun x σ' => x = p.1 ∧ RM g σ' R p.2 ∧ Sm R T3 σ σ'
theorem i64 (o k : Nat) : 64 * nI o + nI k = nI (64 * o + k) := by rw [show (64 : Int32) * nI o = nI (64 * o) from pk_mul 64 o, nI_add]
theorem i4 (o k : Nat) : 4 * nI o + nI k = nI (4 * o + k) := by rw [show (4 : Int32) * nI o = nI (4 * o) from pk_mul 4 o, nI_add]
theorem i82 (q c : Nat) : 8 * nI q + 2 * nI c = nI (8 * q + 2 * c) := by rw [show (8 : Int32) * nI q = nI (8 * q) from pk_mul 8 q, show (2 : Int32) * nI c = nI (2 * c) from pk_mul 2 c, nI_add]
theorem bs_one : ∀ m, m < 256 → ∀ i, i < 8 → (((nI m >>> (nI i &&& 31)) &&& 1) = 1 ↔ m.testBit i = true) := by decide +kernel
section RLD
variable {g : GG} {σ : Hs} {R : Nat → Nat} {S : SS} {X : Nat → Int32} {A : Nat → Nat → Int32} {hh : Int64}
theorem RP.rd {M : MI} {as : List Value} {v : Int32} (h : RQ g σ R S X A hh) (r : Rd g M as σ v) : Do g M 0 0 as σ (RP g σ R (v, S)) := Do.mono r (by rintro _ σ' ⟨x, rfl, rfl, rfl⟩; exact ⟨_, rfl, rfl, ⟨X, A, hh, h⟩, Sm.refl⟩)
theorem RP.no {v : Int32} (h : RQ g σ R S X A hh) : RP g σ R (v, S) (some (.int v)) σ := ⟨_, rfl, rfl, ⟨X, A, hh, h⟩, Sm.refl⟩
theorem RP.go {σ' : Hs} {p : Int32 × SS} {v : Int32} {X' : Nat → Int32} {A' : Nat → Nat → Int32} {hh' : Int64} (h : RC g σ' R X' A' hh') (r : RS p.2 X' A') (s : Sm R T3 σ σ') (e : v = p.1) : RP g σ R p (some (.int v)) σ' := ⟨_, rfl, e, ⟨X', A', hh', h, r⟩, s⟩
/-- who is ahead -/
theorem rr_isAhead {f : Nat → Int32} (h : RC g σ R X A hh) (ha : ∀ k, k < 256 → A 1 k = f k) {key s t : Nat} (hk : kok key) (hs : s < 64) (ht : t < 64) : Rd g M_X12_isAhead [.ref (R 300), .int (nI key), .int (nI s), .int (nI t)] σ (b2 (ah f key s t)) := by
  have hw := kw_le key
  have hk2 : key < 2 ^ 31 := by have := hk.2.1; omega
  have loop : ∀ (r i : Nat), i + r = kw key → J_X12_isAhead_3 g (kI fun x σ' => σ' = σ ∧ x = b2 (ahG f key s t i r)) σ (R 300) (nI key) (nI s) (nI t) (nI i) := by
    intro r
    induction r with
    | zero =>
      intro i hi
      refine q_X12_isAhead_3 _ _ _ _ _ ((rr_keySize hk2).use ⟨fun _ => ⟨fun c => rd_i ?_, fun c => rd_i ?_⟩, fun c => absurd (nI_le (by omega) (by omega)) c⟩)
      · have c := (nI_leI (by omega) (by omega)).mp c
        simp only [ahG]; rw [decide_eq_false (by omega)]; rfl
      · have c : ¬ t ≤ s := fun z => c (nI_le z (by omega))
        simp only [ahG]; rw [decide_eq_true (by omega)]; rfl
    | succ r ih =>
      intro i hi
      have hc := kcol_lt key i
      refine q_X12_isAhead_3 _ _ _ _ _ ((rr_keySize hk2).use ⟨fun c => absurd ((nI_leI (by omega) (by omega)).mp c) (by omega), fun _ => h.r 1 (fun _ _ _ => rfl) ((rr_col hk (by omega)).use ?_)⟩)
      refine h.a 1 rfl rfl (i4 s (kcol key i)) (by show _ < 256; omega) (h.r 1 (fun _ _ _ => rfl) ((rr_col hk (by omega)).use ?_))
      refine h.a 1 rfl rfl (i4 t (kcol key i)) (by show _ < 256; omega) ?_
      rw [ha _ (by omega), ha _ (by omega)]
      refine ⟨fun c => ?_, fun c => ⟨fun c2 => rd_i ?_, fun c2 => rd_i ?_⟩⟩
      · rw [nI_1]
        have h1 := ih (i + 1) (by omega)
        have e : ahG f key s t i (r + 1) = ahG f key s t (i + 1) r := by simp only [ahG]; rw [if_pos c]
        rw [e]
        exact h1
      · simp only [ahG]; rw [if_neg c, decide_eq_false (fun z => (fa_of_lt z).2.1 c2)]; rfl
      · simp only [ahG]; rw [if_neg c, decide_eq_true (fa_of_nle c2)]; rfl
  exact q_X12_isAhead _ _ _ _ (loop (kw key) 0 (by omega))
theorem hgtN_stop : ∀ (d n : Nat), n ≤ 1 → hgtN d n = 0 ∧ szN d n = 0
  | 0, _, _ => ⟨rfl, rfl⟩
  | d + 1, n, h => ⟨if_neg (by omega), if_neg (by omega)⟩
theorem rr_heightOf (h : RC g σ R X A hh) {o l : Nat} (ho : o < 8) (hl : A 11 o = nI l) (h64 : l ≤ 64) : Rd g M_X12_heightOf [.ref (R 300), .int (nI o)] σ (nI (hgt l)) := by
  have loop : ∀ (d n v : Nat), n ≤ 4 ^ d → n ≤ 64 → v + d ≤ 8 → J_X12_heightOf_9 g (kI fun x σ' => σ' = σ ∧ x = nI (v + hgtN d n)) σ (nI v) (nI n) := by
    intro d
    induction d with
    | zero =>
      intro n v h1 h2 h3
      exact q_X12_heightOf_9 _ _ ⟨fun _ => rd_i rfl, fun c => absurd ((le_n (n := 1) (by decide)).mpr (by rw [I_n (by omega)]; simp at h1; omega)) c⟩
    | succ d ih =>
      intro n v h1 h2 h3
      refine q_X12_heightOf_9 _ _ ⟨fun c => rd_i ?_, fun c => ?_⟩
      · have c := (le_n (n := 1) (by decide)).mp c
        rw [I_n (by omega)] at c
        rw [(hgtN_stop (d + 1) n (by omega)).1]
        rfl
      · have c := nle_n (n := 1) (by decide) c
        rw [I_n (by omega)] at c
        have hp : 4 ^ (d + 1) = 4 * 4 ^ d := by rw [Nat.pow_succ]; omega
        rw [show nI n + 3 = nI (n + 3) from nI_add n 3, show nI (n + 3) / 4 = nI ((n + 3) / 4) from pk_div (d := 4) (by omega) (by decide) (by decide), nI_1]
        have h4 := ih ((n + 3) / 4) (v + 1) (by omega) (by omega) (by omega)
        simp only [hgtN]
        rw [if_pos (by omega), show v + (hgtN d ((n + 3) / 4) + 1) = v + 1 + hgtN d ((n + 3) / 4) by omega]
        exact h4
  refine q_X12_heightOf _ _ (h.r 11 (fun _ _ _ => rfl) (h.a 11 rfl rfl rfl ho ?_))
  rw [hl]
  have h0 := loop 8 l 0 (by omega) h64 (by omega)
  rw [Nat.zero_add] at h0
  exact h0
theorem rr_sizeOf (h : RC g σ R X A hh) {o l : Nat} (ho : o < 8) (hl : A 11 o = nI l) (h64 : l ≤ 64) : Rd g M_X12_sizeOf [.ref (R 300), .int (nI o)] σ (nI (szO l)) := by
  have loop : ∀ (d n v : Nat), n ≤ 4 ^ d → n ≤ 64 → J_X12_sizeOf_14 g (kI fun x σ' => σ' = σ ∧ x = nI (v + szN d n)) σ (nI v) (nI n) := by
    intro d
    induction d with
    | zero =>
      intro n v h1 h2
      exact q_X12_sizeOf_14 _ _ ⟨fun _ => rd_i rfl, fun c => absurd ((le_n (n := 1) (by decide)).mpr (by rw [I_n (by omega)]; simp at h1; omega)) c⟩
    | succ d ih =>
      intro n v h1 h2
      refine q_X12_sizeOf_14 _ _ ⟨fun c => rd_i ?_, fun c => ?_⟩
      · have c := (le_n (n := 1) (by decide)).mp c
        rw [I_n (by omega)] at c
        rw [(hgtN_stop (d + 1) n (by omega)).2]
        rfl
      · have c := nle_n (n := 1) (by decide) c
        rw [I_n (by omega)] at c
        have hp : 4 ^ (d + 1) = 4 * 4 ^ d := by rw [Nat.pow_succ]; omega
        rw [show nI n + 3 = nI (n + 3) from nI_add n 3, show nI (n + 3) / 4 = nI ((n + 3) / 4) from pk_div (d := 4) (by omega) (by decide) (by decide), nI_add]
        have h4 := ih ((n + 3) / 4) (v + (n + 3) / 4) (by omega) (by omega)
        simp only [szN]
        rw [if_pos (by omega), show v + (szN d ((n + 3) / 4) + (n + 3) / 4) = v + (n + 3) / 4 + szN d ((n + 3) / 4) by omega]
        exact h4
  refine q_X12_sizeOf _ _ (h.r 11 (fun _ _ _ => rfl) (h.a 11 rfl rfl rfl ho (h.r 11 (fun _ _ _ => rfl) (h.a 11 rfl rfl rfl ho ?_))))
  rw [hl]
  exact loop 8 l l (by omega) h64
theorem rr_isOrder (h : RQ g σ R S X A hh) (h8 : zo S ≤ 8) (x : Int32) : Rd g M_X12_isOrder [.ref (R 300), .int x] σ (b2 (isO (zo S) (zB S) x)) := by
  obtain ⟨hc, ht, ho, -⟩ := h
  unfold isO
  refine q_X12_isOrder _ _ (hc.x 4 (fun _ _ _ => rfl) ?_)
  rw [ho.1]
  refine (rd_inQ x (zo S) (by omega)).use ⟨fun c => rd_i ?_, fun c => hc.r 6 (fun _ _ _ => rfl) ?_⟩
  · rw [b2_0.mp c]; rfl
  · have c := b2_n0.mp c
    obtain ⟨o, hoo, rfl⟩ := inR_of c (by omega)
    refine hc.a 6 rfl rfl rfl (show o < 8 by omega) ?_
    rw [(ho.2 o hoo).2.1, c, Bool.true_and, nn_i (by omega)]
    refine ⟨fun c2 => rd_i ?_, fun c2 => rd_i ?_⟩
    · rw [b2_n0.mp c2]; rfl
    · rw [b2_0.mp c2]; rfl
theorem rr_isQuestion (h : RQ g σ R S X A hh) (h8 : zq S ≤ 8) (x : Int32) : Rd g M_X12_isQuestion [.ref (R 300), .int x] σ (b2 (inR x (zq S))) := by
  obtain ⟨hc, ht, ho, hp, hq, -⟩ := h
  refine q_X12_isQuestion _ _ (hc.x 14 (fun _ _ _ => rfl) ?_)
  rw [hq.1]
  exact (rd_inQ x (zq S) (by omega)).use ⟨b2_nar _, rd_i rfl⟩
theorem rr_isSlot (h : RQ g σ R S X A hh) (x : Int32) : Rd g M_X12_isSlot [.ref (R 300), .int x] σ (b2 (isR S x)) := by
  obtain ⟨hc, ht, -⟩ := h
  unfold isR
  refine q_X12_isSlot _ _ ((rd_inR x 63 (by decide)).use ⟨fun c => rd_i ?_, fun c => hc.r 0 (fun _ _ _ => rfl) ?_⟩)
  · rw [b2_0.mp c]; rfl
  · have c := b2_n0.mp c
    obtain ⟨s, hs, rfl⟩ := inR_of c (by decide)
    refine hc.a 0 rfl rfl rfl (show s < 64 from hs) ?_
    rw [ht.2.2.1 s hs, c, Bool.true_and, nn_i (by omega)]
    refine ⟨fun c2 => rd_i ?_, fun c2 => rd_i ?_⟩
    · rw [b2_0.mp c2]; rfl
    · rw [b2_n0.mp c2]; rfl
theorem rr_get (h : RQ g σ R S X A hh) (x y : Int32) : Rd g M_X12_get [.ref (R 300), .int x, .int y] σ (v_get S x y) := by
  obtain ⟨hc, ht, -⟩ := h
  unfold v_get
  refine q_X12_get _ _ _ ((rd_inR x 63 (by decide)).use ⟨fun c => rd_i ?_, fun c => (rd_inR y 3 (by decide)).use ⟨fun c2 => hc.r 0 (fun _ _ _ => rfl) ?_, fun c2 => rd_i ?_⟩⟩)
  · rw [if_f (b2_0.mp c)]
  · have c := b2_n0.mp c
    have c2 := b2_n0.mp c2
    obtain ⟨s, hs, rfl⟩ := inR_of c (by decide)
    obtain ⟨j, hj, rfl⟩ := inR_of c2 (by decide)
    refine hc.a 0 rfl rfl rfl (show s < 64 from hs) ?_
    rw [if_t c, if_t c2, nn_i (by omega), nn_i (by omega), ht.2.2.1 s hs]
    refine ⟨fun c3 => rd_i ?_, fun c3 => hc.r 1 (fun _ _ _ => rfl) (hc.a 1 rfl rfl (i4 s j) (show _ < 256 by omega) (rd_i ?_))⟩
    · rw [if_f (b2_0.mp c3)]
    · rw [if_t (b2_n0.mp c3), ht.2.2.2 _ (by omega)]
  · rw [if_t (b2_n0.mp c), if_f (b2_0.mp c2)]
theorem rr_aboutOf (h : RQ g σ R S X A hh) (v : Iv S) {o w : Nat} (ho : o < zo S) (hw : w < 5) : Rd g M_X12_aboutOf [.ref (R 300), .int (nI o), .int (nI w)] σ (v_abo (zB S o) (nI w)) := by
  obtain ⟨hc, ht, hor, -⟩ := h
  obtain ⟨e5, e6, e9, e11, e7, -⟩ := hor.2 o ho
  have h8 := v.1.1.2.2
  have hok := (v.1.1.1 o ho).2.1
  have hl := hok.l_le
  have hl2 := hok.1
  unfold v_abo
  refine q_X12_aboutOf _ _ _ ⟨fun c => ⟨fun c1 => ⟨fun c2 => ⟨fun c3 => hc.r 7 (fun _ _ _ => rfl) (hc.a 7 rfl rfl rfl (show o < 8 by omega) (rd_i ?_)), fun c3 => ⟨hc.rc, (rr_sizeOf hc (by omega) e11 (by omega)).use (rd_i ?_)⟩⟩, fun c2 => ⟨hc.rc, (rr_heightOf hc (by omega) e11 (by omega)).use (rd_i ?_)⟩⟩, fun c1 => hc.r 11 (fun _ _ _ => rfl) (hc.a 11 rfl rfl rfl (show o < 8 by omega) (rd_i ?_))⟩, fun c => hc.r 5 (fun _ _ _ => rfl) (hc.a 5 rfl rfl rfl (show o < 8 by omega) (rd_i ?_))⟩
  · have e4 : nI w = 4 := by
      have : w ≠ 0 := fun z => c (by rw [z]; rfl)
      have : w ≠ 1 := fun z => c1 (by rw [z]; rfl)
      have : w ≠ 2 := fun z => c2 (by rw [z]; rfl)
      have : w ≠ 3 := fun z => c3 (by rw [z]; rfl)
      rw [show w = 4 by omega]; rfl
    rw [if_neg c, if_neg c1, if_neg c2, if_neg c3, if_pos e4, e7]
  · rw [if_neg c, if_neg c1, if_neg c2, if_pos c3]
  · rw [if_neg c, if_neg c1, if_pos c2]
  · rw [if_neg c, if_pos c1, e11]
  · rw [if_pos c, e5]
theorem rr_about (h : RQ g σ R S X A hh) (v : Iv S) (x y : Int32) : Rd g M_X12_about [.ref (R 300), .int x, .int y] σ (v_about S x y) := by
  have h8 := v.1.1.2.2
  unfold v_about
  refine q_X12_about _ _ _ ⟨h.1.rc, (rr_isOrder h h8 x).use ⟨fun c => (rd_inR y 4 (by decide)).use ⟨fun c2 => rd_i ?_, fun c2 => ⟨h.1.rc, ?_⟩⟩, fun c => rd_i ?_⟩⟩
  · rw [if_t (b2_n0.mp c)]
    have c2 := b2_0.mp c2
    unfold v_abo
    have e : ∀ k, k < 5 → y ≠ nI k := fun k hk z => by rw [z, inR_y hk (by decide)] at c2; cases c2
    rw [if_neg (show ¬ y = 0 from e 0 (by omega)), if_neg (show ¬ y = 1 from e 1 (by omega)), if_neg (show ¬ y = 2 from e 2 (by omega)), if_neg (show ¬ y = 3 from e 3 (by omega)), if_neg (show ¬ y = 4 from e 4 (by omega))]
  · have c := b2_n0.mp c
    obtain ⟨o, ho, h8', hd, rfl⟩ := isO_of h8 c
    obtain ⟨w, hw, rfl⟩ := inR_of (b2_n0.mp c2) (by decide)
    rw [if_t c, nn_i (by omega)]
    exact (rr_aboutOf h v ho hw).use (rd_i rfl)
  · rw [if_f (b2_0.mp c)]
theorem rr_entry (h : RQ g σ R S X A hh) (v : Iv S) (x y : Int32) : Rd g M_X12_entry [.ref (R 300), .int x, .int y] σ (v_entry S x y) := by
  have h8 := v.1.1.2.2
  unfold v_entry
  refine q_X12_entry _ _ _ ⟨h.1.rc, (rr_isOrder h h8 x).use ⟨fun c => h.1.r 9 (fun _ _ _ => rfl) ?_, fun c => rd_i ?_⟩⟩
  · have c := b2_n0.mp c
    obtain ⟨o, ho, h8', hd, rfl⟩ := isO_of h8 c
    obtain ⟨-, -, e9, -, -, e8, -⟩ := h.2.2.1.2 o ho
    have hn := (v.1.1.1 o ho).2.1.1
    rw [if_t c, nn_i (by omega)]
    refine h.1.a 9 rfl rfl rfl h8' ?_
    rw [e9]
    refine (rd_inQ y _ (by omega)).use ⟨fun c2 => rd_i ?_, fun c2 => h.1.r 8 (fun _ _ _ => rfl) ?_⟩
    · have c2 := of_decide_eq_false (b2_0.mp c2)
      unfold v_ent
      rw [if_neg c2]
    · have c2 := b2_n0.mp c2
      obtain ⟨i, hi, rfl⟩ := inR_of c2 (by omega)
      refine h.1.a 8 rfl rfl (i64 o i) (show _ < 512 by omega) (rd_i ?_)
      unfold v_ent
      rw [if_pos (of_decide_eq_true c2), nn_i (by omega), e8 i hi]
  · rw [if_f (b2_0.mp c)]
theorem rr_leaf (h : RQ g σ R S X A hh) (v : Iv S) (x y : Int32) : Rd g M_X12_leaf [.ref (R 300), .int x, .int y] σ (v_leaf S x y) := by
  have h8 := v.1.1.2.2
  unfold v_leaf
  refine q_X12_leaf _ _ _ ⟨h.1.rc, (rr_isOrder h h8 x).use ⟨fun c => h.1.r 11 (fun _ _ _ => rfl) ?_, fun c => rd_i ?_⟩⟩
  · have c := b2_n0.mp c
    obtain ⟨o, ho, h8', hd, rfl⟩ := isO_of h8 c
    obtain ⟨-, -, -, e11, -, -, e10⟩ := h.2.2.1.2 o ho
    have hok := (v.1.1.1 o ho).2.1
    have hn := hok.1
    have hl := hok.l_le
    rw [if_t c, nn_i (by omega)]
    refine h.1.a 11 rfl rfl rfl h8' ?_
    rw [e11]
    refine (rd_inQ y _ (by omega)).use ⟨fun c2 => rd_i ?_, fun c2 => h.1.r 10 (fun _ _ _ => rfl) ?_⟩
    · have c2 := of_decide_eq_false (b2_0.mp c2)
      unfold v_lf
      rw [if_neg c2]
    · have c2 := b2_n0.mp c2
      obtain ⟨i, hi, rfl⟩ := inR_of c2 (by omega)
      refine h.1.a 10 rfl rfl (i64 o i) (show _ < 512 by omega) (rd_i ?_)
      unfold v_lf
      rw [if_pos (of_decide_eq_true c2), nn_i (by omega), e10 i hi]
  · rw [if_f (b2_0.mp c)]
end RLD
