/-! The reference: an order's entries and leaves as they come and go. -/
def OA (o : Nat) (w : OS) (A : Nat → Nat → Int32) : Prop := OL o w (A 7) (A 8) (A 9) (A 10) (A 11)
/-- nothing but order o changed -/
def Ofr (o : Nat) (A A' : Nat → Nat → Int32) : Prop := (∀ k, k ≠ 7 → k ≠ 8 → k ≠ 9 → k ≠ 10 → k ≠ 11 → A' k = A k) ∧ ∀ j, j ≠ o → A' 7 j = A 7 j ∧ A' 9 j = A 9 j ∧ A' 11 j = A 11 j ∧ ∀ i, i < 64 → A' 8 (64 * j + i) = A 8 (64 * j + i) ∧ A' 10 (64 * j + i) = A 10 (64 * j + i)
theorem Ofr.rfl {o : Nat} {A : Nat → Nat → Int32} : Ofr o A A := ⟨fun _ _ _ _ _ _ => Eq.refl _, fun _ _ => ⟨Eq.refl _, Eq.refl _, Eq.refl _, fun _ _ => ⟨Eq.refl _, Eq.refl _⟩⟩⟩
theorem Ofr.trans {o : Nat} {A A1 A2 : Nat → Nat → Int32} (h : Ofr o A A1) (h2 : Ofr o A1 A2) : Ofr o A A2 := by
  refine ⟨fun k k1 k2 k3 k4 k5 => (h2.1 k k1 k2 k3 k4 k5).trans (h.1 k k1 k2 k3 k4 k5), fun j hj => ?_⟩
  obtain ⟨a1, a2, a3, a4⟩ := h.2 j hj
  obtain ⟨b1, b2, b3, b4⟩ := h2.2 j hj
  exact ⟨b1.trans a1, b2.trans a2, b3.trans a3, fun i hi => ⟨(b4 i hi).1.trans (a4 i hi).1, (b4 i hi).2.trans (a4 i hi).2⟩⟩
theorem Ofr.n {o k : Nat} {x : Int32} {A A1 : Nat → Nat → Int32} (h : Ofr o A A1) (hk : k = 7 ∨ k = 9 ∨ k = 11) : Ofr o A (setA A1 k (upd (A1 k) o x)) := by
  refine h.trans ⟨fun j k1 k2 k3 k4 k5 => setA_ne _ _ (by omega), fun j hj => ?_⟩
  rcases hk with e | e | e
  · subst e; rw [setA_at, upd_ne _ _ hj, setA_ne _ _ (by decide), setA_ne _ _ (by decide), setA_ne _ _ (by decide), setA_ne _ _ (by decide)]; exact ⟨Eq.refl _, Eq.refl _, Eq.refl _, fun _ _ => ⟨Eq.refl _, Eq.refl _⟩⟩
  · subst e; rw [setA_at, upd_ne _ _ hj, setA_ne _ _ (by decide), setA_ne _ _ (by decide), setA_ne _ _ (by decide), setA_ne _ _ (by decide)]; exact ⟨Eq.refl _, Eq.refl _, Eq.refl _, fun _ _ => ⟨Eq.refl _, Eq.refl _⟩⟩
  · subst e; rw [setA_at, upd_ne _ _ hj, setA_ne _ _ (by decide), setA_ne _ _ (by decide), setA_ne _ _ (by decide), setA_ne _ _ (by decide)]; exact ⟨Eq.refl _, Eq.refl _, Eq.refl _, fun _ _ => ⟨Eq.refl _, Eq.refl _⟩⟩
theorem Ofr.e {o k i : Nat} {x : Int32} {A A1 : Nat → Nat → Int32} (h : Ofr o A A1) (hk : k = 8 ∨ k = 10) (hi : i < 64) : Ofr o A (setA A1 k (upd (A1 k) (64 * o + i) x)) := by
  refine h.trans ⟨fun j k1 k2 k3 k4 k5 => setA_ne _ _ (by omega), fun j hj => ?_⟩
  rcases hk with e | e
  · subst e
    rw [setA_at, setA_ne _ _ (by decide), setA_ne _ _ (by decide), setA_ne _ _ (by decide), setA_ne _ _ (by decide)]
    exact ⟨Eq.refl _, Eq.refl _, Eq.refl _, fun i' hi' => ⟨upd_ne _ _ (by omega), Eq.refl _⟩⟩
  · subst e
    rw [setA_at, setA_ne _ _ (by decide), setA_ne _ _ (by decide), setA_ne _ _ (by decide), setA_ne _ _ (by decide)]
    exact ⟨Eq.refl _, Eq.refl _, Eq.refl _, fun i' hi' => ⟨Eq.refl _, upd_ne _ _ (by omega)⟩⟩
theorem OA.fr {o o' : Nat} {w : OS} {A A' : Nat → Nat → Int32} (h : OA o' w A) (f : Ofr o A A') (ho : o' ≠ o) (h1 : w.1 ≤ 64) (h2 : w.2.2.1 ≤ 64) : OA o' w A' := by
  obtain ⟨a1, a2, a3, a4⟩ := f.2 o' ho
  obtain ⟨e9, e11, e7, e8, e10⟩ := h
  exact ⟨a2.trans e9, a3.trans e11, a1.trans e7, fun i hi => (a4 i (by omega)).1.trans (e8 i hi), fun i hi => (a4 i (by omega)).2.trans (e10 i hi)⟩
/-- entries being moved up by one, down to k -/
def ShU (a : Nat → Int32) (o : Nat) (e : Nat → Nat) (n k : Nat) : Prop := (∀ j, j ≤ k → j < n → a (64 * o + j) = nI (e j)) ∧ ∀ j, k < j → j ≤ n → a (64 * o + j) = nI (e (j - 1))
theorem ShU.start {a : Nat → Int32} {o n : Nat} {e : Nat → Nat} (h : ∀ j, j < n → a (64 * o + j) = nI (e j)) : ShU a o e n n := ⟨fun j _ hj => h j hj, fun j h1 h2 => absurd h1 (by omega)⟩
theorem ShU.step {a : Nat → Int32} {o n k : Nat} {e : Nat → Nat} (h : ShU a o e n k) (hk : 0 < k) (hn : k ≤ n) : ShU (upd a (64 * o + k) (a (64 * o + (k - 1)))) o e n (k - 1) := by
  refine ⟨fun j h1 h2 => ?_, fun j h1 h2 => ?_⟩
  · rw [upd_ne _ _ (by omega)]
    exact h.1 j (by omega) h2
  · by_cases c : j = k
    · subst c
      rw [upd_same]
      exact h.1 (j - 1) (by omega) (by omega)
    · rw [upd_ne _ _ (by omega)]
      exact h.2 j (by omega) h2
theorem ShU.ends {a : Nat → Int32} {o n p v : Nat} {e : Nat → Nat} (h : ShU a o e n p) (hp : p ≤ n) : ∀ j, j < n + 1 → upd a (64 * o + p) (nI v) (64 * o + j) = nI (insN e p n v j) := by
  intro j hj
  rcases Nat.lt_trichotomy j p with c | c | c
  · rw [upd_ne _ _ (by omega), insN_lt _ c]
    exact h.1 j (by omega) (by omega)
  · subst c
    rw [upd_same, insN_at]
  · rw [upd_ne _ _ (by omega), insN_gt _ c (by omega)]
    exact h.2 j c (by omega)
/-- entries behind p being moved down by one, up to k -/
def ShD (a : Nat → Int32) (o : Nat) (e : Nat → Nat) (p n k : Nat) : Prop := (∀ j, j < p → a (64 * o + j) = nI (e j)) ∧ (∀ j, p ≤ j → j + 1 < k → a (64 * o + j) = nI (e (j + 1))) ∧ ∀ j, k ≤ j → j < n → a (64 * o + j) = nI (e j)
theorem ShD.start {a : Nat → Int32} {o n p : Nat} {e : Nat → Nat} (h : ∀ j, j < n → a (64 * o + j) = nI (e j)) (hp : p < n) : ShD a o e p n (p + 1) := ⟨fun j hj => h j (by omega), fun j h1 h2 => absurd h1 (by omega), fun j _ hj => h j hj⟩
theorem ShD.step {a : Nat → Int32} {o n p k : Nat} {e : Nat → Nat} (h : ShD a o e p n k) (hp : p < k) (hk : k < n) : ShD (upd a (64 * o + (k - 1)) (a (64 * o + k))) o e p n (k + 1) := by
  refine ⟨fun j hj => ?_, fun j h1 h2 => ?_, fun j h1 h2 => ?_⟩
  · rw [upd_ne _ _ (by omega)]; exact h.1 j hj
  · by_cases c : j = k - 1
    · subst c
      rw [upd_same, show k - 1 + 1 = k by omega]
      exact h.2.2 k (Nat.le_refl _) hk
    · rw [upd_ne _ _ (by omega)]
      exact h.2.1 j h1 (by omega)
  · rw [upd_ne _ _ (by omega)]
    exact h.2.2 j (by omega) h2
theorem ShD.ends {a : Nat → Int32} {o n p k : Nat} {e : Nat → Nat} (h : ShD a o e p n k) (hk : n ≤ k) : ∀ j, j < n - 1 → a (64 * o + j) = nI (remN e p n j) := by
  intro j hj
  by_cases c : j < p
  · rw [remN_lt _ c]; exact h.1 j c
  · rw [remN_ge _ (by omega) (by omega)]
    exact h.2.1 j (by omega) (by omega)
def OP (g : GG) (σ : Hs) (R : Nat → Nat) (X : Nat → Int32) (hh : Int64) (o : Nat) (w : OS) (A : Nat → Nat → Int32) : Option Value → Hs → Prop := kV fun σ' => ∃ A', RC g σ' R X A' hh ∧ OA o w A' ∧ Ofr o A A' ∧ Sm R T3 σ σ'
theorem i64m (o k : Nat) (hk : 0 < k) : (64 * nI o + nI k) - 1 = nI (64 * o + (k - 1)) := by rw [i64, nI_s1 (by omega), show 64 * o + k - 1 = 64 * o + (k - 1) by omega]
theorem i64p (o k : Nat) : (64 * nI o + nI k) + 1 = nI (64 * o + (k + 1)) := by rw [i64, nI_1]; rfl
theorem i640 (o : Nat) : 64 * nI o = nI (64 * o + 0) := pk_mul 64 o
section ROR
variable {g : GG} {σ : Hs} {R : Nat → Nat} {X : Nat → Int32} {A : Nat → Nat → Int32} {hh : Int64} {f : Nat → Int32} {tk : Nat → Bool} {key o : Nat} {w : OS}
theorem wr_cut {L : Nat} (h : RC g σ R X A hh) (ho : o < 8) (ol : OA o w A) (hL : L < w.2.2.1) (hl : w.2.2.1 < 64) (hz : w.2.2.2.1 L < 2 ^ 20) : Do g M_X12_cut 0 0 [.ref (R 300), .int (nI o), .int (nI L)] σ (OP g σ R X hh o (cutS w L) A) := by
  obtain ⟨e9, e11, e7, e8, e10⟩ := ol
  have loop : ∀ (d k : Nat) (σ1 : Hs) (A1 : Nat → Nat → Int32), k = L + 1 + d → k ≤ w.2.2.1 → RC g σ1 R X A1 hh → Ofr o A A1 → Sm R T3 σ σ1 → (A1 7 = A 7 ∧ A1 8 = A 8 ∧ A1 9 = A 9 ∧ A1 11 = A 11) → ShU (A1 10) o w.2.2.2.1 w.2.2.1 k → J_X12_cut_7 g (OP g σ R X hh o (cutS w L) A) σ1 (R 300) (nI o) (nI L) (nI k) := by
    intro d
    induction d with
    | zero =>
      intro k σ1 A1 hk hkl h1 f1 s1 ⟨a7, a8, a9, a11⟩ sh
      subst hk
      refine q_X12_cut_7 _ _ _ _ ⟨fun _ => ?_, fun c => absurd (by rw [nI_1]; exact nI_le (by omega) (by omega)) c⟩
      refine h1.r 10 (fun _ _ _ => rfl) (h1.a 10 rfl rfl (i64 o L) (show _ < 512 by omega) (h1.r 10 (fun _ _ _ => rfl) ?_))
      have hv := sh.1 L (by omega) hL
      rw [hv, nI_1, show nI (w.2.2.2.1 L + 1) / 2 = nI ((w.2.2.2.1 L + 1) / 2) from pk_div (d := 2) (by omega) (by decide) (by decide), show nI (w.2.2.2.1 L) / 2 = nI (w.2.2.2.1 L / 2) from pk_div (d := 2) (by omega) (by decide) (by decide)]
      refine h1.s 10 rfl rfl (i64 o L) (show _ < 512 by omega) fun σ2 h2 s2 => h2.r 10 (fun _ _ _ => rfl) (h2.s 10 rfl rfl (i64p o L) (show _ < 512 by omega) fun σ3 h3 s3 => h3.r 11 (fun _ _ _ => rfl) (h3.a 11 rfl rfl rfl (show o < 8 from ho) (h3.s 11 rfl rfl rfl (show o < 8 from ho) fun σ4 h4 s4 => h4.r 7 (fun _ _ _ => rfl) (h4.a 7 rfl rfl rfl (show o < 8 from ho) (h4.s 7 rfl rfl rfl (show o < 8 from ho) fun σ5 h5 s5 => ⟨rfl, _, h5, ?_, (((f1.e (Or.inr rfl) (by omega)).e (Or.inr rfl) (by omega)).n (Or.inr (Or.inr rfl))).n (Or.inl rfl), (((s1.trans s2).trans s3).trans s4).trans s5⟩)))))
      refine ⟨?_, ?_, ?_, fun i hi => ?_, fun k hk => ?_⟩
      · show A1 9 o = _
        rw [a9]; exact e9
      · show upd _ o (_ + 1) o = _
        rw [upd_same, show (setA (setA A1 10 _) 10 _) 11 o = A1 11 o from rfl, a11, e11, nI_1]
        rfl
      · show upd _ o (_ + 1) o = _
        rw [upd_same]
        show A1 7 o + 1 = _
        rw [a7, e7, nI_1]
        rfl
      · show A1 8 (64 * o + i) = _
        rw [a8]; exact e8 i hi
      · show upd (upd (A1 10) (64 * o + L) (nI ((w.2.2.2.1 L + 1) / 2))) (64 * o + (L + 1)) (nI (w.2.2.2.1 L / 2)) (64 * o + k) = nI (insN (setN w.2.2.2.1 L ((w.2.2.2.1 L + 1) / 2)) (L + 1) w.2.2.1 (w.2.2.2.1 L - (w.2.2.2.1 L + 1) / 2) k)
        have hk : k < w.2.2.1 + 1 := hk
        rcases Nat.lt_trichotomy k (L + 1) with c | c | c
        · rw [insN_lt _ c, upd_ne _ _ (by omega)]
          by_cases c2 : k = L
          · subst c2
            rw [upd_same, setN_at]
          · rw [upd_ne _ _ (by omega), setN_ne _ _ c2]
            exact sh.1 k (by omega) (by omega)
        · subst c
          rw [upd_same, insN_at]
          congr 1
          omega
        · rw [insN_gt _ c (by omega), upd_ne _ _ (by omega), upd_ne _ _ (by omega), setN_ne _ _ (by omega)]
          exact sh.2 k (by omega) (by omega)
    | succ d ih =>
      intro k σ1 A1 hk hkl h1 f1 s1 ⟨a7, a8, a9, a11⟩ sh
      refine q_X12_cut_7 _ _ _ _ ⟨fun c => absurd ((nI_leI (a := k) (b := L + 1) (by omega) (by omega)).mp (by rw [nI_1] at c; exact c)) (by omega), fun _ => h1.r 10 (fun _ _ _ => rfl) (h1.r 10 (fun _ _ _ => rfl) (h1.a 10 rfl rfl (i64m o k (by omega)) (show _ < 512 by omega) (h1.s 10 rfl rfl (i64 o k) (show _ < 512 by omega) fun σ2 h2 s2 => ?_)))⟩
      rw [nI_m1 (by omega)]
      refine ih (k - 1) σ2 _ (by omega) (by omega) h2 (f1.e (Or.inr rfl) (by omega)) (s1.trans s2) ⟨a7, a8, a9, a11⟩ ?_
      show ShU (upd (A1 10) _ _) o _ _ _
      exact sh.step (by omega) hkl
  refine q_X12_cut _ _ _ (h.r 11 (fun _ _ _ => rfl) (h.a 11 rfl rfl rfl (show o < 8 from ho) ?_))
  rw [e11]
  exact loop (w.2.2.1 - (L + 1)) w.2.2.1 σ A (by omega) (Nat.le_refl _) h Ofr.rfl Sm.refl ⟨rfl, rfl, rfl, rfl⟩ (ShU.start e10)
/-- the last leaf that begins in front of p -/
theorem lf_last {z : Nat → Nat} {l p L : Nat} (hl : L < l) (h1 : L = 0 ∨ psum z L < p) (h2 : ∀ i, L < i → i < l → p ≤ psum z i) (hp : p ≤ psum z l) (hp0 : 0 < p) : lfAt z l (p - 1) = L := by
  have e : fa_first (fun k => decide (p - 1 < psum z (k + 1))) l = L := by
    refine fa_first_is hl (decide_eq_true ?_) fun j hj => decide_eq_false ?_
    · by_cases c : L + 1 < l
      · have := h2 (L + 1) (by omega) c; omega
      · rw [show L + 1 = l by omega]; omega
    · have := psum_mono z (show j + 1 ≤ L by omega)
      omega
  unfold lfAt
  rw [e, if_pos hl]
theorem wr_comeInto {s : Nat} (h : RC g σ R X A hh) (ho : o < 8) (ha : ∀ k, k < 256 → A 1 k = f k) (hk : kok key) (e5 : A 5 o = nI key) (ol : OA o w A) (hin : OIn f tk key w) (hs : s < 64) (ht : tk s = false) : Do g M_X12_comeInto 0 0 [.ref (R 300), .int (nI o), .int (nI s)] σ (OP g σ R X hh o (comeS f key w s) A) := by
  have ol0 := ol
  obtain ⟨e9, e11, e7, e8, e10⟩ := ol
  obtain ⟨hok, hE⟩ := hin
  have hn64 : w.1 < 64 := hE.lt hs ht
  have hl64 := hok.l_le
  have hps := hE.plcs (s := s) ht
  have hple := plc_le f key w s
  have hk2 : key < 2 ^ 31 := by have := hk.2.1; omega
  have hlt := lf_in (s := s) hok hple
  obtain ⟨c1a, c1b⟩ := come1_ok (s := s) hok hlt
  have hcs : comeS f key w s = (if rmk key < (come1 w (plc f key w s) (lfFor w (plc f key w s)) s).2.2.2.1 (lfFor w (plc f key w s)) then cutS (come1 w (plc f key w s) (lfFor w (plc f key w s)) s) (lfFor w (plc f key w s)) else come1 w (plc f key w s) (lfFor w (plc f key w s)) s) := rfl
  have hahead : ∀ i, i < w.1 → (ah f key (w.2.1 i) s = true ↔ i < plc f key w s) := fun i hi => by
    constructor
    · intro z
      refine Nat.lt_of_not_le fun y => ?_
      have h1 := hps.2 i y hi
      have h2 := ah_trans (f := f) (key := key) z h1
      rw [ah_irr] at h2
      cases h2
    · exact hps.1 i
  generalize hP : plc f key w s = p at *
  generalize hLf : lfFor w p = L at *
  generalize hC : come1 w p L s = C at *
  have hC1 : C.1 = w.1 + 1 := by rw [← hC]; rfl
  have hrm := rmk_le key
  have hCl : C.2.2.1 ≤ 64 := by
    have := psum_lb C.2.2.1 c1b
    omega
  have hCb : C.2.2.2.1 L < 2 ^ 20 := by
    have := psum_lb2 (k := L) C.2.2.1 c1b hlt
    omega
  have fin : ∀ (σ4 : Hs) (A4 : Nat → Nat → Int32), RC g σ4 R X A4 hh → OA o C A4 → Ofr o A A4 → Sm R T3 σ σ4 → FR σ4 (R 300) 12 10 (fun r43 => AI g σ4 r43 0 (64 * nI o + nI L) (fun i44 => FR σ4 (R 300) 12 5 (fun r45 => AI g σ4 r45 0 (nI o) (fun i46 => Do g M_X12_roomOf 0 0 [.int i46] σ4 (kI (fun i48 s47 => (i44 ≤ i48 → OP g σ R X hh o (comeS f key w s) A none s47) ∧ (¬ i44 ≤ i48 → Rc s47 (R 300) 12 ∧ Do g M_X12_cut 0 0 [.ref (R 300), .int (nI o), .int (nI L)] s47 (kV (fun s51 => OP g σ R X hh o (comeS f key w s) A none s51))))))))) := by
    intro σ4 A4 h4 oa4 f4 s4
    refine h4.r 10 (fun _ _ _ => rfl) (h4.a 10 rfl rfl (i64 o L) (show _ < 512 by omega) (h4.r 5 (fun _ _ _ => rfl) (h4.a 5 rfl rfl rfl (show o < 8 from ho) ?_)))
    rw [f4.1 5 (by decide) (by decide) (by decide) (by decide) (by decide), e5, oa4.2.2.2.2 L hlt]
    refine (rr_roomOf hk2).use ⟨fun c => ?_, fun c => ⟨h4.rc, ?_⟩⟩
    · have c := (nI_leI (by omega) (by omega)).mp c
      exact ⟨rfl, A4, h4, by rw [hcs, if_neg (by omega)]; exact oa4, f4, s4⟩
    · have c : rmk key < C.2.2.2.1 L := Nat.lt_of_not_le fun z => c (nI_le z (by omega))
      have hr3 : 3 ≤ rmk key := hrm.1
      have hl5 : C.2.2.1 < 64 := by
        have := psum_lb2 (k := L) C.2.2.1 c1b hlt
        omega
      refine Do.mono (wr_cut h4 ho oa4 hlt hl5 hCb) ?_
      rintro v σ5 ⟨rfl, A5, h5, oa5, f5, s5⟩
      exact ⟨rfl, rfl, A5, h5, by rw [hcs, if_pos c]; exact oa5, f4.trans f5, s4.trans s5⟩
  -- the shift, the entry, the leaf
  have j167 : ∀ (d k : Nat) (σ1 : Hs) (A1 : Nat → Nat → Int32), k = p + d → k ≤ w.1 → RC g σ1 R X A1 hh → Ofr o A A1 → Sm R T3 σ σ1 → (A1 9 o = nI w.1 ∧ A1 11 o = nI C.2.2.1 ∧ A1 7 o = nI w.2.2.2.2 ∧ ∀ j, j < C.2.2.1 → A1 10 (64 * o + j) = nI ((if w.2.2.1 = 0 then setN w.2.2.2.1 0 0 else w.2.2.2.1) j)) → ShU (A1 8) o w.2.1 w.1 k → J_X12_comeInto_167 g (OP g σ R X hh o (comeS f key w s) A) σ1 (R 300) (nI o) (nI s) (nI L) (nI p) (nI k) := by
    intro d
    induction d with
    | zero =>
      intro k σ1 A1 hk1 hkl h1 f1 s1 ⟨a9, a11, a7, a10⟩ sh
      have hk1 : k = p := hk1
      subst hk1
      have hCz : ∀ j, C.2.2.2.1 j = setN (if w.2.2.1 = 0 then setN w.2.2.2.1 0 0 else w.2.2.2.1) L ((if w.2.2.1 = 0 then setN w.2.2.2.1 0 0 else w.2.2.2.1) L + 1) j := fun j => by rw [← hC]; rfl
      refine q_X12_comeInto_167 _ _ _ _ _ _ ⟨fun _ => h1.r 8 (fun _ _ _ => rfl) (h1.s 8 rfl rfl (i64 o k) (show _ < 512 by omega) fun σ2 h2 s2 => h2.r 9 (fun _ _ _ => rfl) (h2.a 9 rfl rfl rfl (show o < 8 from ho) (h2.s 9 rfl rfl rfl (show o < 8 from ho) fun σ3 h3 s3 => h3.r 10 (fun _ _ _ => rfl) (h3.a 10 rfl rfl (i64 o L) (show _ < 512 by omega) (h3.s 10 rfl rfl (i64 o L) (show _ < 512 by omega) fun σ4 h4 s4 => ?_))))), fun c => absurd (nI_le (by omega) (by omega)) c⟩
      refine fin σ4 _ h4 ⟨?_, a11, ?_, fun i hi => ?_, fun j hj => ?_⟩ (((f1.e (Or.inl rfl) (by omega)).n (Or.inr (Or.inl rfl))).e (Or.inr rfl) (by omega)) (((s1.trans s2).trans s3).trans s4)
      · show upd (A1 9) o (A1 9 o + 1) o = _
        rw [upd_same, a9, nI_1, hC1]
      · rw [show C.2.2.2.2 = w.2.2.2.2 by rw [← hC]; rfl]; exact a7
      · rw [show C.2.1 = insN w.2.1 k w.1 s by rw [← hC]; rfl]
        exact sh.ends hple i (by omega)
      · show upd (A1 10) (64 * o + L) (A1 10 (64 * o + L) + 1) (64 * o + j) = _
        rw [hCz]
        by_cases c : j = L
        · subst c
          rw [upd_same, a10 j hj, nI_1, setN_at]
        · rw [upd_ne _ _ (by omega), setN_ne _ _ c]
          exact a10 j hj
    | succ d ih =>
      intro k σ1 A1 hk1 hkl h1 f1 s1 ⟨a9, a11, a7, a10⟩ sh
      refine q_X12_comeInto_167 _ _ _ _ _ _ ⟨fun c => absurd ((nI_leI (by omega) (by omega)).mp c) (by omega), fun _ => h1.r 8 (fun _ _ _ => rfl) (h1.r 8 (fun _ _ _ => rfl) (h1.a 8 rfl rfl (i64m o k (by omega)) (show _ < 512 by omega) (h1.s 8 rfl rfl (i64 o k) (show _ < 512 by omega) fun σ2 h2 s2 => ?_)))⟩
      rw [nI_m1 (by omega)]
      refine ih (k - 1) σ2 _ (by omega) (by omega) h2 (f1.e (Or.inl rfl) (by omega)) (s1.trans s2) ⟨a9, a11, a7, a10⟩ ?_
      show ShU (upd (A1 8) _ _) o _ _ _
      exact sh.step (by omega) hkl
  -- the place within the leaf
  have hC2 : C.2.2.1 = if w.2.2.1 = 0 then 1 else w.2.2.1 := by rw [← hC]; rfl
  have j108 : ∀ (d at' : Nat) (σ1 : Hs) (A1 : Nat → Nat → Int32), at' + d = p → psum w.2.2.2.1 L ≤ p → p ≤ psum w.2.2.2.1 L + (if w.2.2.1 = 0 then setN w.2.2.2.1 0 0 else w.2.2.2.1) L → RC g σ1 R X A1 hh → Ofr o A A1 → Sm R T3 σ σ1 → (A1 9 o = nI w.1 ∧ A1 11 o = nI C.2.2.1 ∧ A1 7 o = nI w.2.2.2.2 ∧ ∀ j, j < C.2.2.1 → A1 10 (64 * o + j) = nI ((if w.2.2.1 = 0 then setN w.2.2.2.1 0 0 else w.2.2.2.1) j)) → A1 8 = A 8 → J_X12_comeInto_108 g (OP g σ R X hh o (comeS f key w s) A) σ1 (R 300) (nI o) (nI s) (nI L) (nI (psum w.2.2.2.1 L)) (nI at') := by
    intro d
    induction d with
    | zero =>
      intro at' σ1 A1 hd hb hb2 h1 f1 s1 a a8
      have hd : at' = p := hd
      subst hd
      have hLC : L < 64 := by
        have := psum_lb C.2.2.1 c1b
        omega
      have f5 := f1.1 5 (by decide) (by decide) (by decide) (by decide) (by decide)
      have f1' := f1.1 1 (by decide) (by decide) (by decide) (by decide) (by decide)
      have fin := fun (σ2 : Hs) (h2 : RC g σ2 R X A1 hh) (s2 : Sm R T3 σ σ2) => j167 (w.1 - at') w.1 σ2 A1 (by omega) (Nat.le_refl _) h2 f1 s2 a (by rw [a8]; exact ShU.start e8)
      refine q_X12_comeInto_108 _ _ _ _ _ _ (h1.r 10 (fun _ _ _ => rfl) (h1.a 10 rfl rfl (i64 o L) (show _ < 512 by omega) ⟨fun _ => h1.r 9 (fun _ _ _ => rfl) (h1.a 9 rfl rfl rfl (show o < 8 from ho) ?_), fun c => h1.r 5 (fun _ _ _ => rfl) (h1.a 5 rfl rfl rfl (show o < 8 from ho) (h1.r 8 (fun _ _ _ => rfl) (h1.a 8 rfl rfl (i64 o at') (show _ < 512 by omega) ⟨h1.rc, ?_⟩)))⟩))
      · rw [a.1]
        exact fin σ1 h1 s1
      · rw [f5, e5, a8]
        rw [a.2.2.2 L hlt, nI_add] at c
        have hzb : psum w.2.2.2.1 L + (if w.2.2.1 = 0 then setN w.2.2.2.1 0 0 else w.2.2.2.1) L ≤ w.1 := by
          by_cases z : w.2.2.1 = 0
          · have e0 : L = 0 := by rw [hC2, if_pos z] at hlt; omega
            rw [if_pos z, e0, setN_at]
            show psum w.2.2.2.1 0 + 0 ≤ _
            exact Nat.zero_le _
          · rw [if_neg z, ← psum_s, ← hok.2.1]
            rw [hC2, if_neg z] at hlt
            exact psum_mono _ hlt
        have c : at' < psum w.2.2.2.1 L + (if w.2.2.1 = 0 then setN w.2.2.2.1 0 0 else w.2.2.2.1) L := Nat.lt_of_not_le fun z => c (nI_le z (by omega))
        have hat : at' < w.1 := by omega
        rw [e8 at' hat]
        refine (rr_isAhead h1 (f := f) (fun k hk => by rw [f1']; exact ha k hk) hk (hE.2.1 at' hat).1 hs).use ⟨fun _ => h1.r 9 (fun _ _ _ => rfl) (h1.a 9 rfl rfl rfl (show o < 8 from ho) ?_), fun c2 => ?_⟩
        · rw [a.1]
          exact fin σ1 h1 s1
        · have := (hahead at' hat).mp (b2_n0.mp c2)
          omega
    | succ d ih =>
      intro at' σ1 A1 hd hb hb2 h1 f1 s1 a a8
      have hLC : L < 64 := by
        have := psum_lb C.2.2.1 c1b
        omega
      have f5 := f1.1 5 (by decide) (by decide) (by decide) (by decide) (by decide)
      have f1' := f1.1 1 (by decide) (by decide) (by decide) (by decide) (by decide)
      have hat : at' < w.1 := by omega
      refine q_X12_comeInto_108 _ _ _ _ _ _ (h1.r 10 (fun _ _ _ => rfl) (h1.a 10 rfl rfl (i64 o L) (show _ < 512 by omega) ⟨fun c => ?_, fun c => h1.r 5 (fun _ _ _ => rfl) (h1.a 5 rfl rfl rfl (show o < 8 from ho) (h1.r 8 (fun _ _ _ => rfl) (h1.a 8 rfl rfl (i64 o at') (show _ < 512 by omega) ⟨h1.rc, ?_⟩)))⟩))
      · exfalso
        rw [a.2.2.2 L hlt, nI_add] at c
        have hzb : psum w.2.2.2.1 L + (if w.2.2.1 = 0 then setN w.2.2.2.1 0 0 else w.2.2.2.1) L ≤ w.1 := by
          by_cases z : w.2.2.1 = 0
          · have e0 : L = 0 := by rw [hC2, if_pos z] at hlt; omega
            rw [if_pos z, e0, setN_at]
            show psum w.2.2.2.1 0 + 0 ≤ _
            exact Nat.zero_le _
          · rw [if_neg z, ← psum_s, ← hok.2.1]
            rw [hC2, if_neg z] at hlt
            exact psum_mono _ hlt
        have c := (nI_leI (by omega) (by omega)).mp c
        omega
      · rw [f5, e5, a8, e8 at' hat]
        refine (rr_isAhead h1 (f := f) (fun k hk => by rw [f1']; exact ha k hk) hk (hE.2.1 at' hat).1 hs).use ⟨fun c2 => ?_, fun c2 => ?_⟩
        · have := (hahead at' hat).mpr (by omega)
          rw [b2_0.mp c2] at this
          cases this
        · rw [nI_1]
          exact ih (at' + 1) σ1 A1 (by omega) hb hb2 h1 f1 s1 a a8
  -- the leaf
  have j11 : ∀ (d i L' : Nat), i + d = w.2.2.1 → (L' = 0 ∨ (L' < i ∧ psum w.2.2.2.1 L' < p)) → (∀ i', L' < i' → i' < i → p ≤ psum w.2.2.2.1 i') → J_X12_comeInto_11 g (OP g σ R X hh o (comeS f key w s) A) σ (R 300) (nI o) (nI s) (nI L') (nI (psum w.2.2.2.1 L')) (nI (psum w.2.2.2.1 i)) (nI i) := by
    intro d
    induction d with
    | zero =>
      intro i L' hd hL1 hL2
      have hd : i = w.2.2.1 := hd
      have hp2 : p ≤ psum w.2.2.2.1 w.2.2.1 := by rw [hok.2.1]; exact hple
      have eL : L' = L := by
        rw [← hLf]
        unfold lfFor
        by_cases z : 0 < p
        · rw [if_pos z]
          have hl0 : 0 < w.2.2.1 := by
            rcases Nat.eq_zero_or_pos w.2.2.1 with y | y
            · rw [y] at hp2
              have : p ≤ 0 := hp2
              omega
            · exact y
          exact (lf_last (by omega) (hL1.imp id (fun y => y.2)) (fun i' h1 h2 => hL2 i' h1 (by omega)) hp2 z).symm
        · rw [if_neg z]
          rcases hL1 with y | y
          · exact y
          · omega
      subst eL
      have hb1 : psum w.2.2.2.1 L' ≤ p := by
        rcases hL1 with y | y
        · rw [y]; exact Nat.zero_le _
        · omega
      refine q_X12_comeInto_11 _ _ _ _ _ _ _ (h.r 11 (fun _ _ _ => rfl) (h.a 11 rfl rfl rfl (show o < 8 from ho) ?_))
      rw [e11]
      refine ⟨fun _ => h.r 11 (fun _ _ _ => rfl) (h.a 11 rfl rfl rfl (show o < 8 from ho) ?_), fun c => absurd (nI_le (by omega) (by omega)) c⟩
      rw [e11]
      refine ⟨fun c => ?_, fun c => ?_⟩
      · have c : w.2.2.1 ≠ 0 := fun z => c (by rw [z]; rfl)
        have hb2 : p ≤ psum w.2.2.2.1 L' + (if w.2.2.1 = 0 then setN w.2.2.2.1 0 0 else w.2.2.2.1) L' := by
          rw [if_neg c, ← psum_s]
          rw [hC2, if_neg c] at hlt
          by_cases y : L' + 1 < w.2.2.1
          · exact hL2 (L' + 1) (by omega) (by omega)
          · rw [show L' + 1 = w.2.2.1 by omega]; exact hp2
        exact j108 (p - psum w.2.2.2.1 L') _ σ A (by omega) hb1 hb2 h Ofr.rfl Sm.refl ⟨e9, by rw [hC2, if_neg c]; exact e11, e7, fun j hj => by rw [if_neg c]; rw [hC2, if_neg c] at hj; exact e10 j hj⟩ rfl
      · have c := (nI_eq (b := 0) (by omega) (by decide)).mp c
        have e0 : L' = 0 := by rw [hC2, if_pos c] at hlt; omega
        have hb2 : p ≤ psum w.2.2.2.1 L' + (if w.2.2.1 = 0 then setN w.2.2.2.1 0 0 else w.2.2.2.1) L' := by
          rw [c] at hp2
          have : p ≤ 0 := hp2
          omega
        refine h.r 11 (fun _ _ _ => rfl) (h.s 11 rfl rfl rfl (show o < 8 from ho) fun σ2 h2 s2 => h2.r 10 (fun _ _ _ => rfl) (h2.s 10 rfl rfl (i640 o) (show 64 * o + 0 < 512 by omega) fun σ3 h3 s3 => ?_))
        refine j108 (p - psum w.2.2.2.1 L') _ σ3 _ (by omega) hb1 hb2 h3 ((Ofr.rfl.n (Or.inr (Or.inr rfl))).e (Or.inr rfl) (by omega)) (s2.trans s3) ⟨e9, ?_, e7, fun j hj => ?_⟩ rfl
        · show upd (A 11) o 1 o = _
          rw [upd_same, hC2, if_pos c]
          rfl
        · show upd (A 10) (64 * o + 0) 0 (64 * o + j) = _
          rw [hC2, if_pos c] at hj
          rw [show j = 0 by omega, upd_same, if_pos c, setN_at]
          rfl
    | succ d ih =>
      intro i L' hd hL1 hL2
      have hpi : psum w.2.2.2.1 i < w.1 := by
        have h1 := psum_mono w.2.2.2.1 (show i + 1 ≤ w.2.2.1 by omega)
        rw [hok.2.1, psum_s] at h1
        have := hok.2.2.1 i (by omega)
        omega
      have hps1 : nI (psum w.2.2.2.1 i) + nI (w.2.2.2.1 i) = nI (psum w.2.2.2.1 (i + 1)) := by rw [nI_add, psum_s]
      refine q_X12_comeInto_11 _ _ _ _ _ _ _ (h.r 11 (fun _ _ _ => rfl) (h.a 11 rfl rfl rfl (show o < 8 from ho) ?_))
      rw [e11]
      refine ⟨fun c => absurd ((nI_leI (by omega) (by omega)).mp c) (by omega), fun _ => h.r 5 (fun _ _ _ => rfl) (h.a 5 rfl rfl rfl (show o < 8 from ho) (h.r 8 (fun _ _ _ => rfl) (h.a 8 rfl rfl (i64 o _) (show _ < 512 by omega) ⟨h.rc, ?_⟩)))⟩
      rw [e5, e8 _ hpi]
      refine (rr_isAhead h (f := f) ha hk (hE.2.1 _ hpi).1 hs).use ⟨fun c => h.r 10 (fun _ _ _ => rfl) (h.a 10 rfl rfl (i64 o i) (show _ < 512 by omega) ?_), fun c => h.r 10 (fun _ _ _ => rfl) (h.a 10 rfl rfl (i64 o i) (show _ < 512 by omega) ?_)⟩
      · rw [e10 i (by omega), hps1, nI_1]
        refine ih (i + 1) L' (by omega) (hL1.imp id (fun y => ⟨by omega, y.2⟩)) fun i' h1 h2 => ?_
        by_cases z : i' = i
        · subst z
          refine Nat.le_of_not_lt fun y => ?_
          have := (hahead _ hpi).mpr y
          rw [b2_0.mp c] at this
          cases this
        · exact hL2 i' h1 (by omega)
      · rw [e10 i (by omega), hps1, nI_1]
        exact ih (i + 1) i (by omega) (Or.inr ⟨by omega, (hahead _ hpi).mp (b2_n0.mp c)⟩) fun i' h1 h2 => absurd h1 (by omega)
  exact q_X12_comeInto _ _ _ (j11 w.2.2.1 0 0 (by omega) (Or.inl rfl) (fun i' h1 h2 => absurd h2 (by omega)))
end ROR
