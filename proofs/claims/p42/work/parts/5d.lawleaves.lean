/-! The law's rows of slots: all rows, pages, leaves of a run. -/
theorem NA.of {g : GG} {σ : Hs} {n : Nat} {x : Int32} {φ : Nat → Hs → Prop} (hn : n < 2 ^ 31) (hx : x = nI n) (K : ∀ q, q ∉ σ.1 → φ q (hpush σ q (aI g n (fun _ => 0)))) : NA g σ 0 x ndef φ := by
  subst hx
  intro q hq
  have h := K q hq
  rw [nI_clamp hn]
  exact h
/-- an array of 64 that holds a set of slots -/
def LB (g : GG) (σ : Hs) (a : Nat) (P : Nat → Bool) : Prop := ∃ z, Ce σ a (aI g 64 z) ∧ ∀ s, s < 64 → z s = b2 (P s)
theorem b2_mul (x y : Bool) : b2 x * b2 y = b2 (x && y) := by cases x <;> cases y <;> decide
theorem irB_s (f : Nat → Int32) (d : QD) (key s n : Nat) : irB f d key s (n + 1) = (irB f d key s n && wi1 f d (kcol key n) s) := by
  apply Bool.ex
  unfold irB
  rw [Bool.and_eq_true, decide_eq_true_eq, decide_eq_true_eq]
  constructor
  · intro h
    exact ⟨fun j hj => h j (by omega), h n (by omega)⟩
  · rintro ⟨h1, h2⟩ j hj
    by_cases c : j = n
    · rw [c]; exact h2
    · exact h1 j (by omega)
theorem rcN_krn (d : QD) (key : Nat) : rcN d key = krn d key := by
  have step : ∀ (r i : Nat), i + r = kw key → i ≤ kfx d key → rcG d key i r = krn d key := by
    intro r
    induction r with
    | zero =>
      intro i h1 h2
      have h3 := kfx_le d key
      show i = krn d key
      unfold krn
      rw [if_neg (by omega)]
      omega
    | succ r ih =>
      intro i h1 h2
      simp only [rcG]
      rcases Bool.eq_false_or_eq_true (isF d (kcol key i)) with z | z
      · rw [if_t z]
        refine ih (i + 1) (by omega) ?_
        rcases Nat.lt_or_ge i (kfx d key) with y | y
        · exact y
        · have e : i = kfx d key := by omega
          have nf : (!isF d (kcol key (kfx d key))) = true := fa_first_yes (fun i => !isF d (kcol key i)) (kw key) (show kfx d key < kw key by omega)
          have nf : isF d (kcol key (kfx d key)) = false := by simpa using nf
          rw [← e, z] at nf
          cases nf
      · rw [if_f z]
        have e : i = kfx d key := by
          rcases Nat.lt_or_ge i (kfx d key) with y | y
          · rw [kfx_F y] at z; cases z
          · omega
        unfold krn
        rw [← e]
        rcases Bool.eq_false_or_eq_true (isB d (kcol key i)) with y | y
        · rw [if_t y, if_pos ⟨by omega, y⟩]
        · rw [if_f y, if_neg fun w => by rw [y] at w; exact absurd w.2 (by decide)]
  exact step (kw key) 0 (by omega) (Nat.zero_le _)
theorem anyE_r (e : Nat → Nat) (P : Nat → Bool) (p m : Nat) : anyE e P p (m + 1) = (anyE e P p m || P (e (p + m))) := by
  apply Bool.ex
  rw [Bool.or_eq_true, anyE_iff, anyE_iff]
  constructor
  · rintro ⟨k, h1, h2⟩
    by_cases c : k = m
    · subst c; exact Or.inr h2
    · exact Or.inl ⟨k, by omega, h2⟩
  · rintro (⟨k, h1, h2⟩ | h)
    · exact ⟨k, by omega, h2⟩
    · exact ⟨m, by omega, h⟩
section LLV
variable {g : GG} {σ : Hs} {R : Nat → Nat} {S : SS} {p q a : Nat} {r : Nat → Int32} {d : QD} {lf : Nat → Int32} {P : Nat → Bool}
theorem Inv.cells {S : SS} (iv : Inv S) {s c : Nat} (hs : s < 64) (ht : zt S s = true) (hc : c < 4) : 0 ≤ (zf S (4 * s + c)).toInt ∧ (zf S (4 * s + c)).toInt ≤ 99 := iv.1.2.1 s hs ht c hc
theorem rd_lpages {w : Nat} (hl : LB g σ a P) (hw : 2 ≤ w ∧ w ≤ 8) : Rd g M_L_pages [.ref a, .int (nI w)] σ (nI (pgc w P 64)) := by
  obtain ⟨z, hz, hP⟩ := hl
  refine q_L_pages _ _ ?_
  have inner : ∀ (e s k : Nat) (b : Bool), s + e = k * w + w → k * w ≤ s → k * w < 64 → (b = true ↔ ∃ t, k * w ≤ t ∧ t < s ∧ t < 64 ∧ P t = true) → (∀ many', many' = pgc w P (min ((k + 1) * w) 64) → J_L_pages_4 g (kI fun x σ' => σ' = σ ∧ x = nI (pgc w P 64)) σ a (nI w) (nI many') (nI ((k + 1) * w))) → J_L_pages_16 g (kI fun x σ' => σ' = σ ∧ x = nI (pgc w P 64)) σ a (nI w) (nI (pgc w P (k * w))) (nI (k * w)) (b2 b) (nI s) := by
    intro e s k b
    have fin : ∀ b : Bool, (b = true ↔ ∃ t, k * w ≤ t ∧ t < k * w + w ∧ t < 64 ∧ P t = true) → k * w < 64 → (∀ many', many' = pgc w P (min ((k + 1) * w) 64) → J_L_pages_4 g (kI fun x σ' => σ' = σ ∧ x = nI (pgc w P 64)) σ a (nI w) (nI many') (nI ((k + 1) * w))) → J_L_pages_56 g (kI fun x σ' => σ' = σ ∧ x = nI (pgc w P 64)) σ a (nI w) (nI (pgc w P (k * w))) (nI (k * w)) (b2 b) := by
      intro b hb hk K
      have hstep : (k + 1) * w = k * w + w := Nat.succ_mul k w
      have hmn : k * w + (min ((k + 1) * w) 64 - k * w) = min ((k + 1) * w) 64 := by omega
      refine q_L_pages_56 _ _ _ _ _ ⟨fun c => ?_, fun c => ?_⟩
      · have c := b2_0.mp c
        rw [nI_p0, nI_add, ← hstep]
        refine K _ ?_
        have e1 := pgc_none w P (n := k * w) (min ((k + 1) * w) 64 - k * w) (fun t h1 h2 => by
          rcases Bool.eq_false_or_eq_true (P t) with h3 | h3
          · rw [hb.mpr ⟨t, h1, by omega, by omega, h3⟩] at c
            cases c
          · exact h3)
        rw [hmn] at e1
        exact e1.symm
      · have c := b2_n0.mp c
        rw [nI_1, nI_add, ← hstep]
        refine K _ ?_
        obtain ⟨t, t1, t2, t3, t4⟩ := hb.mp c
        have e1 := pgc_page w P (n := k * w) (by omega) (Nat.mul_mod_left k w) (min ((k + 1) * w) 64 - k * w) (by omega) ⟨t, t1, by omega, t4⟩
        rw [hmn] at e1
        exact e1.symm
    induction e generalizing s b with
    | zero =>
      intro h1 h2 hk hb K
      have hs : s = k * w + w := by omega
      subst hs
      exact q_L_pages_16 _ _ _ _ _ _ ⟨fun _ => fin b hb hk K, fun c => absurd (by rw [nI_add]; exact nI_le (Nat.le_refl _) (by omega)) c⟩
    | succ e ih =>
      intro h1 h2 hk hb K
      refine q_L_pages_16 _ _ _ _ _ _ ⟨fun c => ?_, fun c => ⟨fun c2 => ?_, fun c2 => ⟨fun c3 => ?_, fun c3 => ?_⟩⟩⟩
      · rw [nI_add] at c
        have := (nI_leI (by omega) (by omega)).mp c
        omega
      · have c2 := (nI_leI (a := 64) (by omega) (by omega)).mp c2
        refine fin b ⟨fun z1 => ?_, fun ⟨t, t1, t2, t3, t4⟩ => hb.mpr ⟨t, t1, by omega, t3, t4⟩⟩ hk K
        obtain ⟨t, t1, t2, t3, t4⟩ := hb.mp z1
        exact ⟨t, t1, by omega, t3, t4⟩
      · have c2 : s < 64 := Nat.lt_of_not_le fun z1 => c2 (nI_le z1 (by omega))
        have c3 := b2_n0.mp c3
        have := ih (s + 1) true (by omega) (by omega) hk ⟨fun _ => ?_, fun _ => rfl⟩ K
        · rw [nI_1]; exact this
        · obtain ⟨t, t1, t2, t3, t4⟩ := hb.mp c3
          exact ⟨t, t1, by omega, t3, t4⟩
      · have c2 : s < 64 := Nat.lt_of_not_le fun z1 => c2 (nI_le z1 (by omega))
        have c3 := b2_0.mp c3
        refine AI.of hz rfl c2 (by decide) ?_
        rw [hP s c2, nI_1]
        have nob : ∀ t, k * w ≤ t → t < s → P t = false := fun t t1 t2 => by
          rcases Bool.eq_false_or_eq_true (P t) with h3 | h3
          · rw [hb.mpr ⟨t, t1, t2, by omega, h3⟩] at c3; cases c3
          · exact h3
        refine ⟨fun c4 => ?_, fun c4 => ?_⟩
        · have c4 : P s = false := by
            rcases Bool.eq_false_or_eq_true (P s) with h3 | h3
            · rw [h3] at c4; exact absurd c4 (by decide)
            · exact h3
          refine ih (s + 1) false (by omega) (by omega) hk ⟨fun z1 => (by cases z1), fun ⟨t, t1, t2, t3, t4⟩ => ?_⟩ K
          by_cases y : t = s
          · rw [y, c4] at t4; cases t4
          · rw [nob t t1 (by omega)] at t4; cases t4
        · have c4 : P s = true := by
            rcases Bool.eq_false_or_eq_true (P s) with h3 | h3
            · exact h3
            · rw [h3] at c4; exact absurd (show b2 false ≤ 0 by decide) c4
          exact ih (s + 1) true (by omega) (by omega) hk ⟨fun _ => ⟨s, h2, by omega, c2, c4⟩, fun _ => rfl⟩ K
  have outer : ∀ (e k : Nat), k + e = 64 → J_L_pages_4 g (kI fun x σ' => σ' = σ ∧ x = nI (pgc w P 64)) σ a (nI w) (nI (pgc w P (min (k * w) 64))) (nI (k * w)) := by
    intro e
    induction e with
    | zero =>
      intro k hk
      have : 128 ≤ k * w := Nat.le_trans (by omega : 128 ≤ 64 * 2) (Nat.mul_le_mul (by omega) hw.1)
      have h5 : k * w ≤ 512 := Nat.le_trans (Nat.mul_le_mul (show k ≤ 64 by omega) hw.2) (by decide)
      refine q_L_pages_4 _ _ _ _ ⟨fun _ => rd_i (by rw [Nat.min_eq_right (by omega)]), fun c => absurd (nI_le (a := 64) (by omega) (by omega)) c⟩
    | succ e ih =>
      intro k hk
      have h5 : k * w ≤ 512 := Nat.le_trans (Nat.mul_le_mul (show k ≤ 64 by omega) hw.2) (by decide)
      refine q_L_pages_4 _ _ _ _ ⟨fun c => rd_i ?_, fun c => ?_⟩
      · have c := (nI_leI (a := 64) (by omega) (by omega)).mp c
        rw [Nat.min_eq_right c]
      · have c : k * w < 64 := Nat.lt_of_not_le fun z1 => c (nI_le z1 (by omega))
        rw [Nat.min_eq_left (by omega)]
        exact inner w (k * w) k false rfl (Nat.le_refl _) c ⟨fun z1 => (by cases z1), fun ⟨t, t1, t2, _⟩ => absurd t2 (by omega)⟩ fun m hm => by rw [hm]; exact ih (k + 1) (by omega)
  have h0 := outer 64 0 rfl
  rw [Nat.zero_mul] at h0
  exact h0
/-- all rows: from an array of nothing -/
theorem wr_lall (ko : KO g σ R S) (hl : Ce σ a (aI g 64 (fun _ => 0))) (na : ∀ i, Lv (zo S) (zq S) i → R i ≠ a) (iv : Inv S) : Do g M_L_all 0 0 [.ref (R 0), .ref a] σ (kV fun σ' => Gr (fun b => b = a) σ σ' ∧ LB g σ' a (zt S)) := by
  refine q_L_all _ _ ?_
  have loop : ∀ (e k : Nat) (σ1 : Hs) (z : Nat → Int32), k + e = 64 → Gr (fun b => b = a) σ σ1 → Ce σ1 a (aI g 64 z) → (∀ s, s < k → z s = b2 (zt S s)) → J_L_all_2 g (kV fun σ' => Gr (fun b => b = a) σ σ' ∧ LB g σ' a (zt S)) σ1 (R 0) a (nI k) := by
    intro e
    induction e with
    | zero =>
      intro k σ1 z hk hg hz hs
      refine q_L_all_2 _ _ _ ⟨fun _ => ⟨rfl, hg, z, hz, fun s h1 => hs s (by omega)⟩, fun c => absurd (nI_le (a := 64) (by omega) (by omega)) c⟩
    | succ e ih =>
      intro k σ1 z hk hg hz hs
      have hk64 : k < 64 := by omega
      have ko1 := ko.gr1 hg na
      refine q_L_all_2 _ _ _ ⟨fun c => absurd ((nI_leI (a := 64) (by omega) (by omega)).mp c) (by omega), fun _ => ⟨Rc.of ko1.1, (rd_get ko1 _ _).use ?_⟩⟩
      rw [show v_get S (nI k) 0 = v_get S (nI k) (nI 0) from rfl, v_get_in hk64 (by decide), nI_1]
      have step : ∀ v : Int32, v = b2 (zt S k) → J_L_all_2 g (kV fun σ' => Gr (fun b => b = a) σ σ' ∧ LB g σ' a (zt S)) (hup σ1 a (aI g 64 (upd z k v))) (R 0) a (nI (k + 1)) := fun v hv => by
        refine ih (k + 1) _ (upd z k v) (by omega) (hg.trans Gr.hp) (hz.up _) fun s h1 => ?_
        by_cases c : s = k
        · rw [c, pk_us, hv]
        · rw [pk_un c]; exact hs s (by omega)
      refine ⟨fun c => SI.of hz rfl hk64 (by decide) (step 1 ?_), fun c => SI.of hz rfl hk64 (by decide) (step 0 ?_)⟩
      · rcases Bool.eq_false_or_eq_true (zt S k) with y | y
        · rw [y]; rfl
        · rw [if_f y] at c; exact absurd c (by decide)
      · rcases Bool.eq_false_or_eq_true (zt S k) with y | y
        · rw [if_t y] at c
          have := (iv.cells hk64 y (show 0 < 4 by decide)).1
          exact absurd ((n_le (n := 0) (by decide)).mpr this) c
        · rw [y]; rfl
  exact loop 64 0 σ _ (by omega) Gr.refl hl (fun s h => absurd h (Nat.not_lt_zero _))
end LLV
section LLW
variable {g : GG} {σ : Hs} {R : Nat → Nat} {S : SS} {p q a : Nat} {r : Nat → Int32} {d : QD} {lf : Nat → Int32} {P : Nat → Bool}
theorem Inv.o8 {S : SS} (iv : Inv S) : zo S ≤ 8 := iv.1.2.2
theorem v_about_0 {S : SS} {o : Nat} (ho : o < zo S) (h8 : zo S ≤ 8) (hd : (zB S o).2.2 = false) : v_about S (nI o) 0 = nI (zB S o).1 := by
  unfold v_about
  rw [if_t (isO_y ho (by omega) hd), nn_i (by omega)]
  rfl
theorem v_about_2 {S : SS} {o : Nat} (ho : o < zo S) (h8 : zo S ≤ 8) (hd : (zB S o).2.2 = false) : v_about S (nI o) 2 = nI (hgt (zB S o).2.1.2.2.1) := by
  unfold v_about
  rw [if_t (isO_y ho (by omega) hd), nn_i (by omega)]
  rfl
theorem v_about_3 {S : SS} {o : Nat} (ho : o < zo S) (h8 : zo S ≤ 8) (hd : (zB S o).2.2 = false) : v_about S (nI o) 3 = nI (szO (zB S o).2.1.2.2.1) := by
  unfold v_about
  rw [if_t (isO_y ho (by omega) hd), nn_i (by omega)]
  rfl
theorem v_leaf_in {S : SS} {o i : Nat} (ho : o < zo S) (h8 : zo S ≤ 8) (hd : (zB S o).2.2 = false) (hi : i < 2 ^ 31) : v_leaf S (nI o) (nI i) = if i < (zB S o).2.1.2.2.1 then nI ((zB S o).2.1.2.2.2.1 i) else -1 := by
  unfold v_leaf v_lf
  rw [if_t (isO_y ho (by omega) hd), nn_i (by omega), I_n hi]
  by_cases c : i < (zB S o).2.1.2.2.1
  · rw [if_pos (by omega), if_pos c]; rfl
  · rw [if_neg (by omega), if_neg c]
theorem v_entry_in {S : SS} {o i : Nat} (ho : o < zo S) (h8 : zo S ≤ 8) (hd : (zB S o).2.2 = false) (hi : i < (zB S o).2.1.1) (hi2 : i < 2 ^ 31) : v_entry S (nI o) (nI i) = nI ((zB S o).2.1.2.1 i) := by
  unfold v_entry v_ent
  rw [if_t (isO_y ho (by omega) hd), nn_i (by omega), I_n hi2, if_pos (by omega)]
  rfl
/-- what the law's looks up the leaves come to; the rows that all key columns leave -/
theorem wr_lleaves (ko : KO g σ R S) (iv : Inv S) (hr : Ce σ p (aI g 64 r)) (h : RQ r q d) (hq : q < 4) {o : Nat} (ho : o < zo S) (hd : (zB S o).2.2 = false) (hl : LB g σ a P) (nd : p ≠ a) (na : ∀ i, Lv (zo S) (zq S) i → R i ≠ a) : Do g M_L_leaves 1 64 [.ref (R 0), .ref p, .int (nI q), .int (nI o), .ref a] σ (kI fun x σ' => x = nI (rchO (zf S) (zt S) d (zB S o)) ∧ Gr (fun b => b = a) σ σ' ∧ LB g σ' a (fun s => P s && lftO (zf S) (zt S) d (zB S o) s)) := by
  obtain ⟨lf, hlf, hP⟩ := hl
  have h8 := iv.o8
  obtain ⟨hk, hw, hoi⟩ := iv.1.1 o ho
  obtain ⟨-, hE⟩ := hoi hd
  have cl := iv.1.2.1
  have hk3 := kw_3 (zB S o).1
  have hkr := krn_le d (zB S o).1
  have hkf := kfx_le d (zB S o).1
  have hw64 := hw.1
  have hll := hw.l_le
  have ab0 := v_about_0 ho h8 hd
  have ab2 := v_about_2 ho h8 hd
  have hps : ∀ i, i ≤ (zB S o).2.1.2.2.1 → psum (zB S o).2.1.2.2.2.1 i ≤ (zB S o).2.1.1 := fun i hi => by
    have := psum_mono (zB S o).2.1.2.2.2.1 hi
    rw [hw.2.1] at this
    exact this
  have hirr : ∀ s, s < 64 → zt S s = true → irB (zf S) d (zB S o).1 s (krn d (zB S o).1) = runO (zf S) (zt S) d (zB S o) s := fun s hs ht => by
    rw [← rcN_krn]; exact ir_run cl hs ht
  have hirl : ∀ s, s < 64 → zt S s = true → irB (zf S) d (zB S o).1 s (kw (zB S o).1) = lftO (zf S) (zt S) d (zB S o) s := fun s hs ht => ir_lft cl hs ht
  generalize hkey : (zB S o).1 = key at *
  refine q_L_leaves 1 64 _ _ _ _ _ ⟨by omega, Rc.of ko.1, (rd_about ko _ _).use ⟨by omega, ?_⟩⟩
  rw [ab0]
  refine (rd_lrun hr h hq hk).use ⟨by omega, NA.of (n := 64) (by decide) rfl fun sq hsq => ?_⟩
  rw [show nI (8 * kfx d key + krn d key) - nI (8 * kfx d key + krn d key) / 8 * 8 = nI ((8 * kfx d key + krn d key) % 8) from pk_rem (by omega) (by decide) (by decide), show (8 * kfx d key + krn d key) % 8 = krn d key by omega]
  have nsa : sq ≠ a := fun z => hsq (z ▸ hlf.1)
  have nsp : sq ≠ p := fun z => hsq (z ▸ hr.1)
  -- what stands in every state of the loops
  obtain ⟨LV, hLV⟩ : ∃ LV : Hs → (Nat → Int32) → (Nat → Int32) → Prop, LV = fun σ1 z l1 => Gr (fun b => b = a) σ σ1 ∧ Ce σ1 a (aI g 64 l1) ∧ Ce σ1 sq (aI g 64 z) := ⟨_, rfl⟩
  have lvk : ∀ {σ1 z l1}, LV σ1 z l1 → KO g σ1 R S := fun hv => by rw [hLV] at hv; exact ko.gr1 hv.1 na
  have lvp : ∀ {σ1 z l1}, LV σ1 z l1 → Ce σ1 p (aI g 64 r) := fun hv => by rw [hLV] at hv; exact hv.1.2 _ _ hr nd
  have lvs : ∀ {σ1 z l1}, LV σ1 z l1 → ∀ z', LV (hup σ1 sq (aI g 64 z')) z' l1 := fun hv z' => by
    rw [hLV] at hv ⊢
    exact ⟨⟨hv.1.1, fun b e c n => (hv.1.2 b e c n).upo fun y => hsq (y ▸ c.1)⟩, hv.2.1.upo nsa.symm, hv.2.2.up _⟩
  have lva : ∀ {σ1 z l1}, LV σ1 z l1 → ∀ l', LV (hup σ1 a (aI g 64 l')) z l' := fun hv l' => by
    rw [hLV] at hv ⊢
    exact ⟨hv.1.trans Gr.hp, hv.2.1.up _, hv.2.2.upo nsa⟩
  have lvcs : ∀ {σ1 z l1}, LV σ1 z l1 → Ce σ1 sq (aI g 64 z) := fun hv => by rw [hLV] at hv; exact hv.2.2
  have lvca : ∀ {σ1 z l1}, LV σ1 z l1 → Ce σ1 a (aI g 64 l1) := fun hv => by rw [hLV] at hv; exact hv.2.1
  have lvg : ∀ {σ1 z l1}, LV σ1 z l1 → Gr (fun b => b = a) σ σ1 := fun hv => by rw [hLV] at hv; exact hv.1
  have lv0 : LV (hpush σ sq (aI g 64 (fun _ => 0))) (fun _ => 0) lf := by
    rw [hLV]
    have s := Gr.push (aI g 64 (fun _ => 0)) hsq
    exact ⟨s.any, s.2 _ _ hlf (fun z => z), Ce.psh⟩
  clear hLV
  -- the seen rows behind so many entries
  obtain ⟨SN, hSN⟩ : ∃ SN : (Nat → Int32) → Nat → Prop, SN = fun z n => ∀ s, s < 64 → z s = b2 (inE (zB S o).2.1.2.1 s n && lftO (zf S) (zt S) d (zB S o) s) := ⟨_, rfl⟩
  have last : ∀ (e s : Nat) (σ1 : Hs) (z l1 : Nat → Int32), s + e = 64 → LV σ1 z l1 → SN z (zB S o).2.1.1 → (∀ t, t < s → l1 t = b2 (P t && lftO (zf S) (zt S) d (zB S o) t)) → (∀ t, s ≤ t → l1 t = lf t) → J_L_leaves_220 g (kI fun x σ' => x = nI (rchO (zf S) (zt S) d (zB S o)) ∧ Gr (fun b => b = a) σ σ' ∧ LB g σ' a (fun s => P s && lftO (zf S) (zt S) d (zB S o) s)) 1 64 1 64 σ1 (R 0) (nI o) a (nI (cntL (zB S o).2.1 (runO (zf S) (zt S) d (zB S o)) (zB S o).2.1.2.2.1)) (nI (zB S o).2.1.1) sq (nI s) := by
    intro e
    induction e with
    | zero =>
      intro s σ1 z l1 hs hv hz h1 h2
      have hc := cntL_le (zB S o).2.1 (runO (zf S) (zt S) d (zB S o)) (zB S o).2.1.2.2.1
      refine q_L_leaves_220 _ _ _ _ _ _ _ _ _ _ _ ⟨fun _ => ⟨fun c => ⟨by omega, Rc.of (lvk hv).1, (rd_about (lvk hv) _ _).use ⟨by omega, _, rfl, ?_, lvg hv, l1, lvca hv, fun t ht => h1 t (by omega)⟩⟩, fun c => ⟨fun c2 => ⟨by omega, Rc.of (lvk hv).1, (rd_about (lvk hv) _ _).use ⟨by omega, _, rfl, ?_, lvg hv, l1, lvca hv, fun t ht => h1 t (by omega)⟩⟩, fun c2 => ⟨by omega, Rc.of (lvk hv).1, (rd_about (lvk hv) _ _).use ⟨by omega, _, rfl, ?_, lvg hv, l1, lvca hv, fun t ht => h1 t (by omega)⟩⟩⟩⟩, fun c => absurd (nI_le (a := 64) (by omega) (by omega)) c⟩
      · rw [ab2, nI_add]
        unfold rchO lvsOf
        rw [if_neg fun y => c (by rw [y.1]; rfl)]
      · have c := (nI_eq (b := 0) (by omega) (by decide)).mp c
        have c2 := (nI_leI (b := 0) (by omega) (by decide)).mp c2
        rw [ab2, nI_add]
        unfold rchO lvsOf
        rw [if_neg (by omega)]
      · have c := (nI_eq (b := 0) (by omega) (by decide)).mp c
        have c2 : ¬ (zB S o).2.1.1 ≤ 0 := fun y => c2 (nI_le (b := 0) y (by decide))
        have c3 : 0 < (zB S o).2.1.2.2.1 := by
          rcases Nat.eq_zero_or_pos (zB S o).2.1.2.2.1 with y | y
          · have := hw.2.1
            rw [y] at this
            have e0 : psum (zB S o).2.1.2.2.2.1 0 = 0 := rfl
            omega
          · exact y
        rw [ab2, nI_1]
        unfold rchO lvsOf
        rw [if_pos ⟨c, c3⟩]
    | succ e ih =>
      intro s σ1 z l1 hs hv hz h1 h2
      have hs64 : s < 64 := by omega
      refine q_L_leaves_220 _ _ _ _ _ _ _ _ _ _ _ ⟨fun c => absurd ((nI_leI (a := 64) (by omega) (by omega)).mp c) (by omega), fun _ => AI.of (lvca hv) rfl hs64 (by decide) (AI.of (lvcs hv) rfl hs64 (by decide) (SI.of (lvca hv) rfl hs64 (by decide) ?_))⟩
      rw [nI_1]
      refine ih (s + 1) _ z _ (by omega) (lva hv _) hz (fun t ht => ?_) fun t ht => ?_
      · by_cases c : t = s
        · subst c
          have e1 : z t = b2 (lftO (zf S) (zt S) d (zB S o) t) := by
            rw [hSN] at hz
            rw [hz t hs64]
            rcases Bool.eq_false_or_eq_true (lftO (zf S) (zt S) d (zB S o) t) with y | y
            · rw [y, Bool.and_true]
              have := (inE_iff (zB S o).2.1.2.1 t (zB S o).2.1.1).mpr (hE.2.2 t hs64 (lft_tk y))
              rw [this]
            · rw [y, Bool.and_false]
          rw [pk_us, h2 t (Nat.le_refl _), hP t hs64, e1, b2_mul]
        · rw [pk_un c]; exact h1 t (by omega)
      · rw [pk_un (by omega)]; exact h2 t (by omega)
  have outer : ∀ (e i : Nat) (σ1 : Hs) (z : Nat → Int32), i + e = (zB S o).2.1.2.2.1 → LV σ1 z lf → SN z (psum (zB S o).2.1.2.2.2.1 i) → J_L_leaves_35 g (kI fun x σ' => x = nI (rchO (zf S) (zt S) d (zB S o)) ∧ Gr (fun b => b = a) σ σ' ∧ LB g σ' a (fun s => P s && lftO (zf S) (zt S) d (zB S o) s)) 1 64 1 64 σ1 (R 0) p (nI q) (nI o) a (nI key) (nI (krn d key)) (nI (cntL (zB S o).2.1 (runO (zf S) (zt S) d (zB S o)) i)) (nI (psum (zB S o).2.1.2.2.2.1 i)) sq (nI i) := by
    intro e
    induction e with
    | zero =>
      intro i σ1 z hi hv hz
      have hi : i = (zB S o).2.1.2.2.1 := hi
      refine q_L_leaves_35 _ _ _ _ _ _ _ _ _ _ _ _ _ _ _ ⟨by omega, Rc.of (lvk hv).1, (rd_leaf (lvk hv) _ _).use ?_⟩
      rw [v_leaf_in ho h8 hd (by omega), if_neg (by omega)]
      refine ⟨fun _ => ?_, fun c => absurd (by decide) c⟩
      have e1 : psum (zB S o).2.1.2.2.2.1 i = (zB S o).2.1.1 := by rw [hi]; exact hw.2.1
      rw [e1] at hz ⊢
      rw [hi]
      exact last 64 0 σ1 z lf (by omega) hv hz (fun t ht => absurd ht (Nat.not_lt_zero _)) fun t _ => rfl
    | succ e ih =>
      intro i σ1 z hi hv hz
      have hil : i < (zB S o).2.1.2.2.1 := by omega
      have hz1 := hw.2.2.1 i hil
      have hpi := hps (i + 1) (by omega)
      have hps2 : psum (zB S o).2.1.2.2.2.1 (i + 1) = psum (zB S o).2.1.2.2.2.1 i + (zB S o).2.1.2.2.2.1 i := rfl
      have hc := cntL_le (zB S o).2.1 (runO (zf S) (zt S) d (zB S o)) i
      have inner : ∀ (e2 m : Nat) (σ2 : Hs) (z2 : Nat → Int32), m + e2 = (zB S o).2.1.2.2.2.1 i → LV σ2 z2 lf → SN z2 (psum (zB S o).2.1.2.2.2.1 i + m) → J_L_leaves_51 g (kI fun x σ' => x = nI (rchO (zf S) (zt S) d (zB S o)) ∧ Gr (fun b => b = a) σ σ' ∧ LB g σ' a (fun s => P s && lftO (zf S) (zt S) d (zB S o) s)) 1 64 1 64 σ2 (R 0) p (nI q) (nI o) a (nI key) (nI (krn d key)) (nI (cntL (zB S o).2.1 (runO (zf S) (zt S) d (zB S o)) i)) (nI (psum (zB S o).2.1.2.2.2.1 i + m)) sq (nI i) (b2 (anyE (zB S o).2.1.2.1 (runO (zf S) (zt S) d (zB S o)) (psum (zB S o).2.1.2.2.2.1 i) m)) (nI m) := by
        intro e2
        induction e2 with
        | zero =>
          intro m σ2 z2 hm hv2 hz2
          have hm : m = (zB S o).2.1.2.2.2.1 i := hm
          refine q_L_leaves_51 _ _ _ _ _ _ _ _ _ _ _ _ _ _ _ _ _ ⟨by omega, Rc.of (lvk hv2).1, (rd_leaf (lvk hv2) _ _).use ?_⟩
          rw [v_leaf_in ho h8 hd (by omega), if_pos hil]
          refine ⟨fun _ => ?_, fun c => absurd (nI_le (by omega) (by omega)) c⟩
          have ih1 := ih (i + 1) σ2 z2 (by omega) hv2 (by rw [hps2, ← hm]; exact hz2)
          rw [hps2, ← hm] at ih1
          refine ⟨fun c => ?_, fun c => ?_⟩
          · have c := b2_0.mp c
            simp only [cntL] at ih1
            rw [← hm, c] at ih1
            rw [nI_1, nI_p0]
            exact ih1
          · have c := b2_n0.mp c
            simp only [cntL] at ih1
            rw [← hm, c] at ih1
            rw [nI_1, nI_1]
            exact ih1
        | succ e2 ih2 =>
          intro m σ2 z2 hm hv2 hz2
          have hat : psum (zB S o).2.1.2.2.2.1 i + m < (zB S o).2.1.1 := by omega
          refine q_L_leaves_51 _ _ _ _ _ _ _ _ _ _ _ _ _ _ _ _ _ ⟨by omega, Rc.of (lvk hv2).1, (rd_leaf (lvk hv2) _ _).use ?_⟩
          rw [v_leaf_in ho h8 hd (by omega), if_pos hil]
          refine ⟨fun c => absurd ((nI_leI (by omega) (by omega)).mp c) (by omega), fun _ => ⟨by omega, Rc.of (lvk hv2).1, (rd_entry (lvk hv2) _ _).use ?_⟩⟩
          rw [v_entry_in ho h8 hd hat (by omega)]
          obtain ⟨he64, het⟩ := hE.2.1 _ hat
          have hr1 := hirr _ he64 het
          have hl1 := hirl _ he64 het
          generalize hsl : (zB S o).2.1.2.1 (psum (zB S o).2.1.2.2.2.1 i + m) = sl at he64 het hr1 hl1 ⊢
          have cols : ∀ (e3 k : Nat), k + e3 = kw key → J_L_leaves_81 g (kI fun x σ' => x = nI (rchO (zf S) (zt S) d (zB S o)) ∧ Gr (fun b => b = a) σ σ' ∧ LB g σ' a (fun s => P s && lftO (zf S) (zt S) d (zB S o) s)) 1 64 1 64 σ2 (R 0) p (nI q) (nI o) a (nI key) (nI (krn d key)) (nI (cntL (zB S o).2.1 (runO (zf S) (zt S) d (zB S o)) i)) (nI (psum (zB S o).2.1.2.2.2.1 i + m)) sq (nI i) (b2 (anyE (zB S o).2.1.2.1 (runO (zf S) (zt S) d (zB S o)) (psum (zB S o).2.1.2.2.2.1 i) m)) (nI m) (nI sl) (b2 (irB (zf S) d key sl (min k (krn d key)))) (b2 (irB (zf S) d key sl k)) (nI k) := by
            intro e3
            induction e3 with
            | zero =>
              intro k hk3'
              have hk3' : k = kw key := hk3'
              have fin : ∀ t : Bool, t = anyE (zB S o).2.1.2.1 (runO (zf S) (zt S) d (zB S o)) (psum (zB S o).2.1.2.2.2.1 i) (m + 1) → J_L_leaves_170 g (kI fun x σ' => x = nI (rchO (zf S) (zt S) d (zB S o)) ∧ Gr (fun b => b = a) σ σ' ∧ LB g σ' a (fun s => P s && lftO (zf S) (zt S) d (zB S o) s)) 1 64 1 64 σ2 (R 0) p (nI q) (nI o) a (nI key) (nI (krn d key)) (nI (cntL (zB S o).2.1 (runO (zf S) (zt S) d (zB S o)) i)) (nI (psum (zB S o).2.1.2.2.2.1 i + m)) sq (nI i) (nI m) (nI sl) (b2 (irB (zf S) d key sl k)) (b2 t) := by
                intro t ht
                subst ht
                rw [hk3', hl1]
                have stp : ∀ v, v = b2 (lftO (zf S) (zt S) d (zB S o) sl) → SN (upd z2 sl v) (psum (zB S o).2.1.2.2.2.1 i + (m + 1)) := fun v hv3 => by
                  rw [hSN] at hz2 ⊢
                  intro s hs
                  show upd z2 sl v s = b2 ((inE (zB S o).2.1.2.1 s (psum (zB S o).2.1.2.2.2.1 i + m) || decide (s = (zB S o).2.1.2.1 (psum (zB S o).2.1.2.2.2.1 i + m))) && _)
                  rw [hsl]
                  by_cases c : s = sl
                  · subst c
                    rw [pk_us, hv3, decide_eq_true rfl, Bool.or_true, Bool.true_and]
                  · rw [pk_un c, decide_eq_false c, Bool.or_false]
                    exact hz2 s hs
                refine q_L_leaves_170 _ _ _ _ _ _ _ _ _ _ _ _ _ _ _ _ _ _ _ ⟨fun c => SI.of (lvcs hv2) rfl he64 (by decide) ?_, fun c => SI.of (lvcs hv2) rfl he64 (by decide) ?_⟩
                · rw [nI_1, nI_1]
                  exact ih2 (m + 1) _ _ (by omega) (lvs hv2 _) (stp 0 (by rw [b2_0.mp c]; rfl))
                · rw [nI_1, nI_1]
                  exact ih2 (m + 1) _ _ (by omega) (lvs hv2 _) (stp 1 (by rw [b2_n0.mp c]; rfl))
              have hany := anyE_r (zB S o).2.1.2.1 (runO (zf S) (zt S) d (zB S o)) (psum (zB S o).2.1.2.2.2.1 i) m
              rw [hsl, ← hr1] at hany
              refine q_L_leaves_81 _ _ _ _ _ _ _ _ _ _ _ _ _ _ _ _ _ _ _ _ _ ⟨by omega, (rd_lcolumn hk (by omega)).use ⟨fun _ => ⟨fun c => fin true ?_, fun c => ⟨fun c2 => fin false ?_, fun c2 => fin true ?_⟩⟩, fun c => absurd ((colV_neg hk).mpr (by omega)) c⟩⟩
              · rw [hany, b2_n0.mp c]; rfl
              · have c2 := b2_0.mp c2
                rw [show min k (krn d key) = krn d key by omega] at c2
                rw [hany, b2_0.mp c, c2]; rfl
              · have c2 := b2_n0.mp c2
                rw [show min k (krn d key) = krn d key by omega] at c2
                rw [hany, c2, Bool.or_true]
            | succ e3 ih3 =>
              intro k hk3'
              have hkk : k < kw key := by omega
              have c4 := kcol_4 hk hkk
              have icw : inC S d sl (kcol key k) = wi1 (zf S) d (kcol key k) sl := by
                unfold inC
                rw [het, Bool.true_and]
              refine q_L_leaves_81 _ _ _ _ _ _ _ _ _ _ _ _ _ _ _ _ _ _ _ _ _ ⟨by omega, (rd_lcolumn hk (by omega)).use ⟨fun c => absurd hkk ((colV_neg hk).mp c), fun _ => ⟨by omega, (rd_lcolumn hk (by omega)).use ⟨by omega, ?_⟩⟩⟩⟩
              rw [show colV key k = nI (kcol key k) from if_pos hkk]
              refine (rd_lwithin (lvk hv2) (lvp hv2) h hq he64 c4).use ?_
              rw [icw]
              have nxt : ∀ t : Bool, t = irB (zf S) d key sl (min (k + 1) (krn d key)) → J_L_leaves_130 g (kI fun x σ' => x = nI (rchO (zf S) (zt S) d (zB S o)) ∧ Gr (fun b => b = a) σ σ' ∧ LB g σ' a (fun s => P s && lftO (zf S) (zt S) d (zB S o) s)) 1 64 1 64 σ2 (R 0) p (nI q) (nI o) a (nI key) (nI (krn d key)) (nI (cntL (zB S o).2.1 (runO (zf S) (zt S) d (zB S o)) i)) (nI (psum (zB S o).2.1.2.2.2.1 i + m)) sq (nI i) (b2 (anyE (zB S o).2.1.2.1 (runO (zf S) (zt S) d (zB S o)) (psum (zB S o).2.1.2.2.2.1 i) m)) (nI m) (nI sl) (b2 (irB (zf S) d key sl k)) (nI k) (b2 (wi1 (zf S) d (kcol key k) sl)) (b2 t) := by
                intro t ht
                have ih3 := ih3 (k + 1) (by omega)
                rw [irB_s, ← ht] at ih3
                refine q_L_leaves_130 _ _ _ _ _ _ _ _ _ _ _ _ _ _ _ _ _ _ _ _ _ _ ⟨fun c => ?_, fun c => ⟨fun c2 => ?_, fun c2 => ?_⟩⟩
                · rw [nI_1]
                  rw [b2_0.mp c, Bool.false_and] at ih3
                  exact ih3
                · rw [nI_1]
                  rw [b2_0.mp c2, Bool.and_false] at ih3
                  exact ih3
                · rw [nI_1]
                  rw [b2_n0.mp c, b2_n0.mp c2] at ih3
                  exact ih3
              refine ⟨fun c => nxt false ?_, fun c => ⟨fun c2 => nxt true ?_, fun c2 => ⟨fun c3 => nxt false ?_, fun c3 => nxt true ?_⟩⟩⟩
              · have c := b2_0.mp c
                rcases Nat.lt_or_ge k (krn d key) with y | y
                · rw [show min k (krn d key) = k by omega] at c
                  rw [show min (k + 1) (krn d key) = k + 1 by omega, irB_s, c]; rfl
                · rw [show min k (krn d key) = krn d key by omega] at c
                  rw [show min (k + 1) (krn d key) = krn d key by omega, c]
              · have c := b2_n0.mp c
                have c2 := (nI_leI (by omega) (by omega)).mp c2
                rw [show min k (krn d key) = krn d key by omega] at c
                rw [show min (k + 1) (krn d key) = krn d key by omega, c]
              · have c := b2_n0.mp c
                have c2 : k < krn d key := Nat.lt_of_not_le fun y => c2 (nI_le y (by omega))
                have c3 := b2_0.mp c3
                rw [show min (k + 1) (krn d key) = k + 1 by omega, irB_s, c3, Bool.and_false]
              · have c := b2_n0.mp c
                have c2 : k < krn d key := Nat.lt_of_not_le fun y => c2 (nI_le y (by omega))
                have c3 := b2_n0.mp c3
                rw [show min k (krn d key) = k by omega] at c
                rw [show min (k + 1) (krn d key) = k + 1 by omega, irB_s, c, c3]; rfl
          have c0 := cols (kw key) 0 (by omega)
          rw [show min 0 (krn d key) = 0 by omega, show irB (zf S) d key sl 0 = true from decide_eq_true fun j hj => absurd hj (Nat.not_lt_zero _)] at c0
          exact c0
      refine q_L_leaves_35 _ _ _ _ _ _ _ _ _ _ _ _ _ _ _ ⟨by omega, Rc.of (lvk hv).1, (rd_leaf (lvk hv) _ _).use ?_⟩
      rw [v_leaf_in ho h8 hd (by omega), if_pos hil]
      exact ⟨fun c => absurd ((nI_leI (b := 0) (by omega) (by decide)).mp c) (by omega), fun _ => inner ((zB S o).2.1.2.2.2.1 i) 0 σ1 z (by omega) hv hz⟩
  refine outer (zB S o).2.1.2.2.1 0 _ _ (by omega) lv0 ?_
  rw [hSN]
  intro s hs
  show (0 : Int32) = b2 (inE _ s 0 && _)
  rfl
end LLW
