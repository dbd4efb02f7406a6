/-! Order: entries that go, leaves laid anew, height and size, leaves of a run. -/
theorem fa_first_cong {p q : Nat → Bool} : ∀ {n : Nat}, (∀ k, k < n → p k = q k) → fa_first p n = fa_first q n
  | 0, _ => rfl
  | n + 1, h => by
    unfold fa_first
    rw [fa_first_cong (fun k hk => h k (by omega)), h n (by omega)]
theorem lvs_lt {rm n k : Nat} (h : 0 < rm) : k < lvs rm n ↔ k * rm < n := by
  unfold lvs
  rw [Nat.lt_iff_add_one_le, Nat.le_div_iff_mul_le h, Nat.succ_mul]
  omega
section ORD3
variable {g : GG} {σ : Hs} {a : Nat → Nat} {key : Nat} {w : OS} {dr : Bool}
theorem wr_oentryGoes (h : OrdC g σ a key w dr) (hw : OSok w) {s : Nat} (hs : s < 64) : Wr g M_X2_entryGoes [.ref (a 0), .int (nI s)] σ (oup g σ a key (goS w s) dr) := by
  have hl := hw.l_le
  have hw1 := hw.1
  have hfe : fa_first (fun j => decide (nF w.2.1 j = nI s)) w.1 = fa_first (fun i => decide (w.2.1 i = s)) w.1 := fa_first_cong fun k hk => decide_eq_decide.mpr (by
    have := hw.2.2.2 k hk
    exact nI_eq (by omega) (by omega))
  refine q_X2_entryGoes _ _ (FR.of h.1 rfl (FI.of h.1 rfl ⟨Rc.of h.2.2.1.1, (rd_placeOf h.2.2.1 (nI s) (by omega)).use ?_⟩))
  rw [hfe]
  by_cases hp : fa_first (fun i => decide (w.2.1 i = s)) w.1 < w.1
  · rw [if_pos hp]
    generalize hP : fa_first (fun i => decide (w.2.1 i = s)) w.1 = P at *
    have hl0 : 0 < w.2.2.1 := by
      rcases Nat.eq_zero_or_pos w.2.2.1 with hz | hz
      · have h1 := hw.2.1
        rw [hz] at h1
        have : w.1 = 0 := h1.symm
        omega
      · exact hz
    have hL := lfAt_lt (z := w.2.2.2.1) (p := P) hl0
    have hz1 := hw.2.2.1 _ hL
    have hz2 := hw.z_le hL
    have hgo : goS w s = goAt w P := by
      unfold goS
      rw [hP, if_pos hp]
    rw [hgo]
    refine ⟨fun _ => ⟨Rc.of h.1, ?_⟩, fun c => absurd c (by intro e; have := congrArg Int32.toInt e; rw [I_n (by omega)] at this; exact absurd this (by show ¬ ((P : Int) = -1); omega))⟩
    refine (rd_oleafAt h (by omega) (by have := hw.2.1; omega) (by omega)).use (FR.of h.1 rfl (FI.of h.1 rfl ⟨Rc.of h.2.2.1.1, (h.remE hp (by omega)).use ?_⟩))
    generalize hLe : lfAt w.2.2.2.1 w.2.2.1 P = L at *
    have h1 := h.keep (w.1, remN w.2.1 P w.1, w.2.2) dr
    refine FI.of h1.1 rfl ?_
    show PF _ _ 2 8 (.int (nI w.1 - 1)) _
    rw [nI_s1 (by omega)]
    refine h1.pn _ ?_
    rw [oup_oup]
    have h2 := h.keep (w.1 - 1, remN w.2.1 P w.1, w.2.2) dr
    refine FR.of h2.1 rfl ⟨Rc.of h2.2.2.2.1.1, (h2.downZ (k := L) (by omega) (by show 0 < w.2.2.2.1 L; omega)).use ?_⟩
    rw [oup_oup]
    have h3 := h.keep (go1 w P L) dr
    show FR (oup g σ a key (go1 w P L) dr) _ _ _ _
    refine FR.of h3.1 rfl ⟨Rc.of h3.2.2.2.1.1, (rd_atn h3.2.2.2.1 (k := L) (by omega)).use ⟨fun c => ?_, fun c => ?_⟩⟩
    · have c : ¬ (go1 w P L).2.2.2.1 L = 0 := fun z => c (by show nI ((go1 w P L).2.2.2.1 L) = 0; rw [z]; rfl)
      unfold goAt
      rw [hLe, if_neg c]
      exact wr_v
    · have hzz : (go1 w P L).2.2.2.1 L ≤ 64 := by show setN w.2.2.2.1 L _ L ≤ 64; simp only [setN, if_pos]; omega
      have c : (go1 w P L).2.2.2.1 L = 0 := by
        have := (eq_n (n := 0) (by decide)).mp c
        rw [show (nF (go1 w P L).2.2.2.1 L).toInt = (((go1 w P L).2.2.2.1 L : Nat) : Int) from I_n (by omega)] at this
        omega
      refine FR.of h3.1 rfl (FI.of h3.1 rfl ⟨Rc.of h3.2.2.2.1.1, (h3.remZ (p := L) hL (by show w.2.2.1 ≤ 64; omega)).use ?_⟩)
      rw [oup_oup]
      have h4 := h.keep ((go1 w P L).1, (go1 w P L).2.1, (go1 w P L).2.2.1, remN (go1 w P L).2.2.2.1 L (go1 w P L).2.2.1, (go1 w P L).2.2.2.2) dr
      refine FI.of h4.1 rfl ?_
      show PF _ _ 2 9 (.int (nI w.2.2.1 - 1)) _
      rw [nI_s1 (by omega)]
      refine h4.pl _ ?_
      rw [oup_oup]
      unfold goAt
      rw [hLe, if_pos c]
      exact wr_v
  · rw [if_neg hp]
    refine ⟨fun c => absurd rfl c, fun _ => ?_⟩
    have hgo : goS w s = w := by
      unfold goS
      rw [if_neg hp]
    rw [hgo, h.self]
    exact wr_v
theorem wr_ofillLeaves (h : OrdC g σ a key w dr) (hn : w.1 ≤ 64) : Wr g M_X2_fillLeaves [.ref (a 0)] σ (oup g σ a key (packS key w) dr) := by
  have hr := rmk_le key
  have loop : ∀ (d k : Nat), k + d = lvs (rmk key) w.1 → J_X2_fillLeaves_7 g (kV fun σ' => σ' = oup g σ a key (packS key w) dr) (oup g σ a key (w.1, w.2.1, k, lay1 w.2.2.2.1 (rmk key) w.1 k, w.2.2.2.2) dr) (a 0) (nI (k * rmk key)) := by
    intro d
    induction d with
    | zero =>
      intro k hk
      have h1 := h.keep (w.1, w.2.1, k, lay1 w.2.2.2.1 (rmk key) w.1 k, w.2.2.2.2) dr
      have hnot : ¬ k * rmk key < w.1 := fun z => by have := (lvs_lt (by omega)).mpr z; omega
      have hkk : k * rmk key ≤ 400 := by
        rcases Nat.eq_zero_or_pos k with hz | hz
        · rw [hz]; omega
        · have h2 := (lvs_lt (n := w.1) (k := k - 1) (show 0 < rmk key by omega)).mp (by omega)
          have h3 : (k - 1 + 1) * rmk key = (k - 1) * rmk key + rmk key := Nat.succ_mul _ _
          rw [show k - 1 + 1 = k by omega] at h3
          omega
      refine q_X2_fillLeaves_7 _ _ (FI.of h1.1 rfl ⟨fun _ => ?_, fun c => absurd (nI_le (by show w.1 ≤ _; omega) (by omega)) c⟩)
      rw [show packS key w = (w.1, w.2.1, k, lay1 w.2.2.2.1 (rmk key) w.1 k, w.2.2.2.2) from by unfold packS; rw [show lvs (rmk key) w.1 = k by omega]]
      exact wr_v
    | succ d ih =>
      intro k hk
      have h1 := h.keep (w.1, w.2.1, k, lay1 w.2.2.2.1 (rmk key) w.1 k, w.2.2.2.2) dr
      have hlt : k * rmk key < w.1 := (lvs_lt (by omega)).mp (by omega)
      have hk64 : k < 64 := by
        have := Nat.mul_le_mul_left k (show 1 ≤ rmk key by omega)
        omega
      refine q_X2_fillLeaves_7 _ _ (FI.of h1.1 rfl ⟨fun c => absurd ((nI_leI (by show w.1 < _; omega) (by omega)).mp c) (by show ¬ w.1 ≤ _; omega), fun _ => FI.of h1.1 rfl ⟨fun c => absurd ((le_n (n := 0) (by decide)).mp c) (by rw [I_n (by omega)]; omega), fun _ => FR.of h1.1 rfl (FI.of h1.1 rfl (FI.of h1.1 rfl (FI.of h1.1 rfl ⟨Rc.of h1.2.2.2.1.1, ?_⟩)))⟩⟩)
      have e1 : (if nI w.1 - nI (k * rmk key) < nI (rmk key) then nI w.1 - nI (k * rmk key) else nI (rmk key)) = nI (min (rmk key) (w.1 - k * rmk key)) := by
        rw [pk_sub (by omega)]
        by_cases hc : w.1 - k * rmk key < rmk key
        · rw [if_pos (nI_lt hc (by omega)), Nat.min_eq_right (by omega)]
        · rw [if_neg (fun z => hc ((nI_ltI (by omega) (by omega)).mp z)), Nat.min_eq_left (by omega)]
      show Do g M_X1_put 0 0 [_, _, .int (if nI w.1 - nI (k * rmk key) < nI (rmk key) then nI w.1 - nI (k * rmk key) else nI (rmk key))] _ _
      rw [e1]
      refine (h1.putZ (k := k) (by omega)).use ?_
      rw [oup_oup]
      have h2 := h.keep (w.1, w.2.1, k, lay1 w.2.2.2.1 (rmk key) w.1 (k + 1), w.2.2.2.2) dr
      show FI (oup g σ a key (w.1, w.2.1, k, lay1 w.2.2.2.1 (rmk key) w.1 (k + 1), w.2.2.2.2) dr) _ _ _ _
      refine FI.of h2.1 rfl ?_
      show PF _ _ 2 9 (.int (nI k + 1)) _
      rw [nI_1]
      refine h2.pl _ ?_
      rw [oup_oup]
      have h3 := h.keep (w.1, w.2.1, k + 1, lay1 w.2.2.2.1 (rmk key) w.1 (k + 1), w.2.2.2.2) dr
      refine FI.of h3.1 rfl ?_
      show J_X2_fillLeaves_7 _ _ _ _ (nI (k * rmk key) + nI (rmk key))
      rw [nI_add, ← Nat.succ_mul]
      exact ih (k + 1) (by omega)
  refine q_X2_fillLeaves _ (h.pl 0 ?_)
  have h0 := loop (lvs (rmk key) w.1) 0 (by omega)
  rw [Nat.zero_mul] at h0
  exact h0
theorem reb1_1 (f : Nat → Int32) (key : Nat) (tk : Nat → Bool) (w : OS) : ∀ (s : Nat), (reb1 f key tk w s).1 ≤ s ∧ (∀ i, i < (reb1 f key tk w s).1 → (reb1 f key tk w s).2.1 i < s) ∧ (reb1 f key tk w s).2.2 = w.2.2
  | 0 => ⟨Nat.le_refl 0, fun i hi => absurd hi (by show ¬ i < 0; omega), rfl⟩
  | s + 1 => by
    have ih := reb1_1 f key tk w s
    simp only [reb1]
    split
    · refine ⟨by show _ + 1 ≤ _; omega, fun i hi => ?_, rfl⟩
      have hp := plc_le f key (reb1 f key tk w s) s
      show insN _ _ _ _ i < s + 1
      have hi : i < (reb1 f key tk w s).1 + 1 := hi
      unfold insN
      split
      · have := ih.2.1 i (by omega); omega
      · split
        · omega
        · rw [if_pos (by omega)]
          have := ih.2.1 (i - 1) (by omega); omega
    · exact ⟨by omega, fun i hi => by have := ih.2.1 i hi; omega, ih.2.2⟩
theorem wr_orebuild {q tq wd : Nat} {f : Nat → Int32} {tk : Nat → Bool} (h : OrdC g σ a key w dr) (ht : TabAt g σ (a 1) q tq f tk wd) : Wr g M_X2_rebuild [.ref (a 0)] σ (oup g σ a key (rebS f key tk w) dr) := by
  have loop : ∀ (d s : Nat), s + d = 64 → J_X2_rebuild_7 g (kV fun σ' => σ' = oup g σ a key (rebS f key tk w) dr) (oup g σ a key (reb1 f key tk w s) dr) (a 0) (nI s) := by
    intro d
    induction d with
    | zero =>
      intro s hs
      have h1 := h.keep (reb1 f key tk w s) dr
      refine q_X2_rebuild_7 _ _ ⟨fun _ => ⟨Rc.of h1.1, (wr_ofillLeaves h1 (by have := (reb1_1 f key tk w s).1; omega)).use ?_⟩, fun c => absurd ((n_le (n := 64) (by decide)).mpr (by rw [I_n (by omega)]; omega)) c⟩
      rw [oup_oup, show s = 64 by omega]
      exact wr_v
    | succ d ih =>
      intro s hs
      have ih := ih (s + 1) (by omega)
      have h1 := h.keep (reb1 f key tk w s) dr
      have ht1 := ht.oup h (reb1 f key tk w s) dr
      have hb := reb1_1 f key tk w s
      refine q_X2_rebuild_7 _ _ ⟨fun c => absurd ((n_le (n := 64) (by decide)).mp c) (by rw [I_n (by omega)]; omega), fun _ => FR.of h1.1 rfl ⟨Rc.of ht1.1, (rd_holds ht1 (nI s)).use ?_⟩⟩
      rw [inR_n (by omega), decide_eq_true (by omega), Bool.true_and, I_n (by omega), show ((s : Int).toNat) = s by omega]
      refine ⟨fun c => ?_, fun c => ?_⟩
      · have c := b2_0.mp c
        rw [nI_1]
        simp only [reb1, c] at ih
        exact ih
      · have c := b2_n0.mp c
        refine FR.of h1.1 rfl ⟨Rc.of h1.1, (rd_oplaceFor h1 ht1 (by omega) (fun i hi => by have := hb.2.1 i hi; omega) (by omega)).use (FI.of h1.1 rfl ⟨Rc.of h1.2.2.1.1, (h1.insE (plc_le _ _ _ _) (by omega)).use ?_⟩)⟩
        rw [oup_oup]
        have h2 := h.keep ((reb1 f key tk w s).1, insN (reb1 f key tk w s).2.1 (plc f key (reb1 f key tk w s) s) (reb1 f key tk w s).1 s, (reb1 f key tk w s).2.2) dr
        refine FI.of h2.1 rfl ?_
        show PF _ _ 2 8 (.int (nI (reb1 f key tk w s).1 + 1)) _
        rw [nI_1]
        refine h2.pn _ ?_
        rw [oup_oup, nI_1]
        simp only [reb1, c, if_true] at ih
        rw [hb.2.2]
        exact ih
  exact q_X2_rebuild _ (h.pn 0 (loop 64 0 rfl))
theorem rd_oheight (h : OrdC g σ a key w dr) (hl : w.2.2.1 ≤ 64) : Rd g M_X2_height [.ref (a 0)] σ (nI (hgt w.2.2.1)) := by
  have loop : ∀ (d n v : Nat), n ≤ 4 ^ d → n ≤ 64 → v + d ≤ 8 → J_X2_height_7 g (kI fun x σ' => σ' = σ ∧ x = nI (v + hgtN d n)) σ (nI v) (nI n) := by
    intro d
    induction d with
    | zero =>
      intro n v h1 h2 h3
      refine q_X2_height_7 _ _ ⟨fun _ => rd_i rfl, fun c => absurd ((le_n (n := 1) (by decide)).mpr (by rw [I_n (by omega)]; simp at h1; omega)) c⟩
    | succ d ih =>
      intro n v h1 h2 h3
      refine q_X2_height_7 _ _ ⟨fun c => rd_i ?_, fun c => ⟨fun c2 => absurd ((n_le (n := 64) (by decide)).mp c2) (by rw [I_n (by omega)]; omega), fun _ => ?_⟩⟩
      · have c := (le_n (n := 1) (by decide)).mp c
        rw [I_n (by omega)] at c
        simp only [hgtN]
        rw [if_neg (by omega)]
        rfl
      · have c := nle_n (n := 1) (by decide) c
        rw [I_n (by omega)] at c
        have hp : 4 ^ (d + 1) = 4 * 4 ^ d := by rw [Nat.pow_succ]; omega
        show Do g M_X11_roundedUp 0 0 [.int (nI n), .int (nI 4)] σ _
        refine (rd_roundedUp (by omega) (by omega)).use ?_
        rw [nI_1, show n + 4 - 1 = n + 3 by omega]
        have h4 := ih ((n + 3) / 4) (v + 1) (by omega) (by omega) (by omega)
        simp only [hgtN]
        rw [if_pos (by omega), show v + (hgtN d ((n + 3) / 4) + 1) = v + 1 + hgtN d ((n + 3) / 4) by omega]
        exact h4
  refine q_X2_height _ (FI.of h.1 rfl ?_)
  have h0 := loop 8 w.2.2.1 0 (by omega) hl (by omega)
  rw [Nat.zero_add] at h0
  exact h0
theorem hgtN_le : ∀ (d n : Nat), hgtN d n ≤ d
  | 0, _ => Nat.le_refl 0
  | d + 1, n => by
    have := hgtN_le d ((n + 3) / 4)
    simp only [hgtN]
    split <;> omega
theorem szN_le : ∀ (d n : Nat), n ≤ 64 → szN d n ≤ 64 * d
  | 0, _, _ => by simp [szN]
  | d + 1, n, h => by
    have := szN_le d ((n + 3) / 4) (by omega)
    simp only [szN]
    split <;> omega
theorem rd_osize (h : OrdC g σ a key w dr) (hl : w.2.2.1 ≤ 64) : Rd g M_X2_size [.ref (a 0)] σ (nI (szO w.2.2.1)) := by
  have loop : ∀ (d n v : Nat), n ≤ 64 → v + 64 * d ≤ 10000 → J_X2_size_15 g (kI fun x σ' => σ' = σ ∧ x = nI (v + szN d n)) σ (nI v) (nI n) (nI (hgtN d n)) := by
    intro d
    induction d with
    | zero =>
      intro n v h2 h3
      exact q_X2_size_15 _ _ _ ⟨fun _ => rd_i rfl, fun c => absurd ((le_n (n := 0) (by decide)).mpr (by show (nI 0).toInt ≤ _; rw [I_n (by omega)]; omega)) c⟩
    | succ d ih =>
      intro n v h2 h3
      have hh := hgtN_le (d + 1) n
      by_cases hn : 1 < n
      · have e1 : hgtN (d + 1) n = hgtN d ((n + 3) / 4) + 1 := by simp only [hgtN]; rw [if_pos hn]
        have e2 : szN (d + 1) n = szN d ((n + 3) / 4) + (n + 3) / 4 := by simp only [szN]; rw [if_pos hn]
        have hh2 := hgtN_le d ((n + 3) / 4)
        rw [e1, e2]
        refine q_X2_size_15 _ _ _ ⟨fun c => absurd ((le_n (n := 0) (by decide)).mp c) (by rw [I_n (by omega)]; omega), fun _ => ?_⟩
        show Do g M_X11_roundedUp 0 0 [.int (nI n), .int (nI 4)] σ _
        refine (rd_roundedUp (by omega) (by omega)).use ?_
        rw [nI_add, nI_m1 (by omega), show n + 4 - 1 = n + 3 by omega, show hgtN d ((n + 3) / 4) + 1 - 1 = hgtN d ((n + 3) / 4) by omega, show v + (szN d ((n + 3) / 4) + (n + 3) / 4) = v + (n + 3) / 4 + szN d ((n + 3) / 4) by omega]
        exact ih ((n + 3) / 4) (v + (n + 3) / 4) (by omega) (by omega)
      · have e1 : hgtN (d + 1) n = 0 := by simp only [hgtN]; rw [if_neg hn]
        have e2 : szN (d + 1) n = 0 := by simp only [szN]; rw [if_neg hn]
        rw [e1, e2]
        exact q_X2_size_15 _ _ _ ⟨fun _ => rd_i rfl, fun c => absurd ((le_n (n := 0) (by decide)).mpr (by rw [I_n (by omega)]; omega)) c⟩
  exact q_X2_size _ (FI.of h.1 rfl (FI.of h.1 rfl ⟨Rc.of h.1, (rd_oheight h hl).use (loop 8 w.2.2.1 w.2.2.1 hl (by omega))⟩))
/-! leaves that hold some of a set of slots: entries from p up to p + m -/
def anyE (e : Nat → Nat) (P : Nat → Bool) (p : Nat) : Nat → Bool
  | 0 => false
  | m + 1 => P (e p) || anyE e P (p + 1) m
theorem rd_ohasSome (h : OrdC g σ a key w dr) (hw : OSok w) (P : Nat → Bool) {p m : Nat} (hm : p + m ≤ w.1) : Rd g M_X2_hasSome [.ref (a 0), .long (mk64 P), .int (nI p), .int (nI (p + m))] σ (b2 (anyE w.2.1 P p m)) := by
  have hw1 := hw.1
  have loop : ∀ (d k : Nat), k + d ≤ w.1 → J_X2_hasSome_3 g (kI fun x σ' => σ' = σ ∧ x = b2 (anyE w.2.1 P k d)) σ (a 0) (mk64 P) (nI (k + d)) (nI k) := by
    intro d
    induction d with
    | zero =>
      intro k hk
      exact q_X2_hasSome_3 _ _ _ _ ⟨fun _ => rd_i rfl, fun c => absurd (nI_le (by omega) (by omega)) c⟩
    | succ d ih =>
      intro k hk
      have ih := ih (k + 1) (by omega)
      refine q_X2_hasSome_3 _ _ _ _ ⟨fun c => absurd ((nI_leI (by omega) (by omega)).mp c) (by omega), fun _ => FR.of h.1 rfl ⟨Rc.of h.2.2.1.1, (rd_atn h.2.2.1 (by omega)).use ((rd_hasSlot P (hw.2.2.2 k (by omega))).use ⟨fun c => ?_, fun c => rd_i ?_⟩)⟩⟩
      · rw [nI_1]
        simp only [anyE]
        rw [b2_0.mp c, Bool.false_or, show k + (d + 1) = k + 1 + d by omega]
        exact ih
      · simp only [anyE]
        rw [b2_n0.mp c]
        rfl
  exact q_X2_hasSome _ _ _ _ (loop m p hm)
/-- how many of the first k leaves hold some of P -/
def cntL (w : OS) (P : Nat → Bool) : Nat → Nat
  | 0 => 0
  | k + 1 => cntL w P k + (if anyE w.2.1 P (psum w.2.2.2.1 k) (w.2.2.2.1 k) then 1 else 0)
theorem cntL_le (w : OS) (P : Nat → Bool) : ∀ k, cntL w P k ≤ k
  | 0 => Nat.le_refl 0
  | k + 1 => by
    have := cntL_le w P k
    simp only [cntL]
    split <;> omega
def lvsOf (w : OS) (P : Nat → Bool) : Nat := if cntL w P w.2.2.1 = 0 ∧ 0 < w.2.2.1 then 1 else cntL w P w.2.2.1
theorem rd_oleavesOf (h : OrdC g σ a key w dr) (hw : OSok w) (P : Nat → Bool) : Rd g M_X2_leavesOf [.ref (a 0), .long (mk64 P)] σ (nI (lvsOf w P)) := by
  have hw1 := hw.1
  have hl := hw.l_le
  have loop : ∀ (d k : Nat), k + d = w.2.2.1 → J_X2_leavesOf_8 g (kI fun x σ' => σ' = σ ∧ x = nI (lvsOf w P)) σ (a 0) (mk64 P) (nI (cntL w P k)) (nI (psum w.2.2.2.1 k)) (nI k) := by
    intro d
    induction d with
    | zero =>
      intro k hk
      have hc := cntL_le w P k
      have hk' : k = w.2.2.1 := by omega
      refine q_X2_leavesOf_8 _ _ _ _ _ (FI.of h.1 rfl ⟨fun _ => ⟨fun c => rd_i ?_, fun c => FI.of h.1 rfl ⟨fun c2 => rd_i ?_, fun c2 => rd_i ?_⟩⟩, fun c => absurd (nI_le (by omega) (by omega)) c⟩)
      · have c : ¬ cntL w P k = 0 := fun z => c (by rw [z]; rfl)
        unfold lvsOf
        rw [← hk', if_neg (fun z => c z.1)]
      · have c2 := (le_n (n := 0) (by decide)).mp c2
        rw [show (nI _).toInt = ((w.2.2.1 : Nat) : Int) from I_n (by omega)] at c2
        unfold lvsOf
        rw [← hk', if_neg (fun z => by omega)]
      · have c : cntL w P k = 0 := by
          have := (eq_n (n := 0) (by decide)).mp c
          rw [I_n (by omega)] at this
          omega
        have c2 := nle_n (n := 0) (by decide) c2
        rw [show (nI _).toInt = ((w.2.2.1 : Nat) : Int) from I_n (by omega)] at c2
        unfold lvsOf
        rw [← hk', if_pos ⟨c, by omega⟩]
        rfl
    | succ d ih =>
      intro k hk
      have ih := ih (k + 1) (by omega)
      have hc := cntL_le w P k
      have hps : psum w.2.2.2.1 (k + 1) ≤ w.1 := by rw [← hw.2.1]; exact psum_mono _ (by omega)
      have hps2 : psum w.2.2.2.1 k + w.2.2.2.1 k = psum w.2.2.2.1 (k + 1) := rfl
      refine q_X2_leavesOf_8 _ _ _ _ _ (FI.of h.1 rfl ⟨fun c => absurd ((nI_leI (by omega) (by omega)).mp c) (by omega), fun _ => FR.of h.1 rfl ⟨Rc.of h.2.2.2.1.1, (rd_atn h.2.2.2.1 (by omega)).use ⟨Rc.of h.1, ?_⟩⟩⟩)
      show Do g M_X2_hasSome 0 0 [_, _, _, .int (nI (psum w.2.2.2.1 k) + nI (w.2.2.2.1 k))] _ _
      rw [nI_add]
      refine (rd_ohasSome h hw P (by omega)).use ⟨fun c => ?_, fun c => ?_⟩
      · show J_X2_leavesOf_8 _ _ _ _ _ _ (nI (psum w.2.2.2.1 k) + nI (w.2.2.2.1 k)) _
        rw [nI_add, nI_1]
        simp only [cntL, b2_0.mp c] at ih
        exact ih
      · show J_X2_leavesOf_8 _ _ _ _ _ _ (nI (psum w.2.2.2.1 k) + nI (w.2.2.2.1 k)) _
        rw [nI_add, nI_1, nI_1]
        simp only [cntL, b2_n0.mp c, if_true] at ih
        exact ih
  exact q_X2_leavesOf _ _ (loop w.2.2.1 0 (by omega))
end ORD3
