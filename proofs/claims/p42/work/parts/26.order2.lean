/-! Order: what changes it. -/
section ORD2
variable {g : GG} {σ : Hs} {a : Nat → Nat} {key : Nat} {w : OS} {dr : Bool}
theorem OrdC.pn (h : OrdC g σ a key w dr) (n' : Nat) {φ : Hs → Prop} (k : φ (oup g σ a key (n', w.2) dr)) : PF σ (a 0) 2 8 (.int (nI n')) φ := by
  refine PF.of h.1 (by show 8 < 12; decide) rfl ?_
  have e := h.setO n' w.2.2.1 w.2.2.2.2 dr
  show φ (hup σ (a 0) (oc a key (n', w.2.1, w.2.2.1, w.2.2.2.1, w.2.2.2.2) dr))
  rw [e]
  exact k
theorem OrdC.pl (h : OrdC g σ a key w dr) (l' : Nat) {φ : Hs → Prop} (k : φ (oup g σ a key (w.1, w.2.1, l', w.2.2.2) dr)) : PF σ (a 0) 2 9 (.int (nI l')) φ := by
  refine PF.of h.1 (by show 9 < 12; decide) rfl ?_
  have e := h.setO w.1 l' w.2.2.2.2 dr
  show φ (hup σ (a 0) (oc a key (w.1, w.2.1, l', w.2.2.2.1, w.2.2.2.2) dr))
  rw [e]
  exact k
theorem OrdC.pc (h : OrdC g σ a key w dr) (c' : Nat) {φ : Hs → Prop} (k : φ (oup g σ a key (w.1, w.2.1, w.2.2.1, w.2.2.2.1, c') dr)) : PF σ (a 0) 2 10 (.int (nI c')) φ := by
  refine PF.of h.1 (by show 10 < 12; decide) rfl ?_
  have e := h.setO w.1 w.2.2.1 c' dr
  show φ (hup σ (a 0) (oc a key (w.1, w.2.1, w.2.2.1, w.2.2.2.1, c') dr))
  rw [e]
  exact k
theorem OrdC.insE (h : OrdC g σ a key w dr) {p s : Nat} (hp : p ≤ w.1) (hn : w.1 < 64) : Wr g M_X1_insert [.ref (a 3), .int (nI p), .int (nI w.1), .int (nI s)] σ (oup g σ a key (w.1, insN w.2.1 p w.1 s, w.2.2) dr) := by
  have h1 := wr_insert h.2.2.1 hp hn (nI s)
  rw [nF_ins, h.setE] at h1
  exact h1
theorem OrdC.remE (h : OrdC g σ a key w dr) {p : Nat} (hp : p < w.1) (hn : w.1 ≤ 64) : Wr g M_X1_remove [.ref (a 3), .int (nI p), .int (nI w.1)] σ (oup g σ a key (w.1, remN w.2.1 p w.1, w.2.2) dr) := by
  have h1 := wr_remove h.2.2.1 hp hn
  rw [nF_rem, h.setE] at h1
  exact h1
theorem OrdC.putZ (h : OrdC g σ a key w dr) {k v : Nat} (hk : k < 64) : Wr g M_X1_put [.ref (a 4), .int (nI k), .int (nI v)] σ (oup g σ a key (w.1, w.2.1, w.2.2.1, setN w.2.2.2.1 k v, w.2.2.2.2) dr) := by
  have h1 := wr_put h.2.2.2.1 hk (nI v)
  rw [nF_set, h.setZ] at h1
  exact h1
theorem OrdC.insZ (h : OrdC g σ a key w dr) {p v : Nat} (hp : p ≤ w.2.2.1) (hn : w.2.2.1 < 64) : Wr g M_X1_insert [.ref (a 4), .int (nI p), .int (nI w.2.2.1), .int (nI v)] σ (oup g σ a key (w.1, w.2.1, w.2.2.1, insN w.2.2.2.1 p w.2.2.1 v, w.2.2.2.2) dr) := by
  have h1 := wr_insert h.2.2.2.1 hp hn (nI v)
  rw [nF_ins, h.setZ] at h1
  exact h1
theorem OrdC.remZ (h : OrdC g σ a key w dr) {p : Nat} (hp : p < w.2.2.1) (hn : w.2.2.1 ≤ 64) : Wr g M_X1_remove [.ref (a 4), .int (nI p), .int (nI w.2.2.1)] σ (oup g σ a key (w.1, w.2.1, w.2.2.1, remN w.2.2.2.1 p w.2.2.1, w.2.2.2.2) dr) := by
  have h1 := wr_remove h.2.2.2.1 hp hn
  rw [nF_rem, h.setZ] at h1
  exact h1
theorem OrdC.upZ (h : OrdC g σ a key w dr) {k : Nat} (hk : k < 64) : Wr g M_X1_raise [.ref (a 4), .int (nI k), .int 1] σ (oup g σ a key (w.1, w.2.1, w.2.2.1, setN w.2.2.2.1 k (w.2.2.2.1 k + 1), w.2.2.2.2) dr) := by
  have h1 := wr_raise h.2.2.2.1 hk 1
  rw [show nF w.2.2.2.1 k + 1 = nI (w.2.2.2.1 k + 1) from nI_1 _, nF_set, h.setZ] at h1
  exact h1
theorem OrdC.downZ (h : OrdC g σ a key w dr) {k : Nat} (hk : k < 64) (hp : 0 < w.2.2.2.1 k) : Wr g M_X1_raise [.ref (a 4), .int (nI k), .int (-1)] σ (oup g σ a key (w.1, w.2.1, w.2.2.1, setN w.2.2.2.1 k (w.2.2.2.1 k - 1), w.2.2.2.2) dr) := by
  have h1 := wr_raise h.2.2.2.1 hk (-1)
  rw [show nF w.2.2.2.1 k + (-1) = nI (w.2.2.2.1 k - 1) from nI_m1 hp, nF_set, h.setZ] at h1
  exact h1
/-- an order's numbers fit: entries at most 64, leaves not empty, their sizes make the entries -/
def OSok (w : OS) : Prop := w.1 ≤ 64 ∧ psum w.2.2.2.1 w.2.2.1 = w.1 ∧ (∀ k, k < w.2.2.1 → 1 ≤ w.2.2.2.1 k) ∧ ∀ i, i < w.1 → w.2.1 i < 64
theorem psum_lb {z : Nat → Nat} : ∀ (l : Nat), (∀ k, k < l → 1 ≤ z k) → l ≤ psum z l
  | 0, _ => Nat.le_refl 0
  | l + 1, h => by
    have := psum_lb l (fun k hk => h k (by omega))
    have := h l (by omega)
    simp only [psum]
    omega
theorem psum_lb2 {z : Nat → Nat} {k : Nat} : ∀ (l : Nat), (∀ k, k < l → 1 ≤ z k) → k < l → l + z k ≤ psum z l + 1
  | 0, _, h => absurd h (by omega)
  | l + 1, h, hk => by
    have h1 := h l (by omega)
    simp only [psum]
    rcases Nat.lt_or_ge k l with h2 | h2
    · have := psum_lb2 l (fun k hk => h k (by omega)) h2
      omega
    · have := psum_lb l (fun k hk => h k (by omega))
      rw [show k = l by omega]
      omega
theorem OSok.l_le (h : OSok w) : w.2.2.1 ≤ w.1 := by
  have := psum_lb w.2.2.1 h.2.2.1
  rw [h.2.1] at this
  exact this
theorem OSok.z_le (h : OSok w) {k : Nat} (hk : k < w.2.2.1) : w.2.2.1 + w.2.2.2.1 k ≤ w.1 + 1 := by
  have := psum_lb2 w.2.2.1 h.2.2.1 hk
  rw [h.2.1] at this
  exact this
theorem lfAt_lt {z : Nat → Nat} {l p : Nat} (h : 0 < l) : lfAt z l p < l := by
  unfold lfAt
  split <;> omega
theorem lfFor_lt {p : Nat} (h : 0 < w.2.2.1) : lfFor w p < w.2.2.1 := by
  unfold lfFor
  split
  · exact lfAt_lt h
  · exact h
theorem wr_ocut (h : OrdC g σ a key w dr) {leaf : Nat} (hl : leaf < w.2.2.1) (hl2 : w.2.2.1 < 64) (hz : w.2.2.2.1 leaf ≤ 64) : Wr g M_X2_cut [.ref (a 0), .int (nI leaf)] σ (oup g σ a key (cutS w leaf) dr) := by
  refine q_X2_cut _ _ (FR.of h.1 rfl ⟨Rc.of h.2.2.2.1.1, (rd_atn h.2.2.2.1 (by omega)).use ?_⟩)
  show Do g M_X11_roundedUp 0 0 [.int (nI (w.2.2.2.1 leaf)), .int (nI 2)] σ _
  refine (rd_roundedUp (by omega) (by omega)).use (FR.of h.1 rfl ⟨Rc.of h.2.2.2.1.1, ?_⟩)
  have e1 : (w.2.2.2.1 leaf + 2 - 1) / 2 = (w.2.2.2.1 leaf + 1) / 2 := by congr 1
  rw [e1]
  refine (h.putZ (by omega)).use ?_
  have h1 := h.keep (w.1, w.2.1, w.2.2.1, setN w.2.2.2.1 leaf ((w.2.2.2.1 leaf + 1) / 2), w.2.2.2.2) dr
  refine FR.of h1.1 rfl (FI.of h1.1 rfl ⟨Rc.of h1.2.2.2.1.1, ?_⟩)
  rw [nI_1]
  show Do g M_X1_insert 0 0 [_, _, _, .int (nI (w.2.2.2.1 leaf) - nI ((w.2.2.2.1 leaf + 1) / 2))] _ _
  rw [pk_sub (by omega)]
  refine (h1.insZ (p := leaf + 1) (by show leaf + 1 ≤ w.2.2.1; omega) hl2).use ?_
  rw [oup_oup]
  have h2 := h.keep (w.1, w.2.1, w.2.2.1, insN (setN w.2.2.2.1 leaf ((w.2.2.2.1 leaf + 1) / 2)) (leaf + 1) w.2.2.1 (w.2.2.2.1 leaf - (w.2.2.2.1 leaf + 1) / 2), w.2.2.2.2) dr
  refine FI.of h2.1 rfl ?_
  show PF _ _ 2 9 (.int (nI w.2.2.1 + 1)) _
  rw [nI_1]
  refine h2.pl _ ?_
  rw [oup_oup]
  have h3 := h.keep (w.1, w.2.1, w.2.2.1 + 1, insN (setN w.2.2.2.1 leaf ((w.2.2.2.1 leaf + 1) / 2)) (leaf + 1) w.2.2.1 (w.2.2.2.1 leaf - (w.2.2.2.1 leaf + 1) / 2), w.2.2.2.2) dr
  refine FI.of h3.1 rfl ?_
  show PF _ _ 2 10 (.int (nI w.2.2.2.2 + 1)) _
  rw [nI_1]
  refine h3.pc _ ?_
  rw [oup_oup]
  exact wr_v
theorem plc_le (f : Nat → Int32) (key : Nat) (w : OS) (s : Nat) : plc f key w s ≤ w.1 := fa_first_le _ _
theorem wr_oentryComes {q tq wd : Nat} {f : Nat → Int32} {tk : Nat → Bool} (h : OrdC g σ a key w dr) (ht : TabAt g σ (a 1) q tq f tk wd) (hw : OSok w) (hn : w.1 < 64) {s : Nat} (hs : s < 64) : Wr g M_X2_entryComes [.ref (a 0), .int (nI s)] σ (oup g σ a key (comeS f key w s) dr) := by
  have hl := hw.l_le
  have hp := plc_le f key w s
  have hlf : w.2.2.1 ≠ 0 → lfFor w (plc f key w s) < w.2.2.1 := fun hz => lfFor_lt (by omega)
  have hlf0 : w.2.2.1 = 0 → lfFor w (plc f key w s) = 0 := fun hz => by
    have h1 := hw.2.1
    rw [hz] at h1
    have h2 : plc f key w s = 0 := by have : w.1 = 0 := h1.symm; omega
    unfold lfFor
    rw [h2, if_neg (by omega)]
  have hlf64 : lfFor w (plc f key w s) < 64 := by
    rcases Nat.eq_zero_or_pos w.2.2.1 with hz | hz
    · rw [hlf0 hz]; omega
    · have := hlf (by omega); omega
  refine q_X2_entryComes _ _ ⟨Rc.of h.1, (rd_oplaceFor h ht (by omega) hw.2.2.2 hs).use ⟨Rc.of h.1, (rd_oleafFor h (by omega) (by have := hw.2.1; omega) (by omega)).use (FR.of h.1 rfl (FI.of h.1 rfl ⟨Rc.of h.2.2.1.1, (h.insE hp hn).use ?_⟩))⟩⟩
  have h1 := h.keep (w.1, insN w.2.1 (plc f key w s) w.1 s, w.2.2) dr
  refine FI.of h1.1 rfl ?_
  show PF _ _ 2 8 (.int (nI w.1 + 1)) _
  rw [nI_1]
  refine h1.pn _ ?_
  rw [oup_oup]
  have h2 := h.keep (w.1 + 1, insN w.2.1 (plc f key w s) w.1 s, w.2.2) dr
  have fin : ∀ (l2 : Nat) (z2 : Nat → Nat), lfFor w (plc f key w s) < l2 → l2 ≤ 64 → z2 (lfFor w (plc f key w s)) ≤ 63 → (64 ≤ l2 → z2 (lfFor w (plc f key w s)) ≤ 1) → J_X2_entryComes_56 g (kV fun σ' => σ' = oup g σ a key (if rmk key < (setN z2 (lfFor w (plc f key w s)) (z2 (lfFor w (plc f key w s)) + 1)) (lfFor w (plc f key w s)) then cutS (w.1 + 1, insN w.2.1 (plc f key w s) w.1 s, l2, setN z2 (lfFor w (plc f key w s)) (z2 (lfFor w (plc f key w s)) + 1), w.2.2.2.2) (lfFor w (plc f key w s)) else (w.1 + 1, insN w.2.1 (plc f key w s) w.1 s, l2, setN z2 (lfFor w (plc f key w s)) (z2 (lfFor w (plc f key w s)) + 1), w.2.2.2.2)) dr) (oup g σ a key (w.1 + 1, insN w.2.1 (plc f key w s) w.1 s, l2, z2, w.2.2.2.2) dr) (a 0) (nI (lfFor w (plc f key w s))) := by
    intro l2 z2 b1 b2 b3 b4
    generalize hL : lfFor w (plc f key w s) = L at *
    have h3 := h.keep (w.1 + 1, insN w.2.1 (plc f key w s) w.1 s, l2, z2, w.2.2.2.2) dr
    refine q_X2_entryComes_56 _ _ (FR.of h3.1 rfl ⟨Rc.of h3.2.2.2.1.1, (h3.upZ (by omega)).use ?_⟩)
    rw [oup_oup]
    have h4 := h.keep (w.1 + 1, insN w.2.1 (plc f key w s) w.1 s, l2, setN z2 L (z2 L + 1), w.2.2.2.2) dr
    refine FR.of h4.1 rfl ⟨Rc.of h4.2.2.2.1.1, (rd_atn h4.2.2.2.1 (by omega)).use (FI.of h4.1 rfl ?_)⟩
    have e1 : setN z2 L (z2 L + 1) L = z2 L + 1 := by simp [setN]
    have hr := rmk_le key
    show (nI (setN z2 L (z2 L + 1) L) ≤ nI (rmk key) → _) ∧ _
    rw [e1]
    refine ⟨fun c => ?_, fun c => ⟨Rc.of h4.1, ?_⟩⟩
    · have c := (nI_leI (by omega) (by omega)).mp c
      rw [if_neg (by omega)]
      exact wr_v
    · have c : ¬ z2 L + 1 ≤ rmk key := fun z => c (by show nI (setN z2 L (z2 L + 1) L) ≤ nI (rmk key); rw [e1]; exact nI_le z (by omega))
      rw [if_pos (by omega)]
      refine (wr_ocut h4 (leaf := L) b1 (by show l2 < 64; omega) (by show setN z2 L (z2 L + 1) L ≤ 64; rw [e1]; omega)).use ?_
      rw [oup_oup]
      exact wr_v
  refine FI.of h2.1 rfl ⟨fun c => ?_, fun c => ?_⟩
  · have c : ¬ w.2.2.1 = 0 := fun z => c (by show nI w.2.2.1 = 0; rw [z]; rfl)
    have b1 := hlf c
    have b2 := hw.z_le b1
    have h3 := fin w.2.2.1 w.2.2.2.1 b1 (by omega) (by omega) (by omega)
    unfold comeS come1
    simp only [if_neg c]
    exact h3
  · have c : w.2.2.1 = 0 := by
      have := (eq_n (n := 0) (by decide)).mp c
      rw [show (nI _).toInt = ((w.2.2.1 : Nat) : Int) from I_n (by omega)] at this
      omega
    refine FR.of h2.1 rfl ⟨Rc.of h2.2.2.2.1.1, (h2.putZ (k := 0) (v := 0) (by omega)).use ?_⟩
    rw [oup_oup]
    have h3 := h.keep (w.1 + 1, insN w.2.1 (plc f key w s) w.1 s, w.2.2.1, setN w.2.2.2.1 0 0, w.2.2.2.2) dr
    refine h3.pl 1 ?_
    rw [oup_oup]
    have b0 := hlf0 c
    have h4 := fin 1 (setN w.2.2.2.1 0 0) (by omega) (by omega) (by rw [b0]; simp [setN]) (by omega)
    unfold comeS come1
    simp only [if_pos c]
    exact h4
end ORD2
