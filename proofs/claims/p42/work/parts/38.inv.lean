/-! What orders always are: entries sorted, just the rows of the table; leaves that make them. -/
theorem psum_s (z : Nat → Nat) (l : Nat) : psum z (l + 1) = psum z l + z l := rfl
theorem psum_cong {z z' : Nat → Nat} : ∀ {l : Nat}, (∀ j, j < l → z j = z' j) → psum z l = psum z' l
  | 0, _ => rfl
  | l + 1, h => by
    have ih := psum_cong (l := l) (fun j hj => h j (by omega))
    rw [psum_s, psum_s, ih, h l (by omega)]
theorem setN_at (z : Nat → Nat) (k v : Nat) : setN z k v k = v := by unfold setN; rw [if_pos rfl]
theorem setN_ne (z : Nat → Nat) {k j : Nat} (v : Nat) (h : j ≠ k) : setN z k v j = z j := by unfold setN; rw [if_neg h]
theorem insN_lt (e : Nat → Nat) {p n v j : Nat} (h : j < p) : insN e p n v j = e j := by unfold insN; rw [if_pos h]
theorem insN_at (e : Nat → Nat) (p n v : Nat) : insN e p n v p = v := by unfold insN; rw [if_neg (by omega), if_pos rfl]
theorem insN_gt (e : Nat → Nat) {p n v j : Nat} (h : p < j) (h2 : j ≤ n) : insN e p n v j = e (j - 1) := by unfold insN; rw [if_neg (by omega), if_neg (by omega), if_pos h2]
theorem remN_lt (e : Nat → Nat) {p n j : Nat} (h : j < p) : remN e p n j = e j := by unfold remN; rw [if_neg (by omega)]
theorem remN_ge (e : Nat → Nat) {p n j : Nat} (h : p ≤ j) (h2 : j + 1 < n) : remN e p n j = e (j + 1) := by unfold remN; rw [if_pos ⟨h, h2⟩]
theorem psum_set {z : Nat → Nat} {k v : Nat} : ∀ {l : Nat}, k < l → psum (setN z k v) l + z k = psum z l + v
  | 0, h => absurd h (by omega)
  | l + 1, h => by
    have e1 := psum_s (setN z k v) l
    have e2 := psum_s z l
    by_cases e : k = l
    · subst e
      have e3 := psum_cong (z := setN z k v) (z' := z) (l := k) (fun j hj => setN_ne z v (by omega))
      have e4 := setN_at z k v
      omega
    · have ih := psum_set (z := z) (k := k) (v := v) (l := l) (by omega)
      have e4 := setN_ne z (k := k) (j := l) v (by omega)
      omega
theorem psum_ins {z : Nat → Nat} {p l v : Nat} (hp : p ≤ l) : ∀ (k : Nat), k ≤ l + 1 → psum (insN z p l v) k = if k ≤ p then psum z k else psum z (k - 1) + v
  | 0, _ => by rw [if_pos (by omega)]; rfl
  | k + 1, hk => by
    have ih := psum_ins (z := z) (v := v) hp k (by omega)
    have e1 := psum_s (insN z p l v) k
    have e2 := psum_s z k
    by_cases c : k < p
    · have e3 := insN_lt z (n := l) (v := v) c
      rw [if_pos (by omega)] at ih
      rw [if_pos (by omega)]
      omega
    · by_cases c2 : k = p
      · subst c2
        have e3 := insN_at z k l v
        rw [if_pos (by omega)] at ih
        rw [if_neg (by omega), Nat.add_sub_cancel]
        omega
      · have e3 := insN_gt z (p := p) (n := l) (v := v) (j := k) (by omega) (by omega)
        have e4 := psum_s z (k - 1)
        rw [show k - 1 + 1 = k by omega] at e4
        rw [if_neg (by omega)] at ih
        rw [if_neg (by omega), Nat.add_sub_cancel]
        omega
theorem psum_rem {z : Nat → Nat} {p l : Nat} : ∀ (k : Nat), k + 1 ≤ l → (k ≤ p → psum (remN z p l) k = psum z k) ∧ (p ≤ k → psum (remN z p l) k + z p = psum z (k + 1))
  | 0, h => ⟨fun _ => rfl, fun h2 => by
    have e := psum_s z 0
    have e0 : psum z 0 = 0 := rfl
    have e1 : psum (remN z p l) 0 = 0 := rfl
    rw [show p = 0 by omega] at e1 ⊢
    omega⟩
  | k + 1, h => by
    have ih := psum_rem (z := z) (p := p) (l := l) k (by omega)
    have e1 := psum_s (remN z p l) k
    have e2 := psum_s z k
    have e3 := psum_s z (k + 1)
    refine ⟨fun h2 => ?_, fun h2 => ?_⟩
    · have i1 := ih.1 (by omega)
      have e4 := remN_lt z (n := l) (show k < p by omega)
      omega
    · rcases Nat.lt_or_ge k p with h3 | h3
      · have i1 := ih.1 (by omega)
        have e4 := remN_lt z (n := l) h3
        have hpk : p = k + 1 := by omega
        subst hpk
        omega
      · have i1 := ih.2 h3
        have e4 := remN_ge z (n := l) h3 (by omega)
        omega
/-- entries: sorted by the key, rows of the table, all of them -/
def EIn (f : Nat → Int32) (tk : Nat → Bool) (key n : Nat) (e : Nat → Nat) : Prop := (∀ i j, i < j → j < n → ah f key (e i) (e j) = true) ∧ (∀ i, i < n → e i < 64 ∧ tk (e i) = true) ∧ ∀ s, s < 64 → tk s = true → ∃ i, i < n ∧ e i = s
theorem ah_irr (f : Nat → Int32) (key s : Nat) : ah f key s s = false := by
  have h : ∀ r i, ahG f key s s i r = false := by
    intro r
    induction r with
    | zero => intro i; simp [ahG]
    | succ r ih => intro i; simp only [ahG]; rw [if_pos trivial]; exact ih (i + 1)
  exact h _ _
theorem EIn.inj {f : Nat → Int32} {tk : Nat → Bool} {key n : Nat} {e : Nat → Nat} (h : EIn f tk key n e) {i j : Nat} (hi : i < n) (hj : j < n) (he : e i = e j) : i = j := by
  rcases Nat.lt_trichotomy i j with c | c | c
  · have := h.1 i j c hj
    rw [he, ah_irr] at this
    cases this
  · exact c
  · have := h.1 j i c hi
    rw [he, ah_irr] at this
    cases this
/-- so many numbers below m, all unlike: at most m -/
theorem holes : ∀ (m n : Nat) (e : Nat → Nat), (∀ i, i < n → e i < m) → (∀ i j, i < n → j < n → e i = e j → i = j) → n ≤ m
  | 0, n, e, h, _ => by
    rcases Nat.eq_zero_or_pos n with z | z
    · omega
    · have := h 0 z; omega
  | m + 1, n, e, h, hi => by
    rcases Nat.eq_zero_or_pos n with z | z
    · omega
    · have h1 := holes m (n - 1) (fun i => if e i = m then e (n - 1) else e i) (fun i hin => by
        show (if e i = m then e (n - 1) else e i) < m
        have a1 := h i (by omega)
        have a2 := h (n - 1) (by omega)
        split
        · rename_i c
          by_cases c2 : e (n - 1) = m
          · have := hi i (n - 1) (by omega) (by omega) (by rw [c, c2]); omega
          · omega
        · omega) (fun i j hin hjn hij => by
        have hij : (if e i = m then e (n - 1) else e i) = (if e j = m then e (n - 1) else e j) := hij
        by_cases c : e i = m
        · by_cases c2 : e j = m
          · exact hi i j (by omega) (by omega) (by rw [c, c2])
          · rw [if_pos c, if_neg c2] at hij
            have := hi (n - 1) j (by omega) (by omega) hij
            omega
        · by_cases c2 : e j = m
          · rw [if_neg c, if_pos c2] at hij
            have := hi i (n - 1) (by omega) (by omega) hij
            omega
          · rw [if_neg c, if_neg c2] at hij
            exact hi i j (by omega) (by omega) hij)
      omega
theorem EIn.le {f : Nat → Int32} {tk : Nat → Bool} {key n : Nat} {e : Nat → Nat} (h : EIn f tk key n e) : n ≤ 64 := holes 64 n e (fun i hi => (h.2.1 i hi).1) (fun _ _ hi hj => h.inj hi hj)
theorem EIn.lt {f : Nat → Int32} {tk : Nat → Bool} {key n s : Nat} {e : Nat → Nat} (h : EIn f tk key n e) (hs : s < 64) (ht : tk s = false) : n < 64 := by
  have hne : ∀ i, i < n → e i ≠ s := fun i hi z => by
    have := (h.2.1 i hi).2
    rw [z, ht] at this
    cases this
  have := holes 63 n (fun i => if s < e i then e i - 1 else e i) (fun i hi => by
    have := (h.2.1 i hi).1
    have := hne i hi
    show (if s < e i then e i - 1 else e i) < 63
    split <;> omega) (fun i j hi hj hij => h.inj hi hj (by
    have hij : (if s < e i then e i - 1 else e i) = (if s < e j then e j - 1 else e j) := hij
    have := hne i hi
    have := hne j hj
    split at hij <;> split at hij <;> omega))
  omega
theorem EIn.cong {f f2 : Nat → Int32} {tk tk2 : Nat → Bool} {key n : Nat} {e : Nat → Nat} (h : EIn f tk key n e) (hf : ∀ s, s < 64 → tk s = true → ∀ c, c < 4 → f (4 * s + c) = f2 (4 * s + c)) (ht : ∀ s, s < 64 → tk s = tk2 s) : EIn f2 tk2 key n e := by
  refine ⟨fun i j hij hj => ?_, fun i hi => ⟨(h.2.1 i hi).1, ?_⟩, fun s hs h2 => h.2.2 s hs (by rw [ht s hs]; exact h2)⟩
  · have a1 := h.2.1 i (by omega)
    have a2 := h.2.1 j hj
    rw [← ah_cong (hf _ a1.1 a1.2) (hf _ a2.1 a2.2)]
    exact h.1 i j hij hj
  · rw [← ht _ (h.2.1 i hi).1]
    exact (h.2.1 i hi).2
/-- the place of a slot that comes: all before it are ahead, none behind is -/
theorem EIn.plcs {f : Nat → Int32} {tk : Nat → Bool} {key s : Nat} {w : OS} (h : EIn f tk key w.1 w.2.1) (ht : tk s = false) : (∀ i, i < plc f key w s → ah f key (w.2.1 i) s = true) ∧ ∀ i, plc f key w s ≤ i → i < w.1 → ah f key s (w.2.1 i) = true := by
  have hne : ∀ i, i < w.1 → s ≠ w.2.1 i := fun i hi z => by
    have := (h.2.1 i hi).2
    rw [← z, ht] at this
    cases this
  refine ⟨fun i hi => ?_, fun i hi hin => ?_⟩
  · have := fa_first_no (fun i => !ah f key (w.2.1 i) s) w.1 i hi
    simpa using this
  · have hp : plc f key w s < w.1 := by omega
    have h1 : ah f key s (w.2.1 (plc f key w s)) = true := by
      have := fa_first_yes (fun i => !ah f key (w.2.1 i) s) w.1 hp
      rw [ah_tot (hne _ hp)]
      exact this
    rcases Nat.lt_or_ge (plc f key w s) i with c | c
    · exact ah_trans h1 (h.1 _ _ c hin)
    · rw [show i = plc f key w s by omega]
      exact h1
theorem EIn.ins {f : Nat → Int32} {tk : Nat → Bool} {key s : Nat} {w : OS} (h : EIn f tk key w.1 w.2.1) (hs : s < 64) (ht : tk s = false) : EIn f (fun t => tk t || decide (t = s)) key (w.1 + 1) (insN w.2.1 (plc f key w s) w.1 s) := by
  obtain ⟨a1, a2⟩ := h.plcs ht
  have hp := plc_le f key w s
  generalize plc f key w s = p at *
  refine ⟨fun i j hij hj => ?_, fun i hi => ?_, fun t ht2 h2 => ?_⟩
  · rcases Nat.lt_trichotomy j p with c | c | c
    · rw [insN_lt _ (by omega), insN_lt _ c]
      exact h.1 i j hij (by omega)
    · subst c
      rw [insN_lt _ hij, insN_at]
      exact a1 i hij
    · rw [insN_gt _ c (by omega)]
      rcases Nat.lt_trichotomy i p with d | d | d
      · rw [insN_lt _ d]
        exact h.1 i (j - 1) (by omega) (by omega)
      · subst d
        rw [insN_at]
        exact a2 (j - 1) (by omega) (by omega)
      · rw [insN_gt _ d (by omega)]
        exact h.1 (i - 1) (j - 1) (by omega) (by omega)
  · rcases Nat.lt_trichotomy i p with d | d | d
    · rw [insN_lt _ d]
      have := h.2.1 i (by omega)
      exact ⟨this.1, by show (tk (w.2.1 i) || _) = true; rw [this.2]; rfl⟩
    · subst d
      rw [insN_at]
      exact ⟨hs, by simp⟩
    · rw [insN_gt _ d (by omega)]
      have := h.2.1 (i - 1) (by omega)
      exact ⟨this.1, by show (tk (w.2.1 (i - 1)) || _) = true; rw [this.2]; rfl⟩
  · by_cases c : t = s
    · exact ⟨p, by omega, by rw [insN_at, c]⟩
    · have h3 : tk t = true := by simpa [c] using h2
      obtain ⟨i, hi, he⟩ := h.2.2 t ht2 h3
      rcases Nat.lt_or_ge i p with d | d
      · exact ⟨i, by omega, by rw [insN_lt _ d, he]⟩
      · exact ⟨i + 1, by omega, by rw [insN_gt _ (by omega) (by omega), Nat.add_sub_cancel, he]⟩
theorem EIn.rem {f : Nat → Int32} {tk : Nat → Bool} {key n p s : Nat} {e : Nat → Nat} (h : EIn f tk key n e) (hp : p < n) (he : e p = s) : EIn f (fun t => tk t && !decide (t = s)) key (n - 1) (remN e p n) := by
  have val : ∀ i, i < n - 1 → ∃ j, j < n ∧ j ≠ p ∧ remN e p n i = e j ∧ (i < p → j = i) ∧ (p ≤ i → j = i + 1) := fun i hi => by
    rcases Nat.lt_or_ge i p with d | d
    · exact ⟨i, by omega, by omega, remN_lt _ d, fun _ => rfl, fun z => absurd z (by omega)⟩
    · exact ⟨i + 1, by omega, by omega, remN_ge _ d (by omega), fun z => absurd z (by omega), fun _ => rfl⟩
  refine ⟨fun i j hij hj => ?_, fun i hi => ?_, fun t ht2 h2 => ?_⟩
  · obtain ⟨i', b1, b2, b3, b4, b5⟩ := val i (by omega)
    obtain ⟨j', c1, c2, c3, c4, c5⟩ := val j hj
    rw [b3, c3]
    refine h.1 i' j' ?_ c1
    rcases Nat.lt_or_ge i p with d | d
    · have := b4 d
      rcases Nat.lt_or_ge j p with d2 | d2
      · have := c4 d2; omega
      · have := c5 d2; omega
    · have := b5 d
      have := c5 (by omega)
      omega
  · obtain ⟨i', b1, b2, b3, -, -⟩ := val i hi
    rw [b3]
    have := h.2.1 i' b1
    refine ⟨this.1, ?_⟩
    show (tk (e i') && !decide (e i' = s)) = true
    rw [this.2, decide_eq_false (fun z => b2 (h.inj b1 hp (by rw [he]; exact z)))]
    rfl
  · rw [Bool.and_eq_true] at h2
    obtain ⟨i, hi, hie⟩ := h.2.2 t ht2 h2.1
    have hts : t ≠ s := fun z => by rw [z] at h2; simp at h2
    have hip : i ≠ p := fun z => hts (by rw [← hie, z, he])
    rcases Nat.lt_or_ge i p with d | d
    · exact ⟨i, by omega, by rw [remN_lt _ d, hie]⟩
    · exact ⟨i - 1, by omega, by rw [remN_ge _ (by omega) (by omega), show i - 1 + 1 = i by omega, hie]⟩
/-- an order as it always is -/
def OIn (f : Nat → Int32) (tk : Nat → Bool) (key : Nat) (w : OS) : Prop := OSok w ∧ EIn f tk key w.1 w.2.1
theorem OSok.of {w : OS} {f : Nat → Int32} {tk : Nat → Bool} {key : Nat} (h : EIn f tk key w.1 w.2.1) (h1 : psum w.2.2.2.1 w.2.2.1 = w.1) (h2 : ∀ k, k < w.2.2.1 → 1 ≤ w.2.2.2.1 k) : OSok w := ⟨h.le, h1, h2, fun i hi => (h.2.1 i hi).1⟩
theorem goS_in {f : Nat → Int32} {tk : Nat → Bool} {key s : Nat} {w : OS} (h : OIn f tk key w) (hs : s < 64) (ht : tk s = true) : OIn f (fun t => tk t && !decide (t = s)) key (goS w s) := by
  obtain ⟨i, hi, hie⟩ := h.2.2.2 s hs ht
  have hf : fa_first (fun i => decide (w.2.1 i = s)) w.1 = i := fa_first_is hi (decide_eq_true hie) (fun j hj => decide_eq_false (fun z => by have := h.2.inj (by omega) hi (z.trans hie.symm); omega))
  have hE := h.2.rem hi hie
  have hl0 : 0 < w.2.2.1 := by
    rcases Nat.eq_zero_or_pos w.2.2.1 with hz | hz
    · have h1 := h.1.2.1
      rw [hz] at h1
      have : w.1 = 0 := h1.symm
      omega
    · exact hz
  have hL := lfAt_lt (z := w.2.2.2.1) (p := i) hl0
  unfold goS
  rw [hf, if_pos hi]
  unfold goAt
  generalize lfAt w.2.2.2.1 w.2.2.1 i = L at *
  have z1 := h.1.2.2.1 L hL
  have hset := psum_set (z := w.2.2.2.1) (v := w.2.2.2.1 L - 1) hL
  have hps := h.1.2.1
  by_cases c : (go1 w i L).2.2.2.1 L = 0
  · rw [if_pos c]
    have c2 : w.2.2.2.1 L - 1 = 0 := by
      have e : (go1 w i L).2.2.2.1 L = w.2.2.2.1 L - 1 := setN_at _ _ _
      omega
    refine ⟨OSok.of (w := go2 (go1 w i L) L) hE ?_ ?_, hE⟩
    · have hr := (psum_rem (z := setN w.2.2.2.1 L (w.2.2.2.1 L - 1)) (p := L) (l := w.2.2.1) (w.2.2.1 - 1) (by omega)).2 (by omega)
      rw [show w.2.2.1 - 1 + 1 = w.2.2.1 by omega, setN_at] at hr
      show psum (remN (setN w.2.2.2.1 L (w.2.2.2.1 L - 1)) L w.2.2.1) (w.2.2.1 - 1) = w.1 - 1
      omega
    · intro k hk
      show 1 ≤ remN (setN w.2.2.2.1 L (w.2.2.2.1 L - 1)) L w.2.2.1 k
      have hk : k < w.2.2.1 - 1 := hk
      rcases Nat.lt_or_ge k L with d | d
      · rw [remN_lt _ d, setN_ne _ _ (by omega)]
        exact h.1.2.2.1 k (by omega)
      · rw [remN_ge _ d (by omega), setN_ne _ _ (by omega)]
        exact h.1.2.2.1 (k + 1) (by omega)
  · rw [if_neg c]
    have c2 : w.2.2.2.1 L - 1 ≠ 0 := fun z => c (by rw [← z]; exact setN_at _ _ _)
    refine ⟨OSok.of (w := go1 w i L) hE ?_ ?_, hE⟩
    · show psum (setN w.2.2.2.1 L (w.2.2.2.1 L - 1)) w.2.2.1 = w.1 - 1
      omega
    · intro k hk
      show 1 ≤ setN w.2.2.2.1 L (w.2.2.2.1 L - 1) k
      by_cases e : k = L
      · subst e; rw [setN_at]; omega
      · rw [setN_ne _ _ e]
        exact h.1.2.2.1 k hk
/-- cutting a leaf of at least 2 -/
theorem cutS_ok {w : OS} {L : Nat} (hp : psum w.2.2.2.1 w.2.2.1 = w.1) (h1 : ∀ k, k < w.2.2.1 → 1 ≤ w.2.2.2.1 k) (hL : L < w.2.2.1) (h2 : 2 ≤ w.2.2.2.1 L) : psum (cutS w L).2.2.2.1 (cutS w L).2.2.1 = w.1 ∧ ∀ k, k < (cutS w L).2.2.1 → 1 ≤ (cutS w L).2.2.2.1 k := by
  constructor
  · show psum (insN (setN w.2.2.2.1 L ((w.2.2.2.1 L + 1) / 2)) (L + 1) w.2.2.1 (w.2.2.2.1 L - (w.2.2.2.1 L + 1) / 2)) (w.2.2.1 + 1) = w.1
    rw [psum_ins (by omega) _ (by omega), if_neg (by omega), Nat.add_sub_cancel]
    have := psum_set (z := w.2.2.2.1) (v := (w.2.2.2.1 L + 1) / 2) hL
    omega
  · intro k hk
    show 1 ≤ insN (setN w.2.2.2.1 L ((w.2.2.2.1 L + 1) / 2)) (L + 1) w.2.2.1 (w.2.2.2.1 L - (w.2.2.2.1 L + 1) / 2) k
    have hk : k < w.2.2.1 + 1 := hk
    have key : ∀ j, j < w.2.2.1 → 1 ≤ setN w.2.2.2.1 L ((w.2.2.2.1 L + 1) / 2) j := fun j hj => by
      by_cases e : j = L
      · subst e; rw [setN_at]; omega
      · rw [setN_ne _ _ e]; exact h1 j hj
    rcases Nat.lt_trichotomy k (L + 1) with d | d | d
    · rw [insN_lt _ d]; exact key k (by omega)
    · subst d; rw [insN_at]; omega
    · rw [insN_gt _ d (by omega)]; exact key (k - 1) (by omega)
theorem come1_ok {w : OS} {p s : Nat} (hw : OSok w) : lfFor w p < (come1 w p (lfFor w p) s).2.2.1 → psum (come1 w p (lfFor w p) s).2.2.2.1 (come1 w p (lfFor w p) s).2.2.1 = w.1 + 1 ∧ ∀ k, k < (come1 w p (lfFor w p) s).2.2.1 → 1 ≤ (come1 w p (lfFor w p) s).2.2.2.1 k := by
  intro hlt
  generalize lfFor w p = L at *
  have hps := hw.2.1
  by_cases c : w.2.2.1 = 0
  · have e1 : (come1 w p L s).2.2.1 = 1 := if_pos c
    have e2 : (come1 w p L s).2.2.2.1 = setN (setN w.2.2.2.1 0 0) L ((setN w.2.2.2.1 0 0) L + 1) := by unfold come1; simp only [if_pos c]
    rw [e1] at hlt ⊢
    rw [e2, show L = 0 by omega, setN_at]
    have hn : w.1 = 0 := by rw [← hps, c]; rfl
    refine ⟨?_, fun k hk => ?_⟩
    · have e := psum_s (setN (setN w.2.2.2.1 0 0) 0 (0 + 1)) 0
      have e0 : psum (setN (setN w.2.2.2.1 0 0) 0 (0 + 1)) 0 = 0 := rfl
      rw [setN_at] at e
      show psum _ (0 + 1) = _
      omega
    · rw [show k = 0 by omega, setN_at]
      omega
  · have e1 : (come1 w p L s).2.2.1 = w.2.2.1 := if_neg c
    have e2 : (come1 w p L s).2.2.2.1 = setN w.2.2.2.1 L (w.2.2.2.1 L + 1) := by unfold come1; simp only [if_neg c]
    rw [e1] at hlt ⊢
    rw [e2]
    have hset := psum_set (z := w.2.2.2.1) (v := w.2.2.2.1 L + 1) hlt
    refine ⟨by omega, fun k hk => ?_⟩
    by_cases e : k = L
    · subst e; rw [setN_at]; omega
    · rw [setN_ne _ _ e]; exact hw.2.2.1 k hk
theorem lf_in {w : OS} {p s : Nat} (hw : OSok w) (hp : p ≤ w.1) : lfFor w p < (come1 w p (lfFor w p) s).2.2.1 := by
  by_cases c : w.2.2.1 = 0
  · have e1 : (come1 w p (lfFor w p) s).2.2.1 = 1 := if_pos c
    have hn : w.1 = 0 := by rw [← hw.2.1, c]; rfl
    rw [e1]
    unfold lfFor
    rw [if_neg (by omega)]
    omega
  · have e1 : (come1 w p (lfFor w p) s).2.2.1 = w.2.2.1 := if_neg c
    rw [e1]
    exact lfFor_lt (by omega)
theorem comeS_in {f : Nat → Int32} {tk : Nat → Bool} {key s : Nat} {w : OS} (h : OIn f tk key w) (hs : s < 64) (ht : tk s = false) : OIn f (fun t => tk t || decide (t = s)) key (comeS f key w s) := by
  have hE := h.2.ins hs ht
  have hp := plc_le f key w s
  have hlt := lf_in (s := s) h.1 hp
  obtain ⟨c1, c2⟩ := come1_ok (s := s) h.1 hlt
  have hr := rmk_le key
  unfold comeS
  generalize plc f key w s = p at *
  by_cases c : rmk key < (come1 w p (lfFor w p) s).2.2.2.1 (lfFor w p)
  · rw [if_pos c]
    obtain ⟨d1, d2⟩ := cutS_ok (w := come1 w p (lfFor w p) s) c1 c2 hlt (by omega)
    exact ⟨OSok.of (w := cutS (come1 w p (lfFor w p) s) (lfFor w p)) hE d1 d2, hE⟩
  · rw [if_neg c]
    exact ⟨OSok.of (w := come1 w p (lfFor w p) s) hE c1 c2, hE⟩
theorem lay1_at (z : Nat → Nat) (rm n : Nat) : ∀ (k j : Nat), j < k → lay1 z rm n k j = min rm (n - j * rm)
  | 0, _, h => absurd h (by omega)
  | k + 1, j, h => by
    show setN (lay1 z rm n k) k (min rm (n - k * rm)) j = _
    by_cases e : j = k
    · subst e; exact setN_at _ _ _
    · rw [setN_ne _ _ e]; exact lay1_at z rm n k j (by omega)
theorem psum_lay (rm n : Nat) {z : Nat → Nat} : ∀ (k : Nat), (∀ j, j < k → z j = min rm (n - j * rm)) → psum z k = min n (k * rm)
  | 0, _ => by rw [Nat.zero_mul]; exact (Nat.min_eq_right (Nat.zero_le n)).symm
  | k + 1, h => by
    have ih := psum_lay rm n k (fun j hj => h j (by omega))
    rw [psum_s, ih, h k (by omega), Nat.succ_mul]
    omega
theorem packS_in {f : Nat → Int32} {tk : Nat → Bool} {key : Nat} {w : OS} (h : EIn f tk key w.1 w.2.1) : OIn f tk key (packS key w) := by
  have hr := rmk_le key
  refine ⟨OSok.of (w := packS key w) h ?_ ?_, h⟩
  · show psum (lay1 w.2.2.2.1 (rmk key) w.1 (lvs (rmk key) w.1)) (lvs (rmk key) w.1) = w.1
    rw [psum_lay (rmk key) w.1 _ (fun j hj => lay1_at _ _ _ _ j hj)]
    refine Nat.min_eq_left (Nat.le_of_not_lt fun z => ?_)
    have := (lvs_lt (n := w.1) (k := lvs (rmk key) w.1) (show 0 < rmk key by omega)).mpr z
    omega
  · intro k hk
    show 1 ≤ lay1 w.2.2.2.1 (rmk key) w.1 (lvs (rmk key) w.1) k
    have hk : k < lvs (rmk key) w.1 := hk
    rw [lay1_at _ _ _ _ k hk]
    have := (lvs_lt (n := w.1) (show 0 < rmk key by omega)).mp hk
    omega
theorem reb1_in (f : Nat → Int32) (key : Nat) (tk : Nat → Bool) (w : OS) : ∀ (s : Nat), s ≤ 64 → EIn f (fun t => tk t && decide (t < s)) key (reb1 f key tk w s).1 (reb1 f key tk w s).2.1
  | 0, _ => ⟨fun i j _ hj => absurd hj (Nat.not_lt_zero _), fun i hi => absurd hi (Nat.not_lt_zero _), fun s _ h => by simp at h⟩
  | s + 1, hs => by
    have ih := reb1_in f key tk w s (by omega)
    simp only [reb1]
    by_cases c : tk s = true
    · rw [if_pos c]
      have h1 := ih.ins (s := s) (by omega) (by simp)
      refine h1.cong (fun _ _ _ _ _ => rfl) fun t _ => ?_
      by_cases e : t = s
      · subst e; simp [c]
      · simp only [e, decide_false, Bool.or_false]
        congr 1
        exact decide_eq_decide.mpr (by omega)
    · rw [if_neg c]
      refine ih.cong (fun _ _ _ _ _ => rfl) fun t _ => ?_
      by_cases e : t = s
      · subst e; simp [Bool.eq_false_iff.mpr c]
      · congr 1
        exact decide_eq_decide.mpr (by omega)
theorem rebS_in (f : Nat → Int32) (key : Nat) (tk : Nat → Bool) (w : OS) : OIn f tk key (rebS f key tk w) :=
  packS_in ((reb1_in f key tk w 64 (Nat.le_refl _)).cong (fun _ _ _ _ _ => rfl) (fun t ht => by rw [decide_eq_true ht, Bool.and_true]))
/-- all orders as they always are -/
def BIn (f : Nat → Int32) (tk : Nat → Bool) (told : Nat) (B : Nat → OD) : Prop := ∀ o, o < told → kok (B o).1 ∧ OSok (B o).2.1 ∧ ((B o).2.2 = false → OIn f tk (B o).1 (B o).2.1)
