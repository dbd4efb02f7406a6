/-! The reference: looks of a way. -/
theorem lft_tk {f : Nat → Int32} {tk : Nat → Bool} {d : QD} {o : OD} {s : Nat} (z : lftO f tk d o s = true) : tk s = true := by unfold lftO rowsW at z; rw [Bool.and_eq_true] at z; exact z.1
section RQC
variable {g : GG} {σ : Hs} {R : Nat → Nat} {S : SS} {X : Nat → Int32} {A : Nat → Nat → Int32} {hh : Int64}
theorem rr_wayDown (h : RQ g σ R S X A hh) (v : Iv S) {q o : Nat} (hq : q < zq S) (ho : o < zo S) (hd : (zB S o).2.2 = false) : Rd g M_X12_wayDown [.ref (R 300), .int (nI q), .int (nI o)] σ (nI (rchO (zf S) (zt S) (zQ S q) (zB S o))) := by
  have h8 := v.o8
  obtain ⟨hok, hin⟩ := v.oi ho hd
  obtain ⟨-, -, e9, e11, -, e8, e10⟩ := h.ord.2 o ho
  have h64 := hok.1
  have hl := hok.l_le
  have loop : ∀ (d i : Nat), i + d = (zB S o).2.1.2.2.1 → J_X12_wayDown_16 g (kI fun x σ' => σ' = σ ∧ x = nI (rchO (zf S) (zt S) (zQ S q) (zB S o))) σ (R 300) (nI q) (nI o) (nI (rcN (zQ S q) (zB S o).1)) (nI (cntL (zB S o).2.1 (runO (zf S) (zt S) (zQ S q) (zB S o)) i)) (nI (psum (zB S o).2.1.2.2.2.1 i)) (nI i) := by
    intro d
    induction d with
    | zero =>
      intro i hi
      have hi : i = (zB S o).2.1.2.2.1 := by omega
      have hc := cntL_le (zB S o).2.1 (runO (zf S) (zt S) (zQ S q) (zB S o)) i
      refine q_X12_wayDown_16 _ _ _ _ _ _ _ (h.1.r 11 (fun _ _ _ => rfl) (h.1.a 11 rfl rfl rfl (show o < 8 by omega) ?_))
      rw [e11]
      refine ⟨fun _ => ⟨h.1.rc, (rr_heightOf h.1 (by omega) e11 (by omega)).use ⟨fun c => rd_i ?_, fun c => h.1.r 11 (fun _ _ _ => rfl) (h.1.a 11 rfl rfl rfl (show o < 8 by omega) ?_)⟩⟩, fun c => absurd (nI_le (by omega) (by omega)) c⟩
      · have c : ¬ cntL (zB S o).2.1 (runO (zf S) (zt S) (zQ S q) (zB S o)) i = 0 := fun z => c (by rw [z]; rfl)
        rw [nI_add]
        unfold rchO lvsOf
        rw [← hi, if_neg (fun z => c z.1)]
      · have c := (nI_eq (b := 0) (by omega) (by decide)).mp c
        rw [e11]
        refine ⟨fun c2 => rd_i ?_, fun c2 => rd_i ?_⟩
        · have c2 : (zB S o).2.1.2.2.1 = 0 := by
            have := (nI_leI (b := 0) (by omega) (by decide)).mp c2
            omega
          rw [nI_add]
          unfold rchO lvsOf
          rw [← hi, if_neg (by omega)]
        · have c2 : 0 < (zB S o).2.1.2.2.1 := by
            rcases Nat.eq_zero_or_pos (zB S o).2.1.2.2.1 with z | z
            · exact absurd (nI_le (b := 0) (by omega) (by decide)) c2
            · exact z
          rw [nI_1]
          unfold rchO lvsOf
          rw [← hi, if_pos ⟨c, by omega⟩]
    | succ d ih =>
      intro i hi
      have ih := ih (i + 1) (by omega)
      have hps : psum (zB S o).2.1.2.2.2.1 (i + 1) ≤ (zB S o).2.1.1 := by
        have := psum_mono (zB S o).2.1.2.2.2.1 (show i + 1 ≤ (zB S o).2.1.2.2.1 by omega)
        rw [hok.2.1] at this
        exact this
      rw [psum_s] at hps ih
      have j105 : ∀ b : Bool, b = anyE (zB S o).2.1.2.1 (runO (zf S) (zt S) (zQ S q) (zB S o)) (psum (zB S o).2.1.2.2.2.1 i) ((zB S o).2.1.2.2.2.1 i) → J_X12_wayDown_105 g (kI fun x σ' => σ' = σ ∧ x = nI (rchO (zf S) (zt S) (zQ S q) (zB S o))) σ (R 300) (nI q) (nI o) (nI (rcN (zQ S q) (zB S o).1)) (nI (psum (zB S o).2.1.2.2.2.1 i)) (nI i) (b2 b) (nI (cntL (zB S o).2.1 (runO (zf S) (zt S) (zQ S q) (zB S o)) i)) := by
        intro b hb
        refine q_X12_wayDown_105 _ _ _ _ _ _ _ _ (h.1.r 10 (fun _ _ _ => rfl) (h.1.a 10 rfl rfl (i64 o i) (show _ < 512 by omega) ?_))
        rw [e10 i (by omega), nI_add, nI_1]
        simp only [cntL] at ih
        rw [← hb] at ih
        rcases Bool.eq_false_or_eq_true b with z | z
        · rw [z] at ih ⊢
          rw [if_pos rfl] at ih
          rw [b2_t, nI_1]
          exact ih
        · rw [z] at ih ⊢
          rw [if_neg (by decide)] at ih
          rw [b2_f, nI_p0]
          exact ih
      have inner : ∀ (m k : Nat), k + m = (zB S o).2.1.2.2.2.1 i → ∀ b : Bool, (b = true ↔ ∃ j, j < k ∧ runO (zf S) (zt S) (zQ S q) (zB S o) ((zB S o).2.1.2.1 (psum (zB S o).2.1.2.2.2.1 i + j)) = true) → J_X12_wayDown_33 g (kI fun x σ' => σ' = σ ∧ x = nI (rchO (zf S) (zt S) (zQ S q) (zB S o))) σ (R 300) (nI q) (nI o) (nI (rcN (zQ S q) (zB S o).1)) (nI (cntL (zB S o).2.1 (runO (zf S) (zt S) (zQ S q) (zB S o)) i)) (nI (psum (zB S o).2.1.2.2.2.1 i)) (nI i) (b2 b) (nI k) := by
        intro m
        induction m with
        | zero =>
          intro k hk b hb
          have e : b = anyE (zB S o).2.1.2.1 (runO (zf S) (zt S) (zQ S q) (zB S o)) (psum (zB S o).2.1.2.2.2.1 i) ((zB S o).2.1.2.2.2.1 i) := by
            apply Bool.ex
            rw [anyE_iff, hb, show k = (zB S o).2.1.2.2.2.1 i by omega]
          refine q_X12_wayDown_33 _ _ _ _ _ _ _ _ _ (h.1.r 10 (fun _ _ _ => rfl) (h.1.a 10 rfl rfl (i64 o i) (show _ < 512 by omega) ?_))
          rw [e10 i (by omega)]
          refine ⟨fun _ => ⟨fun c => ?_, fun c => ?_⟩, fun c => absurd (nI_le (by omega) (by omega)) c⟩
          · exact j105 false (by rw [← e]; exact (b2_0.mp c).symm)
          · exact j105 true (by rw [← e]; exact (b2_n0.mp c).symm)
        | succ m ihm =>
          intro k hk b hb
          have hek := hin.2.1 (psum (zB S o).2.1.2.2.2.1 i + k) (by omega)
          refine q_X12_wayDown_33 _ _ _ _ _ _ _ _ _ (h.1.r 10 (fun _ _ _ => rfl) (h.1.a 10 rfl rfl (i64 o i) (show _ < 512 by omega) ?_))
          rw [e10 i (by omega)]
          refine ⟨fun c => absurd ((nI_leI (by omega) (by omega)).mp c) (by omega), fun _ => ⟨fun c => ?_, fun c => h.1.r 8 (fun _ _ _ => rfl) (h.1.a 8 rfl rfl (show (64 * nI o + nI (psum (zB S o).2.1.2.2.2.1 i)) + nI k = nI (64 * o + (psum (zB S o).2.1.2.2.2.1 i + k)) from by rw [i64, nI_add, Nat.add_assoc]) (show _ < 512 by omega) ?_)⟩⟩
          · rw [nI_1]
            refine ihm (k + 1) (by omega) true ⟨fun _ => ?_, fun _ => rfl⟩
            obtain ⟨j, h1, h2⟩ := hb.mp (b2_n0.mp c)
            exact ⟨j, by omega, h2⟩
          · rw [e8 _ (by omega)]
            refine ⟨h.1.rc, (rr_isInRun h v hq ho hek.1 (rcN_le _ _)).use ?_⟩
            rw [ir_run v.cl hek.1 hek.2]
            have hno : ¬ ∃ j, j < k ∧ runO (zf S) (zt S) (zQ S q) (zB S o) ((zB S o).2.1.2.1 (psum (zB S o).2.1.2.2.2.1 i + j)) = true := fun z => by
              have := hb.mpr z
              rw [b2_0.mp c] at this
              cases this
            refine ⟨fun c2 => ?_, fun c2 => ?_⟩
            · rw [nI_1]
              refine ihm (k + 1) (by omega) false ⟨fun z => (by cases z), fun ⟨j, h1, h2⟩ => ?_⟩
              by_cases z : j = k
              · rw [z] at h2
                exact absurd ((show runO _ _ _ _ _ = false from b2_0.mp c2).symm.trans h2) (by decide)
              · exact absurd ⟨j, by omega, h2⟩ hno
            · rw [nI_1]
              exact ihm (k + 1) (by omega) true ⟨fun _ => ⟨k, by omega, b2_n0.mp c2⟩, fun _ => rfl⟩
      refine q_X12_wayDown_16 _ _ _ _ _ _ _ (h.1.r 11 (fun _ _ _ => rfl) (h.1.a 11 rfl rfl rfl (show o < 8 by omega) ?_))
      rw [e11]
      refine ⟨fun c => absurd ((nI_leI (by omega) (by omega)).mp c) (by omega), fun _ => inner _ 0 (Nat.zero_add _) false ⟨fun z => (by cases z), fun ⟨j, h1, h2⟩ => absurd h1 (by omega)⟩⟩
  exact q_X12_wayDown _ _ _ ⟨h.1.rc, (rr_runColumns h v hq ho).use (loop (zB S o).2.1.2.2.1 0 (by omega))⟩
theorem nI_ci {c e : Nat} (hc : c < 4) (he : e < 4) : nI c = nI e ↔ c = e := nI_eq (by omega) (by omega)
theorem rr_isCovered (h : RQ g σ R S X A hh) (v : Iv S) {q o : Nat} (hq : q < zq S) (ho : o < zo S) : Rd g M_X12_isCovered [.ref (R 300), .int (nI q), .int (nI o)] σ (b2 (covO (zQ S q) (zB S o).1)) := by
  have h8 := v.o8
  have h8q := v.q8
  obtain ⟨-, e16, e17, -⟩ := h.que.2 q hq
  have loop : ∀ (d c : Nat), c + d = 4 → (∀ j, j < c → usedC (zQ S q) j = true → (kmask (zB S o).1).testBit j = true) → J_X12_isCovered_2 g (kI fun x σ' => σ' = σ ∧ x = b2 (covO (zQ S q) (zB S o).1)) σ (R 300) (nI q) (nI o) (nI c) := by
    intro d
    induction d with
    | zero =>
      intro c hc hall
      refine q_X12_isCovered_2 _ _ _ _ ⟨fun _ => rd_i ?_, fun z => absurd (nI_le (a := 4) (by omega) (by omega)) z⟩
      have : covO (zQ S q) (zB S o).1 = true := (covN_iff _ _ 4).mpr fun j hj => hall j (by omega)
      rw [this]; rfl
    | succ d ih =>
      intro c hc hall
      have ih := ih (c + 1) (by omega)
      have j45 : ∀ b : Bool, b = usedC (zQ S q) c → J_X12_isCovered_45 g (kI fun x σ' => σ' = σ ∧ x = b2 (covO (zQ S q) (zB S o).1)) σ (R 300) (nI q) (nI o) (nI c) (b2 b) := by
        intro b hb
        refine q_X12_isCovered_45 _ _ _ _ _ ⟨fun z => ?_, fun z => h.1.r 5 (fun _ _ _ => rfl) (h.1.a 5 rfl rfl rfl (show o < 8 by omega) ?_)⟩
        · rw [nI_1]
          refine ih fun j hj hu => ?_
          by_cases e : j = c
          · rw [e, ← hb, b2_0.mp z] at hu; cases hu
          · exact hall j (by omega) hu
        · rw [(h.ord.2 o ho).1]
          refine (rr_isInKey (v.ok ho) (by omega)).use ⟨fun z2 => ?_, fun z2 => rd_i ?_⟩
          · rw [nI_1]
            refine ih fun j hj hu => ?_
            by_cases e : j = c
            · rw [e]; exact b2_n0.mp z2
            · exact hall j (by omega) hu
          · have : covO (zQ S q) (zB S o).1 = false := by
              rcases Bool.eq_false_or_eq_true (covO (zQ S q) (zB S o).1) with y | y
              · have := (covN_iff _ _ 4).mp y c (by omega) (by rw [← hb]; exact b2_n0.mp z)
                rw [b2_0.mp z2] at this; cases this
              · exact y
            rw [this]; rfl
      have hb16 := mk4_lt (zQ S q).2.2.1
      refine q_X12_isCovered_2 _ _ _ _ ⟨fun z => absurd ((nI_leI (a := 4) (by decide) (by omega)).mp z) (by omega), fun _ => ⟨h.1.rc, (rr_isBound h v hq (show c < 4 by omega)).use ⟨fun z => j45 true ?_, fun z => h.1.r 16 (fun _ _ _ => rfl) (h.1.a 16 rfl rfl rfl (show q < 8 by omega) ?_)⟩⟩⟩
      · unfold usedC; rw [b2_n0.mp z]; rfl
      · rw [e16]
        refine ⟨fun z2 => j45 true ?_, fun z2 => h.1.r 17 (fun _ _ _ => rfl) (h.1.a 17 rfl rfl rfl (show q < 8 by omega) ?_)⟩
        · have z2 := (bs_one _ (by omega) _ (by omega)).mp z2
          rw [mk4_bit _ _ (by omega)] at z2
          unfold usedC; rw [z2, Bool.or_true]; rfl
        · have z2 : (zQ S q).2.2.1 c = false := by
            rcases Bool.eq_false_or_eq_true ((zQ S q).2.2.1 c) with y | y
            · exact absurd ((bs_one _ (by omega) _ (by omega)).mpr (by rw [mk4_bit _ _ (by omega)]; exact y)) z2
            · exact y
          rw [e17]
          refine ⟨fun z3 => j45 false ?_, fun z3 => j45 true ?_⟩
          · unfold usedC; rw [b2_0.mp z, z2, decide_eq_false z3]; rfl
          · unfold usedC; rw [decide_eq_true z3, Bool.or_true]
  exact q_X12_isCovered _ _ _ (loop 4 0 rfl (fun j hj => absurd hj (by omega)))
theorem rr_leaves (h : RQ g σ R S X A hh) (v : Iv S) {q o s : Nat} (hq : q < zq S) (ho : o < zo S) (hs : s < 64) : Rd g M_X12_leaves [.ref (R 300), .int (nI q), .int (nI o), .int (nI s)] σ (b2 (irB (zf S) (zQ S q) (zB S o).1 s (kw (zB S o).1))) := by
  have h8 := v.o8
  refine q_X12_leaves _ _ _ _ (h.1.r 5 (fun _ _ _ => rfl) (h.1.a 5 rfl rfl rfl (show o < 8 by omega) ?_))
  rw [(h.ord.2 o ho).1]
  exact (rr_keySize (by have := (v.ok ho).2.1; omega)).use ⟨h.1.rc, (rr_isInRun h v hq ho hs (Nat.le_refl _)).use ⟨b2_nar _, rd_i rfl⟩⟩
def lastP (w : Nat) (P : Nat → Bool) (s : Nat) (x : Int32) : Prop := (x = -1 ∧ ∀ t, t < s → P t = false) ∨ ∃ t, t < s ∧ P t = true ∧ x = nI (t / w) ∧ ∀ u, t < u → u < s → P u = false
theorem lastP.no {w : Nat} {P : Nat → Bool} {s : Nat} {x : Int32} (h : lastP w P s x) (hp : P s = false) : lastP w P (s + 1) x := by
  rcases h with ⟨h1, h2⟩ | ⟨t, h1, h2, h3, h4⟩
  · exact Or.inl ⟨h1, fun t ht => by
      by_cases e : t = s
      · rw [e]; exact hp
      · exact h2 t (by omega)⟩
  · exact Or.inr ⟨t, by omega, h2, h3, fun u h5 h6 => by
      by_cases e : u = s
      · rw [e]; exact hp
      · exact h4 u h5 (by omega)⟩
theorem lastP.yes {w : Nat} {P : Nat → Bool} {s : Nat} (hp : P s = true) : lastP w P (s + 1) (nI (s / w)) := Or.inr ⟨s, by omega, hp, rfl, fun u h1 h2 => absurd h1 (by omega)⟩
theorem lastP.eq {w : Nat} {P : Nat → Bool} {s : Nat} {x : Int32} (h : lastP w P s x) (hs : s < 64) : nI (s / w) = x ↔ ¬ ∀ t, t < s → t / w = s / w → P t = false := by
  have hsw : s / w ≤ s := Nat.div_le_self _ _
  rcases h with ⟨h1, h2⟩ | ⟨t, h1, h2, h3, h4⟩
  · constructor
    · intro e
      rw [h1] at e
      exact absurd e (nI_neg (by omega))
    · intro z
      exact absurd (fun t ht _ => h2 t ht) z
  · have htw : t / w ≤ t := Nat.div_le_self _ _
    constructor
    · intro e z
      rw [h3] at e
      have e := (nI_eq (by omega) (by omega)).mp e
      rw [z t h1 e.symm] at h2
      cases h2
    · intro z
      rw [h3]
      refine Classical.byContradiction fun ne => z fun u hu he => ?_
      rcases Bool.eq_false_or_eq_true (P u) with y | y
      · exfalso
        have hut : u ≤ t := by
          rcases Nat.lt_or_ge t u with a | a
          · rw [h4 u a hu] at y; cases y
          · exact a
        have a1 : u / w ≤ t / w := Nat.div_le_div_right hut
        have a2 : t / w ≤ s / w := Nat.div_le_div_right (by omega)
        exact ne (by rw [show s / w = t / w by omega])
      · exact y
theorem rr_pagesLeft (h : RQ g σ R S X A hh) (v : Iv S) {q o p : Nat} (hq : q < zq S) (ho : o < zo S) (hp : p < zo S) : Rd g M_X12_pagesLeft [.ref (R 300), .int (nI q), .int (nI o), .int (nI p)] σ (nI (pgc (zw S) (fun s => lftO (zf S) (zt S) (zQ S q) (zB S o) s && lftO (zf S) (zt S) (zQ S q) (zB S p) s) 64)) := by
  obtain ⟨hw2, hw8⟩ := v.2.1
  generalize hP : (fun s => lftO (zf S) (zt S) (zQ S q) (zB S o) s && lftO (zf S) (zt S) (zQ S q) (zB S p) s) = P
  have hPs : ∀ s, P s = (lftO (zf S) (zt S) (zQ S q) (zB S o) s && lftO (zf S) (zt S) (zQ S q) (zB S p) s) := fun s => by rw [← hP]
  have loop : ∀ (d s : Nat) (x : Int32), s + d = 64 → lastP (zw S) P s x → J_X12_pagesLeft_9 g (kI fun x σ' => σ' = σ ∧ x = nI (pgc (zw S) P 64)) σ (R 300) (nI q) (nI o) (nI p) (nI (pgc (zw S) P s)) x (nI s) := by
    intro d
    induction d with
    | zero =>
      intro s x hs hx
      exact q_X12_pagesLeft_9 _ _ _ _ _ _ _ ⟨fun _ => rd_i (by rw [show s = 64 by omega]), fun c => absurd (nI_le (a := 64) (by omega) (by omega)) c⟩
    | succ d ih =>
      intro s x hs hx
      have no : P s = false → J_X12_pagesLeft_9 g (kI fun x σ' => σ' = σ ∧ x = nI (pgc (zw S) P 64)) σ (R 300) (nI q) (nI o) (nI p) (nI (pgc (zw S) P s)) x (nI s + 1) := fun z => by
        rw [nI_1]
        have := ih (s + 1) x (by omega) (hx.no z)
        rw [pgc_no (n := s) (fun y => by rw [z] at y; exact absurd y.1 (by decide))] at this
        exact this
      have h0 := h.tab.2.2.1 s (by omega)
      refine q_X12_pagesLeft_9 _ _ _ _ _ _ _ ⟨fun c => absurd ((nI_leI (a := 64) (by decide) (by omega)).mp c) (by omega), fun _ => h.1.r 0 (fun _ _ _ => rfl) (h.1.a 0 rfl rfl rfl (show s < 64 by omega) ?_)⟩
      rw [h0]
      refine ⟨fun c => no ?_, fun c => ⟨h.1.rc, (rr_leaves h v hq ho (by omega)).use ?_⟩⟩
      · rw [hPs]
        rcases Bool.eq_false_or_eq_true (lftO (zf S) (zt S) (zQ S q) (zB S o) s) with z | z
        · exact absurd ((b2_0.mp c).symm.trans (lft_tk z)) (by decide)
        · rw [z]; rfl
      · have c := b2_n0.mp c
        rw [ir_lft v.cl (by omega) c]
        refine ⟨fun c1 => no ?_, fun c1 => ⟨h.1.rc, (rr_leaves h v hq hp (by omega)).use ?_⟩⟩
        · rw [hPs, show lftO (zf S) (zt S) (zQ S q) (zB S o) s = false from b2_0.mp c1]; rfl
        · rw [ir_lft v.cl (by omega) c]
          refine ⟨fun c2 => no ?_, fun c2 => ?_⟩
          · rw [hPs, show lftO (zf S) (zt S) (zQ S q) (zB S p) s = false from b2_0.mp c2, Bool.and_false]
          · have hy : P s = true := by rw [hPs, show lftO (zf S) (zt S) (zQ S q) (zB S o) s = true from b2_n0.mp c1, show lftO (zf S) (zt S) (zQ S q) (zB S p) s = true from b2_n0.mp c2]; rfl
            refine h.1.x 3 (fun _ _ _ => rfl) ?_
            rw [h.tab.2.1, pk_div (d := zw S) (by omega) (by omega) (by omega)]
            have nz : ¬ nI (zw S) = 0 := fun z => absurd ((nI_eq (b := 0) (by omega) (by decide)).mp z) (by omega)
            have heq := hx.eq (show s < 64 by omega)
            refine ⟨nz, fun c3 => ?_, fun c3 => h.1.x 3 (fun _ _ _ => rfl) ?_⟩
            · have c4 := heq.mp c3
              rw [nI_1]
              have := ih (s + 1) x (by omega) (by rw [← c3]; exact lastP.yes hy)
              rw [pgc_no (n := s) (fun y => c4 y.2)] at this
              exact this
            · have c4 : ∀ t, t < s → t / zw S = s / zw S → P t = false := Classical.byContradiction fun z => c3 (heq.mpr z)
              rw [h.tab.2.1, pk_div (d := zw S) (by omega) (by omega) (by omega), nI_1, nI_1]
              refine ⟨nz, ?_⟩
              have := ih (s + 1) (nI (s / zw S)) (by omega) (lastP.yes hy)
              rw [pgc_yes ⟨hy, c4⟩] at this
              exact this
  exact q_X12_pagesLeft _ _ _ _ (loop 64 0 (-1) rfl (Or.inl ⟨rfl, fun t ht => absurd ht (by omega)⟩))
theorem rr_isSorted (h : RQ g σ R S X A hh) (v : Iv S) {q : Nat} (hq : q < zq S) : Rd g M_X12_isSorted [.ref (R 300), .int (nI q)] σ (b2 (!msrt (zQ S q))) := by
  have h8 := v.q8
  obtain ⟨-, -, e17, -⟩ := h.que.2 q hq
  refine q_X12_isSorted _ _ (h.1.r 17 (fun _ _ _ => rfl) (h.1.a 17 rfl rfl rfl (show q < 8 by omega) ?_))
  rw [e17]
  refine ⟨fun c => rd_i ?_, fun c => h.1.r 17 (fun _ _ _ => rfl) (h.1.a 17 rfl rfl rfl (show q < 8 by omega) ?_)⟩
  · unfold msrt; rw [decide_eq_false (fun z => z c)]; rfl
  · rw [e17]
    rcases v.srt hq with z | ⟨cc, hcc, z⟩
    · exact absurd z c
    · have em : msrt (zQ S q) = !isF (zQ S q) cc := by
        unfold msrt
        rw [decide_eq_true c, z, nn_i (by omega)]
        rfl
      rw [em, z, Bool.not_not]
      refine ⟨h.1.rc, (rr_isFixed h v hq hcc).use ⟨fun c2 => rd_i ?_, fun c2 => rd_i ?_⟩⟩
      · rw [b2_0.mp c2]; rfl
      · rw [b2_n0.mp c2]; rfl
theorem srtN_y {f : Nat → Int32} {tk : Nat → Bool} {d : QD} (c : msrt d = true) : srtN f tk d = fa_cnt (rowsW f tk d (15 : Nat).testBit) 64 := by unfold srtN; rw [if_t c]
theorem srtN_n {f : Nat → Int32} {tk : Nat → Bool} {d : QD} (c : msrt d = false) : srtN f tk d = 0 := by unfold srtN; rw [if_f c]
theorem nt_t {b : Bool} (c : b2 (!b) = 0) : b = true := by cases b <;> simp_all [b2]
theorem nt_f {b : Bool} (c : ¬ b2 (!b) = 0) : b = false := by cases b <;> simp_all [b2]
theorem rr_looksByTable (h : RQ g σ R S X A hh) (v : Iv S) {q : Nat} (hq : q < zq S) : Rd g M_X12_looksByTable [.ref (R 300), .int (nI q)] σ (nI (tabL (zf S) (zt S) (zw S) (zQ S q))) := by
  refine q_X12_looksByTable _ _ ⟨h.1.rc, (rr_fullPages h v).use ⟨h.1.rc, (rr_isSorted h v hq).use ⟨fun c => ⟨h.1.rc, (rr_answersOf h v hq).use (rd_i ?_)⟩, fun c => rd_i ?_⟩⟩⟩
  · unfold tabL; rw [srtN_y (nt_t c), nI_add]; rfl
  · unfold tabL; rw [srtN_n (nt_f c), nI_p0]; rfl
theorem rr_isSortedBy (h : RQ g σ R S X A hh) (v : Iv S) {q o : Nat} (hq : q < zq S) (ho : o < zo S) : Rd g M_X12_isSortedBy [.ref (R 300), .int (nI q), .int (nI o)] σ (b2 (!msrt (zQ S q) || sfO (zQ S q) (zB S o).1)) := by
  have h8 := v.o8
  have h8q := v.q8
  have hk := v.ok ho
  have hk2 : (zB S o).1 < 2 ^ 31 := by have := hk.2.1; omega
  have hw := kw_le (zB S o).1
  have loop : ∀ (r n : Nat), n + r = kw (zB S o).1 → J_X12_isSortedBy_2 g (kI fun x σ' => σ' = σ ∧ x = b2 (!msrt (zQ S q) || sfG (zQ S q) (zB S o).1 n r)) σ (R 300) (nI q) (nI o) (nI n) := by
    intro r
    induction r with
    | zero =>
      intro n hn
      refine q_X12_isSortedBy_2 _ _ _ _ (h.1.r 5 (fun _ _ _ => rfl) (h.1.a 5 rfl rfl rfl (show o < 8 by omega) ?_))
      rw [(h.ord.2 o ho).1]
      refine (rr_keySize hk2).use ⟨fun _ => ?_, fun c => absurd (nI_le (by omega) (by omega)) c⟩
      refine q_X12_isSortedBy_39 _ _ _ _ ⟨h.1.rc, (rr_isSorted h v hq).use ⟨fun c => rd_i ?_, fun c => h.1.r 5 (fun _ _ _ => rfl) (h.1.a 5 rfl rfl rfl (show o < 8 by omega) ?_)⟩⟩
      · rw [b2_n0.mp c]; rfl
      · rw [(h.ord.2 o ho).1]
        refine (rr_keySize hk2).use ⟨fun _ => rd_i ?_, fun c => absurd (nI_le (by omega) (by omega)) c⟩
        rw [b2_0.mp c]; rfl
    | succ r ih =>
      intro n hn
      have ih := ih (n + 1) (by omega)
      have hc := kcol_lt (zB S o).1 n
      refine q_X12_isSortedBy_2 _ _ _ _ (h.1.r 5 (fun _ _ _ => rfl) (h.1.a 5 rfl rfl rfl (show o < 8 by omega) ?_))
      rw [(h.ord.2 o ho).1]
      refine (rr_keySize hk2).use ⟨fun c => absurd ((nI_leI (by omega) (by omega)).mp c) (by omega), fun _ => h.1.r 5 (fun _ _ _ => rfl) (h.1.a 5 rfl rfl rfl (show o < 8 by omega) ?_)⟩
      rw [(h.ord.2 o ho).1]
      refine (rr_col hk (by omega)).use ⟨h.1.rc, (rr_isFixed h v hq hc).use ⟨fun c => ?_, fun c => ?_⟩⟩
      · have c := b2_0.mp c
        refine q_X12_isSortedBy_39 _ _ _ _ ⟨h.1.rc, (rr_isSorted h v hq).use ⟨fun c2 => rd_i ?_, fun c2 => h.1.r 5 (fun _ _ _ => rfl) (h.1.a 5 rfl rfl rfl (show o < 8 by omega) ?_)⟩⟩
        · rw [b2_n0.mp c2]; rfl
        · rw [(h.ord.2 o ho).1]
          refine (rr_keySize hk2).use ⟨fun c => absurd ((nI_leI (by omega) (by omega)).mp c) (by omega), fun _ => h.1.r 5 (fun _ _ _ => rfl) (h.1.a 5 rfl rfl rfl (show o < 8 by omega) ?_)⟩
          rw [(h.ord.2 o ho).1]
          refine (rr_col hk (by omega)).use (h.1.r 17 (fun _ _ _ => rfl) (h.1.a 17 rfl rfl rfl (show q < 8 by omega) ?_))
          rw [(h.que.2 q hq).2.2.1, b2_0.mp c2]
          simp only [sfG]
          rw [if_f c]
          refine ⟨fun c3 => rd_i ?_, fun c3 => rd_i ?_⟩
          · rw [decide_eq_false c3]; rfl
          · rw [decide_eq_true c3]; rfl
      · rw [nI_1]
        have e : sfG (zQ S q) (zB S o).1 n (r + 1) = sfG (zQ S q) (zB S o).1 (n + 1) r := by simp only [sfG]; rw [if_t (b2_n0.mp c)]
        rw [e]
        exact ih
  exact q_X12_isSortedBy _ _ _ (loop (kw (zB S o).1) 0 (by omega))
theorem rr_looksBy (h : RQ g σ R S X A hh) (v : Iv S) {q o : Nat} (hq : q < zq S) (ho : o < zo S) (hd : (zB S o).2.2 = false) : Rd g M_X12_looksBy [.ref (R 300), .int (nI q), .int (nI o)] σ (nI (oneO (zf S) (zt S) (zw S) (zQ S q) (zB S o))) := by
  have j26 : ∀ z, z = (if covO (zQ S q) (zB S o).1 then 0 else pgc (zw S) (lftO (zf S) (zt S) (zQ S q) (zB S o)) 64) → J_X12_looksBy_26 g (kI fun x σ' => σ' = σ ∧ x = nI (oneO (zf S) (zt S) (zw S) (zQ S q) (zB S o))) σ (R 300) (nI q) (nI o) (nI z) (nI (rchO (zf S) (zt S) (zQ S q) (zB S o))) := by
    intro z hz
    refine q_X12_looksBy_26 _ _ _ _ _ ⟨h.1.rc, (rr_isSortedBy h v hq ho).use ⟨fun c => ⟨h.1.rc, (rr_answersOf h v hq).use (rd_i ?_)⟩, fun c => rd_i ?_⟩⟩
    · have c := b2_0.mp c
      rw [Bool.or_eq_false_iff] at c
      have c1 : msrt (zQ S q) = true := by have := c.1; cases hm : msrt (zQ S q) <;> simp_all
      unfold oneO
      rw [← hz, if_f c.2, srtN_y c1, nI_add, nI_add]
      rfl
    · have c := b2_n0.mp c
      rw [Bool.or_eq_true] at c
      unfold oneO
      rw [← hz, nI_add, nI_p0]
      rcases c with c | c
      · have c1 : msrt (zQ S q) = false := by cases hm : msrt (zQ S q) <;> simp_all
        rw [srtN_n c1]
        simp
      · rw [if_t c]; rfl
  refine q_X12_looksBy _ _ _ ⟨h.1.rc, (rr_wayDown h v hq ho hd).use ⟨h.1.rc, (rr_isCovered h v hq ho).use ⟨fun c => ⟨h.1.rc, (rr_pagesLeft h v hq ho ho).use ?_⟩, fun c => ?_⟩⟩⟩
  · refine j26 _ ?_
    rw [if_f (b2_0.mp c)]
    simp only [Bool.and_self]
  · exact j26 0 (by rw [if_t (b2_n0.mp c)])
theorem rr_looksByBoth (h : RQ g σ R S X A hh) (v : Iv S) {q o p : Nat} (hq : q < zq S) (ho : o < zo S) (hd : (zB S o).2.2 = false) (hp : p < zo S) (hd2 : (zB S p).2.2 = false) : Rd g M_X12_looksByBoth [.ref (R 300), .int (nI q), .int (nI o), .int (nI p)] σ (nI (twoO (zf S) (zt S) (zw S) (zQ S q) (zB S o) (zB S p))) := by
  refine q_X12_looksByBoth _ _ _ _ ⟨h.1.rc, (rr_wayDown h v hq ho hd).use ⟨h.1.rc, (rr_wayDown h v hq hp hd2).use ⟨h.1.rc, (rr_pagesLeft h v hq ho hp).use ⟨h.1.rc, (rr_isSorted h v hq).use ⟨fun c => ⟨h.1.rc, (rr_answersOf h v hq).use (rd_i ?_)⟩, fun c => rd_i ?_⟩⟩⟩⟩⟩
  · unfold twoO; rw [srtN_y (nt_t c), nI_add, nI_add, nI_add]; rfl
  · unfold twoO; rw [srtN_n (nt_f c), nI_add, nI_add, nI_p0]; rfl
end RQC
