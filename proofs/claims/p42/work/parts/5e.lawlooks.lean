/-! The law's looks of a way. -/
theorem bs_has1 : ∀ m, m < 16 → ∀ i, i < 4 → (((nI m >>> (nI i &&& 31)) &&& 1) = 1 ↔ m.testBit i = true) := by decide +kernel
theorem Gr.own {σ σ1 : Hs} {a : Nat} {e : va_E} (ha : a ∉ σ.1) (h : Gr (fun b => b = a) (hpush σ a e) σ1) : Gr gN σ σ1 := by
  have s := Gr.push e ha
  exact ⟨fun b hb => h.1 b (s.1 b hb), fun b e' c _ => h.2 b e' (s.2 b e' c (fun z => z)) fun z => ha (z ▸ c.1)⟩
theorem LB.cong {g : GG} {σ : Hs} {a : Nat} {P P' : Nat → Bool} (h : LB g σ a P) (e : ∀ s, s < 64 → P s = P' s) : LB g σ a P' := by
  obtain ⟨z, h1, h2⟩ := h
  exact ⟨z, h1, fun s hs => by rw [h2 s hs, e s hs]⟩
theorem sfO_kfx (d : QD) (key : Nat) : sfO d key = decide (kfx d key < kw key ∧ nI (kcol key (kfx d key)) = d.2.2.2.1) := by
  have step : ∀ (r i : Nat), i + r = kw key → i ≤ kfx d key → sfG d key i r = decide (kfx d key < kw key ∧ nI (kcol key (kfx d key)) = d.2.2.2.1) := by
    intro r
    induction r with
    | zero =>
      intro i h1 h2
      have h3 := kfx_le d key
      show false = _
      rw [decide_eq_false (by omega)]
    | succ r ih =>
      intro i h1 h2
      simp only [sfG]
      rcases Bool.eq_false_or_eq_true (isF d (kcol key i)) with z | z
      · rw [if_t z]
        refine ih (i + 1) (by omega) ?_
        rcases Nat.lt_or_ge i (kfx d key) with y | y
        · exact y
        · have e : i = kfx d key := by omega
          have nf : (!isF d (kcol key (kfx d key))) = true := fa_first_yes (fun i => !isF d (kcol key i)) (kw key) (show kfx d key < kw key by omega)
          have nf : isF d (kcol key (kfx d key)) = false := by simpa using nf
          rw [← e, z] at nf
          cases nf
      · rw [if_f z]
        have e : i = kfx d key := by
          rcases Nat.lt_or_ge i (kfx d key) with y | y
          · rw [kfx_F y] at z; cases z
          · omega
        rw [← e]
        refine decide_eq_decide.mpr ?_
        exact ⟨fun y => ⟨by omega, y⟩, fun y => y.2⟩
  exact step (kw key) 0 (by omega) (Nat.zero_le _)
theorem covN_s (d : QD) (m c : Nat) : covN d m (c + 1) = (covN d m c && (!usedC d c || m.testBit c)) := rfl
/-- the column by which a question is sorted, as the law's row has it -/
def srtR (d : QD) : Int32 := if d.2.2.2.1 = -1 then 4 else d.2.2.2.1
theorem srtR_c {d : QD} (h : srtOk d) {c : Nat} (hc : c < 4) : srtR d = nI c ↔ d.2.2.2.1 = nI c := by
  unfold srtR
  by_cases z : d.2.2.2.1 = -1
  · rw [if_pos z, z]
    constructor
    · intro y
      have := (nI_eq (a := 4) (by decide) (by omega)).mp y
      omega
    · intro y
      exact absurd y.symm (nI_neg (by omega))
  · rw [if_neg z]
theorem srtR_4 {d : QD} (h : srtOk d) : (4 ≤ srtR d ↔ d.2.2.2.1 = -1) := by
  unfold srtR
  by_cases z : d.2.2.2.1 = -1
  · rw [if_pos z]
    exact ⟨fun _ => z, fun _ => by decide⟩
  · rw [if_neg z]
    rcases h with y | ⟨c, hc, y⟩
    · exact absurd y z
    · rw [y]
      constructor
      · intro x
        have := (nI_leI (a := 4) (by decide) (by omega)).mp x
        omega
      · intro x
        exact absurd x (nI_neg (by omega))
section LLK
variable {g : GG} {σ : Hs} {R : Nat → Nat} {S : SS} {p q a : Nat} {r : Nat → Int32} {d : QD}
/-- what a way costs -/
def wayC (S : SS) (d : QD) (way V : Nat) : Prop := (way = 0 ∧ V = tabL (zf S) (zt S) (zw S) d) ∨ (∃ o, o < zo S ∧ (zB S o).2.2 = false ∧ way = o + 1 ∧ V = oneO (zf S) (zt S) (zw S) d (zB S o)) ∨ ∃ o o2, o < o2 ∧ o2 < zo S ∧ (zB S o).2.2 = false ∧ (zB S o2).2.2 = false ∧ way = 100 + 10 * o + o2 ∧ V = twoO (zf S) (zt S) (zw S) d (zB S o) (zB S o2)
theorem LB.gr {X : Nat → Prop} {σ σ' : Hs} {P : Nat → Bool} (h : LB g σ a P) (s : Gr X σ σ') (n : ¬ X a) : LB g σ' a P := by
  obtain ⟨z, h1, h2⟩ := h
  exact ⟨z, s.2 _ _ h1 n, h2⟩
theorem wr_llooks (ko : KO g σ R S) (iv : Inv S) (hr : Ce σ p (aI g 64 r)) (h : RQ r q d) (hq : q < 4) {way V : Nat} (hV : wayC S d way V) : Do g M_L_looks 3 192 [.ref (R 0), .ref p, .int (nI q), .int (nI way), .int (nI (zw S)), .int (nI (fa_cnt (rowsW (zf S) (zt S) d (15 : Nat).testBit) 64))] σ (kI fun x σ' => x = nI V ∧ Gr gN σ σ') := by
  have h8 := iv.o8
  have hso := h.2.1
  have hsr : r (56 + q) = srtR d := h.2.2.2.2
  have hsh := h.2.2.2.1
  have hwd := ko.wide
  have hms : msrt d = (decide (¬ d.2.2.2.1 = -1) && !isF d d.2.2.2.1.toInt.toNat) := rfl
  refine q_L_looks 3 192 _ _ _ _ _ _ ⟨by omega, NA.of (n := 64) (by decide) rfl fun a ha => ⟨by omega, ?_⟩⟩
  have nd : p ≠ a := fun z => ha (z ▸ hr.1)
  have na : ∀ i, Lv (zo S) (zq S) i → R i ≠ a := fun i hi z => ha (z ▸ ko.2.2.2.2.2 i hi)
  have s0 := Gr.push (aI g 64 (fun _ => 0)) ha
  refine DoV.use (wr_lall (ko.gr0 s0) Ce.psh na iv) ?_
  rintro σ1 ⟨g1, l1⟩
  have kp : ∀ {σ2}, Gr (fun b => b = a) (hpush σ a (aI g 64 (fun _ => 0))) σ2 → KO g σ2 R S ∧ Ce σ2 p (aI g 64 r) := fun s => ⟨(ko.gr0 s0).gr1 s na, s.2 _ _ (s0.2 _ _ hr (fun z => z)) nd⟩
  obtain ⟨ko1, hr1⟩ := kp g1
  -- the way's own going, when it is known whether it must be sorted
  have main : J_L_looks_41 g (kI fun x σ' => x = nI V ∧ Gr gN σ σ') 3 192 1 64 σ1 (R 0) p (nI q) (nI way) (nI (zw S)) (nI (fa_cnt (rowsW (zf S) (zt S) d (15 : Nat).testBit) 64)) a (srtR d) (b2 (msrt d)) := by
    have add : ∀ x : Nat, ∀ t : Int32, (b2 (msrt d) = 0 → t = 0) → (¬ b2 (msrt d) = 0 → t = nI (fa_cnt (rowsW (zf S) (zt S) d (15 : Nat).testBit) 64)) → nI x + t = nI (x + srtN (zf S) (zt S) d) := fun x t h0 h1 => by
      rcases Bool.eq_false_or_eq_true (msrt d) with z | z
      · rw [srtN_y z, h1 (by rw [z]; decide), nI_add]
      · rw [srtN_n z, h0 (by rw [z]; decide)]
        exact nI_p0 x
    rcases hV with ⟨rfl, rfl⟩ | ⟨o, ho, hd, rfl, rfl⟩ | ⟨o, o2, hlt, ho2, hd, hd2, rfl, rfl⟩
    · refine q_L_looks_41 _ _ _ _ _ _ _ _ _ _ _ _ _ ⟨fun c => absurd rfl c, fun _ => ⟨by omega, (rd_lpages l1 hwd).use ⟨fun c => ⟨by omega, _, rfl, add _ 0 (fun _ => rfl) (fun y => absurd c y), Gr.own ha g1⟩, fun c => ⟨by omega, _, rfl, add _ _ (fun y => absurd y c) (fun _ => rfl), Gr.own ha g1⟩⟩⟩⟩
    · refine q_L_looks_41 _ _ _ _ _ _ _ _ _ _ _ _ _ ⟨fun _ => ⟨fun _ => ⟨by omega, Rc.of ko1.1, (rd_about ko1 _ _).use ⟨1, 64, by omega, ?_⟩⟩, fun c => absurd (nI_le (b := 99) (by omega) (by decide)) c⟩, fun c => absurd ((nI_eq (b := 0) (by omega) (by decide)).mp c) (by omega)⟩
      rw [nI_pred, v_about_0 ho h8 hd]
      refine DoI.use (wr_lleaves ko1 iv hr1 h hq ho hd l1 nd na) ?_
      rintro x σ2 ⟨rfl, g2, l2⟩
      have g2 := g1.trans g2
      obtain ⟨ko2, hr2⟩ := kp g2
      obtain ⟨hk, hw, hoi⟩ := iv.1.1 o ho
      have l2 : LB g σ2 a (lftO (zf S) (zt S) d (zB S o)) := l2.cong fun s hs => by
        rcases Bool.eq_false_or_eq_true (lftO (zf S) (zt S) d (zB S o) s) with z | z
        · rw [z, lft_tk z]; rfl
        · rw [z, Bool.and_false]
      have hkf := kfx_le d (zB S o).1
      have hkr := krn_le d (zB S o).1
      have hk3 := kw_3 (zB S o).1
      -- behind covered: sorting
      have fin : ∀ (t0 : Nat), t0 = (if covO d (zB S o).1 then 0 else pgc (zw S) (lftO (zf S) (zt S) d (zB S o)) 64) → J_L_looks_290 g (kI fun x σ' => x = nI (oneO (zf S) (zt S) (zw S) d (zB S o)) ∧ Gr gN σ σ') 3 192 (1 + 1) (64 + 64) σ2 p (nI q) (nI (fa_cnt (rowsW (zf S) (zt S) d (15 : Nat).testBit) 64)) (srtR d) (b2 (msrt d)) (nI (zB S o).1) (nI t0) (nI (rchO (zf S) (zt S) d (zB S o))) := by
        intro t0 ht0
        refine q_L_looks_290 _ _ _ _ _ _ _ _ _ _ _ _ ⟨by omega, (rd_lrun hr2 h hq hk).use ⟨by omega, ?_⟩⟩
        rw [show nI (8 * kfx d (zB S o).1 + krn d (zB S o).1) / 8 = nI ((8 * kfx d (zB S o).1 + krn d (zB S o).1) / 8) from pk_div (by omega) (by decide) (by decide), show (8 * kfx d (zB S o).1 + krn d (zB S o).1) / 8 = kfx d (zB S o).1 by omega, nI_add]
        have giv : msrt d = true → (colV (zB S o).1 (kfx d (zB S o).1) = srtR d ↔ sfO d (zB S o).1 = true) := fun m => by
          rw [sfO_kfx, decide_eq_true_eq]
          have ms : ¬ d.2.2.2.1 = -1 := by
            rw [hms, Bool.and_eq_true] at m
            exact of_decide_eq_true m.1
          unfold colV
          by_cases c : kfx d (zB S o).1 < kw (zB S o).1
          · rw [if_pos c]
            have c4 := kcol_4 hk c
            constructor
            · intro y
              exact ⟨c, ((srtR_c hso c4).mp y.symm).symm⟩
            · rintro ⟨-, y⟩
              exact ((srtR_c hso c4).mpr y.symm).symm
          · rw [if_neg c]
            constructor
            · intro y
              exfalso
              unfold srtR at y
              rw [if_neg ms] at y
              exact ms y.symm
            · rintro ⟨y, -⟩
              exact absurd y c
        have done : ∀ (t : Bool), (msrt d = true → t = sfO d (zB S o).1) → J_L_looks_318 g (kI fun x σ' => x = nI (oneO (zf S) (zt S) (zw S) d (zB S o)) ∧ Gr gN σ σ') 3 192 (1 + 1) (64 + 64) σ2 (nI (fa_cnt (rowsW (zf S) (zt S) d (15 : Nat).testBit) 64)) (b2 (msrt d)) (nI (rchO (zf S) (zt S) d (zB S o) + t0)) (b2 t) := fun t ht => by
          have e1 : ∀ y : Nat, y = (if sfO d (zB S o).1 then 0 else srtN (zf S) (zt S) d) → nI (rchO (zf S) (zt S) d (zB S o) + t0 + y) = nI (oneO (zf S) (zt S) (zw S) d (zB S o)) := fun y hy => by
            unfold oneO
            rw [ht0, hy]
          refine q_L_looks_318 _ _ _ _ _ _ _ _ ⟨fun c => ⟨by omega, _, rfl, ?_, Gr.own ha g2⟩, fun c => ⟨fun c2 => ⟨by omega, _, rfl, ?_, Gr.own ha g2⟩, fun c2 => ⟨by omega, _, rfl, ?_, Gr.own ha g2⟩⟩⟩
          · rw [nI_p0]
            refine e1 0 ?_
            rw [srtN_n (b2_0.mp c)]
            split <;> rfl
          · rw [nI_p0]
            refine e1 0 ?_
            rw [if_t ((ht (b2_n0.mp c)).symm.trans (b2_n0.mp c2))]
          · rw [nI_add]
            refine e1 _ ?_
            rw [if_f ((ht (b2_n0.mp c)).symm.trans (b2_0.mp c2)), srtN_y (b2_n0.mp c)]
        refine (rd_lcolumn hk (by omega)).use ⟨fun c => done false fun m => ?_, fun c => done true fun m => ?_⟩
        · rcases Bool.eq_false_or_eq_true (sfO d (zB S o).1) with z | z
          · exact absurd ((giv m).mpr z) c
          · exact z.symm
        · exact ((giv m).mp c).symm
      -- covered
      have cov : ∀ (e c : Nat), c + e = 4 → J_L_looks_159 g (kI fun x σ' => x = nI (oneO (zf S) (zt S) (zw S) d (zB S o)) ∧ Gr gN σ σ') 3 192 (1 + 1) (64 + 64) σ2 p (nI q) (nI (zw S)) (nI (fa_cnt (rowsW (zf S) (zt S) d (15 : Nat).testBit) 64)) a (srtR d) (b2 (msrt d)) (nI (zB S o).1) (nI (rchO (zf S) (zt S) d (zB S o))) (b2 (covN d (kmask (zB S o).1) c)) (nI c) := by
        intro e
        induction e with
        | zero =>
          intro c hc
          have hc : c = 4 := hc
          subst hc
          refine q_L_looks_159 _ _ _ _ _ _ _ _ _ _ _ _ _ _ _ ⟨fun _ => ⟨fun z => ⟨by omega, (rd_lpages l2 hwd).use (fin _ ?_)⟩, fun z => fin 0 ?_⟩, fun z => absurd (show (4 : Int32) ≤ nI 4 by decide) z⟩
          · rw [if_f (show covO d (zB S o).1 = false from b2_0.mp z)]
          · rw [if_t (show covO d (zB S o).1 = true from b2_n0.mp z)]
        | succ e ih =>
          intro c hc
          have c4 : c < 4 := by omega
          have ih := ih (c + 1) (by omega)
          rw [covN_s] at ih
          have has : ∀ t : Bool, t = usedC d c → J_L_looks_202 g (kI fun x σ' => x = nI (oneO (zf S) (zt S) (zw S) d (zB S o)) ∧ Gr gN σ σ') 3 192 (1 + 1) (64 + 64) σ2 p (nI q) (nI (zw S)) (nI (fa_cnt (rowsW (zf S) (zt S) d (15 : Nat).testBit) 64)) a (srtR d) (b2 (msrt d)) (nI (zB S o).1) (nI (rchO (zf S) (zt S) d (zB S o))) (b2 (covN d (kmask (zB S o).1) c)) (nI c) (b2 t) := by
            intro t ht
            have last : ∀ u : Bool, u = (kmask (zB S o).1).testBit c → J_L_looks_242 g (kI fun x σ' => x = nI (oneO (zf S) (zt S) (zw S) d (zB S o)) ∧ Gr gN σ σ') 3 192 (1 + 1) (64 + 64) σ2 p (nI q) (nI (zw S)) (nI (fa_cnt (rowsW (zf S) (zt S) d (15 : Nat).testBit) 64)) a (srtR d) (b2 (msrt d)) (nI (zB S o).1) (nI (rchO (zf S) (zt S) d (zB S o))) (b2 (covN d (kmask (zB S o).1) c)) (nI c) (b2 t) (b2 u) := by
              intro u hu
              rw [← ht, ← hu] at ih
              refine q_L_looks_242 _ _ _ _ _ _ _ _ _ _ _ _ _ _ _ _ _ ⟨fun z => ?_, fun z => ⟨fun z2 => ?_, fun z2 => ⟨fun z3 => ?_, fun z3 => ?_⟩⟩⟩
              · rw [b2_0.mp z, Bool.false_and] at ih
                rw [nI_1]; exact ih
              · rw [b2_n0.mp z, b2_0.mp z2] at ih
                rw [nI_1]; exact ih
              · rw [b2_n0.mp z, b2_n0.mp z2, b2_0.mp z3] at ih
                rw [nI_1]; exact ih
              · rw [b2_n0.mp z, b2_n0.mp z3, Bool.or_true] at ih
                rw [nI_1]; exact ih
            have kb := kmaskN_bit (zB S o).1 c (kw (zB S o).1)
            have cve : ∀ k, colV (zB S o).1 k = nI c ↔ k < kw (zB S o).1 ∧ kcol (zB S o).1 k = c := fun k => by
              unfold colV
              by_cases y : k < kw (zB S o).1
              · have c5 := kcol_4 hk y
                rw [if_pos y, nI_ci c5 c4]
                exact ⟨fun x => ⟨y, x⟩, fun x => x.2⟩
              · rw [if_neg y]
                exact ⟨fun x => absurd x.symm (nI_neg (by omega)), fun x => absurd x.1 y⟩
            have yes : ∀ k, colV (zB S o).1 k = nI c → true = (kmask (zB S o).1).testBit c := fun k y => (kb.mpr ⟨k, (cve k).mp y⟩).symm
            refine q_L_looks_202 _ _ _ _ _ _ _ _ _ _ _ _ _ _ _ _ ⟨by omega, (rd_lcolumn (k := 0) hk (by decide)).use ⟨fun z => last true (yes _ z), fun z => ⟨by omega, (rd_lcolumn (k := 1) hk (by decide)).use ⟨fun z1 => last true (yes _ z1), fun z1 => ⟨by omega, (rd_lcolumn (k := 2) hk (by decide)).use ⟨fun z2 => last false ?_, fun z2 => last true (yes _ z2)⟩⟩⟩⟩⟩⟩
            rcases Bool.eq_false_or_eq_true ((kmask (zB S o).1).testBit c) with y | y
            · exfalso
              obtain ⟨i, hi, hi2⟩ := kb.mp y
              have hi3 := (cve i).mpr ⟨hi, hi2⟩
              rcases (show i = 0 ∨ i = 1 ∨ i = 2 by omega) with rfl | rfl | rfl
              · exact z hi3
              · exact z1 hi3
              · exact z2 hi3
            · exact y.symm
          refine q_L_looks_159 _ _ _ _ _ _ _ _ _ _ _ _ _ _ _ ⟨fun z => absurd ((nI_leI (a := 4) (by decide) (by omega)).mp z) (by omega), fun _ => ⟨by omega, (rd_lbound hr2 h hq c4).use ⟨fun z => has true ?_, fun z => AI.of hr2 (nI_add 48 q) (by omega) (by decide) ?_⟩⟩⟩
          · unfold usedC
            rw [b2_n0.mp z]
            rfl
          · rw [hsh, bs_has1 _ (mk4_lt _) c c4, mk4_bit _ c c4]
            have z := b2_0.mp z
            refine ⟨fun z1 => has true ?_, fun z1 => ⟨fun z2 => has false ?_, fun z2 => has true ?_⟩⟩
            · unfold usedC
              rw [z1, Bool.or_true]
              rfl
            · unfold usedC
              rw [z, Bool.not_eq_true _ |>.mp z1, decide_eq_false fun y => z2 ((srtR_c hso c4).mpr y)]
              rfl
            · unfold usedC
              rw [decide_eq_true ((srtR_c hso c4).mp z2), Bool.or_true]
      exact cov 4 0 rfl
    · have ho : o < zo S := by omega
      have e1 : nI (100 + 10 * o + o2) / 10 - nI (100 + 10 * o + o2) / 10 / 10 * 10 = nI o := by
        rw [show nI (100 + 10 * o + o2) / 10 = nI ((100 + 10 * o + o2) / 10) from pk_div (by omega) (by decide) (by decide), show nI ((100 + 10 * o + o2) / 10) - nI ((100 + 10 * o + o2) / 10) / 10 * 10 = nI ((100 + 10 * o + o2) / 10 % 10) from pk_rem (by omega) (by decide) (by decide), show (100 + 10 * o + o2) / 10 % 10 = o by omega]
      have e2 : nI (100 + 10 * o + o2) - nI (100 + 10 * o + o2) / 10 * 10 = nI o2 := by
        rw [show nI (100 + 10 * o + o2) - nI (100 + 10 * o + o2) / 10 * 10 = nI ((100 + 10 * o + o2) % 10) from pk_rem (by omega) (by decide) (by decide), show (100 + 10 * o + o2) % 10 = o2 by omega]
      refine q_L_looks_41 _ _ _ _ _ _ _ _ _ _ _ _ _ ⟨fun _ => ⟨fun c => absurd ((nI_leI (b := 99) (by omega) (by decide)).mp c) (by omega), fun _ => ⟨1, 64, by omega, ?_⟩⟩, fun c => absurd ((nI_eq (b := 0) (by omega) (by decide)).mp c) (by omega)⟩
      rw [e1, e2]
      refine DoI.use (wr_lleaves ko1 iv hr1 h hq ho hd l1 nd na) ?_
      rintro x σ2 ⟨rfl, g2, l2⟩
      have g2 := g1.trans g2
      obtain ⟨ko2, hr2⟩ := kp g2
      refine ⟨1, 64, by omega, DoI.use (wr_lleaves ko2 iv hr2 h hq ho2 hd2 l2 nd na) ?_⟩
      rintro x σ3 ⟨rfl, g3, l3⟩
      have g3 := g2.trans g3
      have l3 : LB g σ3 a (fun s => lftO (zf S) (zt S) d (zB S o) s && lftO (zf S) (zt S) d (zB S o2) s) := l3.cong fun s hs => by
        rcases Bool.eq_false_or_eq_true (lftO (zf S) (zt S) d (zB S o) s) with z | z
        · rw [z, lft_tk z]; rfl
        · rw [z, Bool.and_false]
      refine ⟨by omega, (rd_lpages l3 hwd).use ?_⟩
      rw [nI_add, nI_add]
      unfold twoO
      exact ⟨fun c => ⟨by omega, _, rfl, add _ 0 (fun _ => rfl) (fun y => absurd c y), Gr.own ha g3⟩, fun c => ⟨by omega, _, rfl, add _ _ (fun y => absurd y c) (fun _ => rfl), Gr.own ha g3⟩⟩
  refine AI.of hr1 (nI_add 56 q) (by omega) (by decide) ?_
  rw [hsr]
  refine ⟨fun c => ?_, fun c => ⟨by omega, ?_⟩⟩
  · have c := (srtR_4 hso).mp c
    have : msrt d = false := by rw [hms, c]; rfl
    rw [this] at main
    exact main
  · have c : ¬ d.2.2.2.1 = -1 := fun y => c ((srtR_4 hso).mpr y)
    rcases hso with y | ⟨k, hk, y⟩
    · exact absurd y c
    have e : srtR d = nI k := by unfold srtR; rw [if_neg c, y]
    rw [hms, y, nn_i (by omega), decide_eq_true (by rw [← y]; exact c), Bool.true_and, e] at main
    rw [e]
    refine (rd_lfixed hr1 h hq hk).use ⟨fun z => ?_, fun z => ?_⟩
    · rw [b2_n0.mp z] at main
      exact main
    · rw [b2_0.mp z] at main
      exact main
end LLK
