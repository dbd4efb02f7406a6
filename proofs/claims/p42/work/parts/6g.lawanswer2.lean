/-! The law's body: the answer, number by number, slot by slot. -/
def pcC (S : SS) (d : QD) (s : Nat) : Nat → Bool
  | 0 => zt S s
  | c + 1 => pcC S d s c && inC S d s c
section LAN
variable {g : GG} {b L : Nat} {xs : Nat → Int32} {r0 : Nat} {S : SS} {Q : Nat → Nat} {E : AE} {kM nM q : Nat} {x2 x6 x7 : Int32}
theorem LW.put2 {σ : Hs} {w : Nat → Int32} (h : LW g σ r0 S 3 Q E) : LW g (hup σ (Q 2) (aI g 4 w)) r0 S 3 Q (E.1, E.2.1, w, E.2.2.2) := by
  obtain ⟨R, e, h1⟩ := h
  refine ⟨R, e, ?_⟩
  have := h1.hup (j := 2) (E' := (E.1, E.2.1, w, E.2.2.2)) (by decide) fun k hk hk4 => by
    rcases (show k = 0 ∨ k = 1 by omega) with rfl | rfl <;> rfl
  exact this
theorem pc_4 (iv : Inv S) {s : Nat} (hs : s < 64) : pcC S (zQ S q) s 4 = q_ans S q s := by
  rw [ans_is iv hs]
  show ((((zt S s && inC S (zQ S q) s 0) && inC S (zQ S q) s 1) && inC S (zQ S q) s 2) && inC S (zQ S q) s 3) = _
  have e : (zt S s && inC S (zQ S q) s 0) = inC S (zQ S q) s 0 := by
    unfold inC
    cases zt S s <;> simp
  rw [e]
theorem v_bd_lo (hq : q < zq S) (h8 : zq S ≤ 8) {c : Nat} (hc : c < 4) : v_bound S (nI q) (nI c) 0 = b_lo (zQ S q) c := by
  unfold v_bound v_bd
  rw [if_t (inR_y hq (by omega)), if_t (inR_y hc (by decide)), nn_i (by omega), nn_i (by omega), if_pos rfl]
theorem v_bd_hi (hq : q < zq S) (h8 : zq S ≤ 8) {c : Nat} (hc : c < 4) : v_bound S (nI q) (nI c) 1 = b_hi (zQ S q) c := by
  unfold v_bound v_bd
  rw [if_t (inR_y hq (by omega)), if_t (inR_y hc (by decide)), nn_i (by omega), nn_i (by omega), if_neg (by decide), if_pos rfl]
theorem law_answer (hL : L ≤ 260) (iv : Inv S) (hq : q < zq S) (hq3 : zq S ≤ 3) (hR : RQ E.1 q (zQ S q)) (hk1 : kM ≤ 600000) (hk2 : nM ≤ 7302250)
    (K : ∀ (σ : Hs) (w : Nat → Int32), LW g σ r0 S 3 Q (E.1, E.2.1, w, E.2.2.2) → w q = nI (fa_cnt (q_ans S q) 64) → (∀ j, j ≠ q → w j = E.2.2.1 j) → J_L_law_263 g b L xs kM nM σ r0 x2 x6 x7 (Q 0) (Q 1) (Q 2) (nI q + 1)) :
    ∀ (e v : Nat) (σ : Hs) (w : Nat → Int32), v + e = 100 → LW g σ r0 S 3 Q (E.1, E.2.1, w, E.2.2.2) → w q = nI (anN (zf S) (zQ S q) (q_ans S q) v 0) → (∀ j, j ≠ q → w j = E.2.2.1 j) → J_L_law_336 g b L xs kM nM σ r0 x2 x6 x7 (Q 0) (Q 1) (Q 2) (nI q) (nI v) := by
  have hso := hR.2.1
  have hki := ans_k (i := q) iv hso
  have hsr : E.1 (56 + q) = srtR (zQ S q) := hR.2.2.2.2
  intro e
  induction e with
  | zero =>
    intro v σ w hv h hw ho
    have hv : v = 100 := hv
    subst hv
    rw [anN_100 hki] at hw
    refine q_L_law_336 _ _ _ _ _ _ _ _ _ _ _ hL ⟨fun _ => ⟨⟨hk1, hk2⟩, h.rc, h.rd (fun R k => rd_answers k (nI q)) (AI.of (h.c2 (by decide)) rfl (by omega) (by decide) ?_)⟩, fun z => absurd (show (100 : Int32) ≤ nI 100 by decide) z⟩
    have ea : v_answers S (nI q) = nI (fa_cnt (q_ans S q) 64) := by
      unfold v_answers
      rw [if_t (inR_y hq (by omega)), nn_i (by omega)]
    rw [ea]
    refine ⟨fun z => absurd hw.symm z, fun _ => AI.of (h.c2 (by decide)) rfl (by omega) (by decide) ⟨⟨hk1, hk2⟩, h.rc, h.rd (fun R k => rd_answer k (nI q) _) ?_⟩⟩
    have e2 : v_answer S (nI q) (w q) = -1 := by
      unfold v_answer v_plc
      rw [if_t (inR_y hq (by omega)), nn_i (by omega), hw, plcd_end, if_neg (by omega)]
    rw [show ((E.1, E.2.1, w, E.2.2.2) : AE).2.2.1 q = w q from rfl, e2]
    exact ⟨fun _ => K σ w h hw ho, fun z => absurd rfl z⟩
  | succ e ih =>
    intro v σ w hv h hw ho
    have hv100 : v < 100 := by omega
    have slots : ∀ (e2 s : Nat) (σ : Hs) (w : Nat → Int32), s + e2 = 64 → LW g σ r0 S 3 Q (E.1, E.2.1, w, E.2.2.2) → w q = nI (anN (zf S) (zQ S q) (q_ans S q) v s) → (∀ j, j ≠ q → w j = E.2.2.1 j) → J_L_law_346 g b L xs kM nM σ r0 x2 x6 x7 (Q 0) (Q 1) (Q 2) (nI q) (nI v) (nI s) := by
      intro e2
      induction e2 with
      | zero =>
        intro s σ w hs h hw ho
        have hs : s = 64 := hs
        subst hs
        rw [anN_row] at hw
        refine q_L_law_346 _ _ _ _ _ _ _ _ _ _ _ _ hL ⟨fun _ => ?_, fun z => absurd (show (64 : Int32) ≤ nI 64 by decide) z⟩
        rw [nI_1]
        exact ih (v + 1) σ w (by omega) h hw ho
      | succ e2 ih2 =>
        intro s σ w hs h hw ho
        have hs64 : s < 64 := by omega
        -- behind the columns
        have st511 : ∀ (t : Int32), (q_ans S q s = true → (t = 0 ↔ ¬ kNs (zf S) (zQ S q) s = v)) → J_L_law_511 g b L xs kM nM σ r0 x2 x6 x7 (Q 0) (Q 1) (Q 2) (nI q) (nI v) (nI s) (b2 (q_ans S q s)) t := by
          intro t ht
          have no : (q_ans S q s && decide (kNs (zf S) (zQ S q) s = v)) = false → J_L_law_346 g b L xs kM nM σ r0 x2 x6 x7 (Q 0) (Q 1) (Q 2) (nI q) (nI v) (nI s + 1) := fun z => by
            rw [nI_1]
            exact ih2 (s + 1) σ w (by omega) h (by rw [anN_no z]; exact hw) ho
          refine q_L_law_511 _ _ _ _ _ _ _ _ _ _ _ _ _ _ hL ⟨fun z => no ?_, fun z => ⟨fun z2 => no ?_, fun z2 => ?_⟩⟩
          · rw [b2_0.mp z, Bool.false_and]
          · rw [decide_eq_false ((ht (b2_n0.mp z)).mp z2), Bool.and_false]
          · have pz := b2_n0.mp z
            have kz : kNs (zf S) (zQ S q) s = v := by
              rcases Nat.decEq (kNs (zf S) (zQ S q) s) v with y | y
              · exact absurd ((ht pz).mpr y) z2
              · exact y
            have ha : anN (zf S) (zQ S q) (q_ans S q) v s = fa_cnt (aheadA (zf S) (zQ S q) (q_ans S q) s) 64 := by
              rw [← kz]
              exact anN_ahead hki hs64 pz
            refine AI.of (h.c2 (by decide)) rfl (by omega) (by decide) ⟨⟨hk1, hk2⟩, h.rc, h.rd (fun R k => rd_answer k (nI q) _) ?_⟩
            have e2 : v_answer S (nI q) (w q) = nI s := by
              unfold v_answer v_plc
              rw [if_t (inR_y hq (by omega)), nn_i (by omega), hw, ha, plcd_at hs64 pz, if_pos hs64]
            rw [show ((E.1, E.2.1, w, E.2.2.2) : AE).2.2.1 q = w q from rfl, e2]
            refine ⟨fun _ => AI.of (h.c2 (by decide)) rfl (by omega) (by decide) (SI.of (h.c2 (by decide)) rfl (by omega) (by decide) ?_), fun z => absurd rfl z⟩
            rw [nI_1, show ((E.1, E.2.1, w, E.2.2.2) : AE).2.2.1 q = w q from rfl]
            refine ih2 (s + 1) _ (upd w q (w q + 1)) (by omega) (h.put2 (w := upd w q (w q + 1))) ?_ fun j hj => ?_
            · rw [pk_us, hw, nI_1, anN_yes hs64 (by rw [pz, decide_eq_true kz]; rfl)]
            · rw [pk_un hj]
              exact ho j hj
        -- the columns
        have cols : ∀ (e3 c : Nat), c + e3 = 4 → J_L_law_373 g b L xs kM nM σ r0 x2 x6 x7 (Q 0) (Q 1) (Q 2) (nI q) (nI v) (nI s) (b2 (pcC S (zQ S q) s c)) (nI c) := by
          intro e3
          induction e3 with
          | zero =>
            intro c hc
            have hc : c = 4 := hc
            subst hc
            rw [pc_4 iv hs64]
            refine q_L_law_373 _ _ _ _ _ _ _ _ _ _ _ _ _ _ hL ⟨fun _ => AI.of (h.c0 (by decide)) (nI_add 56 q) (by omega) (by decide) ?_, fun z => absurd (show (4 : Int32) ≤ nI 4 by decide) z⟩
            rw [show ((E.1, E.2.1, w, E.2.2.2) : AE).1 (56 + q) = srtR (zQ S q) from hsr]
            refine ⟨fun z => AI.of (h.c0 (by decide)) (nI_add 56 q) (by omega) (by decide) ?_, fun z => ?_⟩
            · rw [show ((E.1, E.2.1, w, E.2.2.2) : AE).1 (56 + q) = srtR (zQ S q) from hsr]
              have hc : ∃ c, c < 4 ∧ (zQ S q).2.2.2.1 = nI c := by
                rcases hso with y | y
                · exact absurd (by unfold srtR; rw [if_pos y]) z
                · exact y
              obtain ⟨c, hc4, hcs⟩ := hc
              have er : srtR (zQ S q) = nI c := (srtR_c hso hc4).mpr hcs
              rw [er]
              refine ⟨⟨hk1, hk2⟩, h.rc, h.rd (fun R k => rd_get k (nI s) (nI c)) ?_⟩
              rw [v_get_in hs64 hc4]
              have ek : q_ans S q s = true → ((if zt S s then zf S (4 * s + c) else -1) = nI v ↔ kNs (zf S) (zQ S q) s = v) := fun pz => by
                rw [if_t (ans_tk pz)]
                have hb := hki s hs64 pz
                have es : srtV (zf S) (zQ S q) s = zf S (4 * s + c) := by
                  unfold srtV
                  rw [hcs, if_neg (nI_neg (by omega)), nn_i (by omega)]
                unfold kNs
                rw [es] at hb ⊢
                rw [eq_n (by omega)]
                omega
              refine ⟨fun y => st511 0 fun pz => ⟨fun _ x => y ((ek pz).mpr x), fun _ => rfl⟩, fun y => st511 1 fun pz => ⟨fun x => absurd x (by decide), fun x => absurd ((ek pz).mp y) x⟩⟩
            · have hc : (zQ S q).2.2.2.1 = -1 := by
                rcases hso with y | ⟨c, hc4, y⟩
                · exact y
                · exfalso
                  have er : srtR (zQ S q) = nI c := by
                    unfold srtR
                    rw [y, if_neg (nI_neg (by omega))]
                  rw [er] at z
                  have := (nI_eq (b := 4) (by omega) (by decide)).mp z
                  omega
              have k0 : kNs (zf S) (zQ S q) s = 0 := by
                unfold kNs srtV
                rw [if_pos hc]
                decide
              have ev : nI v = 0 ↔ v = 0 := nI_eq (b := 0) (by omega) (by decide)
              refine ⟨fun y => st511 0 fun _ => ⟨fun _ x => y (ev.mpr (by omega)), fun _ => rfl⟩, fun y => st511 1 fun _ => ⟨fun x => absurd x (by decide), fun x => absurd (by rw [k0]; exact (ev.mp y).symm) x⟩⟩
          | succ e3 ih3 =>
            intro c hc
            have hc4 : c < 4 := by omega
            obtain ⟨r1, r2⟩ := hR.2.2.1 c hc4
            have bnd : ∀ t : Bool, t = pcC S (zQ S q) s (c + 1) → J_L_law_404 g b L xs kM nM σ r0 x2 x6 x7 (Q 0) (Q 1) (Q 2) (nI q) (nI v) (nI s) (nI c) (b2 t) := fun t ht => by
              refine q_L_law_404 _ _ _ _ _ _ _ _ _ _ _ _ _ _ hL ⟨⟨hk1, hk2⟩, h.rc, h.rd (fun R k => rd_bound k (nI q) (nI c) 0) (AI.of (h.c0 (by decide)) (ix_a q c) (by omega) (by decide) ?_)⟩
              rw [v_bd_lo hq (by omega) hc4]
              refine ⟨fun z => absurd r1.symm z, fun _ => ⟨⟨hk1, hk2⟩, h.rc, h.rd (fun R k => rd_bound k (nI q) (nI c) 1) (AI.of (h.c0 (by decide)) (ix_b q c) (by omega) (by decide) ?_)⟩⟩
              rw [v_bd_hi hq (by omega) hc4]
              refine ⟨fun _ => ?_, fun z => absurd r2.symm z⟩
              rw [nI_1, ht]
              exact ih3 (c + 1) (by omega)
            refine q_L_law_373 _ _ _ _ _ _ _ _ _ _ _ _ _ _ hL ⟨fun z => absurd ((nI_leI (a := 4) (by decide) (by omega)).mp z) (by omega), fun _ => ⟨fun z => bnd false ?_, fun z => ⟨⟨hk1, hk2⟩, h.rd (fun R k => rd_lwithin k (h.c0 (by decide)) hR (by omega) hs64 hc4) ⟨fun y => bnd false ?_, fun y => bnd true ?_⟩⟩⟩⟩
            · show false = (pcC S (zQ S q) s c && inC S (zQ S q) s c)
              rw [b2_0.mp z, Bool.false_and]
            · show false = (pcC S (zQ S q) s c && inC S (zQ S q) s c)
              rw [b2_0.mp y, Bool.and_false]
            · show true = (pcC S (zQ S q) s c && inC S (zQ S q) s c)
              rw [b2_n0.mp z, b2_n0.mp y]
              rfl
        have c0 := cols 4 0 rfl
        refine q_L_law_346 _ _ _ _ _ _ _ _ _ _ _ _ hL ⟨fun z => absurd ((nI_leI (a := 64) (by decide) (by omega)).mp z) (by omega), fun _ => ⟨⟨hk1, hk2⟩, h.rc, h.rd (fun R k => rd_get k (nI s) 0) ?_⟩⟩
        rw [show v_get S (nI s) 0 = v_get S (nI s) (nI 0) from rfl, v_get_in hs64 (by decide)]
        have e0 : pcC S (zQ S q) s 0 = zt S s := rfl
        rw [e0] at c0
        rcases Bool.eq_false_or_eq_true (zt S s) with y | y
        · rw [y] at c0
          rw [if_t y]
          exact ⟨fun z => absurd ((lt_n (n := 0) (by decide)).mp z) (by have := (iv.cells hs64 y (show 0 < 4 by decide)).1; omega), fun _ => c0⟩
        · rw [y] at c0
          rw [if_f y]
          exact ⟨fun _ => c0, fun z => absurd (by decide) z⟩
    refine q_L_law_336 _ _ _ _ _ _ _ _ _ _ _ hL ⟨fun z => absurd ((nI_leI (a := 100) (by decide) (by omega)).mp z) (by omega), fun _ => ?_⟩
    exact slots 64 0 σ w (by omega) h hw ho
end LAN
