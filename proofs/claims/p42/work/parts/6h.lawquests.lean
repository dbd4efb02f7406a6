/-! The law's body: the questions one by one. -/
theorem weight_is {S : SS} {d : QD} {w q : Nat} (hq : zq S = q + 1) (hd : zQ S q = d) (h8 : q < 8) (hw : w < 100) : s_weight S (nI q) (nI w) = (d.2.2.2.2, zQs S (zq S) (Q_set (zQ S) q (d.1, d.2.1, d.2.2.1, d.2.2.2.1, nI w)) (zu S)) := by
  unfold s_weight
  rw [if_t (inR_y (by omega) (by omega)), if_t (inR_y hw (by decide)), nn_i (by omega), hd]
theorem RQ.other {r r' : Nat → Int32} {q q' : Nat} {d : QD} (h : RQ r q' d) (ro : RO q r r') (hq : q < 4) (hq' : q' < 4) (hne : q' ≠ q) : RQ r' q' d := by
  obtain ⟨h1, h2, h3, h4, h5⟩ := h
  refine ⟨h1, h2, fun c hc => ?_, ?_, ?_⟩
  · rw [ro _ (by omega) (by omega) (by omega), ro _ (by omega) (by omega) (by omega)]
    exact h3 c hc
  · rw [ro _ (by omega) (by omega) (by omega)]
    exact h4
  · rw [ro _ (by omega) (by omega) (by omega)]
    exact h5
section LQU
variable {g : GG} {b L : Nat} {xs : Nat → Int32} {r0 : Nat} {Q : Nat → Nat}
theorem LW.put1 {S : SS} {E : AE} {σ : Hs} {w : Nat → Int32} (h : LW g σ r0 S 3 Q E) : LW g (hup σ (Q 1) (aI g 4 w)) r0 S 3 Q (E.1, w, E.2.2) := by
  obtain ⟨R, e, h1⟩ := h
  refine ⟨R, e, ?_⟩
  have := h1.hup (j := 1) (E' := (E.1, w, E.2.2)) (by decide) fun k hk hk4 => by
    rcases (show k = 0 ∨ k = 2 by omega) with rfl | rfl <;> rfl
  exact this
theorem ask3 {S : SS} {E : AE} {σ : Hs} {q X Y : Nat} {φ : Int32 → Hs → Prop} (h : LW g σ r0 S 3 Q E) (iv : Inv S) (hz : zn S = 0) (hzq : zq S = q) (hq : q < 4) (hX : X < 2 ^ 31) (hY : Y < 2 ^ 31) (K : ∀ σ' r' d C', LW g σ' r0 (askS S d C') 3 Q (r', E.2) → Inv (askS S d C') → RQ r' q d → d.2.2.2.2 = 1 → RO q E.1 r' → φ 1 σ') : Do g M_L_ask 5 17 [.ref r0, .int (nI X), .int (nI Y), .int (nI q), .ref (Q 0)] σ (kI φ) := by
  obtain ⟨R, e, h1⟩ := h
  subst e
  have h1 : Lw g σ R S 3 Q (E.1, E.2) := h1
  refine DoI.use (wr_lask h1 (by decide) iv hz hzq hq hX hY) ?_
  rintro x σ' ⟨rfl, R', r', d, C', e', l', iv', rq, hd, ro⟩
  exact K σ' r' d C' ⟨R', e', l'⟩ iv' rq hd ro
theorem law_quests (hL : L ≤ 260) {W T N : Nat} (hN : 1 ≤ N ∧ N ≤ 3) : ∀ (e q kM nM : Nat) (σ : Hs) (S : SS) (E : AE), q + e = N → LW g σ r0 S 3 Q E → Inv S → Kp S → zq S = q → (zn S = 0 ∧ zu S = 0 ∧ zc S = 0 ∧ zs S = 0) → zw S = W → zo S = T → RQs S E → (∀ j, q ≤ j → j < 4 → E.2.2.1 j = 0) → kM ≤ 500 + 5 * q → nM ≤ 5000 + 17 * q → J_L_law_263 g b L xs kM nM σ r0 (nI W) (nI T) (nI N) (Q 0) (Q 1) (Q 2) (nI q) := by
  intro e
  induction e with
  | zero =>
    intro q kM nM σ S E hqe h iv hK hzq hz hW hT hR ha hk1 hk2
    have hqe : q = N := hqe
    subst hqe
    subst hzq
    subst hW
    subst hT
    refine q_L_law_263 _ _ _ _ _ _ _ _ _ _ hL ⟨fun _ => ⟨⟨by omega, by omega⟩, NA.of (n := 64) (by decide) rfl fun w hw => ?_⟩, fun z => absurd (nI_le (Nat.le_refl _) (by omega)) z⟩
    obtain ⟨R1, e1, l1⟩ := h
    have l2 := l1.psh (q := w) (E' := (E.1, E.2.1, E.2.2.1, (fun _ => 0), E.2.2.2.2)) hw fun k hk => by
      rcases (show k = 0 ∨ k = 1 ∨ k = 2 by omega) with rfl | rfl | rfl <;> rfl
    exact law_ways (b := b) (xs := xs) (r0 := r0) (Q := fun k => if k = 3 then w else Q k) hL iv hK hN hz.2.1 hz.2.2 (zq S) 0 (kM + 1) (nM + 64) _ (E.1, E.2.1, E.2.2.1, (fun _ => 0), E.2.2.2.2) (by omega) ⟨R1, e1, l2⟩ hR (fun q' j' i' a1 a2 a3 a4 a5 => absurd a5 (by omega)) (by omega) (by omega)
  | succ e ih =>
    intro q kM nM σ S E hqe h iv hK hzq hz hW hT hR ha hk1 hk2
    have hqN : q < N := by omega
    have hq4 : q < 4 := by omega
    have en : ∀ n : Nat, nI n + nI q = nI (n + q) := fun n => nI_add n q
    obtain ⟨X0, hX0, eX0⟩ := cel_n L xs (16 + nI q)
    obtain ⟨X, hX, eX⟩ := cel_n L xs (20 + nI q)
    obtain ⟨Y, hY, eY⟩ := cel_n L xs (24 + nI q)
    have e0 : nI X0 - nI X0 / 100 * 100 = nI (X0 % 100) := pk_rem hX0 (by decide) (by decide)
    have hw : X0 % 100 < 100 := Nat.mod_lt _ (by decide)
    refine q_L_law_263 _ _ _ _ _ _ _ _ _ _ hL ⟨fun z => absurd ((nI_leI (by omega) (by omega)).mp z) (by omega), fun _ => ⟨⟨by omega, by omega⟩, ?_⟩⟩
    rw [eX0, e0, eX, eY]
    generalize X0 % 100 = w at hw
    have h1 := h.put1 (w := upd E.2.1 q (nI w))
    refine ⟨by rw [show (16 : Int32) + nI q = nI (16 + q) from en 16]; exact nI_pos (by omega), SI.of (h.c1 (by decide)) rfl hq4 (by decide) ⟨⟨by omega, by omega⟩, by rw [show (20 : Int32) + nI q = nI (20 + q) from en 20]; exact nI_pos (by omega), ⟨by omega, by omega⟩, by rw [show (24 : Int32) + nI q = nI (24 + q) from en 24]; exact nI_pos (by omega), 5, 17, ⟨by omega, by omega⟩, ?_⟩⟩
    refine ask3 h1 iv hz.1 hzq hq4 hX hY fun σ2 r' d C' h2 iv2 rq hd ro => ⟨fun z => absurd z (by decide), fun _ => AI.of (h2.c1 (by decide)) rfl hq4 (by decide) ?_⟩
    rw [show ((r', (upd E.2.1 q (nI w), E.2.2)) : AE).2.1 q = nI w from pk_us]
    have hdq : zQ (askS S d C') q = d := by
      show Q_set (zQ S) (zq S) d q = d
      unfold Q_set
      rw [if_pos hzq.symm]
    have hzq2 : zq (askS S d C') = q + 1 := by show zq S + 1 = q + 1; rw [hzq]
    have ew := weight_is (S := askS S d C') (w := w) hzq2 hdq (by omega) hw
    have iv3 := iv2.weight (nI q) (nI w)
    refine ⟨⟨by omega, by omega⟩, h2.rc, h2.use (fun R k => do_weight k (nI q) (nI w)) ?_⟩
    rw [ew] at iv3 ⊢
    rw [hd]
    refine fun σ3 h3 => ⟨fun _ => ?_, fun z => absurd rfl z⟩
    generalize hd' : ((d.1, d.2.1, d.2.2.1, d.2.2.2.1, nI w) : QD) = d' at iv3 h3
    have rq' : RQ r' q d' := by rw [← hd']; exact rq
    have hf' : hf d' = w := by rw [← hd']; exact nn_i (by omega)
    generalize hS3 : zQs (askS S d C') (zq (askS S d C')) (Q_set (zQ (askS S d C')) q d') (zu (askS S d C')) = S3 at iv3 h3
    have f1 : zq S3 = q + 1 := by rw [← hS3]; exact hzq2
    have f2 : zn S3 = 0 ∧ zu S3 = 0 ∧ zc S3 = 0 ∧ zs S3 = 0 := by rw [← hS3]; exact ⟨rfl, hz.2⟩
    have f3 : zw S3 = W := by rw [← hS3]; exact hW
    have f4 : zo S3 = T := by rw [← hS3]; exact hT
    have f5 : Kp S3 := by rw [← hS3]; exact hK
    have f6 : zQ S3 q = d' := by
      rw [← hS3]
      show Q_set _ q d' q = d'
      unfold Q_set
      rw [if_pos rfl]
    have f7 : ∀ j, j < q → zQ S3 j = zQ S j := fun j hj => by
      rw [← hS3]
      show Q_set (Q_set (zQ S) (zq S) d) q d' j = zQ S j
      unfold Q_set
      rw [if_neg (by omega), if_neg (by omega)]
    have f8 : ∀ j, j < q → q_ans S3 j = q_ans S j := fun j hj => by
      unfold q_ans
      rw [f7 j hj, ← hS3]
      rfl
    have hR3 : RQ ((r', (upd E.2.1 q (nI w), E.2.2)) : AE).1 q (zQ S3 q) := by rw [f6]; exact rq'
    refine law_answer (S := S3) (E := (r', (upd E.2.1 q (nI w), E.2.2))) hL iv3 (by omega) (by omega) hR3 (by omega) (by omega) ?_ 100 0 σ3 E.2.2.1 rfl h3 (by rw [anN_0]; exact ha q (Nat.le_refl _) hq4) fun j hj => rfl
    intro σ4 wa h4 wa1 wa2
    rw [nI_1]
    refine ih (q + 1) (kM + 5) (nM + 17) σ4 S3 _ (by omega) h4 iv3 f5 f1 f2 f3 f4 (fun j hj => ?_) (fun j hj1 hj2 => ?_) (by omega) (by omega)
    · by_cases c : j = q
      · subst c
        refine ⟨hR3, ?_, wa1⟩
        rw [f6, hf']
        exact pk_us
      · have hjq : j < q := by omega
        obtain ⟨a1, a2, a3⟩ := hR j (by omega)
        rw [f7 j hjq, f8 j hjq]
        refine ⟨a1.other ro hq4 (by omega) c, ?_, ?_⟩
        · show upd E.2.1 q (nI w) j = _
          rw [pk_un c]
          exact a2
        · show wa j = _
          rw [wa2 j c]
          exact a3
    · show wa j = 0
      rw [wa2 j (by omega)]
      exact ha j (by omega) hj2
end LQU
