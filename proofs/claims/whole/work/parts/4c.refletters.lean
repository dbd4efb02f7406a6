/-! The reference: letters laid on the page. -/
theorem sra_toInt (w s : Int64) (n : Nat) (h : (s.toBitVec.smod 64).toNat = n) : (w >>> s).toInt = w.toInt / ((2 ^ n : Nat) : Int) := by
  show (w >>> s).toBitVec.toInt = _
  rw [Int64.toBitVec_shiftRight]
  show (w.toBitVec.sshiftRight (s.toBitVec.smod 64).toNat).toInt = _
  rw [h, BitVec.toInt_sshiftRight, Int.shiftRight_eq_div_pow]
  rfl
theorem sra_byte (w : Int64) {k : Nat} (hk : k < 8) : uN (w >>> ((8 * nI k).toInt64 &&& 63)) % 256 = bt8 w k := by
  have h0 := uN_int w
  have hu := uN_lt w
  have hx := uN_lt (w >>> ((8 * nI k).toInt64 &&& 63))
  have h1 := uN_int (w >>> ((8 * nI k).toInt64 &&& 63))
  have hs : (((8 * nI k).toInt64 &&& 63).toBitVec.smod 64).toNat = 8 * k := by
    have : ∀ k, k < 8 → (((8 * nI k).toInt64 &&& 63).toBitVec.smod 64).toNat = 8 * k := by decide
    exact this k hk
  rw [sra_toInt w _ _ hs] at h1
  unfold bt8
  rcases (show k = 0 ∨ k = 1 ∨ k = 2 ∨ k = 3 ∨ k = 4 ∨ k = 5 ∨ k = 6 ∨ k = 7 by omega) with rfl | rfl | rfl | rfl | rfl | rfl | rfl | rfl
  all_goals
    simp only [Nat.reduceMul, Nat.reducePow] at h1 ⊢
    split at h0 <;> split at h1 <;> omega
theorem sra_low (w : Int64) {k : Nat} (hk : k < 8) : ((w >>> ((8 * nI k).toInt64 &&& 63)) &&& 255).toInt32 = nI (bt8 w k) := by
  have hb := bt8_lt w k
  have e : uN ((w >>> ((8 * nI k).toInt64 &&& 63)) &&& 255) = bt8 w k := by
    rw [uN_and, ← sra_byte w hk]
    exact Nat.and_two_pow_sub_one_eq_mod _ 8
  rw [i64_i _ (by omega), e]
theorem sra_store (w : Int64) {k : Nat} (hk : k < 8) (hb : bt8 w k ≤ 126) : vp_nar .byte (w >>> ((8 * nI k).toInt64 &&& 63)).toInt32.toInt8.toInt32 = nI (bt8 w k) := by
  have h := sra_byte w hk
  have h1 := uN_int (w >>> ((8 * nI k).toInt64 &&& 63))
  generalize w >>> ((8 * nI k).toInt64 &&& 63) = x at *
  have hx := uN_lt x
  have e : x.toInt32.toInt8.toInt = (bt8 w k : Int) := by
    rw [Int32.toInt_toInt8, Int64.toInt_toInt32]
    have hm : x.toInt % 256 = (bt8 w k : Int) := by split at h1 <;> omega
    generalize x.toInt = y at *
    unfold Int.bmod
    simp only [Nat.reducePow]
    split <;> split <;> omega
  have e2 : x.toInt32.toInt8.toInt32 = nI (bt8 w k) := by
    rw [I_eq, Int8.toInt_toInt32, e, I_n (by omega)]
  rw [e2]
  have : ∀ b, b < 127 → vp_nar .byte (nI b) = nI b := by decide
  exact this _ (by omega)
section RLT
variable {g : GG} {σ : Hs} {R : Nat → Nat} {S : SS} {X : Nat → Int32} {A : Nat → Nat → Int32} {hh : Int64}
theorem rw_letters (h : RQ g σ R S X A hh) (v : Iv S) (w : Int64) : Do g M_X12_letters 0 0 [.ref (R 300), .long w] σ (RP g σ R (s_letters S w)) := by
  have h60 := v.1.2.2.2.1.1
  -- laying
  have lay : ∀ (c : Nat), ltL (bt8 w) 8 = some c → zn S + c ≤ 60 → ∀ (d k : Nat) (σ1 : Hs) (A1 : Nat → Int32), k + d = c → RC g σ1 R X (setA A 13 A1) hh → Sm R T3 σ σ1 → (∀ j, j < zn S + k → A1 j = nI (wrC (zC S) (zn S) (bt8 w) k j)) → J_X12_letters_102 g (RP g σ R (nI (zn S + c), zPg S (zn S + c) (wrC (zC S) (zn S) (bt8 w) c))) σ1 (R 300) w (nI c) (nI k) := by
    intro c hc hcs
    obtain ⟨a1, a2, -⟩ := ltL_ok 8 c hc
    intro d
    induction d with
    | zero =>
      intro k σ1 A1 hk h1 s1 hA
      have hk : k = c := hk
      subst hk
      have e : X 12 + nI k = nI (zn S + k) := by rw [h.pag.1, nI_add]
      refine q_X12_letters_102 _ _ _ _ ⟨fun _ => h1.x 12 (fun _ _ _ => rfl) (h1.px 12 _ (by omega) (fun _ _ _ => rfl) fun σ2 h2 s2 => h2.x 12 (fun _ _ _ => rfl) ?_), fun c => absurd (nI_le (by omega) (by omega)) c⟩
      refine ⟨_, rfl, (upd_same _ _ _).trans e, ⟨upd X 12 (X 12 + nI k), _, hh, h2, ⟨h.tab, h.ord, ⟨(upd_same _ _ _).trans e, ?_⟩, h.que, h.num, h.pic, h.mar⟩⟩, s1.trans s2⟩
      exact hA
    | succ d ih =>
      intro k σ1 A1 hk h1 s1 hA
      refine q_X12_letters_102 _ _ _ _ ⟨fun c => absurd ((nI_leI (by omega) (by omega)).mp c) (by omega), fun _ => h1.r 13 (fun _ _ _ => rfl) (h1.x 12 (fun _ _ _ => rfl) ?_)⟩
      rw [h.pag.1, nI_add]
      refine h1.s 13 rfl rfl rfl (show zn S + k < 60 by omega) fun σ2 h2 s2 => ?_
      rw [sra_store w (by omega) (a2 k (by omega)).2] at h2
      have e13 : setA (setA A 13 A1) 13 (upd (setA A 13 A1 13) (zn S + k) (nI (bt8 w k))) = setA A 13 (upd A1 (zn S + k) (nI (bt8 w k))) := by
        funext j
        by_cases c : j = 13
        · subst c; rfl
        · rw [setA_ne _ _ c, setA_ne _ _ c, setA_ne _ _ c]
      rw [e13] at h2
      rw [nI_1]
      refine ih (k + 1) σ2 _ (by omega) h2 (s1.trans s2) fun j hj => ?_
      show upd A1 (zn S + k) (nI (bt8 w k)) j = nI (setN (wrC (zC S) (zn S) (bt8 w) k) (zn S + k) (bt8 w k) j)
      by_cases z : j = zn S + k
      · rw [z, upd_same, setN_at]
      · rw [upd_ne _ _ z, setN_ne _ _ z]
        exact hA j (by omega)
  have loop : ∀ (d i n : Nat), i + d = 8 → ltL (bt8 w) i = some n → J_X12_letters_8 g (RP g σ R (s_letters S w)) σ (R 300) w (nI n) (b2 (decide (n < i))) (nI i) := by
    intro d
    induction d with
    | zero =>
      intro i n hi hn
      have hi : i = 8 := hi
      subst hi
      have hle := (ltL_ok 8 n hn).1
      have e : s_letters S w = if zn S + n ≤ 60 then (nI (zn S + n), zPg S (zn S + n) (wrC (zC S) (zn S) (bt8 w) n)) else (-104, S) := by unfold s_letters; rw [hn]; rfl
      rw [e]
      refine q_X12_letters_8 _ _ _ _ _ ⟨fun _ => h.1.x 12 (fun _ _ _ => rfl) ?_, fun c => absurd (nI_le (a := 8) (by omega) (by omega)) c⟩
      rw [h.pag.1, nI_add]
      refine ⟨fun c => ?_, fun c => ?_⟩
      · have c := (nI_leI (b := 60) (by omega) (by decide)).mp c
        rw [if_pos c]
        have e13 : setA A 13 (A 13) = A := by
          funext j
          by_cases c : j = 13
          · subst c; rfl
          · exact setA_ne _ _ c
        exact lay n hn c n 0 σ (A 13) (by omega) (by rw [e13]; exact h.1) Sm.refl (fun j hj => h.pag.2 j hj)
      · rw [if_neg (fun z => c (nI_le (b := 60) z (by decide)))]
        exact RP.no h
    | succ d ih =>
      intro i n hi hn
      have hle := (ltL_ok i n hn).1
      have hb := bt8_lt w i
      have hs := ltL_s (bt8 w) i
      rw [hn] at hs
      have hs : ltL (bt8 w) (i + 1) = (if bt8 w i = 0 then some n else if 126 < bt8 w i ∨ n < i then none else some (n + 1)) := hs
      have none : ltL (bt8 w) (i + 1) = none → s_letters S w = (-102, S) := by
        intro z
        have := ltL_none z d
        rw [show i + 1 + d = 8 by omega] at this
        unfold s_letters
        rw [this]
        rfl
      have j64 : ∀ t : Bool, ¬ 126 < bt8 w i → (n < i → bt8 w i = 0) → t = (decide (n < i) || decide (bt8 w i = 0)) → J_X12_letters_64 g (RP g σ R (s_letters S w)) σ (R 300) w (nI n) (nI i) (nI (bt8 w i)) (b2 t) := by
        intro t h126 hend ht
        refine q_X12_letters_64 _ _ _ _ _ _ ⟨fun c => ?_, fun c => ?_⟩
        · have c : bt8 w i ≠ 0 := fun z => c (by rw [z]; rfl)
          have hni : ¬ n < i := fun z => c (hend z)
          rw [if_neg c, if_neg (by omega)] at hs
          have := ih (i + 1) (n + 1) (by omega) hs
          rw [nI_1, nI_1, ht, decide_eq_false hni, decide_eq_false c]
          rw [decide_eq_false (by omega)] at this
          exact this
        · have c := (nI_eq (b := 0) (by omega) (by decide)).mp c
          rw [if_pos c] at hs
          have := ih (i + 1) n (by omega) hs
          rw [nI_p0, nI_1, ht, decide_eq_true c, Bool.or_true]
          rw [decide_eq_true (by omega)] at this
          exact this
      refine q_X12_letters_8 _ _ _ _ _ ⟨fun c => absurd ((nI_leI (a := 8) (by decide) (by omega)).mp c) (by omega), fun _ => ?_⟩
      rw [sra_low w (show i < 8 by omega)]
      refine ⟨fun c => ?_, fun c => ⟨fun c2 => ⟨fun c3 => absurd c2 c3, fun _ => ⟨fun c4 => ?_, fun c4 => ?_⟩⟩, fun c2 => ⟨fun c3 => ⟨fun _ => ?_, fun c4 => absurd c4 c2⟩, fun c3 => ?_⟩⟩⟩
      · have c := (nI_ltI (a := 126) (by decide) (by omega)).mp c
        rw [none (by rw [hs, if_neg (by omega), if_pos (Or.inl c)])]
        exact RP.no h
      · have c : ¬ 126 < bt8 w i := fun z => c (nI_lt (a := 126) z (by omega))
        have c2 := of_decide_eq_false (b2_0.mp c2)
        have c4 : bt8 w i ≠ 0 := fun z => c4 (by rw [z]; rfl)
        exact j64 false c (fun z => absurd z c2) (by rw [decide_eq_false c2, decide_eq_false c4]; rfl)
      · have c : ¬ 126 < bt8 w i := fun z => c (nI_lt (a := 126) z (by omega))
        have c2 := of_decide_eq_false (b2_0.mp c2)
        have c4 := (nI_eq (b := 0) (by omega) (by decide)).mp c4
        exact j64 true c (fun z => absurd z c2) (by rw [decide_eq_true c4, Bool.or_true])
      · have c : ¬ 126 < bt8 w i := fun z => c (nI_lt (a := 126) z (by omega))
        have c2 := of_decide_eq_true (b2_n0.mp c2)
        have c3 := (nI_eq (b := 0) (by omega) (by decide)).mp c3
        exact j64 true c (fun _ => c3) (by rw [decide_eq_true c2]; rfl)
      · have c2 := of_decide_eq_true (b2_n0.mp c2)
        have c3 : bt8 w i ≠ 0 := fun z => c3 (by rw [z]; rfl)
        rw [none (by rw [hs, if_neg c3, if_pos (Or.inr c2)])]
        exact RP.no h
  exact q_X12_letters _ _ (loop 8 0 0 rfl rfl)
end RLT
