/-! The class's calls that change orders; weights and upkeep. -/
def s_order (S : SS) (x : Int32) : Int32 × SS := if isKy x then if hasK (zB S) x.toInt.toNat (zo S) then (-103, S) else if zo S < 8 then (nI (zo S), (S.1, (zo S + 1, fun o => if o = zo S then (x.toInt.toNat, rebS (zf S) x.toInt.toNat (zt S) w0, false) else zB S o), S.2.2)) else (-104, S) else (-102, S)
def B_set (B : Nat → OD) (o : Nat) (w : OS) (dr : Bool) : Nat → OD := fun j => if j = o then ((B o).1, w, dr) else B j
def s_lose (S : SS) (x : Int32) : Int32 × SS := if isO (zo S) (zB S) x then (nI (szO (zB S x.toInt.toNat).2.1.2.2.1), (S.1, (zo S, B_set (zB S) x.toInt.toNat (zB S x.toInt.toNat).2.1 true), S.2.2)) else (-101, S)
def s_pack (S : SS) (x : Int32) : Int32 × SS := if isO (zo S) (zB S) x then (nI (szO (zB S x.toInt.toNat).2.1.2.2.1) - nI (szO (lvs (rmk (zB S x.toInt.toNat).1) (zB S x.toInt.toNat).2.1.1)), (S.1, (zo S, B_set (zB S) x.toInt.toNat (packS (zB S x.toInt.toNat).1 (zB S x.toInt.toNat).2.1) false), S.2.2)) else (-101, S)
def zQs (S : SS) (qn : Nat) (Q : Nat → QD) (upk : Nat) : SS := (S.1, S.2.1, (qn, Q, upk), S.2.2.2)
def Q_set (Q : Nat → QD) (i : Nat) (d : QD) : Nat → QD := fun j => if j = i then d else Q j
def s_weight (S : SS) (x v : Int32) : Int32 × SS := if inR x (zq S) then if inR v 100 then ((zQ S x.toInt.toNat).2.2.2.2, zQs S (zq S) (Q_set (zQ S) x.toInt.toNat ((zQ S x.toInt.toNat).1, (zQ S x.toInt.toNat).2.1, (zQ S x.toInt.toNat).2.2.1, (zQ S x.toInt.toNat).2.2.2.1, v)) (zu S)) else (-102, S) else (-101, S)
def s_upkeep (S : SS) (v : Int32) : Int32 × SS := if inR v 100 then (nI (zu S), zQs S (zq S) (zQ S) v.toInt.toNat) else (-102, S)
theorem Inv.order {S : SS} (h : Inv S) (x : Int32) : Inv (s_order S x).2 := by
  unfold s_order
  by_cases c : isKy x = true
  · rw [if_pos c]
    by_cases c2 : hasK (zB S) x.toInt.toNat (zo S) = true
    · rw [if_pos c2]; exact h
    · rw [if_neg c2]
      by_cases c3 : zo S < 8
      · rw [if_pos c3]
        have hk : kok x.toInt.toNat := by
          unfold isKy at c
          rw [Bool.and_eq_true] at c
          exact keyB_ok.mp c.2
        refine ⟨⟨fun o ho => ?_, h.1.2.1, by show zo S + 1 ≤ 8; omega⟩, h.2⟩
        have ho : o < zo S + 1 := ho
        by_cases e : o = zo S
        · have hr := rebS_in (zf S) x.toInt.toNat (zt S) w0
          show kok (if o = zo S then _ else zB S o : OD).1 ∧ OSok (if o = zo S then _ else zB S o : OD).2.1 ∧ ((if o = zo S then _ else zB S o : OD).2.2 = false → OIn (zf S) (zt S) (if o = zo S then _ else zB S o : OD).1 (if o = zo S then _ else zB S o : OD).2.1)
          rw [if_pos e]
          exact ⟨hk, hr.1, fun _ => hr⟩
        · show kok (if o = zo S then _ else zB S o : OD).1 ∧ OSok (if o = zo S then _ else zB S o : OD).2.1 ∧ ((if o = zo S then _ else zB S o : OD).2.2 = false → OIn (zf S) (zt S) (if o = zo S then _ else zB S o : OD).1 (if o = zo S then _ else zB S o : OD).2.1)
          rw [if_neg e]
          exact h.1.1 o (by omega)
      · rw [if_neg c3]; exact h
  · rw [if_neg c]; exact h
theorem B_set_at (B : Nat → OD) (o : Nat) (w : OS) (dr : Bool) : B_set B o w dr o = ((B o).1, w, dr) := if_pos rfl
theorem B_set_ne (B : Nat → OD) {o j : Nat} (w : OS) (dr : Bool) (h : j ≠ o) : B_set B o w dr j = B j := if_neg h
theorem BIn.st {f : Nat → Int32} {tk : Nat → Bool} {told o : Nat} {B : Nat → OD} {w : OS} {dr : Bool} (h : BIn f tk told B) (h1 : OSok w) (h2 : dr = false → OIn f tk (B o).1 w) : BIn f tk told (B_set B o w dr) := by
  intro j hj
  by_cases e : j = o
  · subst e
    rw [B_set_at]
    exact ⟨(h j hj).1, h1, h2⟩
  · rw [B_set_ne _ _ _ e]
    exact h j hj
theorem isO_of {S : SS} {x : Int32} (h8 : zo S ≤ 8) (c : isO (zo S) (zB S) x = true) : ∃ o, o < zo S ∧ o < 8 ∧ (zB S o).2.2 = false ∧ x = nI o := by
  have c1 : inR x (zo S) = true := by unfold isO at c; rw [Bool.and_eq_true] at c; exact c.1
  obtain ⟨o, ho, rfl⟩ := inR_of c1 (by omega)
  rw [isO_n (by omega), decide_eq_true ho, Bool.true_and] at c
  exact ⟨o, ho, by omega, by simpa using c, rfl⟩
theorem Inv.lose {S : SS} (h : Inv S) (x : Int32) : Inv (s_lose S x).2 := by
  unfold s_lose
  by_cases c : isO (zo S) (zB S) x = true
  · rw [if_pos c]
    obtain ⟨o, ho, h8, hd, rfl⟩ := isO_of h.1.2.2 c
    rw [nn_i (by omega)]
    exact ⟨⟨h.1.1.st (h.1.1 o ho).2.1 (fun z => by cases z), h.1.2⟩, h.2⟩
  · rw [if_neg c]; exact h
theorem Inv.pack {S : SS} (h : Inv S) (x : Int32) : Inv (s_pack S x).2 := by
  unfold s_pack
  by_cases c : isO (zo S) (zB S) x = true
  · rw [if_pos c]
    obtain ⟨o, ho, h8, hd, rfl⟩ := isO_of h.1.2.2 c
    rw [nn_i (by omega)]
    have hp := packS_in ((h.1.1 o ho).2.2 hd).2
    exact ⟨⟨h.1.1.st hp.1 (fun _ => hp), h.1.2⟩, h.2⟩
  · rw [if_neg c]; exact h
theorem Inv.weight {S : SS} (h : Inv S) (x v : Int32) : Inv (s_weight S x v).2 := by
  unfold s_weight
  by_cases c : inR x (zq S) = true
  · rw [if_pos c]
    by_cases c2 : inR v 100 = true
    · rw [if_pos c2]
      refine ⟨h.1, ⟨fun i hi => ?_, h.2.1.2⟩, h.2.2⟩
      show QSm (Q_set (zQ S) x.toInt.toNat _ i)
      unfold Q_set
      by_cases e : i = x.toInt.toNat
      · rw [if_pos e]
        have := h.2.1.1 i hi
        rw [e] at this
        exact this
      · rw [if_neg e]; exact h.2.1.1 i hi
    · rw [if_neg c2]; exact h
  · rw [if_neg c]; exact h
theorem Inv.upkeep {S : SS} (h : Inv S) (v : Int32) : Inv (s_upkeep S v).2 := by
  unfold s_upkeep
  by_cases c : inR v 100 = true
  · rw [if_pos c]; exact h
  · rw [if_neg c]; exact h
section ORW
variable {g : GG} {σ σ' : Hs} {R : Nat → Nat} {S : SS}
theorem do_order (h : KO g σ R S) (iv : Inv S) (x : Int32) : Do g M_X11_order 7 146 [.ref (R 0), .int x] σ (KP g σ R S (s_order S x)) := by
  have hB : ∀ o, o < zo S → (zB S o).1 < 125 := fun o ho => by have := (iv.1.1 o ho).1.2.1; omega
  unfold s_order
  refine q_X11_order 7 146 _ _ ⟨by omega, (rd_isKey x).use ⟨fun c => ?_, fun c => ⟨by omega, ?_⟩⟩⟩
  · have c := b2_n0.mp c
    rw [if_t c]
    have c0 := c
    unfold isKy at c0
    rw [Bool.and_eq_true] at c0
    obtain ⟨k, hk, rfl⟩ := inR_of c0.1 (by decide)
    have hok := c0.2
    rw [nn_i (by omega)] at hok ⊢
    have hok := keyB_ok.mp hok
    refine h.g1 ⟨by omega, Rc.of h.ords.1, (rd_haveKey h.ords hk hB).use ⟨fun c2 => h.g1 ⟨by omega, Rc.of h.ords.1, (rd_stold h.ords).use ⟨fun c3 => h.g1 ⟨7, 146, by omega, Rc.of h.ords.1, ?_⟩, fun c3 => ⟨by omega, ?_⟩⟩⟩, fun c2 => ⟨by omega, ?_⟩⟩⟩
    · have h8 := h.ords.2.2.1
      have c3 := (nI_ltI (b := 8) (by omega) (by decide)).mp c3
      rw [if_f (b2_0.mp c2), if_pos c3]
      have al := h.2.2.2.2.2
      refine DoI.use (wr_tell h.ords h.tab h.ij al c3 hok) ?_
      rintro v σ2 ⟨rfl, a, fr, al2, I2, s2, o2⟩
      refine ⟨by omega, _, rfl, rfl, Rnew R (zo S) a, ?_, Rnew_old (by omega), s2.mono fun i hi => ?_, fun b hb hn i hi z => ?_⟩
      · have sf : Sf R (Lv (zo S) (zq S)) (fun i => i = 4 ∨ i = 5) σ σ2 := ⟨s2, h.ij, fun i hi => lvs33 (by omega)⟩
        have rn : ∀ i, i < 100 + 8 * zo S ∨ 108 + 8 * zo S ≤ i → Rnew R (zo S) a i = R i := fun i hi => Rnew_old hi
        have nL : ∀ i, i < 33 → i ≠ 4 → i ≠ 5 → Lv (zo S) (zq S) i ∧ ¬ (i = 4 ∨ i = 5) := fun i a1 a2 a3 => ⟨lvs33 a1, by omega⟩
        obtain ⟨h0, ⟨u, F, G, T, s, ⟨k1, -, k3, k4⟩, -, hk2⟩, ⟨F2, hp⟩, hs, hm, -⟩ := h
        refine ⟨?_, ⟨u, F, G, T, s, ⟨?_, o2, (k3.sf sf fun i a1 a2 => nL i (by omega) (by omega) (by omega)).re fun i hi => rn i (by omega), (k4.sf sf fun i hi => ?_).re fun i hi => rn i (by omega)⟩, I2, hk2⟩, ⟨F2, (hp.sf sf fun i hi z => by omega).re fun i hi => rn i (by omega)⟩, (hs.sf sf fun i hi z => by omega).re fun i hi => rn i (by omega), (hm.sf sf fun i hi z => by omega).re fun i hi => rn i (by omega), al2⟩
        · have z0 := h0.sf sf (nL 0 (by omega) (by omega) (by omega))
          unfold koc at *
          rw [rn 0 (by omega), rn 1 (by omega), rn 4 (by omega), rn 6 (by omega), rn 16 (by omega), rn 27 (by omega), rn 24 (by omega), rn 31 (by omega)]
          exact z0
        · rw [rn 1 (by omega), rn 2 (by omega), rn 3 (by omega)]
          exact k1.sf sf (nL 1 (by omega) (by omega) (by omega)) (nL 2 (by omega) (by omega) (by omega)) (nL 3 (by omega) (by omega) (by omega))
        · rcases hi with a1 | a1
          · exact nL i (by omega) (by omega) (by omega)
          · have a2 : i < 200 + 5 * zq S := a1.2
            exact ⟨by unfold Lv; omega, by omega⟩
      · exact ⟨lvs33 (by omega), by omega⟩
      · have hi1 : Lv (zo S + 1) (zq S) i ∧ i < 300 := hi
        by_cases c : 100 + 8 * zo S ≤ i ∧ i < 108 + 8 * zo S
        · have e : i = 100 + 8 * zo S + (i - (100 + 8 * zo S)) := by omega
          rw [e, Rnew_new (by omega)] at z
          refine fr _ (by omega) ?_ (z ▸ hb)
          have h1 := hi1.1
          unfold Lv at h1
          omega
        · rw [Rnew_old (by omega)] at z
          refine hn i ⟨?_, hi1.2⟩ z
          have h1 := hi1.1
          unfold Lv at h1 ⊢
          omega
    · have h8 := h.ords.2.2.1
      rw [if_f (b2_0.mp c2), if_neg (fun z => c3 (nI_lt z (by decide)))]
      exact KP.no h
    · rw [if_t (b2_n0.mp c2)]
      exact KP.no h
  · rw [if_f (b2_0.mp c)]
    exact KP.no h
theorem do_weight (h : KO g σ R S) (x v : Int32) : Do g M_X11_weight 0 0 [.ref (R 0), .int x, .int v] σ (KP g σ R S (s_weight S x v)) := by
  have hq8 := h.q8
  unfold s_weight
  refine q_X11_weight _ _ _ (h.g3 ⟨h.wk, h.qs x (fun c => ?_) fun i hi e => ?_⟩)
  · rw [if_f c]; exact KP.no h
  · subst e
    rw [if_t (inR_y hi (by omega)), nn_i (by omega)]
    refine (rd_isNumber v).use ⟨fun c => ?_, fun c => ?_⟩
    · have c := b2_n0.mp c
      rw [if_t c]
      have hq := h.que hi
      refine ⟨Rc.of hq.1, (rd_qheft hq).use ⟨Rc.of hq.1, (wr_qweigh hq v).use ?_⟩⟩
      have s1 : Sm R (fun j => 200 + 5 * i ≤ j ∧ j < 205 + 5 * i) σ (qup g σ (qad R i) ((zQ S i).1, (zQ S i).2.1, (zQ S i).2.2.1, (zQ S i).2.2.2.1, v)) := Sm.ofq fun k hk => ⟨200 + 5 * i + k, by omega, rfl⟩
      have k1 := hq.keep ((zQ S i).1, (zQ S i).2.1, (zQ S i).2.2.1, (zQ S i).2.2.2.1, v)
      generalize qup g σ (qad R i) ((zQ S i).1, (zQ S i).2.1, (zQ S i).2.2.1, (zQ S i).2.2.2.1, v) = σ1 at *
      have sf : Sf R (Lv (zo S) (zq S)) (fun j => 200 + 5 * i ≤ j ∧ j < 205 + 5 * i) σ σ1 := ⟨s1, h.ij, fun j hj => by unfold Lv; omega⟩
      have nL : ∀ j, j < 33 → Lv (zo S) (zq S) j ∧ ¬ (200 + 5 * i ≤ j ∧ j < 205 + 5 * i) := fun j a1 => ⟨lvs33 a1, by omega⟩
      have h8 := h.ords.2.2.1
      obtain ⟨h0, ⟨u, F, G, T, s, ⟨m1, m2, m3, ⟨w1, w2, w3, w4, w5, w6, w7⟩⟩, I, hw, hqk, hup⟩, ⟨F2, hp⟩, hs, hm, al⟩ := h
      refine KP.go (p := (_, _)) ⟨h0.sf sf (nL 0 (by omega)), ⟨u, F, G, T, s, ⟨m1.sf sf (nL 1 (by omega)) (nL 2 (by omega)) (nL 3 (by omega)), m2.sf sf fun j hj => ⟨by unfold Lv; omega, by omega⟩, m3.sf sf fun j a1 a2 => nL j (by omega), ⟨w1.sf sf (nL 16 (by omega)), w2.sf sf (nL 17 (by omega)), fun j hj => ?_, w4.sf sf (nL 18 (by omega)) (nL 19 (by omega)), w5.sf sf (nL 20 (by omega)) (nL 21 (by omega)), w6.sf sf (nL 22 (by omega)) (nL 23 (by omega)), w7⟩⟩, I, hw, fun j hj => ?_, hup⟩, ⟨F2, hp.sf sf fun j hj z => by omega⟩, hs.sf sf fun j hj z => by omega, hm.sf sf fun j hj z => by omega, fun j hj => s1.1 _ (al j hj)⟩ (s1.mono fun j hj => ⟨sf.2.2 j hj, by omega⟩) rfl
      · have hj : j < zq S := hj
        show QAt g σ1 (qad R j) (Q_set (zQ S) i _ j)
        unfold Q_set
        by_cases e : j = i
        · subst e
          rw [if_pos rfl]
          exact k1
        · rw [if_neg e]
          exact (w3 j hj).sm sf.1 fun k hk => sf.off ⟨by unfold Lv; omega, by omega⟩
      · have hj : j < zq S := hj
        show QOk (Q_set (zQ S) i _ j)
        unfold Q_set
        by_cases e : j = i
        · rw [if_pos e]
          obtain ⟨n, hn, rfl⟩ := inR_of c (by decide)
          refine ⟨(hqk i hi).1, ?_, ?_⟩
          · show nI n = nI (nI n).toInt.toNat
            rw [nn_i (by omega)]
          · show (nI n).toInt.toNat < 100
            rw [nn_i (by omega)]
            exact hn
        · rw [if_neg e]
          exact hqk j hj
    · rw [if_f (b2_0.mp c)]; exact KP.no h
theorem do_upkeep (h : KO g σ R S) (v : Int32) : Do g M_X11_upkeep 0 0 [.ref (R 0), .int v] σ (KP g σ R S (s_upkeep S v)) := by
  unfold s_upkeep
  refine q_X11_upkeep _ _ ((rd_isNumber v).use ⟨fun c => h.g3 ⟨h.wk, ?_⟩, fun c => ?_⟩)
  · have c := b2_n0.mp c
    rw [if_t c]
    obtain ⟨n, hn, rfl⟩ := inR_of c (by decide)
    rw [nn_i (by omega)]
    obtain ⟨h0, ⟨u, F, G, T, s, hk⟩, ⟨F2, hp⟩, hs, hm, al⟩ := id h
    refine (rd_wkupkeep hk).use (h.g3 ⟨h.wk, (wr_wksetUpkeep hk n).use ?_⟩)
    have k2 := hk.obj s n hn
    have sf := sf1 (σ := σ) h.ij (show 16 < 33 by omega) (wkc R (zq S) s n)
    exact KP.go (p := (_, _)) ⟨h0.sf sf (l33 (by omega) (by omega)), ⟨u, F, G, T, s, k2⟩, ⟨F2, hp.sf sf fun j hj z => by unfold Tr at hj; omega⟩, hs.sf sf fun j hj z => by unfold Tr at hj; omega, hm.sf sf fun j hj z => by unfold Tr at hj; omega, fun j hj => sf.1.1 _ (al j hj)⟩ (sf.1.mono fun j hj => ⟨sf.2.2 j hj, by unfold Tr at hj; omega⟩) rfl
  · rw [if_f (b2_0.mp c)]; exact KP.no h
end ORW
