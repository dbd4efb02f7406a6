/-! The law's body: all steps. -/
theorem nxS_fit (wr sz : Nat → Nat) (kp : Nat → Bool) (sp m : Nat) : ∀ o, (nxS wr sz kp sp m o).1 < 8 → sz (m ||| 2 ^ (nxS wr sz kp sp m o).1) ≤ sp
  | 0, h => absurd h (by show ¬ 8 < 8; omega)
  | o + 1, h => by
    have ih := nxS_fit wr sz kp sp m o
    simp only [nxS] at h ⊢
    split
    · rename_i c
      exact c.1.2.2
    · rename_i c
      rw [if_neg c] at h
      exact ih h
section LSS
variable {g : GG} {b L : Nat} {xs : Nat → Int32} {r0 : Nat} {Sb : SS} {Q : Nat → Nat} {E : AE} {kM nM sp : Nat}
theorem law_steps (hL : L ≤ 260) : ∀ (e c m : Nat) (σ : Hs) (P : List Nat), c + e = 4 → LW g σ r0 (zch Sb (zc Sb) c) 5 Q E → Inv (zch Sb (zc Sb) c) → SI5 g σ r0 Sb Q E kM nM sp → m < 2 ^ zo Sb → fa_cnt m.testBit 8 = c → stpE (s_nx Sb sp) (8 - c) m = s_ste Sb sp → s_stl Sb sp = P ++ stpL (s_nx Sb sp) (8 - c) m → P.length = c → s_szs Sb m ≤ sp → J_L_law_1221 g b L xs kM nM σ r0 (nI (zo Sb)) (nI (zq Sb)) (nI sp) (nI (s_wrk Sb (s_bst Sb sp))) (Q 4) (nI m) (nI c) 1 := by
  intro e
  induction e with
  | zero =>
    intro c m σ P he h iv hs hm hcnt
    have := pop3 m (by have := pow_t hs.1.1; omega)
    omega
  | succ e ih =>
    intro c m σ P he h iv hs hm hcnt hE hP hlen hfit
    obtain ⟨hK, hq, hsp, hwk, hw30, hz30, hk1, hk2⟩ := id hs
    have h3 := hK.1
    have hp8 := pow_t h3
    have hm8 : m < 8 := by omega
    have hc3 : c ≤ 3 := by omega
    have hspR : inR (nI sp) 10000 = true := inR_y (by omega) (by decide)
    refine q_L_law_1221 _ _ _ _ _ _ _ _ _ _ _ hL ⟨fun z => absurd z (by decide), fun _ => AI.of (h.c4 (by decide)) rfl hm8 (by decide) ?_⟩
    rw [hwk m hm]
    refine law_next hL h iv hs hm fun x now hx => ?_
    have ex : s_nx Sb sp m = x := by
      show (nxS (s_wrk Sb) (s_szs Sb) (keptB (zo Sb) (zB Sb)) sp m 8).1 = x
      rw [← hx]
    have en : (nxS (s_wrk Sb) (s_szs Sb) (keptB (zo Sb) (zB Sb)) sp m 8).2 = now := by rw [← hx]
    by_cases c8 : x < 8
    · obtain ⟨n1, n2, n3⟩ := nxS_is (s_wrk Sb) (s_szs Sb) (keptB (zo Sb) (zB Sb)) sp m 8 (by rw [← hx]; exact c8)
      have n4 := nxS_fit (s_wrk Sb) (s_szs Sb) (keptB (zo Sb) (zB Sb)) sp m 8 (by rw [← hx]; exact c8)
      rw [← hx] at n1 n2 n3 n4
      have n1 : m.testBit x = false := n1
      have n2 : keptB (zo Sb) (zB Sb) x = true := n2
      have n3 : now = s_wrk Sb (m ||| 2 ^ x) := n3
      have n4 : s_szs Sb (m ||| 2 ^ x) ≤ sp := n4
      rw [hK.kept] at n2
      have hxt := of_decide_eq_true n2
      obtain ⟨p1, p2, p3⟩ := pop_or m hm8 x (by omega) n1
      have hmx := or_lt_t hm hxt
      have st1 : stpL (s_nx Sb sp) (8 - c) m = x :: stpL (s_nx Sb sp) (8 - (c + 1)) (m ||| 2 ^ x) := by
        rw [show 8 - c = (8 - (c + 1)) + 1 by omega, stpL_s, ex, if_pos c8]
      have st2 : stpE (s_nx Sb sp) (8 - c) m = stpE (s_nx Sb sp) (8 - (c + 1)) (m ||| 2 ^ x) := by
        rw [show 8 - c = (8 - (c + 1)) + 1 by omega, stpE_s, ex, if_pos c8]
      rw [st1] at hP
      rw [st2] at hE
      have hget : (s_stl Sb sp).getD c 0 = x := by
        rw [hP]
        simp [List.getD, List.getElem?_append_right, hlen]
      have hlt : c < (s_stl Sb sp).length := by
        rw [hP, List.length_append, hlen, List.length_cons]
        omega
      have w3 : v_stp Sb sp (10 + nI c) = nI x := by
        rw [show (10 : Int32) + nI c = nI (10 + c) from nI_add 10 c]
        unfold v_stp
        rw [I_n (by omega), if_pos (by omega), show ((10 + c : Nat) : Int).toNat - 10 = c by omega, if_pos hlt, hget]
      rw [if_pos c8, show nxv x = nI x from if_pos c8]
      have hR : (inR (10 + nI c) 3 || (decide (10 ≤ (10 + nI c : Int32).toInt) && decide ((10 + nI c : Int32).toInt < 18))) = true := by
        rw [show (10 : Int32) + nI c = nI (10 + c) from nI_add 10 c, I_n (by omega), decide_eq_true (show (10 : Int) ≤ ((10 + c : Nat) : Int) by omega), decide_eq_true (show ((10 + c : Nat) : Int) < 18 by omega), Bool.or_eq_true]
        exact Or.inr rfl
      have stp : s_steps (zch Sb (zc Sb) c) (nI sp) (10 + nI c) = (v_stp Sb sp (10 + nI c), zch Sb (zc Sb) (c + 1)) := by
        unfold s_steps
        rw [if_t hspR, if_t hR, if_pos (show zs (zch Sb (zc Sb) c) < 20 from by show c < 20; omega), nn_i (by omega)]
        rfl
      have iv2 : Inv (zch Sb (zc Sb) (c + 1)) := ⟨iv.1, iv.2.1, iv.2.2.1, iv.2.2.2.1, iv.2.2.2.2.1, iv.2.2.2.2.2.1, by show c + 1 ≤ 20; omega⟩
      refine q_L_law_1352 _ _ _ _ _ _ _ _ _ _ _ _ _ hL ⟨fun z => absurd z (by decide), fun _ => ⟨⟨hk1, hk2⟩, h.rc, h.use (fun R k => do_steps k iv (nI sp) (10 + nI c)) ?_⟩⟩
      rw [stp, w3]
      refine fun σ1 h1 => ⟨fun z => absurd rfl z, fun _ => ⟨⟨hk1, hk2⟩, h1.rc, ?_⟩⟩
      have e2 : nI m ||| ((1 : Int32) <<< (nI x &&& 31)) = nI (m ||| 2 ^ x) := bs_with m (by omega) x c8
      rw [e2]
      refine h1.use (fun R k => do_worth k (nI (m ||| 2 ^ x)) (nI x)) ?_
      have ew : v_worth (zch Sb (zc Sb) (c + 1)) (nI (m ||| 2 ^ x)) (nI x) = nI (s_wrk Sb m) - nI now := by
        unfold v_worth
        rw [if_t (isO_y (S := zch Sb (zc Sb) (c + 1)) hxt c8 (hK.2 x hxt)), if_t (inR_y (by omega) (by decide)), nn_i (by omega), nn_i (by omega), if_t (by rw [Nat.testBit_or, Nat.testBit_two_pow, decide_eq_true rfl, Bool.or_true]), p3, n3]
        rfl
      rw [ew]
      refine fun σ2 h2 => AI.of (h2.c4 (by decide)) rfl hm8 (by decide) ?_
      rw [hwk m hm, nI_1]
      refine ⟨fun _ => ?_, fun z => absurd rfl z⟩
      exact ih (c + 1) (m ||| 2 ^ x) σ2 (P ++ [x]) (by omega) h2 iv2 hs hmx (by rw [p1, hcnt]) hE (by rw [hP, List.append_assoc]; rfl) (by rw [List.length_append, hlen]; rfl) n4
    · have nn : ¬ s_nx Sb sp m < 8 := by rw [ex]; exact c8
      obtain ⟨f1, f2⟩ := stpL_no (nx := s_nx Sb sp) nn (8 - c)
      rw [f1, List.append_nil] at hP
      rw [f2] at hE
      rw [if_neg c8]
      refine q_L_law_1352 _ _ _ _ _ _ _ _ _ _ _ _ _ hL ⟨fun _ => ?_, fun z => absurd rfl z⟩
      exact law_end hL h iv hs (by omega) hm hE.symm hcnt (by rw [hP, hlen]) hfit
end LSS
