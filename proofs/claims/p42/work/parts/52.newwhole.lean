/-! The class made: all of it. -/
def S0 : SS := ((z32, fun _ => false, 4), (0, fun _ => (0, w0, false)), (0, fun _ => dq0, 0), (0, fun _ => (false, fun _ => 0, z32, z32)), (0, fun _ => 0), (0, fun _ => (z32, fun _ => false)), 0, 0)
/-- the class's roles, in the order in which they come -/
def rlC : List Nat := [24, 25, 26, 190, 191, 192, 193, 194, 31, 32, 40, 41, 42, 43, 44, 45, 46, 47, 48, 1, 2, 3, 4, 5, 6, 7, 8, 9, 10, 11, 12, 13, 14, 15, 16, 17, 18, 19, 20, 21, 22, 23, 27, 28, 29, 30, 50, 51, 52, 53, 54, 55, 56, 57, 58, 59, 60, 61, 62, 63, 64, 65, 66, 67, 68, 69, 70, 71, 72, 73, 74, 75, 76, 77]
def KC (g : GG) (σ : Hs) (R : Nat → Nat) : Prop := Ce σ (R 0) (koc R 0 0) ∧ TabAt g σ (R 1) (R 2) (R 3) z32 (fun _ => false) 4 ∧ (Ce σ (R 4) (.inr (3, [.ref (R 1), .ref (R 5), .int 0])) ∧ Ce σ (R 5) (aQ g 4 8 (fun _ => none))) ∧ (Ce σ (R 6) (wc R 0) ∧ NumAt g σ (R 7) (R 8) 37 z32 ∧ NumAt g σ (R 9) (R 10) 37 z32 ∧ NumAt g σ (R 11) (R 12) 37 z32 ∧ NumAt g σ (R 13) (R 14) 8 z32 ∧ Ce σ (R 15) (aJ g 8 (fun _ => 0))) ∧ (Ce σ (R 16) (wkc R 0 0 0) ∧ Ce σ (R 17) (aQ g 6 8 (fun _ => none)) ∧ NumAt g σ (R 18) (R 19) 256 z32 ∧ NumAt g σ (R 20) (R 21) 256 z32 ∧ NumAt g σ (R 22) (R 23) 8 z32) ∧ PicsC g σ R 0 z32 (fun _ => (false, fun _ => 0, z32, z32)) ∧ ShC g σ R 0 (fun _ => 0) ∧ MarksC g σ R 0 (fun _ => (z32, fun _ => false))
section NXC
variable {g : GG} {σ : Hs}
theorem mem_i {L : List Nat} {x : Nat} (i : Nat) (h : L[i]? = some x) : x ∈ L := List.mem_of_getElem? h

set_option maxHeartbeats 4000000 in
set_option maxRecDepth 100000 in
theorem wr_xinit {r0 : Nat} (h : Ce σ r0 (.inr (11, [.null, .null, .null, .null, .null, .null, .null, .int 0, .int 0]))) (h1 : σ.1 = [r0]) : Do g M_X11_init 74 1970 [.ref r0] σ (kV fun σ' => ∃ R : Nat → Nat, R 0 = r0 ∧ KC g σ' R ∧ Nw σ σ' (rlC.map R) (fun b => b = r0)) := by
  refine q_X11_init 74 1970 r0 ⟨by omega, fun r24 h24 => ⟨7, 78, by omega, DoV.use (wr_shinit Ce.psh) ?_⟩⟩
  rintro s1 ⟨r25, r26, d0, d1, d2, d3, d4, Fa, Fb, Fc, Fd, Fe, Ff, w⟩
  have w1 := w.own h24
  have c1 := w1.2.2 _ _ h (fun z => z)
  refine PF.of (fs' := [.null, .null, .null, .null, .null, .ref r24, .null, .int 0, .int 0]) c1 (by show 5 < 9; decide) rfl ?_
  have W1 := (w1.any).hup (X := fun b => b = r0) rfl (.inr (11, [.null, .null, .null, .null, .null, .ref r24, .null, .int 0, .int 0]))
  have k1 : Ce (hup s1 r0 (.inr (11, [.null, .null, .null, .null, .null, .ref r24, .null, .int 0, .int 0]))) r0 (.inr (11, [.null, .null, .null, .null, .null, .ref r24, .null, .int 0, .int 0])) := c1.up _
  have ge1 : Gr (fun b => b = r0) s1 (hup s1 r0 (.inr (11, [.null, .null, .null, .null, .null, .ref r24, .null, .int 0, .int 0]))) := Gr.hp
  refine ⟨by omega, ?_⟩
  change NW (hup s1 r0 (.inr (11, [.null, .null, .null, .null, .null, .ref r24, .null, .int 0, .int 0]))) _ _ _
  generalize hup s1 r0 (.inr (11, [.null, .null, .null, .null, .null, .ref r24, .null, .int 0, .int 0])) = e1 at *
  refine fun r31 h31 => ⟨10, 783, by omega, DoV.use (wr_minit Ce.psh) ?_⟩
  rintro s2 ⟨r32, t0, m0, n0, t1, m1, n1, t2, m2, n2, Ga, Gb, Gc, Gd, Ge, w⟩
  have w2 := w.own h31
  have c2 := w2.2.2 _ _ k1 (fun z => z)
  refine PF.of (fs' := [.null, .null, .null, .null, .null, .ref r24, .ref r31, .int 0, .int 0]) c2 (by show 6 < 9; decide) rfl ?_
  have W2 := (W1.trans w2.any).hup (X := fun b => b = r0) rfl (.inr (11, [.null, .null, .null, .null, .null, .ref r24, .ref r31, .int 0, .int 0]))
  have k2 : Ce (hup s2 r0 (.inr (11, [.null, .null, .null, .null, .null, .ref r24, .ref r31, .int 0, .int 0]))) r0 (.inr (11, [.null, .null, .null, .null, .null, .ref r24, .ref r31, .int 0, .int 0])) := c2.up _
  have ge2 : Gr (fun b => b = r0) s2 (hup s2 r0 (.inr (11, [.null, .null, .null, .null, .null, .ref r24, .ref r31, .int 0, .int 0]))) := Gr.hp
  refine ⟨by omega, ?_⟩
  change NW (hup s2 r0 (.inr (11, [.null, .null, .null, .null, .null, .ref r24, .ref r31, .int 0, .int 0]))) _ _ _
  generalize hup s2 r0 (.inr (11, [.null, .null, .null, .null, .null, .ref r24, .ref r31, .int 0, .int 0])) = e2 at *
  refine NW.tab (by omega) fun r1 r2 r3 s3 Ta fr w3 => ⟨by omega, fun r4 h4 => ⟨1, 8, by omega, DoV.use (wr_osinit Ce.psh) ?_⟩⟩
  rintro s4 ⟨r5, Oa, Ob, w⟩
  have w4 := w.own h4
  refine ⟨by omega, fun r6 h6 => ⟨9, 131, by omega, DoV.use (wr_winit Ce.psh) ?_⟩⟩
  rintro s5 ⟨r7, r8, r9, r10, r11, r12, r13, r14, r15, Ya, Yb, Yc, Yd, Ye, Yf, w⟩
  have w5 := w.own h6
  have W5 := ((W2.trans w3.any).trans w4.any).trans w5.any
  have c5 := w5.2.2 _ _ (w4.2.2 _ _ (w3.2.2 _ _ k2 (fun z => z)) (fun z => z)) (fun z => z)
  refine PF.of (fs' := [.ref r1, .null, .null, .null, .null, .ref r24, .ref r31, .int 0, .int 0]) c5 (by show 0 < 9; decide) rfl ?_
  have W51 := (W5).hup (X := fun b => b = r0) rfl (.inr (11, [.ref r1, .null, .null, .null, .null, .ref r24, .ref r31, .int 0, .int 0]))
  have k51 : Ce (hup s5 r0 (.inr (11, [.ref r1, .null, .null, .null, .null, .ref r24, .ref r31, .int 0, .int 0]))) r0 (.inr (11, [.ref r1, .null, .null, .null, .null, .ref r24, .ref r31, .int 0, .int 0])) := c5.up _
  have ge51 : Gr (fun b => b = r0) s5 (hup s5 r0 (.inr (11, [.ref r1, .null, .null, .null, .null, .ref r24, .ref r31, .int 0, .int 0]))) := Gr.hp
  change PF (hup s5 r0 (.inr (11, [.ref r1, .null, .null, .null, .null, .ref r24, .ref r31, .int 0, .int 0]))) _ _ _ _ _
  generalize hup s5 r0 (.inr (11, [.ref r1, .null, .null, .null, .null, .ref r24, .ref r31, .int 0, .int 0])) = x1 at *
  refine PF.of (fs' := [.ref r1, .ref r4, .null, .null, .null, .ref r24, .ref r31, .int 0, .int 0]) k51 (by show 1 < 9; decide) rfl ?_
  have W52 := (W51).hup (X := fun b => b = r0) rfl (.inr (11, [.ref r1, .ref r4, .null, .null, .null, .ref r24, .ref r31, .int 0, .int 0]))
  have k52 : Ce (hup x1 r0 (.inr (11, [.ref r1, .ref r4, .null, .null, .null, .ref r24, .ref r31, .int 0, .int 0]))) r0 (.inr (11, [.ref r1, .ref r4, .null, .null, .null, .ref r24, .ref r31, .int 0, .int 0])) := k51.up _
  have ge52 : Gr (fun b => b = r0) x1 (hup x1 r0 (.inr (11, [.ref r1, .ref r4, .null, .null, .null, .ref r24, .ref r31, .int 0, .int 0]))) := Gr.hp
  change PF (hup x1 r0 (.inr (11, [.ref r1, .ref r4, .null, .null, .null, .ref r24, .ref r31, .int 0, .int 0]))) _ _ _ _ _
  generalize hup x1 r0 (.inr (11, [.ref r1, .ref r4, .null, .null, .null, .ref r24, .ref r31, .int 0, .int 0])) = x2 at *
  refine PF.of (fs' := [.ref r1, .ref r4, .ref r6, .null, .null, .ref r24, .ref r31, .int 0, .int 0]) k52 (by show 2 < 9; decide) rfl ?_
  have W53 := (W52).hup (X := fun b => b = r0) rfl (.inr (11, [.ref r1, .ref r4, .ref r6, .null, .null, .ref r24, .ref r31, .int 0, .int 0]))
  have k53 : Ce (hup x2 r0 (.inr (11, [.ref r1, .ref r4, .ref r6, .null, .null, .ref r24, .ref r31, .int 0, .int 0]))) r0 (.inr (11, [.ref r1, .ref r4, .ref r6, .null, .null, .ref r24, .ref r31, .int 0, .int 0])) := k52.up _
  have ge53 : Gr (fun b => b = r0) x2 (hup x2 r0 (.inr (11, [.ref r1, .ref r4, .ref r6, .null, .null, .ref r24, .ref r31, .int 0, .int 0]))) := Gr.hp
  refine ⟨by omega, ?_⟩
  change NW (hup x2 r0 (.inr (11, [.ref r1, .ref r4, .ref r6, .null, .null, .ref r24, .ref r31, .int 0, .int 0]))) _ _ _
  generalize hup x2 r0 (.inr (11, [.ref r1, .ref r4, .ref r6, .null, .null, .ref r24, .ref r31, .int 0, .int 0])) = x3 at *
  refine fun r16 h16 => ⟨7, 531, by omega, DoV.use (wr_wkinit Ce.psh) ?_⟩
  rintro s6 ⟨r17, r18, r19, r20, r21, r22, r23, Ka, Kb, Kc, Kd, Ke, w⟩
  have w6 := w.own h16
  have c6 := w6.2.2 _ _ k53 (fun z => z)
  refine PF.of (fs' := [.ref r1, .ref r4, .ref r6, .ref r16, .null, .ref r24, .ref r31, .int 0, .int 0]) c6 (by show 3 < 9; decide) rfl ?_
  have W6 := (W53.trans w6.any).hup (X := fun b => b = r0) rfl (.inr (11, [.ref r1, .ref r4, .ref r6, .ref r16, .null, .ref r24, .ref r31, .int 0, .int 0]))
  have k6 : Ce (hup s6 r0 (.inr (11, [.ref r1, .ref r4, .ref r6, .ref r16, .null, .ref r24, .ref r31, .int 0, .int 0]))) r0 (.inr (11, [.ref r1, .ref r4, .ref r6, .ref r16, .null, .ref r24, .ref r31, .int 0, .int 0])) := c6.up _
  have ge6 : Gr (fun b => b = r0) s6 (hup s6 r0 (.inr (11, [.ref r1, .ref r4, .ref r6, .ref r16, .null, .ref r24, .ref r31, .int 0, .int 0]))) := Gr.hp
  refine ⟨by omega, ?_⟩
  change NW (hup s6 r0 (.inr (11, [.ref r1, .ref r4, .ref r6, .ref r16, .null, .ref r24, .ref r31, .int 0, .int 0]))) _ _ _
  generalize hup s6 r0 (.inr (11, [.ref r1, .ref r4, .ref r6, .ref r16, .null, .ref r24, .ref r31, .int 0, .int 0])) = x4 at *
  refine fun r27 h27 => ⟨31, 145, by omega, DoV.use (wr_psinit Ce.psh) ?_⟩
  rintro s7 ⟨r28, r29, r30, p0, xa0, xb0, xc0, xd0, xe0, xf0, p1, xa1, xb1, xc1, xd1, xe1, xf1, p2, xa2, xb2, xc2, xd2, xe2, xf2, p3, xa3, xb3, xc3, xd3, xe3, xf3, Pa, Pb, Pc, P0, P1, P2, P3, w⟩
  have w7 := w.own h27
  have c7 := w7.2.2 _ _ k6 (fun z => z)
  refine PF.of (fs' := [.ref r1, .ref r4, .ref r6, .ref r16, .ref r27, .ref r24, .ref r31, .int 0, .int 0]) c7 (by show 4 < 9; decide) rfl ?_
  have W7 := (W6.trans w7.any).hup (X := fun b => b = r0) rfl (.inr (11, [.ref r1, .ref r4, .ref r6, .ref r16, .ref r27, .ref r24, .ref r31, .int 0, .int 0]))
  have k7 : Ce (hup s7 r0 (.inr (11, [.ref r1, .ref r4, .ref r6, .ref r16, .ref r27, .ref r24, .ref r31, .int 0, .int 0]))) r0 (.inr (11, [.ref r1, .ref r4, .ref r6, .ref r16, .ref r27, .ref r24, .ref r31, .int 0, .int 0])) := c7.up _
  have ge7 : Gr (fun b => b = r0) s7 (hup s7 r0 (.inr (11, [.ref r1, .ref r4, .ref r6, .ref r16, .ref r27, .ref r24, .ref r31, .int 0, .int 0]))) := Gr.hp
  refine ⟨by omega, rfl, ?_⟩
  change ∃ R : Nat → Nat, R 0 = r0 ∧ KC g (hup s7 r0 (.inr (11, [.ref r1, .ref r4, .ref r6, .ref r16, .ref r27, .ref r24, .ref r31, .int 0, .int 0]))) R ∧ Nw σ (hup s7 r0 (.inr (11, [.ref r1, .ref r4, .ref r6, .ref r16, .ref r27, .ref r24, .ref r31, .int 0, .int 0]))) (rlC.map R) (fun b => b = r0)
  generalize hup s7 r0 (.inr (11, [.ref r1, .ref r4, .ref r6, .ref r16, .ref r27, .ref r24, .ref r31, .int 0, .int 0])) = x5 at *
  have G6 := ge6.trans (w7.2.any.trans ge7)
  have G5 := (ge51.trans (ge52.trans ge53)).trans (w6.2.any.trans G6)
  have G4 := (w5.2.any (X := fun b => b = r0)).trans G5
  have G3 := (w4.2.any (X := fun b => b = r0)).trans G4
  have G2 := ge2.trans (w3.2.any.trans G3)
  have G1 := ge1.trans (w2.2.any.trans G2)
  have W : Nw σ x5 [r24, r25, r26, d0, d1, d2, d3, d4, r31, r32, t0, m0, n0, t1, m1, n1, t2, m2, n2, r1, r2, r3, r4, r5, r6, r7, r8, r9, r10, r11, r12, r13, r14, r15, r16, r17, r18, r19, r20, r21, r22, r23, r27, r28, r29, r30, p0, xa0, xb0, xc0, xd0, xe0, xf0, p1, xa1, xb1, xc1, xd1, xe1, xf1, p2, xa2, xb2, xc2, xd2, xe2, xf2, p3, xa3, xb3, xc3, xd3, xe3, xf3] (fun b => b = r0) := W7
  have hnd : (r0 :: [r24, r25, r26, d0, d1, d2, d3, d4, r31, r32, t0, m0, n0, t1, m1, n1, t2, m2, n2, r1, r2, r3, r4, r5, r6, r7, r8, r9, r10, r11, r12, r13, r14, r15, r16, r17, r18, r19, r20, r21, r22, r23, r27, r28, r29, r30, p0, xa0, xb0, xc0, xd0, xe0, xf0, p1, xa1, xb1, xc1, xd1, xe1, xf1, p2, xa2, xb2, xc2, xd2, xe2, xf2, p3, xa3, xb3, xc3, xd3, xe3, xf3]).Nodup := by
    have h2 := W.1.2 (by rw [h1]; exact List.pairwise_singleton _ _)
    rw [W.1.1, h1] at h2
    exact h2
  have hr0 := (List.nodup_cons.mp hnd).1
  have hx : ∀ (x i : Nat), ([r24, r25, r26, d0, d1, d2, d3, d4, r31, r32, t0, m0, n0, t1, m1, n1, t2, m2, n2, r1, r2, r3, r4, r5, r6, r7, r8, r9, r10, r11, r12, r13, r14, r15, r16, r17, r18, r19, r20, r21, r22, r23, r27, r28, r29, r30, p0, xa0, xb0, xc0, xd0, xe0, xf0, p1, xa1, xb1, xc1, xd1, xe1, xf1, p2, xa2, xb2, xc2, xd2, xe2, xf2, p3, xa3, xb3, xc3, xd3, xe3, xf3] : List Nat)[i]? = some x → x ≠ r0 := fun x i hi z => hr0 (z ▸ List.mem_of_getElem? hi)
  clear hnd hr0
  refine ⟨fun i => if i < 33 then ([r0, r1, r2, r3, r4, r5, r6, r7, r8, r9, r10, r11, r12, r13, r14, r15, r16, r17, r18, r19, r20, r21, r22, r23, r24, r25, r26, r27, r28, r29, r30, r31, r32] : List Nat).getD i 0 else if i < 49 then ([t0, m0, n0, t1, m1, n1, t2, m2, n2] : List Nat).getD (i - 40) 0 else if i < 78 then ([p0, xa0, xb0, xc0, xd0, xe0, xf0, p1, xa1, xb1, xc1, xd1, xe1, xf1, p2, xa2, xb2, xc2, xd2, xe2, xf2, p3, xa3, xb3, xc3, xd3, xe3, xf3] : List Nat).getD (i - 50) 0 else ([d0, d1, d2, d3, d4] : List Nat).getD (i - 190) 0, rfl, ⟨k7, Ta.gr G3 (hx r1 19 rfl) (hx r2 20 rfl) (hx r3 21 rfl), ⟨G4.2 _ _ Oa (hx r4 22 rfl), G4.2 _ _ Ob (hx r5 23 rfl)⟩, ⟨G5.2 _ _ Ya (hx r6 24 rfl), G5.num Yb (hx r7 25 rfl) (hx r8 26 rfl), G5.num Yc (hx r9 27 rfl) (hx r10 28 rfl), G5.num Yd (hx r11 29 rfl) (hx r12 30 rfl), G5.num Ye (hx r13 31 rfl) (hx r14 32 rfl), G5.2 _ _ Yf (hx r15 33 rfl)⟩, ⟨G6.2 _ _ Ka (hx r16 34 rfl), G6.2 _ _ Kb (hx r17 35 rfl), G6.num Kc (hx r18 36 rfl) (hx r19 37 rfl), G6.num Kd (hx r20 38 rfl) (hx r21 39 rfl), G6.num Ke (hx r22 40 rfl) (hx r23 41 rfl)⟩, ⟨ge7.2 _ _ Pa (hx r27 42 rfl), ?_, ge7.num Pc (hx r29 44 rfl) (hx r30 45 rfl), fun c hc => ?_⟩, ⟨⟨0, 0, 0, 0, by decide, G1.2 _ _ Fa (hx r24 0 rfl)⟩, G1.num Fb (hx r25 1 rfl) (hx r26 2 rfl), z32, z32, 0, 0, 0, 0, 0, ⟨G1.2 _ _ Fc (hx d0 3 rfl), G1.num Fd (hx d1 4 rfl) (hx d2 5 rfl), G1.num Fe (hx d3 6 rfl) (hx d4 7 rfl), Ff⟩, fun _ _ => ⟨rfl, rfl⟩⟩, ⟨G2.2 _ _ Ga (hx r31 8 rfl), ?_, fun i hi => ?_⟩⟩, W⟩
  · have z := ge7.2 _ _ Pb (hx r28 43 rfl)
    have e : pi4 p0 p1 p2 p3 = pQ (fun i => if i < 33 then ([r0, r1, r2, r3, r4, r5, r6, r7, r8, r9, r10, r11, r12, r13, r14, r15, r16, r17, r18, r19, r20, r21, r22, r23, r24, r25, r26, r27, r28, r29, r30, r31, r32] : List Nat).getD i 0 else if i < 49 then ([t0, m0, n0, t1, m1, n1, t2, m2, n2] : List Nat).getD (i - 40) 0 else if i < 78 then ([p0, xa0, xb0, xc0, xd0, xe0, xf0, p1, xa1, xb1, xc1, xd1, xe1, xf1, p2, xa2, xb2, xc2, xd2, xe2, xf2, p3, xa3, xb3, xc3, xd3, xe3, xf3] : List Nat).getD (i - 50) 0 else ([d0, d1, d2, d3, d4] : List Nat).getD (i - 190) 0) := by
      funext c
      rcases (show c = 0 ∨ c = 1 ∨ c = 2 ∨ c = 3 ∨ 4 ≤ c by omega) with rfl | rfl | rfl | rfl | hc
      · rfl
      · rfl
      · rfl
      · rfl
      · unfold pi4 pQ
        simp only [va_up]
        rw [if_neg (by omega), if_neg (by omega), if_neg (by omega), if_neg (by omega), if_neg (by omega)]
    rw [e] at z
    exact z
  · rcases (show c = 0 ∨ c = 1 ∨ c = 2 ∨ c = 3 by omega) with rfl | rfl | rfl | rfl
    · exact Pic0.gr P0 ge7 ⟨(hx p0 46 rfl), (hx xa0 47 rfl), (hx xb0 48 rfl), (hx xc0 49 rfl), (hx xd0 50 rfl), (hx xe0 51 rfl), (hx xf0 52 rfl)⟩
    · exact Pic0.gr P1 ge7 ⟨(hx p1 53 rfl), (hx xa1 54 rfl), (hx xb1 55 rfl), (hx xc1 56 rfl), (hx xd1 57 rfl), (hx xe1 58 rfl), (hx xf1 59 rfl)⟩
    · exact Pic0.gr P2 ge7 ⟨(hx p2 60 rfl), (hx xa2 61 rfl), (hx xb2 62 rfl), (hx xc2 63 rfl), (hx xd2 64 rfl), (hx xe2 65 rfl), (hx xf2 66 rfl)⟩
    · exact Pic0.gr P3 ge7 ⟨(hx p3 67 rfl), (hx xa3 68 rfl), (hx xb3 69 rfl), (hx xc3 70 rfl), (hx xd3 71 rfl), (hx xe3 72 rfl), (hx xf3 73 rfl)⟩
  · have z := G2.2 _ _ Gb (hx r32 9 rfl)
    have e : mk3 t0 t1 t2 = mQ (fun i => if i < 33 then ([r0, r1, r2, r3, r4, r5, r6, r7, r8, r9, r10, r11, r12, r13, r14, r15, r16, r17, r18, r19, r20, r21, r22, r23, r24, r25, r26, r27, r28, r29, r30, r31, r32] : List Nat).getD i 0 else if i < 49 then ([t0, m0, n0, t1, m1, n1, t2, m2, n2] : List Nat).getD (i - 40) 0 else if i < 78 then ([p0, xa0, xb0, xc0, xd0, xe0, xf0, p1, xa1, xb1, xc1, xd1, xe1, xf1, p2, xa2, xb2, xc2, xd2, xe2, xf2, p3, xa3, xb3, xc3, xd3, xe3, xf3] : List Nat).getD (i - 50) 0 else ([d0, d1, d2, d3, d4] : List Nat).getD (i - 190) 0) := by
      funext c
      rcases (show c = 0 ∨ c = 1 ∨ c = 2 ∨ 3 ≤ c by omega) with rfl | rfl | rfl | hc
      · rfl
      · rfl
      · rfl
      · unfold mk3 mQ
        simp only [va_up]
        rw [if_neg (by omega), if_neg (by omega), if_neg (by omega), if_neg (by omega)]
    rw [e] at z
    exact z
  · rcases (show i = 0 ∨ i = 1 ∨ i = 2 by omega) with rfl | rfl | rfl
    · exact Gc.gr G2 (hx t0 10 rfl) (hx m0 11 rfl) (hx n0 12 rfl)
    · exact Gd.gr G2 (hx t1 13 rfl) (hx m1 14 rfl) (hx n1 15 rfl)
    · exact Ge.gr G2 (hx t2 16 rfl) (hx m2 17 rfl) (hx n2 18 rfl)
end NXC
